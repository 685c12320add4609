/-! each function is what its method does (by program) -/
set_option maxHeartbeats 4000000 in
set_option maxRecDepth 100000 in
theorem hbX12_holds_13 {n : Nat} {p1 : Int32} {p2 : Int32} {k243 : Int32 → jWd → (Option (Int32 × jWd))} {r : Int32} {w' : jWd} {rec : Int32 → Int32 → jWd → Option (Int32 × jWd)} (hk243 : ∀ (z3 : Int32) (w9 : jWd), k243 z3 w9 = some (r, w') → J MX12_holds 2 w9 243 [(0, .ref 205), (3, .int z3)] [] (some (.int r)) w')
    (hrec : ∀ (x3 : Int32) (x4 : Int32) (w : jWd) , rec x3 x4 w = some (r, w') → J MX12_holds 2 w 13 [(0, .ref 205), (1, .int p1), (2, .int p2), (3, .int x3), (4, .int x4)] [] (some (.int r)) w') : ∀ (x3 : Int32) (x4 : Int32) (w : jWd) , bX12_holds_13 n p1 p2 k243 rec x3 x4 w = some (r, w') → J MX12_holds 2 w 13 [(0, .ref 205), (1, .int p1), (2, .int p2), (3, .int x3), (4, .int x4)] [] (some (.int r)) w' := by
  intro x3 x4 w h
  unfold bX12_holds_13 at h
  refine jr_iload dX12_holds_13 4 rfl ?_
  refine jr_aload_n dX12_holds_15 rfl 0 rfl ?_
  refine gf_X12_31 (r := 211) rfl (rfl : kd 205 = 11) rfl dX12_holds_16 ?_
  refine jr_sipush (v := (133 : Int32)) dX12_holds_19 (by decide) ?_
  refine jr_iload_n dX12_holds_22 rfl 1 rfl ?_
  refine jr_iadd dX12_holds_23 ?_
  obtain ⟨hg_4, h⟩ := drvG h
  refine jr_iald (rfl : kd 211 = 13) hg_4 dX12_holds_24 ?_
  refine jr_icmp_ge (tgt := 243) (nxt := 28) dX12_holds_25 (by decide) rfl (fun hc => ?_) (fun hc => ?_)
  · replace h := drvT hc h
    refine jr_sub [0, 3] rfl ?_
    exact hk243 _ _ h
  · replace h := drvE hc h
    refine jr_aload_n dX12_holds_28 rfl 0 rfl ?_
    refine gf_X12_31 (r := 211) rfl (rfl : kd 205 = 11) rfl dX12_holds_29 ?_
    refine jr_sipush (v := (145 : Int32)) dX12_holds_32 (by decide) ?_
    refine jr_iconst (v := (2 : Int32)) dX12_holds_35 (by decide) ?_
    refine jr_iload dX12_holds_36 4 rfl ?_
    refine jr_imul dX12_holds_38 ?_
    refine jr_iadd dX12_holds_39 ?_
    obtain ⟨hg_5, h⟩ := drvG h
    refine jr_iald (rfl : kd 211 = 13) hg_5 dX12_holds_40 ?_
    refine j_nmi (fun x5_6 e_7 => ?_)
    replace h := drvL e_7 h
    refine jr_istore (lv' := [(5, .int x5_6), (0, .ref 205), (1, .int p1), (2, .int p2), (3, .int x3), (4, .int x4)]) dX12_holds_41 (by decide) rfl ?_
    refine jr_aload_n dX12_holds_43 rfl 1 rfl ?_
    refine gf_X12_31 (r := 211) rfl (rfl : kd 205 = 11) rfl dX12_holds_44 ?_
    refine jr_sipush (v := (145 : Int32)) dX12_holds_47 (by decide) ?_
    refine jr_iconst (v := (2 : Int32)) dX12_holds_50 (by decide) ?_
    refine jr_iload dX12_holds_51 5 rfl ?_
    refine jr_imul dX12_holds_53 ?_
    refine jr_iadd dX12_holds_54 ?_
    refine jr_iconst (v := (1 : Int32)) dX12_holds_55 (by decide) ?_
    refine jr_iadd dX12_holds_56 ?_
    obtain ⟨hg_8, h⟩ := drvG h
    refine jr_iald (rfl : kd 211 = 13) hg_8 dX12_holds_57 ?_
    refine j_nmi (fun x6_9 e_10 => ?_)
    replace h := drvL e_10 h
    refine jr_istore (lv' := [(6, .int x6_9), (5, .int x5_6), (0, .ref 205), (1, .int p1), (2, .int p2), (3, .int x3), (4, .int x4)]) dX12_holds_58 (by decide) rfl ?_
    refine jr_iload dX12_holds_60 1 rfl ?_
    refine jr_iconst (v := (2 : Int32)) dX12_holds_62 (by decide) ?_
    refine jr_icmp_ne (tgt := 93) (nxt := 66) dX12_holds_63 (by decide) rfl (fun hc => ?_) (fun hc => ?_)
    · replace h := drvE hc h
      refine jr_iload dX12_holds_93 1 rfl ?_
      refine jr_iconst (v := (3 : Int32)) dX12_holds_95 (by decide) ?_
      obtain ⟨j105_11, ej105_11, h⟩ := drvF h
      have hj105_11 : ∀ (_ : Unit), j105_11 = some (r, w') → J MX12_holds 2 w 105 [(0, .ref 205), (1, .int p1), (2, .int p2), (3, .int x3), (4, .int x4), (5, .int x5_6)] [] (some (.int r)) w' := by
        intro _ h
        rw [ej105_11] at h
        try dsimp only at h
        refine jr_iincN (c := (-1 : Int32)) (lv' := fun (x3_12 : Int32) => [(3, .int x3_12), (0, .ref 205), (1, .int p1), (2, .int p2), (4, .int x4), (5, .int x5_6)]) dX12_holds_105 (by decide) 3 rfl (by decide) (fun _ => rfl) (fun x3_12 e_13 => ?_)
        replace h := drvL e_13 h
        refine jr_aload_n dX12_holds_108 rfl 1 rfl ?_
        refine gf_X12_49 (r := 216) rfl (rfl : kd 205 = 11) rfl dX12_holds_109 ?_
        refine jr_iload_n dX12_holds_112 rfl 0 rfl ?_
        refine jr_iconst (v := (1 : Int32)) dX12_holds_113 (by decide) ?_
        refine jr_isub dX12_holds_114 ?_
        refine jr_iload dX12_holds_115 5 rfl ?_
        refine jr_iconst (v := (3 : Int32)) dX12_holds_117 (by decide) ?_
        obtain ⟨j174_15, ej174_15, h⟩ := drvF h
        have hj174_15 : ∀ (s_14 : Int32), j174_15 s_14 = some (r, w') → J MX12_holds 2 w 174 [(0, .ref 205), (1, .int p1), (2, .int p2), (3, .int x3_12), (4, .int x4)] [.int s_14, .int (x3_12 - (1 : Int32)), .ref 216] (some (.int r)) w' := by
          intro s_14 h
          rw [ej174_15] at h
          try dsimp only at h
          obtain ⟨hg_18, h⟩ := drvG h
          refine jr_zast (rfl : kd 216 = 15) hg_18 dX12_holds_174 ?_
          refine j_nmw (fun w_16 e_17 => ?_)
          replace h := drvL e_17 h
          refine jr_goto (tgt := 237) dX12_holds_175 (by decide) ?_
          refine jr_iincN (c := (1 : Int32)) (lv' := fun (x4_19 : Int32) => [(4, .int x4_19), (0, .ref 205), (1, .int p1), (2, .int p2), (3, .int x3_12)]) dX12_holds_237 (by decide) 4 rfl (by decide) (fun _ => rfl) (fun x4_19 e_20 => ?_)
          replace h := drvL e_20 h
          refine jr_goto (tgt := 13) dX12_holds_240 (by decide) ?_
          refine jr_sub [1, 2, 3, 4, 0] rfl ?_
          exact hrec _ _ _ h
        refine jr_icmp_ne (tgt := 149) (nxt := 121) dX12_holds_118 (by decide) rfl (fun hc => ?_) (fun hc => ?_)
        · replace h := drvE hc h
          refine jr_aload_n dX12_holds_149 rfl 1 rfl ?_
          refine gf_X12_49 (r := 216) rfl (rfl : kd 205 = 11) rfl dX12_holds_150 ?_
          refine jr_iload_n dX12_holds_153 rfl 0 rfl ?_
          refine jr_iconst (v := (1 : Int32)) dX12_holds_154 (by decide) ?_
          refine jr_isub dX12_holds_155 ?_
          obtain ⟨hg_21, h⟩ := drvG h
          refine jr_zald (rfl : kd 216 = 15) hg_21 dX12_holds_156 ?_
          obtain ⟨j169_22, ej169_22, h⟩ := drvF h
          have hj169_22 : ∀ (_ : Unit), j169_22 = some (r, w') → J MX12_holds 2 w 169 [(0, .ref 205), (1, .int p1), (2, .int p2), (3, .int x3_12), (4, .int x4)] [.int (x3_12 - (1 : Int32)), .ref 216] (some (.int r)) w' := by
            intro _ h
            rw [ej169_22] at h
            try dsimp only at h
            refine jr_iconst (v := (1 : Int32)) dX12_holds_169 (by decide) ?_
            refine jr_goto (tgt := 174) dX12_holds_170 (by decide) ?_
            refine jr_sub [0, 1, 2, 3, 4] rfl ?_
            exact hj174_15 _ h
          refine jr_if_ne (tgt := 169) (nxt := 160) dX12_holds_157 (by decide) rfl (fun hc => ?_) (fun hc => ?_)
          · replace h := drvE hc h
            refine jr_sub [1, 2, 3, 0, 4] rfl ?_
            exact (hj169_22 ()) h
          · replace h := drvT hc h
            refine jr_aload_n dX12_holds_160 rfl 1 rfl ?_
            refine gf_X12_49 (r := 216) rfl (rfl : kd 205 = 11) rfl dX12_holds_161 ?_
            refine jr_iload_n dX12_holds_164 rfl 0 rfl ?_
            obtain ⟨hg_23, h⟩ := drvG h
            refine jr_zald (rfl : kd 216 = 15) hg_23 dX12_holds_165 ?_
            refine jr_if_eq (tgt := 173) (nxt := 169) dX12_holds_166 (by decide) rfl (fun hc => ?_) (fun hc => ?_)
            · replace h := drvT hc h
              refine jr_iconst (v := (0 : Int32)) dX12_holds_173 (by decide) ?_
              refine jr_sub [1, 2, 3, 0, 4] rfl ?_
              exact hj174_15 _ h
            · replace h := drvE hc h
              refine jr_sub [1, 2, 3, 0, 4] rfl ?_
              exact (hj169_22 ()) h
        · replace h := drvT hc h
          refine jr_aload_n dX12_holds_121 rfl 1 rfl ?_
          refine gf_X12_49 (r := 216) rfl (rfl : kd 205 = 11) rfl dX12_holds_122 ?_
          refine jr_iload_n dX12_holds_125 rfl 0 rfl ?_
          refine jr_iconst (v := (1 : Int32)) dX12_holds_126 (by decide) ?_
          refine jr_isub dX12_holds_127 ?_
          obtain ⟨hg_24, h⟩ := drvG h
          refine jr_zald (rfl : kd 216 = 15) hg_24 dX12_holds_128 ?_
          obtain ⟨j145_25, ej145_25, h⟩ := drvF h
          have hj145_25 : ∀ (_ : Unit), j145_25 = some (r, w') → J MX12_holds 2 w 145 [(0, .ref 205), (1, .int p1), (2, .int p2), (3, .int x3_12), (4, .int x4)] [.int (x3_12 - (1 : Int32)), .ref 216] (some (.int r)) w' := by
            intro _ h
            rw [ej145_25] at h
            try dsimp only at h
            refine jr_iconst (v := (0 : Int32)) dX12_holds_145 (by decide) ?_
            refine jr_goto (tgt := 174) dX12_holds_146 (by decide) ?_
            refine jr_sub [0, 1, 2, 3, 4] rfl ?_
            exact hj174_15 _ h
          refine jr_if_eq (tgt := 145) (nxt := 132) dX12_holds_129 (by decide) rfl (fun hc => ?_) (fun hc => ?_)
          · replace h := drvT hc h
            refine jr_sub [1, 2, 3, 0, 4] rfl ?_
            exact (hj145_25 ()) h
          · replace h := drvE hc h
            refine jr_aload_n dX12_holds_132 rfl 1 rfl ?_
            refine gf_X12_49 (r := 216) rfl (rfl : kd 205 = 11) rfl dX12_holds_133 ?_
            refine jr_iload_n dX12_holds_136 rfl 0 rfl ?_
            obtain ⟨hg_26, h⟩ := drvG h
            refine jr_zald (rfl : kd 216 = 15) hg_26 dX12_holds_137 ?_
            refine jr_if_eq (tgt := 145) (nxt := 141) dX12_holds_138 (by decide) rfl (fun hc => ?_) (fun hc => ?_)
            · replace h := drvT hc h
              refine jr_sub [1, 2, 3, 0, 4] rfl ?_
              exact (hj145_25 ()) h
            · replace h := drvE hc h
              refine jr_iconst (v := (1 : Int32)) dX12_holds_141 (by decide) ?_
              refine jr_goto (tgt := 174) dX12_holds_142 (by decide) ?_
              refine jr_sub [1, 2, 3, 0, 4] rfl ?_
              exact hj174_15 _ h
      refine jr_icmp_eq (tgt := 105) (nxt := 99) dX12_holds_96 (by decide) rfl (fun hc => ?_) (fun hc => ?_)
      · replace h := drvT hc h
        refine jr_sub [2, 3, 4, 5, 6, 1] rfl ?_
        exact (hj105_11 ()) h
      · replace h := drvE hc h
        refine jr_iload dX12_holds_99 1 rfl ?_
        refine jr_iconst (v := (4 : Int32)) dX12_holds_101 (by decide) ?_
        refine jr_icmp_ne (tgt := 178) (nxt := 105) dX12_holds_102 (by decide) rfl (fun hc => ?_) (fun hc => ?_)
        · replace h := drvE hc h
          refine jr_aload_n dX12_holds_178 rfl 2 rfl ?_
          refine gf_X12_49 (r := 216) rfl (rfl : kd 205 = 11) rfl dX12_holds_179 ?_
          refine jr_iload_n dX12_holds_182 rfl 5 rfl ?_
          refine jr_iload dX12_holds_183 1 rfl ?_
          refine jr_iconst (v := (5 : Int32)) dX12_holds_185 (by decide) ?_
          obtain ⟨j233_28, ej233_28, h⟩ := drvF h
          have hj233_28 : ∀ (s_27 : Int32), j233_28 s_27 = some (r, w') → J MX12_holds 2 w 233 [(0, .ref 205), (1, .int p1), (2, .int p2), (3, .int x3), (4, .int x4)] [.int s_27, .int x3, .ref 216] (some (.int r)) w' := by
            intro s_27 h
            rw [ej233_28] at h
            try dsimp only at h
            obtain ⟨hg_31, h⟩ := drvG h
            refine jr_zast (rfl : kd 216 = 15) hg_31 dX12_holds_233 ?_
            refine j_nmw (fun w_29 e_30 => ?_)
            replace h := drvL e_30 h
            refine jr_iincN (c := (1 : Int32)) (lv' := fun (x3_32 : Int32) => [(3, .int x3_32), (0, .ref 205), (1, .int p1), (2, .int p2), (4, .int x4)]) dX12_holds_234 (by decide) 3 rfl (by decide) (fun _ => rfl) (fun x3_32 e_33 => ?_)
            replace h := drvL e_33 h
            refine jr_iincN (c := (1 : Int32)) (lv' := fun (x4_34 : Int32) => [(4, .int x4_34), (3, .int x3_32), (0, .ref 205), (1, .int p1), (2, .int p2)]) dX12_holds_237 (by decide) 4 rfl (by decide) (fun _ => rfl) (fun x4_34 e_35 => ?_)
            replace h := drvL e_35 h
            refine jr_goto (tgt := 13) dX12_holds_240 (by decide) ?_
            refine jr_sub [2, 3, 4, 1, 0] rfl ?_
            exact hrec _ _ _ h
          refine jr_icmp_ne (tgt := 198) (nxt := 189) dX12_holds_186 (by decide) rfl (fun hc => ?_) (fun hc => ?_)
          · replace h := drvE hc h
            refine jr_iload dX12_holds_198 1 rfl ?_
            refine jr_bipush (v := (6 : Int32)) dX12_holds_200 (by decide) ?_
            refine jr_icmp_ne (tgt := 222) (nxt := 205) dX12_holds_202 (by decide) rfl (fun hc => ?_) (fun hc => ?_)
            · replace h := drvE hc h
              refine jr_iload dX12_holds_222 0 rfl ?_
              refine jr_iload_n dX12_holds_224 rfl 4 rfl ?_
              refine jr_icmp_ne (tgt := 232) (nxt := 228) dX12_holds_225 (by decide) rfl (fun hc => ?_) (fun hc => ?_)
              · replace h := drvE hc h
                refine jr_iconst (v := (0 : Int32)) dX12_holds_232 (by decide) ?_
                refine jr_sub [2, 3, 4, 5, 6] rfl ?_
                exact hj233_28 _ h
              · replace h := drvT hc h
                refine jr_iconst (v := (1 : Int32)) dX12_holds_228 (by decide) ?_
                refine jr_goto (tgt := 233) dX12_holds_229 (by decide) ?_
                refine jr_sub [2, 3, 4, 5, 6] rfl ?_
                exact hj233_28 _ h
            · replace h := drvT hc h
              refine jr_aload_n dX12_holds_205 rfl 2 rfl ?_
              refine gf_X12_220 rfl (rfl : kd 205 = 11) dX12_holds_206 ?_
              refine jr_iload dX12_holds_209 0 rfl ?_
              refine jr_icmp_lt (tgt := 218) (nxt := 214) dX12_holds_211 (by decide) rfl (fun hc => ?_) (fun hc => ?_)
              · replace h := drvT hc h
                refine jr_iconst (v := (0 : Int32)) dX12_holds_218 (by decide) ?_
                refine jr_goto (tgt := 233) dX12_holds_219 (by decide) ?_
                refine jr_sub [2, 3, 4, 5, 6] rfl ?_
                exact hj233_28 _ h
              · replace h := drvE hc h
                refine jr_iconst (v := (1 : Int32)) dX12_holds_214 (by decide) ?_
                refine jr_goto (tgt := 233) dX12_holds_215 (by decide) ?_
                refine jr_sub [2, 3, 4, 5, 6] rfl ?_
                exact hj233_28 _ h
          · replace h := drvT hc h
            refine jr_aload_n dX12_holds_189 rfl 2 rfl ?_
            refine jr_iload dX12_holds_190 0 rfl ?_
            obtain ⟨r_37, hq_36, h⟩ := drvB h
            refine j_callVv lk_X12_223 wIM_X12_hasWord wSE_X12_hasWord (rfl : kd 205 = 11) (by decide) rfl (tX12_hasWord  hq_36) (by omega) rfl rfl (Nat.le_of_ble_eq_true rfl) dX12_holds_192 ?_
            refine jr_goto (tgt := 233) dX12_holds_195 (by decide) ?_
            refine jr_sub [2, 3, 4, 5, 6] rfl ?_
            exact hj233_28 _ h
        · replace h := drvT hc h
          refine jr_sub [2, 3, 4, 5, 6, 1] rfl ?_
          exact (hj105_11 ()) h
    · replace h := drvT hc h
      refine jr_aload_n dX12_holds_66 rfl 2 rfl ?_
      refine gf_X12_49 (r := 216) rfl (rfl : kd 205 = 11) rfl dX12_holds_67 ?_
      refine jr_iload_n dX12_holds_70 rfl 5 rfl ?_
      refine jr_iconst (v := (1 : Int32)) dX12_holds_71 (by decide) ?_
      refine jr_isub dX12_holds_72 ?_
      refine jr_aload_n dX12_holds_73 rfl 2 rfl ?_
      refine gf_X12_49 (r := 216) rfl (rfl : kd 205 = 11) rfl dX12_holds_74 ?_
      refine jr_iload_n dX12_holds_77 rfl 5 rfl ?_
      refine jr_iconst (v := (1 : Int32)) dX12_holds_78 (by decide) ?_
      refine jr_isub dX12_holds_79 ?_
      obtain ⟨hg_38, h⟩ := drvG h
      refine jr_zald (rfl : kd 216 = 15) hg_38 dX12_holds_80 ?_
      obtain ⟨j89_40, ej89_40, h⟩ := drvF h
      have hj89_40 : ∀ (s_39 : Int32), j89_40 s_39 = some (r, w') → J MX12_holds 2 w 89 [(0, .ref 205), (1, .int p1), (2, .int p2), (3, .int x3), (4, .int x4)] [.int s_39, .int (x3 - (1 : Int32)), .ref 216] (some (.int r)) w' := by
        intro s_39 h
        rw [ej89_40] at h
        try dsimp only at h
        obtain ⟨hg_43, h⟩ := drvG h
        refine jr_zast (rfl : kd 216 = 15) hg_43 dX12_holds_89 ?_
        refine j_nmw (fun w_41 e_42 => ?_)
        replace h := drvL e_42 h
        refine jr_goto (tgt := 237) dX12_holds_90 (by decide) ?_
        refine jr_iincN (c := (1 : Int32)) (lv' := fun (x4_44 : Int32) => [(4, .int x4_44), (0, .ref 205), (1, .int p1), (2, .int p2), (3, .int x3)]) dX12_holds_237 (by decide) 4 rfl (by decide) (fun _ => rfl) (fun x4_44 e_45 => ?_)
        replace h := drvL e_45 h
        refine jr_goto (tgt := 13) dX12_holds_240 (by decide) ?_
        refine jr_sub [1, 2, 3, 4, 0] rfl ?_
        exact hrec _ _ _ h
      refine jr_if_ne (tgt := 88) (nxt := 84) dX12_holds_81 (by decide) rfl (fun hc => ?_) (fun hc => ?_)
      · replace h := drvE hc h
        refine jr_iconst (v := (0 : Int32)) dX12_holds_88 (by decide) ?_
        refine jr_sub [2, 3, 4, 5, 6] rfl ?_
        exact hj89_40 _ h
      · replace h := drvT hc h
        refine jr_iconst (v := (1 : Int32)) dX12_holds_84 (by decide) ?_
        refine jr_goto (tgt := 89) dX12_holds_85 (by decide) ?_
        refine jr_sub [2, 3, 4, 5, 6] rfl ?_
        exact hj89_40 _ h
theorem hlX12_holds_13 {n : Nat} {p1 : Int32} {p2 : Int32} {k243 : Int32 → jWd → (Option (Int32 × jWd))} {r : Int32} {w' : jWd} (hk243 : ∀ (z3 : Int32) (w9 : jWd), k243 z3 w9 = some (r, w') → J MX12_holds 2 w9 243 [(0, .ref 205), (3, .int z3)] [] (some (.int r)) w') : ∀ (c : Nat) (x3 : Int32) (x4 : Int32) (w : jWd) , lX12_holds_13 n p1 p2 k243 c x3 x4 w = some (r, w') → J MX12_holds 2 w 13 [(0, .ref 205), (1, .int p1), (2, .int p2), (3, .int x3), (4, .int x4)] [] (some (.int r)) w' := by
  intro c
  induction c with
  | zero => intro x3 x4 w h; cases h
  | succ c ih => intro x3 x4 w h; exact hbX12_holds_13 (n := n) hk243 ih _ _ _ h
set_option maxHeartbeats 4000000 in
set_option maxRecDepth 100000 in
theorem tX12_holds {n : Nat} {a0 : Int32} {a1 : Int32} {w : jWd} {r : Int32} {w' : jWd}  (h : fX12_holds n a0 a1 w = some (r, w')) : JM yX12_holds MX12_holds 2 [.ref 205, .int a0, .int a1] w (some (.int r)) w' := by
  refine jm_of pl_X12 rfl (Nat.le_of_ble_eq_true rfl) ?_
  show J MX12_holds 2 w 0 [(0, .ref 205), (1, .int a0), (2, .int a1)] [] (some (.int r)) w'
  unfold fX12_holds at h
  refine jr_iconst (v := (0 : Int32)) dX12_holds_0 (by decide) ?_
  refine jr_istore_n (lv' := [(3, .int (0 : Int32)), (0, .ref 205), (1, .int a0), (2, .int a1)]) dX12_holds_1 rfl (by decide) rfl ?_
  refine jr_aload_n dX12_holds_2 rfl 1 rfl ?_
  refine gf_X12_31 (r := 211) rfl (rfl : kd 205 = 11) rfl dX12_holds_3 ?_
  refine jr_bipush (v := (121 : Int32)) dX12_holds_6 (by decide) ?_
  refine jr_iload_n dX12_holds_8 rfl 2 rfl ?_
  refine jr_iadd dX12_holds_9 ?_
  obtain ⟨hg_1, h⟩ := drvG h
  refine jr_iald (rfl : kd 211 = 13) hg_1 dX12_holds_10 ?_
  refine j_nmi (fun x4_2 e_3 => ?_)
  replace h := drvL e_3 h
  refine jr_istore (lv' := [(4, .int x4_2), (3, .int (0 : Int32)), (0, .ref 205), (1, .int a0), (2, .int a1)]) dX12_holds_11 (by decide) rfl ?_
  refine jr_sub [2, 3, 4, 1, 0] rfl ?_
  refine hlX12_holds_13  ?_ _ _ _ _ h
  · intro z3_47 w_46 h
    try dsimp only at h
    refine jr_iload_n dX12_holds_243 rfl 1 rfl ?_
    refine jr_if_eq (tgt := 256) (nxt := 247) dX12_holds_244 (by decide) rfl (fun hc => ?_) (fun hc => ?_)
    · replace h := drvT hc h
      refine jr_iconst (v := (1 : Int32)) dX12_holds_256 (by decide) ?_
      refine jr_goto (tgt := 261) dX12_holds_257 (by decide) ?_
      obtain ⟨rfl, rfl⟩ := drvS2 h
      exact jr_zret (ty := .boolean) rfl rfl dX12_holds_261
    · replace h := drvE hc h
      refine jr_aload_n dX12_holds_247 rfl 0 rfl ?_
      refine gf_X12_49 (r := 216) rfl (rfl : kd 205 = 11) rfl dX12_holds_248 ?_
      refine jr_iconst (v := (0 : Int32)) dX12_holds_251 (by decide) ?_
      refine jr_zaldL (k := 0) (rfl : kd 216 = 15) (vp_lit (by decide) (by decide)) (by decide) dX12_holds_252 ?_
      refine jr_if_eq (tgt := 260) (nxt := 256) dX12_holds_253 (by decide) rfl (fun hc => ?_) (fun hc => ?_)
      · replace h := drvT hc h
        refine jr_iconst (v := (0 : Int32)) dX12_holds_260 (by decide) ?_
        obtain ⟨rfl, rfl⟩ := drvS2 h
        exact jr_zret (ty := .boolean) rfl rfl dX12_holds_261
      · replace h := drvE hc h
        refine jr_iconst (v := (1 : Int32)) dX12_holds_256 (by decide) ?_
        refine jr_goto (tgt := 261) dX12_holds_257 (by decide) ?_
        obtain ⟨rfl, rfl⟩ := drvS2 h
        exact jr_zret (ty := .boolean) rfl rfl dX12_holds_261
set_option maxHeartbeats 4000000 in
set_option maxRecDepth 100000 in
theorem hbX12_stands_25 {n : Nat} {p1 : Int32} {p2 : Int32} {k80 : Int32 → (Option Int32)} {w : jWd} {r : Int32} {rec : Int32 → Int32 → Option Int32} (hk80 : ∀ (z3 : Int32), k80 z3 = some r → J MX12_stands 1 w 80 [(0, .ref 205), (1, .int p1), (2, .int p2), (3, .int z3)] [] (some (.int r)) w)
    (hrec : ∀ (x3 : Int32) (x4 : Int32) , rec x3 x4 = some r → J MX12_stands 1 w 25 [(0, .ref 205), (1, .int p1), (2, .int p2), (3, .int x3), (4, .int x4)] [] (some (.int r)) w) : ∀ (x3 : Int32) (x4 : Int32) , bX12_stands_25 n p1 p2 k80 w rec x3 x4 = some r → J MX12_stands 1 w 25 [(0, .ref 205), (1, .int p1), (2, .int p2), (3, .int x3), (4, .int x4)] [] (some (.int r)) w := by
  intro x3 x4 h
  unfold bX12_stands_25 at h
  refine jr_iload dX12_stands_25 4 rfl ?_
  refine jr_aload_n dX12_stands_27 rfl 0 rfl ?_
  refine gf_X12_31 (r := 211) rfl (rfl : kd 205 = 11) rfl dX12_stands_28 ?_
  refine jr_bipush (v := (97 : Int32)) dX12_stands_31 (by decide) ?_
  refine jr_iload_n dX12_stands_33 rfl 1 rfl ?_
  refine jr_iadd dX12_stands_34 ?_
  obtain ⟨hg_2, h⟩ := drvG h
  refine jr_iald (rfl : kd 211 = 13) hg_2 dX12_stands_35 ?_
  refine jr_icmp_ge (tgt := 80) (nxt := 39) dX12_stands_36 (by decide) rfl (fun hc => ?_) (fun hc => ?_)
  · replace h := drvT hc h
    refine jr_sub [0, 1, 2, 3] rfl ?_
    exact hk80 _ h
  · replace h := drvE hc h
    refine jr_iload_n dX12_stands_39 rfl 3 rfl ?_
    refine jr_if_eq (tgt := 72) (nxt := 43) dX12_stands_40 (by decide) rfl (fun hc => ?_) (fun hc => ?_)
    · replace h := drvT hc h
      refine jr_iconst (v := (0 : Int32)) dX12_stands_72 (by decide) ?_
      refine jr_istore_n (lv' := [(3, .int (0 : Int32)), (0, .ref 205), (1, .int p1), (2, .int p2), (4, .int x4)]) dX12_stands_73 rfl (by decide) rfl ?_
      refine jr_iincN (c := (1 : Int32)) (lv' := fun (x4_3 : Int32) => [(4, .int x4_3), (3, .int (0 : Int32)), (0, .ref 205), (1, .int p1), (2, .int p2)]) dX12_stands_74 (by decide) 4 rfl (by decide) (fun _ => rfl) (fun x4_3 e_4 => ?_)
      replace h := drvL e_4 h
      refine jr_goto (tgt := 25) dX12_stands_77 (by decide) ?_
      refine jr_sub [2, 3, 4, 1, 0] rfl ?_
      exact hrec _ _ h
    · replace h := drvE hc h
      refine jr_aload_n dX12_stands_43 rfl 0 rfl ?_
      refine gf_X12_43 (r := 214) rfl (rfl : kd 205 = 11) rfl dX12_stands_44 ?_
      refine jr_iload_n dX12_stands_47 rfl 2 rfl ?_
      refine jr_iload dX12_stands_48 4 rfl ?_
      refine jr_iadd dX12_stands_50 ?_
      obtain ⟨hg_5, h⟩ := drvG h
      refine jr_iald (rfl : kd 214 = 13) hg_5 dX12_stands_51 ?_
      refine jr_aload_n dX12_stands_52 rfl 0 rfl ?_
      refine gf_X12_31 (r := 211) rfl (rfl : kd 205 = 11) rfl dX12_stands_53 ?_
      refine jr_iconst (v := (1 : Int32)) dX12_stands_56 (by decide) ?_
      refine jr_iconst (v := (4 : Int32)) dX12_stands_57 (by decide) ?_
      refine jr_iload_n dX12_stands_58 rfl 1 rfl ?_
      refine jr_imul dX12_stands_59 ?_
      refine jr_iadd dX12_stands_60 ?_
      refine jr_iload dX12_stands_61 4 rfl ?_
      refine jr_iadd dX12_stands_63 ?_
      obtain ⟨hg_6, h⟩ := drvG h
      refine jr_iald (rfl : kd 211 = 13) hg_6 dX12_stands_64 ?_
      refine jr_icmp_ne (tgt := 72) (nxt := 68) dX12_stands_65 (by decide) rfl (fun hc => ?_) (fun hc => ?_)
      · replace h := drvE hc h
        refine jr_iconst (v := (0 : Int32)) dX12_stands_72 (by decide) ?_
        refine jr_istore_n (lv' := [(3, .int (0 : Int32)), (0, .ref 205), (1, .int p1), (2, .int p2), (4, .int x4)]) dX12_stands_73 rfl (by decide) rfl ?_
        refine jr_iincN (c := (1 : Int32)) (lv' := fun (x4_7 : Int32) => [(4, .int x4_7), (3, .int (0 : Int32)), (0, .ref 205), (1, .int p1), (2, .int p2)]) dX12_stands_74 (by decide) 4 rfl (by decide) (fun _ => rfl) (fun x4_7 e_8 => ?_)
        replace h := drvL e_8 h
        refine jr_goto (tgt := 25) dX12_stands_77 (by decide) ?_
        refine jr_sub [2, 3, 4, 1, 0] rfl ?_
        exact hrec _ _ h
      · replace h := drvT hc h
        refine jr_iconst (v := (1 : Int32)) dX12_stands_68 (by decide) ?_
        refine jr_goto (tgt := 73) dX12_stands_69 (by decide) ?_
        refine jr_istore_n (lv' := [(3, .int (1 : Int32)), (0, .ref 205), (1, .int p1), (2, .int p2), (4, .int x4)]) dX12_stands_73 rfl (by decide) rfl ?_
        refine jr_iincN (c := (1 : Int32)) (lv' := fun (x4_9 : Int32) => [(4, .int x4_9), (3, .int (1 : Int32)), (0, .ref 205), (1, .int p1), (2, .int p2)]) dX12_stands_74 (by decide) 4 rfl (by decide) (fun _ => rfl) (fun x4_9 e_10 => ?_)
        replace h := drvL e_10 h
        refine jr_goto (tgt := 25) dX12_stands_77 (by decide) ?_
        refine jr_sub [2, 3, 4, 1, 0] rfl ?_
        exact hrec _ _ h
theorem hlX12_stands_25 {n : Nat} {p1 : Int32} {p2 : Int32} {k80 : Int32 → (Option Int32)} {w : jWd} {r : Int32} (hk80 : ∀ (z3 : Int32), k80 z3 = some r → J MX12_stands 1 w 80 [(0, .ref 205), (1, .int p1), (2, .int p2), (3, .int z3)] [] (some (.int r)) w) : ∀ (c : Nat) (x3 : Int32) (x4 : Int32) , lX12_stands_25 n p1 p2 k80 w c x3 x4 = some r → J MX12_stands 1 w 25 [(0, .ref 205), (1, .int p1), (2, .int p2), (3, .int x3), (4, .int x4)] [] (some (.int r)) w := by
  intro c
  induction c with
  | zero => intro x3 x4 h; cases h
  | succ c ih => intro x3 x4 h; exact hbX12_stands_25 (n := n) hk80 ih _ _ h
set_option maxHeartbeats 4000000 in
set_option maxRecDepth 100000 in
theorem hbX12_stands_2 {n : Nat} {p1 : Int32} {w : jWd} {r : Int32} {rec : Int32 → Option Int32} 
    (hrec : ∀ (x2 : Int32) , rec x2 = some r → J MX12_stands 1 w 2 [(0, .ref 205), (1, .int p1), (2, .int x2)] [] (some (.int r)) w) : ∀ (x2 : Int32) , bX12_stands_2 n p1 w rec x2 = some r → J MX12_stands 1 w 2 [(0, .ref 205), (1, .int p1), (2, .int x2)] [] (some (.int r)) w := by
  intro x2 h
  unfold bX12_stands_2 at h
  refine jr_iload_n dX12_stands_2 rfl 2 rfl ?_
  refine jr_aload_n dX12_stands_3 rfl 0 rfl ?_
  refine gf_X12_31 (r := 211) rfl (rfl : kd 205 = 11) rfl dX12_stands_4 ?_
  refine jr_bipush (v := (97 : Int32)) dX12_stands_7 (by decide) ?_
  refine jr_iload_n dX12_stands_9 rfl 1 rfl ?_
  refine jr_iadd dX12_stands_10 ?_
  obtain ⟨hg_1, h⟩ := drvG h
  refine jr_iald (rfl : kd 211 = 13) hg_1 dX12_stands_11 ?_
  refine jr_iadd dX12_stands_12 ?_
  refine jr_aload_n dX12_stands_13 rfl 0 rfl ?_
  refine gf_X12_220 rfl (rfl : kd 205 = 11) dX12_stands_14 ?_
  refine jr_icmp_gt (tgt := 92) (nxt := 20) dX12_stands_17 (by decide) rfl (fun hc => ?_) (fun hc => ?_)
  · replace h := drvT hc h
    refine jr_iconst (v := (-1 : Int32)) dX12_stands_92 (by decide) ?_
    obtain rfl := drvS1 h
    exact jr_iret rfl dX12_stands_93
  · replace h := drvE hc h
    refine jr_iconst (v := (1 : Int32)) dX12_stands_20 (by decide) ?_
    refine jr_istore_n (lv' := [(3, .int (1 : Int32)), (0, .ref 205), (1, .int p1), (2, .int x2)]) dX12_stands_21 rfl (by decide) rfl ?_
    refine jr_iconst (v := (0 : Int32)) dX12_stands_22 (by decide) ?_
    refine jr_istore (lv' := [(4, .int (0 : Int32)), (3, .int (1 : Int32)), (0, .ref 205), (1, .int p1), (2, .int x2)]) dX12_stands_23 (by decide) rfl ?_
    refine jr_sub [2, 3, 4, 1, 0] rfl ?_
    refine hlX12_stands_25  ?_ _ _ _ h
    · intro z3_11 h
      try dsimp only at h
      refine jr_iload_n dX12_stands_80 rfl 3 rfl ?_
      refine jr_if_eq (tgt := 86) (nxt := 84) dX12_stands_81 (by decide) rfl (fun hc => ?_) (fun hc => ?_)
      · replace h := drvT hc h
        refine jr_iincN (c := (1 : Int32)) (lv' := fun (x2_12 : Int32) => [(2, .int x2_12), (0, .ref 205), (1, .int p1), (3, .int z3_11)]) dX12_stands_86 (by decide) 2 rfl (by decide) (fun _ => rfl) (fun x2_12 e_13 => ?_)
        replace h := drvL e_13 h
        refine jr_goto (tgt := 2) dX12_stands_89 (by decide) ?_
        refine jr_sub [1, 2, 0] rfl ?_
        exact hrec _ h
      · replace h := drvE hc h
        refine jr_iload_n dX12_stands_84 rfl 2 rfl ?_
        obtain rfl := drvS1 h
        exact jr_iret rfl dX12_stands_85
theorem hlX12_stands_2 {n : Nat} {p1 : Int32} {w : jWd} {r : Int32}  : ∀ (c : Nat) (x2 : Int32) , lX12_stands_2 n p1 w c x2 = some r → J MX12_stands 1 w 2 [(0, .ref 205), (1, .int p1), (2, .int x2)] [] (some (.int r)) w := by
  intro c
  induction c with
  | zero => intro x2 h; cases h
  | succ c ih => intro x2 h; exact hbX12_stands_2 (n := n) ih _ h
set_option maxHeartbeats 4000000 in
set_option maxRecDepth 100000 in
theorem tX12_stands {n : Nat} {a0 : Int32} {w : jWd} {r : Int32}  (h : fX12_stands n a0 w = some r) : JM yX12_stands MX12_stands 1 [.ref 205, .int a0] w (some (.int r)) w := by
  refine jm_of pl_X12 rfl (Nat.le_of_ble_eq_true rfl) ?_
  show J MX12_stands 1 w 0 [(0, .ref 205), (1, .int a0)] [] (some (.int r)) w
  unfold fX12_stands at h
  refine jr_iconst (v := (0 : Int32)) dX12_stands_0 (by decide) ?_
  refine jr_istore_n (lv' := [(2, .int (0 : Int32)), (0, .ref 205), (1, .int a0)]) dX12_stands_1 rfl (by decide) rfl ?_
  refine jr_sub [1, 2, 0] rfl ?_
  refine hlX12_stands_2   _ _ h
set_option maxHeartbeats 4000000 in
set_option maxRecDepth 100000 in
theorem hbX12_does_86 {n : Nat} {p1 : Int32} {p3 : Int32} {p4 : Int32} {p5 : Int32} {p6 : Int32} {k192 : Int32 → jWd → (Option (Int32 × jWd))} {r : Int32} {w' : jWd} {rec : Int32 → Int32 → jWd → Option (Int32 × jWd)} (hk192 : ∀ (z7 : Int32) (w9 : jWd), k192 z7 w9 = some (r, w') → J MX12_does 3 w9 192 [(0, .ref 205), (6, .int p6), (7, .int z7)] [] (some (.int r)) w')
    (hrec : ∀ (x7 : Int32) (x8 : Int32) (w : jWd) , rec x7 x8 w = some (r, w') → J MX12_does 3 w 86 [(0, .ref 205), (1, .int p1), (3, .int p3), (4, .int p4), (5, .int p5), (6, .int p6), (7, .int x7), (8, .int x8)] [] (some (.int r)) w') : ∀ (x7 : Int32) (x8 : Int32) (w : jWd) , bX12_does_86 n p1 p3 p4 p5 p6 k192 rec x7 x8 w = some (r, w') → J MX12_does 3 w 86 [(0, .ref 205), (1, .int p1), (3, .int p3), (4, .int p4), (5, .int p5), (6, .int p6), (7, .int x7), (8, .int x8)] [] (some (.int r)) w' := by
  intro x7 x8 w h
  unfold bX12_does_86 at h
  refine jr_iload dX12_does_86 7 rfl ?_
  refine jr_iload dX12_does_88 5 rfl ?_
  refine jr_icmp_ge (tgt := 192) (nxt := 93) dX12_does_90 (by decide) rfl (fun hc => ?_) (fun hc => ?_)
  · replace h := drvT hc h
    refine jr_sub [0, 5, 6] rfl ?_
    exact hk192 _ _ h
  · replace h := drvE hc h
    refine jr_aload_n dX12_does_93 rfl 0 rfl ?_
    refine gf_X12_46 (r := 215) rfl (rfl : kd 205 = 11) rfl dX12_does_94 ?_
    refine jr_iload dX12_does_97 7 rfl ?_
    refine jr_iload dX12_does_99 7 rfl ?_
    refine jr_iload_n dX12_does_101 rfl 2 rfl ?_
    obtain ⟨j156_17, ej156_17, h⟩ := drvF h
    have hj156_17 : ∀ (s_16 : Int32), j156_17 s_16 = some (r, w') → J MX12_does 3 w 156 [(0, .ref 205), (1, .int p1), (3, .int p3), (4, .int p4), (5, .int p5), (6, .int p6), (7, .int x7), (8, .int x8)] [.int s_16, .int x8, .ref 215] (some (.int r)) w' := by
      intro s_16 h
      rw [ej156_17] at h
      try dsimp only at h
      obtain ⟨hg_20, h⟩ := drvG h
      refine jr_iast (rfl : kd 215 = 13) hg_20 dX12_does_156 ?_
      refine j_nmw (fun w_18 e_19 => ?_)
      replace h := drvL e_19 h
      refine jr_iload dX12_does_157 6 rfl ?_
      refine jr_if_ne (tgt := 179) (nxt := 162) dX12_does_159 (by decide) rfl (fun hc => ?_) (fun hc => ?_)
      · replace h := drvE hc h
        refine jr_iconst (v := (1 : Int32)) dX12_does_179 (by decide) ?_
        refine jr_goto (tgt := 184) dX12_does_180 (by decide) ?_
        refine jr_istore (lv' := [(7, .int (1 : Int32)), (0, .ref 205), (1, .int p1), (3, .int p3), (4, .int p4), (5, .int p5), (6, .int p6), (8, .int x8)]) dX12_does_184 (by decide) rfl ?_
        refine jr_iincN (c := (1 : Int32)) (lv' := fun (x8_21 : Int32) => [(8, .int x8_21), (7, .int (1 : Int32)), (0, .ref 205), (1, .int p1), (3, .int p3), (4, .int p4), (5, .int p5), (6, .int p6)]) dX12_does_186 (by decide) 7 rfl (by decide) (fun _ => rfl) (fun x8_21 e_22 => ?_)
        replace h := drvL e_22 h
        refine jr_goto (tgt := 86) dX12_does_189 (by decide) ?_
        refine jr_sub [2, 3, 4, 5, 6, 7, 1, 0] rfl ?_
        exact hrec _ _ _ h
      · replace h := drvT hc h
        refine jr_aload_n dX12_does_162 rfl 0 rfl ?_
        refine gf_X12_46 (r := 215) rfl (rfl : kd 205 = 11) rfl dX12_does_163 ?_
        refine jr_iload dX12_does_166 7 rfl ?_
        obtain ⟨hg_23, h⟩ := drvG h
        refine jr_iald (rfl : kd 215 = 13) hg_23 dX12_does_168 ?_
        refine jr_aload_n dX12_does_169 rfl 0 rfl ?_
        refine gf_X12_43 (r := 214) rfl (rfl : kd 205 = 11) rfl dX12_does_170 ?_
        refine jr_iload dX12_does_173 7 rfl ?_
        obtain ⟨hg_24, h⟩ := drvG h
        refine jr_iald (rfl : kd 214 = 13) hg_24 dX12_does_175 ?_
        refine jr_icmp_eq (tgt := 183) (nxt := 179) dX12_does_176 (by decide) rfl (fun hc => ?_) (fun hc => ?_)
        · replace h := drvT hc h
          refine jr_iconst (v := (0 : Int32)) dX12_does_183 (by decide) ?_
          refine jr_istore (lv' := [(7, .int (0 : Int32)), (0, .ref 205), (1, .int p1), (3, .int p3), (4, .int p4), (5, .int p5), (6, .int p6), (8, .int x8)]) dX12_does_184 (by decide) rfl ?_
          refine jr_iincN (c := (1 : Int32)) (lv' := fun (x8_25 : Int32) => [(8, .int x8_25), (7, .int (0 : Int32)), (0, .ref 205), (1, .int p1), (3, .int p3), (4, .int p4), (5, .int p5), (6, .int p6)]) dX12_does_186 (by decide) 7 rfl (by decide) (fun _ => rfl) (fun x8_25 e_26 => ?_)
          replace h := drvL e_26 h
          refine jr_goto (tgt := 86) dX12_does_189 (by decide) ?_
          refine jr_sub [2, 3, 4, 5, 6, 7, 1, 0] rfl ?_
          exact hrec _ _ _ h
        · replace h := drvE hc h
          refine jr_iconst (v := (1 : Int32)) dX12_does_179 (by decide) ?_
          refine jr_goto (tgt := 184) dX12_does_180 (by decide) ?_
          refine jr_istore (lv' := [(7, .int (1 : Int32)), (0, .ref 205), (1, .int p1), (3, .int p3), (4, .int p4), (5, .int p5), (6, .int p6), (8, .int x8)]) dX12_does_184 (by decide) rfl ?_
          refine jr_iincN (c := (1 : Int32)) (lv' := fun (x8_27 : Int32) => [(8, .int x8_27), (7, .int (1 : Int32)), (0, .ref 205), (1, .int p1), (3, .int p3), (4, .int p4), (5, .int p5), (6, .int p6)]) dX12_does_186 (by decide) 7 rfl (by decide) (fun _ => rfl) (fun x8_27 e_28 => ?_)
          replace h := drvL e_28 h
          refine jr_goto (tgt := 86) dX12_does_189 (by decide) ?_
          refine jr_sub [2, 3, 4, 5, 6, 7, 1, 0] rfl ?_
          exact hrec _ _ _ h
    refine jr_icmp_ge (tgt := 115) (nxt := 105) dX12_does_102 (by decide) rfl (fun hc => ?_) (fun hc => ?_)
    · replace h := drvT hc h
      refine jr_iload dX12_does_115 7 rfl ?_
      refine jr_iload_n dX12_does_117 rfl 2 rfl ?_
      refine jr_iload dX12_does_118 4 rfl ?_
      refine jr_iadd dX12_does_120 ?_
      refine jr_icmp_ge (tgt := 143) (nxt := 124) dX12_does_121 (by decide) rfl (fun hc => ?_) (fun hc => ?_)
      · replace h := drvT hc h
        refine jr_aload_n dX12_does_143 rfl 0 rfl ?_
        refine gf_X12_43 (r := 214) rfl (rfl : kd 205 = 11) rfl dX12_does_144 ?_
        refine jr_iload dX12_does_147 7 rfl ?_
        refine jr_iload dX12_does_149 4 rfl ?_
        refine jr_isub dX12_does_151 ?_
        refine jr_iload dX12_does_152 3 rfl ?_
        refine jr_iadd dX12_does_154 ?_
        obtain ⟨hg_29, h⟩ := drvG h
        refine jr_iald (rfl : kd 214 = 13) hg_29 dX12_does_155 ?_
        refine jr_sub [0, 1, 2, 3, 4, 5, 6, 7] rfl ?_
        exact hj156_17 _ h
      · replace h := drvE hc h
        refine jr_aload_n dX12_does_124 rfl 0 rfl ?_
        refine gf_X12_31 (r := 211) rfl (rfl : kd 205 = 11) rfl dX12_does_125 ?_
        refine jr_bipush (v := (49 : Int32)) dX12_does_128 (by decide) ?_
        refine jr_iconst (v := (4 : Int32)) dX12_does_130 (by decide) ?_
        refine jr_iload_n dX12_does_131 rfl 1 rfl ?_
        refine jr_imul dX12_does_132 ?_
        refine jr_iadd dX12_does_133 ?_
        refine jr_iload dX12_does_134 7 rfl ?_
        refine jr_iadd dX12_does_136 ?_
        refine jr_iload_n dX12_does_137 rfl 2 rfl ?_
        refine jr_isub dX12_does_138 ?_
        obtain ⟨hg_30, h⟩ := drvG h
        refine jr_iald (rfl : kd 211 = 13) hg_30 dX12_does_139 ?_
        refine jr_goto (tgt := 156) dX12_does_140 (by decide) ?_
        refine jr_sub [0, 1, 2, 3, 4, 5, 6, 7] rfl ?_
        exact hj156_17 _ h
    · replace h := drvE hc h
      refine jr_aload_n dX12_does_105 rfl 0 rfl ?_
      refine gf_X12_43 (r := 214) rfl (rfl : kd 205 = 11) rfl dX12_does_106 ?_
      refine jr_iload dX12_does_109 7 rfl ?_
      obtain ⟨hg_31, h⟩ := drvG h
      refine jr_iald (rfl : kd 214 = 13) hg_31 dX12_does_111 ?_
      refine jr_goto (tgt := 156) dX12_does_112 (by decide) ?_
      refine jr_sub [0, 1, 2, 3, 4, 5, 6, 7] rfl ?_
      exact hj156_17 _ h
theorem hlX12_does_86 {n : Nat} {p1 : Int32} {p3 : Int32} {p4 : Int32} {p5 : Int32} {p6 : Int32} {k192 : Int32 → jWd → (Option (Int32 × jWd))} {r : Int32} {w' : jWd} (hk192 : ∀ (z7 : Int32) (w9 : jWd), k192 z7 w9 = some (r, w') → J MX12_does 3 w9 192 [(0, .ref 205), (6, .int p6), (7, .int z7)] [] (some (.int r)) w') : ∀ (c : Nat) (x7 : Int32) (x8 : Int32) (w : jWd) , lX12_does_86 n p1 p3 p4 p5 p6 k192 c x7 x8 w = some (r, w') → J MX12_does 3 w 86 [(0, .ref 205), (1, .int p1), (3, .int p3), (4, .int p4), (5, .int p5), (6, .int p6), (7, .int x7), (8, .int x8)] [] (some (.int r)) w' := by
  intro c
  induction c with
  | zero => intro x7 x8 w h; cases h
  | succ c ih => intro x7 x8 w h; exact hbX12_does_86 (n := n) hk192 ih _ _ _ h
set_option maxHeartbeats 4000000 in
set_option maxRecDepth 100000 in
theorem hbX12_does_208 {n : Nat} {p6 : Int32} {r : Int32} {w' : jWd} {rec : Int32 → jWd → Option (Int32 × jWd)} 
    (hrec : ∀ (x8 : Int32) (w : jWd) , rec x8 w = some (r, w') → J MX12_does 3 w 208 [(0, .ref 205), (6, .int p6), (8, .int x8)] [] (some (.int r)) w') : ∀ (x8 : Int32) (w : jWd) , bX12_does_208 n p6 rec x8 w = some (r, w') → J MX12_does 3 w 208 [(0, .ref 205), (6, .int p6), (8, .int x8)] [] (some (.int r)) w' := by
  intro x8 w h
  unfold bX12_does_208 at h
  refine jr_iload dX12_does_208 2 rfl ?_
  refine jr_iload dX12_does_210 1 rfl ?_
  refine jr_icmp_ge (tgt := 235) (nxt := 215) dX12_does_212 (by decide) rfl (fun hc => ?_) (fun hc => ?_)
  · replace h := drvT hc h
    refine jr_iconst (v := (1 : Int32)) dX12_does_235 (by decide) ?_
    obtain ⟨rfl, rfl⟩ := drvS2 h
    exact jr_zret (ty := .boolean) rfl rfl dX12_does_236
  · replace h := drvE hc h
    refine jr_aload_n dX12_does_215 rfl 0 rfl ?_
    refine gf_X12_43 (r := 214) rfl (rfl : kd 205 = 11) rfl dX12_does_216 ?_
    refine jr_iload dX12_does_219 2 rfl ?_
    refine jr_aload_n dX12_does_221 rfl 0 rfl ?_
    refine gf_X12_46 (r := 215) rfl (rfl : kd 205 = 11) rfl dX12_does_222 ?_
    refine jr_iload dX12_does_225 2 rfl ?_
    obtain ⟨hg_36, h⟩ := drvG h
    refine jr_iald (rfl : kd 215 = 13) hg_36 dX12_does_227 ?_
    obtain ⟨hg_39, h⟩ := drvG h
    refine jr_iast (rfl : kd 214 = 13) hg_39 dX12_does_228 ?_
    refine j_nmw (fun w_37 e_38 => ?_)
    replace h := drvL e_38 h
    refine jr_iincN (c := (1 : Int32)) (lv' := fun (x8_40 : Int32) => [(8, .int x8_40), (0, .ref 205), (6, .int p6)]) dX12_does_229 (by decide) 2 rfl (by decide) (fun _ => rfl) (fun x8_40 e_41 => ?_)
    replace h := drvL e_41 h
    refine jr_goto (tgt := 208) dX12_does_232 (by decide) ?_
    refine jr_sub [1, 2, 0] rfl ?_
    exact hrec _ _ h
theorem hlX12_does_208 {n : Nat} {p6 : Int32} {r : Int32} {w' : jWd}  : ∀ (c : Nat) (x8 : Int32) (w : jWd) , lX12_does_208 n p6 c x8 w = some (r, w') → J MX12_does 3 w 208 [(0, .ref 205), (6, .int p6), (8, .int x8)] [] (some (.int r)) w' := by
  intro c
  induction c with
  | zero => intro x8 w h; cases h
  | succ c ih => intro x8 w h; exact hbX12_does_208 (n := n) ih _ _ h
set_option maxHeartbeats 4000000 in
set_option maxRecDepth 100000 in
theorem tX12_does {n : Nat} {a0 : Int32} {a1 : Int32} {w : jWd} {r : Int32} {w' : jWd}  (h : fX12_does n a0 a1 w = some (r, w')) : JM yX12_does MX12_does 3 [.ref 205, .int a0, .int a1] w (some (.int r)) w' := by
  refine jm_of pl_X12 rfl (Nat.le_of_ble_eq_true rfl) ?_
  show J MX12_does 3 w 0 [(0, .ref 205), (1, .int a0), (2, .int a1)] [] (some (.int r)) w'
  unfold fX12_does at h
  refine jr_aload_n dX12_does_0 rfl 0 rfl ?_
  refine jr_iload_n dX12_does_1 rfl 1 rfl ?_
  refine jr_iload_n dX12_does_2 rfl 2 rfl ?_
  obtain ⟨r_3, w_2, hq_1, h⟩ := drvB2 h
  refine j_callVv lk_X12_226 wIM_X12_holds wSE_X12_holds (rfl : kd 205 = 11) (by decide) rfl (tX12_holds  hq_1) (by omega) rfl rfl (Nat.le_of_ble_eq_true rfl) dX12_does_3 ?_
  obtain ⟨j18_5, ej18_5, h⟩ := drvF h
  have hj18_5 : ∀ (s_4 : Int32), j18_5 s_4 = some (r, w') → J MX12_does 3 w_2 18 [(0, .ref 205), (1, .int a0)] [.int s_4] (some (.int r)) w' := by
    intro s_4 h
    rw [ej18_5] at h
    try dsimp only at h
    refine jr_istore_n (lv' := [(3, .int s_4), (0, .ref 205), (1, .int a0)]) dX12_does_18 rfl (by decide) rfl ?_
    refine jr_aload_n dX12_does_19 rfl 1 rfl ?_
    refine gf_X12_31 (r := 211) rfl (rfl : kd 205 = 11) rfl dX12_does_20 ?_
    refine jr_bipush (v := (97 : Int32)) dX12_does_23 (by decide) ?_
    refine jr_iload_n dX12_does_25 rfl 2 rfl ?_
    refine jr_iadd dX12_does_26 ?_
    obtain ⟨hg_6, h⟩ := drvG h
    refine jr_iald (rfl : kd 211 = 13) hg_6 dX12_does_27 ?_
    refine j_nmi (fun x4_7 e_8 => ?_)
    replace h := drvL e_8 h
    refine jr_istore (lv' := [(4, .int x4_7), (3, .int s_4), (0, .ref 205), (1, .int a0)]) dX12_does_28 (by decide) rfl ?_
    refine jr_aload_n dX12_does_30 rfl 2 rfl ?_
    refine gf_X12_31 (r := 211) rfl (rfl : kd 205 = 11) rfl dX12_does_31 ?_
    refine jr_bipush (v := (109 : Int32)) dX12_does_34 (by decide) ?_
    refine jr_iload_n dX12_does_36 rfl 3 rfl ?_
    refine jr_iadd dX12_does_37 ?_
    obtain ⟨hg_9, h⟩ := drvG h
    refine jr_iald (rfl : kd 211 = 13) hg_9 dX12_does_38 ?_
    refine j_nmi (fun x5_10 e_11 => ?_)
    replace h := drvL e_11 h
    refine jr_istore (lv' := [(5, .int x5_10), (4, .int x4_7), (3, .int s_4), (0, .ref 205), (1, .int a0)]) dX12_does_39 (by decide) rfl ?_
    refine jr_aload_n dX12_does_41 rfl 3 rfl ?_
    refine gf_X12_220 rfl (rfl : kd 205 = 11) dX12_does_42 ?_
    refine jr_iload dX12_does_45 1 rfl ?_
    refine jr_isub dX12_does_47 ?_
    refine jr_iload dX12_does_48 0 rfl ?_
    refine jr_iadd dX12_does_50 ?_
    refine j_nmi (fun x6_12 e_13 => ?_)
    replace h := drvL e_13 h
    refine jr_istore (lv' := [(6, .int x6_12), (5, .int x5_10), (4, .int x4_7), (3, .int s_4), (0, .ref 205), (1, .int a0)]) dX12_does_51 (by decide) rfl ?_
    refine jr_iload_n dX12_does_53 rfl 3 rfl ?_
    refine jr_iconst (v := (-1 : Int32)) dX12_does_54 (by decide) ?_
    refine jr_icmp_eq (tgt := 65) (nxt := 58) dX12_does_55 (by decide) rfl (fun hc => ?_) (fun hc => ?_)
    · replace h := drvT hc h
      refine jr_iconst (v := (0 : Int32)) dX12_does_65 (by decide) ?_
      obtain ⟨rfl, rfl⟩ := drvS2 h
      exact jr_zret (ty := .boolean) rfl rfl dX12_does_66
    · replace h := drvE hc h
      refine jr_iload dX12_does_58 0 rfl ?_
      refine jr_bipush (v := (8 : Int32)) dX12_does_60 (by decide) ?_
      refine jr_icmp_le (tgt := 67) (nxt := 65) dX12_does_62 (by decide) rfl (fun hc => ?_) (fun hc => ?_)
      · replace h := drvT hc h
        refine jr_iload dX12_does_67 0 rfl ?_
        refine jr_aload_n dX12_does_69 rfl 4 rfl ?_
        refine gf_X12_220 rfl (rfl : kd 205 = 11) dX12_does_70 ?_
        obtain ⟨j81_15, ej81_15, h⟩ := drvF h
        have hj81_15 : ∀ (s_14 : Int32), j81_15 s_14 = some (r, w') → J MX12_does 3 w_2 81 [(0, .ref 205), (1, .int a0), (3, .int s_4), (4, .int x4_7), (5, .int x5_10), (6, .int x6_12)] [.int s_14] (some (.int r)) w' := by
          intro s_14 h
          rw [ej81_15] at h
          try dsimp only at h
          refine jr_istore (lv' := [(7, .int s_14), (0, .ref 205), (1, .int a0), (3, .int s_4), (4, .int x4_7), (5, .int x5_10), (6, .int x6_12)]) dX12_does_81 (by decide) rfl ?_
          refine jr_iconst (v := (0 : Int32)) dX12_does_83 (by decide) ?_
          refine jr_istore (lv' := [(8, .int (0 : Int32)), (7, .int s_14), (0, .ref 205), (1, .int a0), (3, .int s_4), (4, .int x4_7), (5, .int x5_10), (6, .int x6_12)]) dX12_does_84 (by decide) rfl ?_
          refine jr_sub [2, 3, 4, 5, 6, 7, 1, 0] rfl ?_
          refine hlX12_does_86  ?_ _ _ _ _ h
          · intro z7_33 w_32 h
            try dsimp only at h
            refine jr_iload dX12_does_192 2 rfl ?_
            refine jr_if_ne (tgt := 199) (nxt := 197) dX12_does_194 (by decide) rfl (fun hc => ?_) (fun hc => ?_)
            · replace h := drvE hc h
              refine jr_aload_n dX12_does_199 rfl 0 rfl ?_
              refine jr_iload dX12_does_200 1 rfl ?_
              refine pf_X12_220 rfl (rfl : kd 205 = 11) dX12_does_202 ?_
              refine j_nmw (fun w_34 e_35 => ?_)
              replace h := drvL e_35 h
              refine jr_iconst (v := (0 : Int32)) dX12_does_205 (by decide) ?_
              refine jr_istore (lv' := [(8, .int (0 : Int32)), (0, .ref 205), (6, .int x6_12), (7, .int z7_33)]) dX12_does_206 (by decide) rfl ?_
              refine jr_sub [1, 2, 0] rfl ?_
              refine hlX12_does_208   _ _ _ h
            · replace h := drvT hc h
              refine jr_iconst (v := (0 : Int32)) dX12_does_197 (by decide) ?_
              obtain ⟨rfl, rfl⟩ := drvS2 h
              exact jr_zret (ty := .boolean) rfl rfl dX12_does_198
        refine jr_icmp_eq (tgt := 80) (nxt := 76) dX12_does_73 (by decide) rfl (fun hc => ?_) (fun hc => ?_)
        · replace h := drvT hc h
          refine jr_iconst (v := (0 : Int32)) dX12_does_80 (by decide) ?_
          refine jr_sub [4, 5, 3, 2, 1, 0] rfl ?_
          exact hj81_15 _ h
        · replace h := drvE hc h
          refine jr_iconst (v := (1 : Int32)) dX12_does_76 (by decide) ?_
          refine jr_goto (tgt := 81) dX12_does_77 (by decide) ?_
          refine jr_sub [4, 5, 3, 2, 1, 0] rfl ?_
          exact hj81_15 _ h
      · replace h := drvE hc h
        refine jr_iconst (v := (0 : Int32)) dX12_does_65 (by decide) ?_
        obtain ⟨rfl, rfl⟩ := drvS2 h
        exact jr_zret (ty := .boolean) rfl rfl dX12_does_66
  refine jr_if_eq (tgt := 17) (nxt := 9) dX12_does_6 (by decide) rfl (fun hc => ?_) (fun hc => ?_)
  · replace h := drvT hc h
    refine jr_iconst (v := (-1 : Int32)) dX12_does_17 (by decide) ?_
    refine jr_sub [0, 1] rfl ?_
    exact hj18_5 _ h
  · replace h := drvE hc h
    refine jr_aload_n dX12_does_9 rfl 0 rfl ?_
    refine jr_iload_n dX12_does_10 rfl 1 rfl ?_
    obtain ⟨r_43, hq_42, h⟩ := drvB h
    refine j_callVv lk_X12_230 wIM_X12_stands wSE_X12_stands (rfl : kd 205 = 11) (by decide) rfl (tX12_stands  hq_42) (by omega) rfl rfl (Nat.le_of_ble_eq_true rfl) dX12_does_11 ?_
    refine jr_goto (tgt := 18) dX12_does_14 (by decide) ?_
    refine jr_sub [0, 1] rfl ?_
    exact hj18_5 _ h
set_option maxHeartbeats 4000000 in
set_option maxRecDepth 100000 in
theorem hbX12_smooth_11 {n : Nat} {p1 : Int64} {p3 : Int32} {k39 : jWd → (Option (Int64 × jWd))} {r : Int64} {w' : jWd} {rec : Int32 → jWd → Option (Int64 × jWd)} (hk39 : ∀ (w9 : jWd), k39 w9 = some (r, w') → J MX12_smooth 4 w9 39 [(0, .ref 205), (3, .int p3)] [] (some (.long r)) w')
    (hrec : ∀ (x4 : Int32) (w : jWd) , rec x4 w = some (r, w') → J MX12_smooth 4 w 11 [(0, .ref 205), (1, .long p1), (3, .int p3), (4, .int x4)] [] (some (.long r)) w') : ∀ (x4 : Int32) (w : jWd) , bX12_smooth_11 n p1 p3 k39 rec x4 w = some (r, w') → J MX12_smooth 4 w 11 [(0, .ref 205), (1, .long p1), (3, .int p3), (4, .int x4)] [] (some (.long r)) w' := by
  intro x4 w h
  unfold bX12_smooth_11 at h
  refine jr_iload dX12_smooth_11 3 rfl ?_
  refine jr_aload_n dX12_smooth_13 rfl 0 rfl ?_
  refine gf_X12_220 rfl (rfl : kd 205 = 11) dX12_smooth_14 ?_
  refine jr_icmp_ge (tgt := 39) (nxt := 20) dX12_smooth_17 (by decide) rfl (fun hc => ?_) (fun hc => ?_)
  · replace h := drvT hc h
    refine jr_sub [0, 2] rfl ?_
    exact hk39 _ h
  · replace h := drvE hc h
    refine jr_aload_n dX12_smooth_20 rfl 0 rfl ?_
    refine gf_X12_43 (r := 214) rfl (rfl : kd 205 = 11) rfl dX12_smooth_21 ?_
    refine jr_iload dX12_smooth_24 3 rfl ?_
    refine jr_lload_n dX12_smooth_26 rfl 1 rfl ?_
    refine jr_iload dX12_smooth_27 3 rfl ?_
    refine j_callSv lk_X12_73 wST_X12_wordAt (tX12_wordAt  (a0 := p1) (a1 := x4) (w := w)) (by omega) rfl rfl (Nat.le_of_ble_eq_true rfl) dX12_smooth_29 ?_
    obtain ⟨hg_7, h⟩ := drvG h
    refine jr_iast (rfl : kd 214 = 13) hg_7 dX12_smooth_32 ?_
    refine j_nmw (fun w_5 e_6 => ?_)
    replace h := drvL e_6 h
    refine jr_iincN (c := (1 : Int32)) (lv' := fun (x4_8 : Int32) => [(4, .int x4_8), (0, .ref 205), (1, .long p1), (3, .int p3)]) dX12_smooth_33 (by decide) 3 rfl (by decide) (fun _ => rfl) (fun x4_8 e_9 => ?_)
    replace h := drvL e_9 h
    refine jr_goto (tgt := 11) dX12_smooth_36 (by decide) ?_
    refine jr_sub [1, 2, 3, 0] rfl ?_
    exact hrec _ _ h
theorem hlX12_smooth_11 {n : Nat} {p1 : Int64} {p3 : Int32} {k39 : jWd → (Option (Int64 × jWd))} {r : Int64} {w' : jWd} (hk39 : ∀ (w9 : jWd), k39 w9 = some (r, w') → J MX12_smooth 4 w9 39 [(0, .ref 205), (3, .int p3)] [] (some (.long r)) w') : ∀ (c : Nat) (x4 : Int32) (w : jWd) , lX12_smooth_11 n p1 p3 k39 c x4 w = some (r, w') → J MX12_smooth 4 w 11 [(0, .ref 205), (1, .long p1), (3, .int p3), (4, .int x4)] [] (some (.long r)) w' := by
  intro c
  induction c with
  | zero => intro x4 w h; cases h
  | succ c ih => intro x4 w h; exact hbX12_smooth_11 (n := n) hk39 ih _ _ h
set_option maxHeartbeats 4000000 in
set_option maxRecDepth 100000 in
theorem hbX12_smooth_63 {n : Nat} {p3 : Int32} {p5 : Int32} {k94 : Int32 → jWd → (Option (Int64 × jWd))} {r : Int64} {w' : jWd} {rec : Int32 → Int32 → jWd → Option (Int64 × jWd)} (hk94 : ∀ (z4 : Int32) (w9 : jWd), k94 z4 w9 = some (r, w') → J MX12_smooth 4 w9 94 [(0, .ref 205), (3, .int p3), (4, .int z4), (5, .int p5)] [] (some (.long r)) w')
    (hrec : ∀ (x4 : Int32) (x6 : Int32) (w : jWd) , rec x4 x6 w = some (r, w') → J MX12_smooth 4 w 63 [(0, .ref 205), (3, .int p3), (4, .int x4), (5, .int p5), (6, .int x6)] [] (some (.long r)) w') : ∀ (x4 : Int32) (x6 : Int32) (w : jWd) , bX12_smooth_63 n p3 p5 k94 rec x4 x6 w = some (r, w') → J MX12_smooth 4 w 63 [(0, .ref 205), (3, .int p3), (4, .int x4), (5, .int p5), (6, .int x6)] [] (some (.long r)) w' := by
  intro x4 x6 w h
  unfold bX12_smooth_63 at h
  refine jr_iload dX12_smooth_63 4 rfl ?_
  refine jr_aload_n dX12_smooth_65 rfl 0 rfl ?_
  refine gf_X12_31 (r := 211) rfl (rfl : kd 205 = 11) rfl dX12_smooth_66 ?_
  refine jr_iconst (v := (0 : Int32)) dX12_smooth_69 (by decide) ?_
  refine jr_ialdL (k := 0) (rfl : kd 211 = 13) (vp_lit (by decide) (by decide)) (by decide) dX12_smooth_70 ?_
  refine jr_icmp_ge (tgt := 94) (nxt := 74) dX12_smooth_71 (by decide) rfl (fun hc => ?_) (fun hc => ?_)
  · replace h := drvT hc h
    refine jr_sub [0, 1, 2, 3] rfl ?_
    exact hk94 _ _ h
  · replace h := drvE hc h
    refine jr_iload dX12_smooth_74 2 rfl ?_
    refine jr_if_ne (tgt := 94) (nxt := 79) dX12_smooth_76 (by decide) rfl (fun hc => ?_) (fun hc => ?_)
    · replace h := drvE hc h
      refine jr_sub [0, 1, 2, 3] rfl ?_
      exact hk94 _ _ h
    · replace h := drvT hc h
      refine jr_aload_n dX12_smooth_79 rfl 0 rfl ?_
      refine jr_iload dX12_smooth_80 4 rfl ?_
      refine jr_iload_n dX12_smooth_82 rfl 1 rfl ?_
      obtain ⟨r_13, w_12, hq_11, h⟩ := drvB2 h
      refine j_callVv lk_X12_233 wIM_X12_does wSE_X12_does (rfl : kd 205 = 11) (by decide) rfl (tX12_does  hq_11) (by omega) rfl rfl (Nat.le_of_ble_eq_true rfl) dX12_smooth_83 ?_
      refine jr_istore (lv' := [(4, .int r_13), (0, .ref 205), (3, .int p3), (5, .int p5), (6, .int x6)]) dX12_smooth_86 (by decide) rfl ?_
      refine jr_iincN (c := (1 : Int32)) (lv' := fun (x6_14 : Int32) => [(6, .int x6_14), (4, .int r_13), (0, .ref 205), (3, .int p3), (5, .int p5)]) dX12_smooth_88 (by decide) 4 rfl (by decide) (fun _ => rfl) (fun x6_14 e_15 => ?_)
      replace h := drvL e_15 h
      refine jr_goto (tgt := 63) dX12_smooth_91 (by decide) ?_
      refine jr_sub [2, 3, 1, 4, 0] rfl ?_
      exact hrec _ _ _ h
theorem hlX12_smooth_63 {n : Nat} {p3 : Int32} {p5 : Int32} {k94 : Int32 → jWd → (Option (Int64 × jWd))} {r : Int64} {w' : jWd} (hk94 : ∀ (z4 : Int32) (w9 : jWd), k94 z4 w9 = some (r, w') → J MX12_smooth 4 w9 94 [(0, .ref 205), (3, .int p3), (4, .int z4), (5, .int p5)] [] (some (.long r)) w') : ∀ (c : Nat) (x4 : Int32) (x6 : Int32) (w : jWd) , lX12_smooth_63 n p3 p5 k94 c x4 x6 w = some (r, w') → J MX12_smooth 4 w 63 [(0, .ref 205), (3, .int p3), (4, .int x4), (5, .int p5), (6, .int x6)] [] (some (.long r)) w' := by
  intro c
  induction c with
  | zero => intro x4 x6 w h; cases h
  | succ c ih => intro x4 x6 w h; exact hbX12_smooth_63 (n := n) hk94 ih _ _ _ h
set_option maxHeartbeats 4000000 in
set_option maxRecDepth 100000 in
theorem hbX12_smooth_45 {n : Nat} {p3 : Int32} {k100 : jWd → (Option (Int64 × jWd))} {r : Int64} {w' : jWd} {rec : Int32 → Int32 → jWd → Option (Int64 × jWd)} (hk100 : ∀ (w9 : jWd), k100 w9 = some (r, w') → J MX12_smooth 4 w9 100 [(0, .ref 205)] [] (some (.long r)) w')
    (hrec : ∀ (x4 : Int32) (x5 : Int32) (w : jWd) , rec x4 x5 w = some (r, w') → J MX12_smooth 4 w 45 [(0, .ref 205), (3, .int p3), (4, .int x4), (5, .int x5)] [] (some (.long r)) w') : ∀ (x4 : Int32) (x5 : Int32) (w : jWd) , bX12_smooth_45 n p3 k100 rec x4 x5 w = some (r, w') → J MX12_smooth 4 w 45 [(0, .ref 205), (3, .int p3), (4, .int x4), (5, .int x5)] [] (some (.long r)) w' := by
  intro x4 x5 w h
  unfold bX12_smooth_45 at h
  refine jr_iload dX12_smooth_45 3 rfl ?_
  refine jr_bipush (v := (12 : Int32)) dX12_smooth_47 (by decide) ?_
  refine jr_icmp_ge (tgt := 100) (nxt := 52) dX12_smooth_49 (by decide) rfl (fun hc => ?_) (fun hc => ?_)
  · replace h := drvT hc h
    refine jr_sub [0] rfl ?_
    exact hk100 _ h
  · replace h := drvE hc h
    refine jr_iload dX12_smooth_52 2 rfl ?_
    refine jr_if_eq (tgt := 100) (nxt := 57) dX12_smooth_54 (by decide) rfl (fun hc => ?_) (fun hc => ?_)
    · replace h := drvT hc h
      refine jr_sub [0] rfl ?_
      exact hk100 _ h
    · replace h := drvE hc h
      refine jr_iconst (v := (0 : Int32)) dX12_smooth_57 (by decide) ?_
      refine jr_istore (lv' := [(4, .int (0 : Int32)), (0, .ref 205), (3, .int p3), (5, .int x5)]) dX12_smooth_58 (by decide) rfl ?_
      refine jr_iconst (v := (0 : Int32)) dX12_smooth_60 (by decide) ?_
      refine jr_istore (lv' := [(6, .int (0 : Int32)), (4, .int (0 : Int32)), (0, .ref 205), (3, .int p3), (5, .int x5)]) dX12_smooth_61 (by decide) rfl ?_
      refine jr_sub [2, 3, 1, 4, 0] rfl ?_
      refine hlX12_smooth_63  ?_ _ _ _ _ h
      · intro z4_17 w_16 h
        try dsimp only at h
        refine jr_iincN (c := (1 : Int32)) (lv' := fun (x5_18 : Int32) => [(5, .int x5_18), (0, .ref 205), (3, .int p3), (4, .int z4_17)]) dX12_smooth_94 (by decide) 3 rfl (by decide) (fun _ => rfl) (fun x5_18 e_19 => ?_)
        replace h := drvL e_19 h
        refine jr_goto (tgt := 45) dX12_smooth_97 (by decide) ?_
        refine jr_sub [1, 2, 3, 0] rfl ?_
        exact hrec _ _ _ h
theorem hlX12_smooth_45 {n : Nat} {p3 : Int32} {k100 : jWd → (Option (Int64 × jWd))} {r : Int64} {w' : jWd} (hk100 : ∀ (w9 : jWd), k100 w9 = some (r, w') → J MX12_smooth 4 w9 100 [(0, .ref 205)] [] (some (.long r)) w') : ∀ (c : Nat) (x4 : Int32) (x5 : Int32) (w : jWd) , lX12_smooth_45 n p3 k100 c x4 x5 w = some (r, w') → J MX12_smooth 4 w 45 [(0, .ref 205), (3, .int p3), (4, .int x4), (5, .int x5)] [] (some (.long r)) w' := by
  intro c
  induction c with
  | zero => intro x4 x5 w h; cases h
  | succ c ih => intro x4 x5 w h; exact hbX12_smooth_45 (n := n) hk100 ih _ _ _ h
set_option maxHeartbeats 4000000 in
set_option maxRecDepth 100000 in
theorem hbX12_smooth_106 {n : Nat} {w : jWd} {r : Int64} {w' : jWd} {rec : Int64 → Int32 → Option (Int64 × jWd)} 
    (hrec : ∀ (x5 : Int64) (x7 : Int32) , rec x5 x7 = some (r, w') → J MX12_smooth 4 w 106 [(0, .ref 205), (5, .long x5), (7, .int x7)] [] (some (.long r)) w') : ∀ (x5 : Int64) (x7 : Int32) , bX12_smooth_106 n w rec x5 x7 = some (r, w') → J MX12_smooth 4 w 106 [(0, .ref 205), (5, .long x5), (7, .int x7)] [] (some (.long r)) w' := by
  intro x5 x7 h
  unfold bX12_smooth_106 at h
  refine jr_iload dX12_smooth_106 2 rfl ?_
  refine jr_aload_n dX12_smooth_108 rfl 0 rfl ?_
  refine gf_X12_220 rfl (rfl : kd 205 = 11) dX12_smooth_109 ?_
  refine jr_icmp_ge (tgt := 143) (nxt := 115) dX12_smooth_112 (by decide) rfl (fun hc => ?_) (fun hc => ?_)
  · replace h := drvT hc h
    refine jr_lload dX12_smooth_143 1 rfl ?_
    obtain ⟨rfl, rfl⟩ := drvS2 h
    exact jr_lret rfl dX12_smooth_145
  · replace h := drvE hc h
    refine jr_lload dX12_smooth_115 1 rfl ?_
    refine jr_aload_n dX12_smooth_117 rfl 0 rfl ?_
    refine gf_X12_43 (r := 214) rfl (rfl : kd 205 = 11) rfl dX12_smooth_118 ?_
    refine jr_iload dX12_smooth_121 2 rfl ?_
    obtain ⟨hg_21, h⟩ := drvG h
    refine jr_iald (rfl : kd 214 = 13) hg_21 dX12_smooth_123 ?_
    refine jr_i2l dX12_smooth_124 ?_
    refine jr_bipush (v := (56 : Int32)) dX12_smooth_125 (by decide) ?_
    refine jr_bipush (v := (8 : Int32)) dX12_smooth_127 (by decide) ?_
    refine jr_iload dX12_smooth_129 2 rfl ?_
    refine jr_imul dX12_smooth_131 ?_
    refine jr_isub dX12_smooth_132 ?_
    refine jr_lshl dX12_smooth_133 ?_
    refine jr_lor dX12_smooth_134 ?_
    refine j_nml (fun x5_22 e_23 => ?_)
    replace h := drvL e_23 h
    refine jr_lstore (lv' := [(5, .long x5_22), (0, .ref 205), (7, .int x7)]) dX12_smooth_135 (by decide) rfl ?_
    refine jr_iincN (c := (1 : Int32)) (lv' := fun (x7_24 : Int32) => [(7, .int x7_24), (5, .long x5_22), (0, .ref 205)]) dX12_smooth_137 (by decide) 2 rfl (by decide) (fun _ => rfl) (fun x7_24 e_25 => ?_)
    replace h := drvL e_25 h
    refine jr_goto (tgt := 106) dX12_smooth_140 (by decide) ?_
    refine jr_sub [2, 1, 0] rfl ?_
    exact hrec _ _ h
theorem hlX12_smooth_106 {n : Nat} {w : jWd} {r : Int64} {w' : jWd}  : ∀ (c : Nat) (x5 : Int64) (x7 : Int32) , lX12_smooth_106 n w c x5 x7 = some (r, w') → J MX12_smooth 4 w 106 [(0, .ref 205), (5, .long x5), (7, .int x7)] [] (some (.long r)) w' := by
  intro c
  induction c with
  | zero => intro x5 x7 h; cases h
  | succ c ih => intro x5 x7 h; exact hbX12_smooth_106 (n := n) ih _ _ h
set_option maxHeartbeats 4000000 in
set_option maxRecDepth 100000 in
theorem tX12_smooth {n : Nat} {a0 : Int64} {a1 : Int32} {w : jWd} {r : Int64} {w' : jWd}  (h : fX12_smooth n a0 a1 w = some (r, w')) : JM yX12_smooth MX12_smooth 4 [.ref 205, .long a0, .int a1] w (some (.long r)) w' := by
  refine jm_of pl_X12 rfl (Nat.le_of_ble_eq_true rfl) ?_
  show J MX12_smooth 4 w 0 [(0, .ref 205), (1, .long a0), (3, .int a1)] [] (some (.long r)) w'
  unfold fX12_smooth at h
  refine jr_aload_n dX12_smooth_0 rfl 0 rfl ?_
  refine jr_lload_n dX12_smooth_1 rfl 1 rfl ?_
  obtain ⟨r_2, hq_1, h⟩ := drvB h
  refine j_callSv lk_X12_77 wST_X12_lengthOf (tX12_lengthOf  hq_1) (by omega) rfl rfl (Nat.le_of_ble_eq_true rfl) dX12_smooth_2 ?_
  refine pf_X12_220 rfl (rfl : kd 205 = 11) dX12_smooth_5 ?_
  refine j_nmw (fun w_3 e_4 => ?_)
  replace h := drvL e_4 h
  refine jr_iconst (v := (0 : Int32)) dX12_smooth_8 (by decide) ?_
  refine jr_istore (lv' := [(4, .int (0 : Int32)), (0, .ref 205), (1, .long a0), (3, .int a1)]) dX12_smooth_9 (by decide) rfl ?_
  refine jr_sub [1, 2, 3, 0] rfl ?_
  refine hlX12_smooth_11  ?_ _ _ _ h
  · intro w_10 h
    try dsimp only at h
    refine jr_iconst (v := (1 : Int32)) dX12_smooth_39 (by decide) ?_
    refine jr_istore (lv' := [(4, .int (1 : Int32)), (0, .ref 205), (3, .int a1)]) dX12_smooth_40 (by decide) rfl ?_
    refine jr_iconst (v := (0 : Int32)) dX12_smooth_42 (by decide) ?_
    refine jr_istore (lv' := [(5, .int (0 : Int32)), (4, .int (1 : Int32)), (0, .ref 205), (3, .int a1)]) dX12_smooth_43 (by decide) rfl ?_
    refine jr_sub [2, 3, 1, 0] rfl ?_
    refine hlX12_smooth_45  ?_ _ _ _ _ h
    · intro w_20 h
      try dsimp only at h
      refine jr_lconst (v := (0 : Int64)) dX12_smooth_100 rfl ?_
      refine jr_lstore (lv' := [(5, .long (0 : Int64)), (0, .ref 205)]) dX12_smooth_101 (by decide) rfl ?_
      refine jr_iconst (v := (0 : Int32)) dX12_smooth_103 (by decide) ?_
      refine jr_istore (lv' := [(7, .int (0 : Int32)), (5, .long (0 : Int64)), (0, .ref 205)]) dX12_smooth_104 (by decide) rfl ?_
      refine jr_sub [2, 1, 0] rfl ?_
      refine hlX12_smooth_106   _ _ _ h
set_option maxHeartbeats 4000000 in
set_option maxRecDepth 100000 in
theorem hbX12_smooths_14 {n : Nat} {p1 : Int32} {k75 : jWd → (Option jWd)} {w' : jWd} {rec : Int32 → jWd → Option jWd} (hk75 : ∀ (w9 : jWd), k75 w9 = some w' → J MX12_smooths 5 w9 75 [(0, .ref 205), (1, .int p1)] [] none w')
    (hrec : ∀ (x2 : Int32) (w : jWd) , rec x2 w = some w' → J MX12_smooths 5 w 14 [(0, .ref 205), (1, .int p1), (2, .int x2)] [] none w') : ∀ (x2 : Int32) (w : jWd) , bX12_smooths_14 n p1 k75 rec x2 w = some w' → J MX12_smooths 5 w 14 [(0, .ref 205), (1, .int p1), (2, .int x2)] [] none w' := by
  intro x2 w h
  unfold bX12_smooths_14 at h
  refine jr_iload_n dX12_smooths_14 rfl 2 rfl ?_
  refine jr_aload_n dX12_smooths_15 rfl 0 rfl ?_
  refine gf_X12_17 (r := 207) rfl (rfl : kd 205 = 11) rfl dX12_smooths_16 ?_
  refine jr_bipush (v := (121 : Int32)) dX12_smooths_19 (by decide) ?_
  refine jr_iload_n dX12_smooths_21 rfl 1 rfl ?_
  refine jr_iadd dX12_smooths_22 ?_
  obtain ⟨hg_1, h⟩ := drvG h
  refine jr_iald (rfl : kd 207 = 13) hg_1 dX12_smooths_23 ?_
  refine jr_icmp_ge (tgt := 75) (nxt := 27) dX12_smooths_24 (by decide) rfl (fun hc => ?_) (fun hc => ?_)
  · replace h := drvT hc h
    refine jr_sub [0, 1] rfl ?_
    exact hk75 _ h
  · replace h := drvE hc h
    refine jr_aload_n dX12_smooths_27 rfl 0 rfl ?_
    refine jr_iload_n dX12_smooths_28 rfl 1 rfl ?_
    obtain ⟨r_3, hq_2, h⟩ := drvB h
    refine j_callVv lk_X12_250 wIM_X12_isEarly wSE_X12_isEarly (rfl : kd 205 = 11) (by decide) rfl (tX12_isEarly  hq_2) (by omega) rfl rfl (Nat.le_of_ble_eq_true rfl) dX12_smooths_29 ?_
    refine jr_if_eq (tgt := 75) (nxt := 35) dX12_smooths_32 (by decide) rfl (fun hc => ?_) (fun hc => ?_)
    · replace h := drvT hc h
      refine jr_sub [0, 1] rfl ?_
      exact hk75 _ h
    · replace h := drvE hc h
      refine jr_aload_n dX12_smooths_35 rfl 0 rfl ?_
      refine gf_X12_55 (r := 218) rfl (rfl : kd 205 = 11) rfl dX12_smooths_36 ?_
      refine jr_bipush (v := (12 : Int32)) dX12_smooths_39 (by decide) ?_
      refine jr_iload_n dX12_smooths_41 rfl 1 rfl ?_
      refine jr_imul dX12_smooths_42 ?_
      refine jr_iload_n dX12_smooths_43 rfl 2 rfl ?_
      refine jr_iadd dX12_smooths_44 ?_
      refine jr_aload_n dX12_smooths_45 rfl 0 rfl ?_
      refine jr_aload_n dX12_smooths_46 rfl 0 rfl ?_
      refine gf_X12_20 (r := 208) rfl (rfl : kd 205 = 11) rfl dX12_smooths_47 ?_
      refine jr_bipush (v := (12 : Int32)) dX12_smooths_50 (by decide) ?_
      refine jr_iload_n dX12_smooths_52 rfl 1 rfl ?_
      refine jr_imul dX12_smooths_53 ?_
      refine jr_iload_n dX12_smooths_54 rfl 2 rfl ?_
      refine jr_iadd dX12_smooths_55 ?_
      obtain ⟨hg_4, h⟩ := drvG h
      refine jr_lald (rfl : kd 208 = 14) hg_4 dX12_smooths_56 ?_
      refine jr_aload_n dX12_smooths_57 rfl 0 rfl ?_
      refine gf_X12_17 (r := 207) rfl (rfl : kd 205 = 11) rfl dX12_smooths_58 ?_
      refine jr_iconst (v := (1 : Int32)) dX12_smooths_61 (by decide) ?_
      refine jr_iload_n dX12_smooths_62 rfl 1 rfl ?_
      refine jr_iadd dX12_smooths_63 ?_
      obtain ⟨hg_5, h⟩ := drvG h
      refine jr_iald (rfl : kd 207 = 13) hg_5 dX12_smooths_64 ?_
      obtain ⟨r_8, w_7, hq_6, h⟩ := drvB2 h
      refine j_callVv lk_X12_236 wIM_X12_smooth wSE_X12_smooth (rfl : kd 205 = 11) (by decide) rfl (tX12_smooth  hq_6) (by omega) rfl rfl (Nat.le_of_ble_eq_true rfl) dX12_smooths_65 ?_
      obtain ⟨hg_11, h⟩ := drvG h
      refine jr_last (rfl : kd 218 = 14) hg_11 dX12_smooths_68 ?_
      refine j_nmw (fun w_9 e_10 => ?_)
      replace h := drvL e_10 h
      refine jr_iincN (c := (1 : Int32)) (lv' := fun (x2_12 : Int32) => [(2, .int x2_12), (0, .ref 205), (1, .int p1)]) dX12_smooths_69 (by decide) 2 rfl (by decide) (fun _ => rfl) (fun x2_12 e_13 => ?_)
      replace h := drvL e_13 h
      refine jr_goto (tgt := 14) dX12_smooths_72 (by decide) ?_
      refine jr_sub [1, 2, 0] rfl ?_
      exact hrec _ _ h
theorem hlX12_smooths_14 {n : Nat} {p1 : Int32} {k75 : jWd → (Option jWd)} {w' : jWd} (hk75 : ∀ (w9 : jWd), k75 w9 = some w' → J MX12_smooths 5 w9 75 [(0, .ref 205), (1, .int p1)] [] none w') : ∀ (c : Nat) (x2 : Int32) (w : jWd) , lX12_smooths_14 n p1 k75 c x2 w = some w' → J MX12_smooths 5 w 14 [(0, .ref 205), (1, .int p1), (2, .int x2)] [] none w' := by
  intro c
  induction c with
  | zero => intro x2 w h; cases h
  | succ c ih => intro x2 w h; exact hbX12_smooths_14 (n := n) hk75 ih _ _ h
set_option maxHeartbeats 4000000 in
set_option maxRecDepth 100000 in
theorem hbX12_smooths_2 {n : Nat} {w' : jWd} {rec : Int32 → jWd → Option jWd} 
    (hrec : ∀ (x1 : Int32) (w : jWd) , rec x1 w = some w' → J MX12_smooths 5 w 2 [(0, .ref 205), (1, .int x1)] [] none w') : ∀ (x1 : Int32) (w : jWd) , bX12_smooths_2 n rec x1 w = some w' → J MX12_smooths 5 w 2 [(0, .ref 205), (1, .int x1)] [] none w' := by
  intro x1 w h
  unfold bX12_smooths_2 at h
  refine jr_iload_n dX12_smooths_2 rfl 1 rfl ?_
  refine jr_aload_n dX12_smooths_3 rfl 0 rfl ?_
  refine gf_X12_17 (r := 207) rfl (rfl : kd 205 = 11) rfl dX12_smooths_4 ?_
  refine jr_iconst (v := (0 : Int32)) dX12_smooths_7 (by decide) ?_
  refine jr_ialdL (k := 0) (rfl : kd 207 = 13) (vp_lit (by decide) (by decide)) (by decide) dX12_smooths_8 ?_
  refine jr_icmp_ge (tgt := 81) (nxt := 12) dX12_smooths_9 (by decide) rfl (fun hc => ?_) (fun hc => ?_)
  · replace h := drvT hc h
    obtain rfl := drvS1 h
    exact jr_vret rfl dX12_smooths_81
  · replace h := drvE hc h
    refine jr_iconst (v := (0 : Int32)) dX12_smooths_12 (by decide) ?_
    refine jr_istore_n (lv' := [(2, .int (0 : Int32)), (0, .ref 205), (1, .int x1)]) dX12_smooths_13 rfl (by decide) rfl ?_
    refine jr_sub [1, 2, 0] rfl ?_
    refine hlX12_smooths_14  ?_ _ _ _ h
    · intro w_14 h
      try dsimp only at h
      refine jr_iincN (c := (1 : Int32)) (lv' := fun (x1_15 : Int32) => [(1, .int x1_15), (0, .ref 205)]) dX12_smooths_75 (by decide) 1 rfl (by decide) (fun _ => rfl) (fun x1_15 e_16 => ?_)
      replace h := drvL e_16 h
      refine jr_goto (tgt := 2) dX12_smooths_78 (by decide) ?_
      refine jr_sub [1, 0] rfl ?_
      exact hrec _ _ h
theorem hlX12_smooths_2 {n : Nat} {w' : jWd}  : ∀ (c : Nat) (x1 : Int32) (w : jWd) , lX12_smooths_2 n c x1 w = some w' → J MX12_smooths 5 w 2 [(0, .ref 205), (1, .int x1)] [] none w' := by
  intro c
  induction c with
  | zero => intro x1 w h; cases h
  | succ c ih => intro x1 w h; exact hbX12_smooths_2 (n := n) ih _ _ h
set_option maxHeartbeats 4000000 in
set_option maxRecDepth 100000 in
theorem tX12_smooths {n : Nat} {w : jWd} {w' : jWd}  (h : fX12_smooths n w = some w') : JM yX12_smooths MX12_smooths 5 [.ref 205] w none w' := by
  refine jm_of pl_X12 rfl (Nat.le_of_ble_eq_true rfl) ?_
  show J MX12_smooths 5 w 0 [(0, .ref 205)] [] none w'
  unfold fX12_smooths at h
  refine jr_iconst (v := (0 : Int32)) dX12_smooths_0 (by decide) ?_
  refine jr_istore_n (lv' := [(1, .int (0 : Int32)), (0, .ref 205)]) dX12_smooths_1 rfl (by decide) rfl ?_
  refine jr_sub [1, 0] rfl ?_
  refine hlX12_smooths_2   _ _ _ h
set_option maxHeartbeats 4000000 in
set_option maxRecDepth 100000 in
theorem hbX12_likeOf_37 {n : Nat} {p1 : Int64} {p3 : Int64} {p5 : Int32} {p6 : Int32} {p7 : Int32} {k214 : jWd → (Option (Int32 × jWd))} {r : Int32} {w' : jWd} {rec : Int32 → jWd → Option (Int32 × jWd)} (hk214 : ∀ (w9 : jWd), k214 w9 = some (r, w') → J MX12_likeOf 3 w9 214 [(0, .ref 205), (1, .long p1), (3, .long p3), (5, .int p5), (6, .int p6), (7, .int p7)] [] (some (.int r)) w')
    (hrec : ∀ (x8 : Int32) (w : jWd) , rec x8 w = some (r, w') → J MX12_likeOf 3 w 37 [(0, .ref 205), (1, .long p1), (3, .long p3), (5, .int p5), (6, .int p6), (7, .int p7), (8, .int x8)] [] (some (.int r)) w') : ∀ (x8 : Int32) (w : jWd) , bX12_likeOf_37 n p1 p3 p5 p6 p7 k214 rec x8 w = some (r, w') → J MX12_likeOf 3 w 37 [(0, .ref 205), (1, .long p1), (3, .long p3), (5, .int p5), (6, .int p6), (7, .int p7), (8, .int x8)] [] (some (.int r)) w' := by
  intro x8 w h
  unfold bX12_likeOf_37 at h
  refine jr_iload dX12_likeOf_37 6 rfl ?_
  refine jr_iload dX12_likeOf_39 4 rfl ?_
  refine jr_icmp_gt (tgt := 214) (nxt := 44) dX12_likeOf_41 (by decide) rfl (fun hc => ?_) (fun hc => ?_)
  · replace h := drvT hc h
    refine jr_sub [0, 1, 2, 3, 4, 5] rfl ?_
    exact hk214 _ h
  · replace h := drvE hc h
    refine jr_iconst (v := (0 : Int32)) dX12_likeOf_44 (by decide) ?_
    refine jr_istore (lv' := [(9, .int (0 : Int32)), (0, .ref 205), (1, .long p1), (3, .long p3), (5, .int p5), (6, .int p6), (7, .int p7), (8, .int x8)]) dX12_likeOf_45 (by decide) rfl ?_
    refine jr_iload dX12_likeOf_47 6 rfl ?_
    obtain ⟨j193_6, ej193_6, h⟩ := drvF h
    have hj193_6 : ∀ (y9_5 : Int32), j193_6 y9_5 = some (r, w') → J MX12_likeOf 3 w 193 [(0, .ref 205), (1, .long p1), (3, .long p3), (5, .int p5), (6, .int p6), (7, .int p7), (8, .int x8), (9, .int y9_5)] [] (some (.int r)) w' := by
      intro y9_5 h
      rw [ej193_6] at h
      try dsimp only at h
      refine jr_aload_n dX12_likeOf_193 rfl 0 rfl ?_
      refine gf_X12_28 (r := 210) rfl (rfl : kd 205 = 11) rfl dX12_likeOf_194 ?_
      refine jr_bipush (v := (9 : Int32)) dX12_likeOf_197 (by decide) ?_
      refine jr_iload dX12_likeOf_199 5 rfl ?_
      refine jr_imul dX12_likeOf_201 ?_
      refine jr_iload dX12_likeOf_202 6 rfl ?_
      refine jr_iadd dX12_likeOf_204 ?_
      refine jr_iload dX12_likeOf_205 7 rfl ?_
      obtain ⟨hg_9, h⟩ := drvG h
      refine jr_iast (rfl : kd 210 = 13) hg_9 dX12_likeOf_207 ?_
      refine j_nmw (fun w_7 e_8 => ?_)
      replace h := drvL e_8 h
      refine jr_iincN (c := (1 : Int32)) (lv' := fun (x8_10 : Int32) => [(8, .int x8_10), (0, .ref 205), (1, .long p1), (3, .long p3), (5, .int p5), (6, .int p6), (7, .int p7), (9, .int y9_5)]) dX12_likeOf_208 (by decide) 6 rfl (by decide) (fun _ => rfl) (fun x8_10 e_11 => ?_)
      replace h := drvL e_11 h
      refine jr_goto (tgt := 37) dX12_likeOf_211 (by decide) ?_
      refine jr_sub [1, 2, 3, 4, 5, 6, 0] rfl ?_
      exact hrec _ _ h
    refine jr_if_le (tgt := 193) (nxt := 52) dX12_likeOf_49 (by decide) rfl (fun hc => ?_) (fun hc => ?_)
    · replace h := drvT hc h
      refine jr_sub [1, 2, 3, 4, 5, 6, 7, 0] rfl ?_
      exact hj193_6 _ h
    · replace h := drvE hc h
      refine jr_iload dX12_likeOf_52 7 rfl ?_
      refine jr_if_le (tgt := 193) (nxt := 57) dX12_likeOf_54 (by decide) rfl (fun hc => ?_) (fun hc => ?_)
      · replace h := drvT hc h
        refine jr_sub [1, 2, 3, 4, 5, 6, 7, 0] rfl ?_
        exact hj193_6 _ h
      · replace h := drvE hc h
        refine jr_aload_n dX12_likeOf_57 rfl 1 rfl ?_
        refine gf_X12_28 (r := 210) rfl (rfl : kd 205 = 11) rfl dX12_likeOf_58 ?_
        refine jr_bipush (v := (9 : Int32)) dX12_likeOf_61 (by decide) ?_
        refine jr_iload dX12_likeOf_63 6 rfl ?_
        refine jr_imul dX12_likeOf_65 ?_
        refine jr_bipush (v := (9 : Int32)) dX12_likeOf_66 (by decide) ?_
        refine jr_isub dX12_likeOf_68 ?_
        refine jr_iload dX12_likeOf_69 7 rfl ?_
        refine jr_iadd dX12_likeOf_71 ?_
        obtain ⟨hg_12, h⟩ := drvG h
        refine jr_iald (rfl : kd 210 = 13) hg_12 dX12_likeOf_72 ?_
        refine jr_aload_n dX12_likeOf_73 rfl 1 rfl ?_
        refine gf_X12_28 (r := 210) rfl (rfl : kd 205 = 11) rfl dX12_likeOf_74 ?_
        refine jr_bipush (v := (9 : Int32)) dX12_likeOf_77 (by decide) ?_
        refine jr_iload dX12_likeOf_79 6 rfl ?_
        refine jr_imul dX12_likeOf_81 ?_
        refine jr_iload dX12_likeOf_82 7 rfl ?_
        refine jr_iadd dX12_likeOf_84 ?_
        refine jr_iconst (v := (1 : Int32)) dX12_likeOf_85 (by decide) ?_
        refine jr_isub dX12_likeOf_86 ?_
        obtain ⟨hg_13, h⟩ := drvG h
        refine jr_iald (rfl : kd 210 = 13) hg_13 dX12_likeOf_87 ?_
        obtain ⟨j125_15, ej125_15, h⟩ := drvF h
        have hj125_15 : ∀ (s_14 : Int32), j125_15 s_14 = some (r, w') → J MX12_likeOf 3 w 125 [(0, .ref 205), (1, .long p1), (3, .long p3), (5, .int p5), (6, .int p6), (7, .int p7), (8, .int x8)] [.int s_14] (some (.int r)) w' := by
          intro s_14 h
          rw [ej125_15] at h
          try dsimp only at h
          refine jr_istore (lv' := [(9, .int s_14), (0, .ref 205), (1, .long p1), (3, .long p3), (5, .int p5), (6, .int p6), (7, .int p7), (8, .int x8)]) dX12_likeOf_125 (by decide) rfl ?_
          refine jr_lload_n dX12_likeOf_127 rfl 2 rfl ?_
          refine jr_iload dX12_likeOf_128 6 rfl ?_
          refine jr_iconst (v := (1 : Int32)) dX12_likeOf_130 (by decide) ?_
          refine jr_isub dX12_likeOf_131 ?_
          refine j_callSv lk_X12_73 wST_X12_wordAt (tX12_wordAt  (a0 := p1) (a1 := (p7 - (1 : Int32))) (w := w)) (by omega) rfl rfl (Nat.le_of_ble_eq_true rfl) dX12_likeOf_132 ?_
          refine jr_lload_n dX12_likeOf_135 rfl 3 rfl ?_
          refine jr_iload dX12_likeOf_136 7 rfl ?_
          refine jr_iconst (v := (1 : Int32)) dX12_likeOf_138 (by decide) ?_
          refine jr_isub dX12_likeOf_139 ?_
          refine j_callSv lk_X12_73 wST_X12_wordAt (tX12_wordAt  (a0 := p3) (a1 := (x8 - (1 : Int32))) (w := w)) (by omega) rfl rfl (Nat.le_of_ble_eq_true rfl) dX12_likeOf_140 ?_
          refine jr_icmp_ne (tgt := 193) (nxt := 146) dX12_likeOf_143 (by decide) rfl (fun hc => ?_) (fun hc => ?_)
          · replace h := drvE hc h
            refine jr_sub [1, 2, 3, 4, 5, 6, 7, 0] rfl ?_
            exact hj193_6 _ h
          · replace h := drvT hc h
            refine jr_aload_n dX12_likeOf_146 rfl 1 rfl ?_
            refine gf_X12_28 (r := 210) rfl (rfl : kd 205 = 11) rfl dX12_likeOf_147 ?_
            refine jr_bipush (v := (9 : Int32)) dX12_likeOf_150 (by decide) ?_
            refine jr_iload dX12_likeOf_152 6 rfl ?_
            refine jr_imul dX12_likeOf_154 ?_
            refine jr_bipush (v := (9 : Int32)) dX12_likeOf_155 (by decide) ?_
            refine jr_isub dX12_likeOf_157 ?_
            refine jr_iload dX12_likeOf_158 7 rfl ?_
            refine jr_iadd dX12_likeOf_160 ?_
            refine jr_iconst (v := (1 : Int32)) dX12_likeOf_161 (by decide) ?_
            refine jr_isub dX12_likeOf_162 ?_
            obtain ⟨hg_16, h⟩ := drvG h
            refine jr_iald (rfl : kd 210 = 13) hg_16 dX12_likeOf_163 ?_
            refine jr_iconst (v := (1 : Int32)) dX12_likeOf_164 (by decide) ?_
            refine jr_iadd dX12_likeOf_165 ?_
            refine jr_iload dX12_likeOf_166 0 rfl ?_
            refine jr_icmp_le (tgt := 193) (nxt := 171) dX12_likeOf_168 (by decide) rfl (fun hc => ?_) (fun hc => ?_)
            · replace h := drvT hc h
              refine jr_sub [1, 2, 3, 4, 5, 6, 7, 0] rfl ?_
              exact hj193_6 _ h
            · replace h := drvE hc h
              refine jr_aload_n dX12_likeOf_171 rfl 1 rfl ?_
              refine gf_X12_28 (r := 210) rfl (rfl : kd 205 = 11) rfl dX12_likeOf_172 ?_
              refine jr_bipush (v := (9 : Int32)) dX12_likeOf_175 (by decide) ?_
              refine jr_iload dX12_likeOf_177 6 rfl ?_
              refine jr_imul dX12_likeOf_179 ?_
              refine jr_bipush (v := (9 : Int32)) dX12_likeOf_180 (by decide) ?_
              refine jr_isub dX12_likeOf_182 ?_
              refine jr_iload dX12_likeOf_183 7 rfl ?_
              refine jr_iadd dX12_likeOf_185 ?_
              refine jr_iconst (v := (1 : Int32)) dX12_likeOf_186 (by decide) ?_
              refine jr_isub dX12_likeOf_187 ?_
              obtain ⟨hg_17, h⟩ := drvG h
              refine jr_iald (rfl : kd 210 = 13) hg_17 dX12_likeOf_188 ?_
              refine jr_iconst (v := (1 : Int32)) dX12_likeOf_189 (by decide) ?_
              refine jr_iadd dX12_likeOf_190 ?_
              refine j_nmi (fun x9_18 e_19 => ?_)
              replace h := drvL e_19 h
              refine jr_istore (lv' := [(9, .int x9_18), (0, .ref 205), (1, .long p1), (3, .long p3), (5, .int p5), (6, .int p6), (7, .int p7), (8, .int x8)]) dX12_likeOf_191 (by decide) rfl ?_
              refine jr_sub [1, 2, 3, 4, 5, 6, 7, 0] rfl ?_
              exact hj193_6 _ h
        refine jr_icmp_le (tgt := 110) (nxt := 91) dX12_likeOf_88 (by decide) rfl (fun hc => ?_) (fun hc => ?_)
        · replace h := drvT hc h
          refine jr_aload_n dX12_likeOf_110 rfl 1 rfl ?_
          refine gf_X12_28 (r := 210) rfl (rfl : kd 205 = 11) rfl dX12_likeOf_111 ?_
          refine jr_bipush (v := (9 : Int32)) dX12_likeOf_114 (by decide) ?_
          refine jr_iload dX12_likeOf_116 6 rfl ?_
          refine jr_imul dX12_likeOf_118 ?_
          refine jr_iload dX12_likeOf_119 7 rfl ?_
          refine jr_iadd dX12_likeOf_121 ?_
          refine jr_iconst (v := (1 : Int32)) dX12_likeOf_122 (by decide) ?_
          refine jr_isub dX12_likeOf_123 ?_
          obtain ⟨hg_20, h⟩ := drvG h
          refine jr_iald (rfl : kd 210 = 13) hg_20 dX12_likeOf_124 ?_
          refine jr_sub [1, 2, 3, 4, 5, 6, 7] rfl ?_
          exact hj125_15 _ h
        · replace h := drvE hc h
          refine jr_aload_n dX12_likeOf_91 rfl 1 rfl ?_
          refine gf_X12_28 (r := 210) rfl (rfl : kd 205 = 11) rfl dX12_likeOf_92 ?_
          refine jr_bipush (v := (9 : Int32)) dX12_likeOf_95 (by decide) ?_
          refine jr_iload dX12_likeOf_97 6 rfl ?_
          refine jr_imul dX12_likeOf_99 ?_
          refine jr_bipush (v := (9 : Int32)) dX12_likeOf_100 (by decide) ?_
          refine jr_isub dX12_likeOf_102 ?_
          refine jr_iload dX12_likeOf_103 7 rfl ?_
          refine jr_iadd dX12_likeOf_105 ?_
          obtain ⟨hg_21, h⟩ := drvG h
          refine jr_iald (rfl : kd 210 = 13) hg_21 dX12_likeOf_106 ?_
          refine jr_goto (tgt := 125) dX12_likeOf_107 (by decide) ?_
          refine jr_sub [1, 2, 3, 4, 5, 6, 7] rfl ?_
          exact hj125_15 _ h
theorem hlX12_likeOf_37 {n : Nat} {p1 : Int64} {p3 : Int64} {p5 : Int32} {p6 : Int32} {p7 : Int32} {k214 : jWd → (Option (Int32 × jWd))} {r : Int32} {w' : jWd} (hk214 : ∀ (w9 : jWd), k214 w9 = some (r, w') → J MX12_likeOf 3 w9 214 [(0, .ref 205), (1, .long p1), (3, .long p3), (5, .int p5), (6, .int p6), (7, .int p7)] [] (some (.int r)) w') : ∀ (c : Nat) (x8 : Int32) (w : jWd) , lX12_likeOf_37 n p1 p3 p5 p6 p7 k214 c x8 w = some (r, w') → J MX12_likeOf 3 w 37 [(0, .ref 205), (1, .long p1), (3, .long p3), (5, .int p5), (6, .int p6), (7, .int p7), (8, .int x8)] [] (some (.int r)) w' := by
  intro c
  induction c with
  | zero => intro x8 w h; cases h
  | succ c ih => intro x8 w h; exact hbX12_likeOf_37 (n := n) hk214 ih _ _ h
set_option maxHeartbeats 4000000 in
set_option maxRecDepth 100000 in
theorem hbX12_likeOf_27 {n : Nat} {p1 : Int64} {p3 : Int64} {p5 : Int32} {p6 : Int32} {k220 : jWd → (Option (Int32 × jWd))} {r : Int32} {w' : jWd} {rec : Int32 → jWd → Option (Int32 × jWd)} (hk220 : ∀ (w9 : jWd), k220 w9 = some (r, w') → J MX12_likeOf 3 w9 220 [(0, .ref 205), (5, .int p5), (6, .int p6)] [] (some (.int r)) w')
    (hrec : ∀ (x7 : Int32) (w : jWd) , rec x7 w = some (r, w') → J MX12_likeOf 3 w 27 [(0, .ref 205), (1, .long p1), (3, .long p3), (5, .int p5), (6, .int p6), (7, .int x7)] [] (some (.int r)) w') : ∀ (x7 : Int32) (w : jWd) , bX12_likeOf_27 n p1 p3 p5 p6 k220 rec x7 w = some (r, w') → J MX12_likeOf 3 w 27 [(0, .ref 205), (1, .long p1), (3, .long p3), (5, .int p5), (6, .int p6), (7, .int x7)] [] (some (.int r)) w' := by
  intro x7 w h
  unfold bX12_likeOf_27 at h
  refine jr_iload dX12_likeOf_27 5 rfl ?_
  refine jr_iload dX12_likeOf_29 3 rfl ?_
  refine jr_icmp_gt (tgt := 220) (nxt := 34) dX12_likeOf_31 (by decide) rfl (fun hc => ?_) (fun hc => ?_)
  · replace h := drvT hc h
    refine jr_sub [0, 3, 4] rfl ?_
    exact hk220 _ h
  · replace h := drvE hc h
    refine jr_iconst (v := (0 : Int32)) dX12_likeOf_34 (by decide) ?_
    refine jr_istore (lv' := [(8, .int (0 : Int32)), (0, .ref 205), (1, .long p1), (3, .long p3), (5, .int p5), (6, .int p6), (7, .int x7)]) dX12_likeOf_35 (by decide) rfl ?_
    refine jr_sub [1, 2, 3, 4, 5, 6, 0] rfl ?_
    refine hlX12_likeOf_37  ?_ _ _ _ h
    · intro w_22 h
      try dsimp only at h
      refine jr_iincN (c := (1 : Int32)) (lv' := fun (x7_23 : Int32) => [(7, .int x7_23), (0, .ref 205), (1, .long p1), (3, .long p3), (5, .int p5), (6, .int p6)]) dX12_likeOf_214 (by decide) 5 rfl (by decide) (fun _ => rfl) (fun x7_23 e_24 => ?_)
      replace h := drvL e_24 h
      refine jr_goto (tgt := 27) dX12_likeOf_217 (by decide) ?_
      refine jr_sub [1, 2, 3, 4, 5, 0] rfl ?_
      exact hrec _ _ h
theorem hlX12_likeOf_27 {n : Nat} {p1 : Int64} {p3 : Int64} {p5 : Int32} {p6 : Int32} {k220 : jWd → (Option (Int32 × jWd))} {r : Int32} {w' : jWd} (hk220 : ∀ (w9 : jWd), k220 w9 = some (r, w') → J MX12_likeOf 3 w9 220 [(0, .ref 205), (5, .int p5), (6, .int p6)] [] (some (.int r)) w') : ∀ (c : Nat) (x7 : Int32) (w : jWd) , lX12_likeOf_27 n p1 p3 p5 p6 k220 c x7 w = some (r, w') → J MX12_likeOf 3 w 27 [(0, .ref 205), (1, .long p1), (3, .long p3), (5, .int p5), (6, .int p6), (7, .int x7)] [] (some (.int r)) w' := by
  intro c
  induction c with
  | zero => intro x7 w h; cases h
  | succ c ih => intro x7 w h; exact hbX12_likeOf_27 (n := n) hk220 ih _ _ h
set_option maxHeartbeats 4000000 in
set_option maxRecDepth 100000 in
theorem tX12_likeOf {n : Nat} {a0 : Int64} {a1 : Int64} {w : jWd} {r : Int32} {w' : jWd}  (h : fX12_likeOf n a0 a1 w = some (r, w')) : JM yX12_likeOf MX12_likeOf 3 [.ref 205, .long a0, .long a1] w (some (.int r)) w' := by
  refine jm_of pl_X12 rfl (Nat.le_of_ble_eq_true rfl) ?_
  show J MX12_likeOf 3 w 0 [(0, .ref 205), (1, .long a0), (3, .long a1)] [] (some (.int r)) w'
  unfold fX12_likeOf at h
  refine jr_lload_n dX12_likeOf_0 rfl 1 rfl ?_
  obtain ⟨r_2, hq_1, h⟩ := drvB h
  refine j_callSv lk_X12_77 wST_X12_lengthOf (tX12_lengthOf  hq_1) (by omega) rfl rfl (Nat.le_of_ble_eq_true rfl) dX12_likeOf_1 ?_
  refine jr_istore (lv' := [(5, .int r_2), (0, .ref 205), (1, .long a0), (3, .long a1)]) dX12_likeOf_4 (by decide) rfl ?_
  refine jr_lload_n dX12_likeOf_6 rfl 3 rfl ?_
  obtain ⟨r_4, hq_3, h⟩ := drvB h
  refine j_callSv lk_X12_77 wST_X12_lengthOf (tX12_lengthOf  hq_3) (by omega) rfl rfl (Nat.le_of_ble_eq_true rfl) dX12_likeOf_7 ?_
  refine jr_istore (lv' := [(6, .int r_4), (5, .int r_2), (0, .ref 205), (1, .long a0), (3, .long a1)]) dX12_likeOf_10 (by decide) rfl ?_
  refine jr_iload dX12_likeOf_12 1 rfl ?_
  refine jr_if_eq (tgt := 22) (nxt := 17) dX12_likeOf_14 (by decide) rfl (fun hc => ?_) (fun hc => ?_)
  · replace h := drvT hc h
    refine jr_iconst (v := (0 : Int32)) dX12_likeOf_22 (by decide) ?_
    obtain ⟨rfl, rfl⟩ := drvS2 h
    exact jr_iret rfl dX12_likeOf_23
  · replace h := drvE hc h
    refine jr_iload dX12_likeOf_17 0 rfl ?_
    refine jr_if_ne (tgt := 24) (nxt := 22) dX12_likeOf_19 (by decide) rfl (fun hc => ?_) (fun hc => ?_)
    · replace h := drvE hc h
      refine jr_iconst (v := (0 : Int32)) dX12_likeOf_24 (by decide) ?_
      refine jr_istore (lv' := [(7, .int (0 : Int32)), (6, .int r_4), (5, .int r_2), (0, .ref 205), (1, .long a0), (3, .long a1)]) dX12_likeOf_25 (by decide) rfl ?_
      refine jr_sub [3, 4, 5, 2, 1, 0] rfl ?_
      refine hlX12_likeOf_27  ?_ _ _ _ h
      · intro w_25 h
        try dsimp only at h
        refine jr_bipush (v := (100 : Int32)) dX12_likeOf_220 (by decide) ?_
        refine jr_aload_n dX12_likeOf_222 rfl 0 rfl ?_
        refine gf_X12_28 (r := 210) rfl (rfl : kd 205 = 11) rfl dX12_likeOf_223 ?_
        refine jr_bipush (v := (9 : Int32)) dX12_likeOf_226 (by decide) ?_
        refine jr_iload dX12_likeOf_228 1 rfl ?_
        refine jr_imul dX12_likeOf_230 ?_
        refine jr_iload dX12_likeOf_231 2 rfl ?_
        refine jr_iadd dX12_likeOf_233 ?_
        obtain ⟨hg_26, h⟩ := drvG h
        refine jr_iald (rfl : kd 210 = 13) hg_26 dX12_likeOf_234 ?_
        refine jr_imul dX12_likeOf_235 ?_
        refine jr_iload dX12_likeOf_236 1 rfl ?_
        refine jr_iload dX12_likeOf_238 2 rfl ?_
        obtain ⟨j250_28, ej250_28, h⟩ := drvF h
        have hj250_28 : ∀ (s_27 : Int32), j250_28 s_27 = some (r, w') → J MX12_likeOf 3 w_25 250 [] [.int s_27, .int ((100 : Int32) * (wI w_25 210 ((((9 : Int32) * r_2) + r_4)).toNatClampNeg))] (some (.int r)) w' := by
          intro s_27 h
          rw [ej250_28] at h
          try dsimp only at h
          obtain ⟨hz_29, h⟩ := drvZi h
          refine jr_idiv dX12_likeOf_250 hz_29 ?_
          obtain ⟨rfl, rfl⟩ := drvS2 h
          exact jr_iret rfl dX12_likeOf_251
        refine jr_icmp_le (tgt := 248) (nxt := 243) dX12_likeOf_240 (by decide) rfl (fun hc => ?_) (fun hc => ?_)
        · replace h := drvT hc h
          refine jr_iload dX12_likeOf_248 2 rfl ?_
          refine jr_sub [] rfl ?_
          exact hj250_28 _ h
        · replace h := drvE hc h
          refine jr_iload dX12_likeOf_243 1 rfl ?_
          refine jr_goto (tgt := 250) dX12_likeOf_245 (by decide) ?_
          refine jr_sub [] rfl ?_
          exact hj250_28 _ h
    · replace h := drvT hc h
      refine jr_iconst (v := (0 : Int32)) dX12_likeOf_22 (by decide) ?_
      obtain ⟨rfl, rfl⟩ := drvS2 h
      exact jr_iret rfl dX12_likeOf_23
set_option maxHeartbeats 4000000 in
set_option maxRecDepth 100000 in
theorem tX12_looks {n : Nat} {a0 : Int64} {a1 : Int64} {a2 : Int32} {w : jWd} {w' : jWd}  (h : fX12_looks n a0 a1 a2 w = some w') : JM yX12_looks MX12_looks 4 [.ref 205, .long a0, .long a1, .int a2] w none w' := by
  refine jm_of pl_X12 rfl (Nat.le_of_ble_eq_true rfl) ?_
  show J MX12_looks 4 w 0 [(0, .ref 205), (1, .long a0), (3, .long a1), (5, .int a2)] [] none w'
  unfold fX12_looks at h
  refine jr_aload_n dX12_looks_0 rfl 0 rfl ?_
  refine jr_lload_n dX12_looks_1 rfl 1 rfl ?_
  refine jr_lload_n dX12_looks_2 rfl 2 rfl ?_
  obtain ⟨r_3, w_2, hq_1, h⟩ := drvB2 h
  refine j_callVv lk_X12_111 wIM_X12_likeOf wSE_X12_likeOf (rfl : kd 205 = 11) (by decide) rfl (tX12_likeOf  hq_1) (by omega) rfl rfl (Nat.le_of_ble_eq_true rfl) dX12_looks_3 ?_
  refine jr_istore (lv' := [(6, .int r_3), (0, .ref 205), (1, .long a0), (3, .long a1), (5, .int a2)]) dX12_looks_6 (by decide) rfl ?_
  refine jr_iload dX12_looks_8 0 rfl ?_
  refine jr_aload_n dX12_looks_10 rfl 1 rfl ?_
  refine gf_X12_253 rfl (rfl : kd 205 = 11) dX12_looks_11 ?_
  refine jr_icmp_gt (tgt := 18) (nxt := 17) dX12_looks_14 (by decide) rfl (fun hc => ?_) (fun hc => ?_)
  · replace h := drvT hc h
    refine jr_aload_n dX12_looks_18 rfl 1 rfl ?_
    refine jr_iload dX12_looks_19 0 rfl ?_
    refine pf_X12_253 rfl (rfl : kd 205 = 11) dX12_looks_21 ?_
    refine j_nmw (fun w_4 e_5 => ?_)
    replace h := drvL e_5 h
    refine jr_aload_n dX12_looks_24 rfl 1 rfl ?_
    refine jr_iload dX12_looks_25 4 rfl ?_
    refine pf_X12_256 rfl (rfl : kd 205 = 11) dX12_looks_27 ?_
    refine j_nmw (fun w_6 e_7 => ?_)
    replace h := drvL e_7 h
    obtain rfl := drvS1 h
    exact jr_vret rfl dX12_looks_30
  · replace h := drvE hc h
    obtain rfl := drvS1 h
    exact jr_vret rfl dX12_looks_17
set_option maxHeartbeats 4000000 in
set_option maxRecDepth 100000 in
theorem hbX12_best_181 {n : Nat} {p1 : Int32} {p2 : Int32} {p3 : Int64} {p5 : Int32} {k249 : jWd → (Option jWd)} {w' : jWd} {rec : Int32 → jWd → Option jWd} (hk249 : ∀ (w9 : jWd), k249 w9 = some w' → J MX12_best 5 w9 249 [(0, .ref 205), (1, .int p1), (2, .int p2), (3, .long p3), (5, .int p5)] [] none w')
    (hrec : ∀ (x7 : Int32) (w : jWd) , rec x7 w = some w' → J MX12_best 5 w 181 [(0, .ref 205), (1, .int p1), (2, .int p2), (3, .long p3), (5, .int p5), (7, .int x7)] [] none w') : ∀ (x7 : Int32) (w : jWd) , bX12_best_181 n p1 p2 p3 p5 k249 rec x7 w = some w' → J MX12_best 5 w 181 [(0, .ref 205), (1, .int p1), (2, .int p2), (3, .long p3), (5, .int p5), (7, .int x7)] [] none w' := by
  intro x7 w h
  unfold bX12_best_181 at h
  refine jr_iload dX12_best_181 5 rfl ?_
  refine jr_aload_n dX12_best_183 rfl 0 rfl ?_
  refine gf_X12_17 (r := 207) rfl (rfl : kd 205 = 11) rfl dX12_best_184 ?_
  refine jr_bipush (v := (121 : Int32)) dX12_best_187 (by decide) ?_
  refine jr_iload dX12_best_189 4 rfl ?_
  refine jr_iadd dX12_best_191 ?_
  obtain ⟨hg_18, h⟩ := drvG h
  refine jr_iald (rfl : kd 207 = 13) hg_18 dX12_best_192 ?_
  refine jr_icmp_ge (tgt := 249) (nxt := 196) dX12_best_193 (by decide) rfl (fun hc => ?_) (fun hc => ?_)
  · replace h := drvT hc h
    refine jr_sub [0, 1, 2, 3, 4] rfl ?_
    exact hk249 _ h
  · replace h := drvE hc h
    refine jr_aload_n dX12_best_196 rfl 0 rfl ?_
    refine jr_lload_n dX12_best_197 rfl 3 rfl ?_
    refine jr_iload_n dX12_best_198 rfl 2 rfl ?_
    refine jr_iconst (v := (2 : Int32)) dX12_best_199 (by decide) ?_
    obtain ⟨j232_20, ej232_20, h⟩ := drvF h
    have hj232_20 : ∀ (s_19 : Int64), j232_20 s_19 = some w' → J MX12_best 5 w 232 [(0, .ref 205), (1, .int p1), (2, .int p2), (3, .long p3), (5, .int p5), (7, .int x7)] [.long s_19, .long p3, .ref 205] none w' := by
      intro s_19 h
      rw [ej232_20] at h
      try dsimp only at h
      refine jr_bipush (v := (100 : Int32)) dX12_best_232 (by decide) ?_
      refine jr_iload dX12_best_234 4 rfl ?_
      refine jr_imul dX12_best_236 ?_
      refine jr_iload dX12_best_237 5 rfl ?_
      refine jr_iadd dX12_best_239 ?_
      obtain ⟨w_22, hq_21, h⟩ := drvB h
      refine j_callVn lk_X12_259 wIM_X12_looks wSE_X12_looks (rfl : kd 205 = 11) (by decide) rfl (tX12_looks  hq_21) (by omega) rfl rfl (Nat.le_of_ble_eq_true rfl) dX12_best_240 ?_
      refine jr_iincN (c := (1 : Int32)) (lv' := fun (x7_23 : Int32) => [(7, .int x7_23), (0, .ref 205), (1, .int p1), (2, .int p2), (3, .long p3), (5, .int p5)]) dX12_best_243 (by decide) 5 rfl (by decide) (fun _ => rfl) (fun x7_23 e_24 => ?_)
      replace h := drvL e_24 h
      refine jr_goto (tgt := 181) dX12_best_246 (by decide) ?_
      refine jr_sub [1, 2, 3, 4, 5, 0] rfl ?_
      exact hrec _ _ h
    refine jr_icmp_ne (tgt := 219) (nxt := 203) dX12_best_200 (by decide) rfl (fun hc => ?_) (fun hc => ?_)
    · replace h := drvE hc h
      refine jr_aload_n dX12_best_219 rfl 0 rfl ?_
      refine gf_X12_20 (r := 208) rfl (rfl : kd 205 = 11) rfl dX12_best_220 ?_
      refine jr_bipush (v := (12 : Int32)) dX12_best_223 (by decide) ?_
      refine jr_iload dX12_best_225 4 rfl ?_
      refine jr_imul dX12_best_227 ?_
      refine jr_iload dX12_best_228 5 rfl ?_
      refine jr_iadd dX12_best_230 ?_
      obtain ⟨hg_25, h⟩ := drvG h
      refine jr_lald (rfl : kd 208 = 14) hg_25 dX12_best_231 ?_
      refine jr_sub [0, 1, 2, 3, 4, 5] rfl ?_
      exact hj232_20 _ h
    · replace h := drvT hc h
      refine jr_aload_n dX12_best_203 rfl 0 rfl ?_
      refine gf_X12_55 (r := 218) rfl (rfl : kd 205 = 11) rfl dX12_best_204 ?_
      refine jr_bipush (v := (12 : Int32)) dX12_best_207 (by decide) ?_
      refine jr_iload dX12_best_209 4 rfl ?_
      refine jr_imul dX12_best_211 ?_
      refine jr_iload dX12_best_212 5 rfl ?_
      refine jr_iadd dX12_best_214 ?_
      obtain ⟨hg_26, h⟩ := drvG h
      refine jr_lald (rfl : kd 218 = 14) hg_26 dX12_best_215 ?_
      refine jr_goto (tgt := 232) dX12_best_216 (by decide) ?_
      refine jr_sub [0, 1, 2, 3, 4, 5] rfl ?_
      exact hj232_20 _ h
theorem hlX12_best_181 {n : Nat} {p1 : Int32} {p2 : Int32} {p3 : Int64} {p5 : Int32} {k249 : jWd → (Option jWd)} {w' : jWd} (hk249 : ∀ (w9 : jWd), k249 w9 = some w' → J MX12_best 5 w9 249 [(0, .ref 205), (1, .int p1), (2, .int p2), (3, .long p3), (5, .int p5)] [] none w') : ∀ (c : Nat) (x7 : Int32) (w : jWd) , lX12_best_181 n p1 p2 p3 p5 k249 c x7 w = some w' → J MX12_best 5 w 181 [(0, .ref 205), (1, .int p1), (2, .int p2), (3, .long p3), (5, .int p5), (7, .int x7)] [] none w' := by
  intro c
  induction c with
  | zero => intro x7 w h; cases h
  | succ c ih => intro x7 w h; exact hbX12_best_181 (n := n) hk249 ih _ _ h
set_option maxHeartbeats 4000000 in
set_option maxRecDepth 100000 in
theorem hbX12_best_107 {n : Nat} {p1 : Int32} {p2 : Int32} {p3 : Int64} {w' : jWd} {rec : Int32 → jWd → Option jWd} 
    (hrec : ∀ (x5 : Int32) (w : jWd) , rec x5 w = some w' → J MX12_best 5 w 107 [(0, .ref 205), (1, .int p1), (2, .int p2), (3, .long p3), (5, .int x5)] [] none w') : ∀ (x5 : Int32) (w : jWd) , bX12_best_107 n p1 p2 p3 rec x5 w = some w' → J MX12_best 5 w 107 [(0, .ref 205), (1, .int p1), (2, .int p2), (3, .long p3), (5, .int x5)] [] none w' := by
  intro x5 w h
  unfold bX12_best_107 at h
  refine jr_iload dX12_best_107 4 rfl ?_
  refine jr_aload_n dX12_best_109 rfl 0 rfl ?_
  refine gf_X12_17 (r := 207) rfl (rfl : kd 205 = 11) rfl dX12_best_110 ?_
  refine jr_iconst (v := (0 : Int32)) dX12_best_113 (by decide) ?_
  refine jr_ialdL (k := 0) (rfl : kd 207 = 13) (vp_lit (by decide) (by decide)) (by decide) dX12_best_114 ?_
  refine jr_icmp_ge (tgt := 255) (nxt := 118) dX12_best_115 (by decide) rfl (fun hc => ?_) (fun hc => ?_)
  · replace h := drvT hc h
    obtain rfl := drvS1 h
    exact jr_vret rfl dX12_best_255
  · replace h := drvE hc h
    refine jr_aload_n dX12_best_118 rfl 0 rfl ?_
    refine gf_X12_17 (r := 207) rfl (rfl : kd 205 = 11) rfl dX12_best_119 ?_
    refine jr_iconst (v := (1 : Int32)) dX12_best_122 (by decide) ?_
    refine jr_iload dX12_best_123 4 rfl ?_
    refine jr_iadd dX12_best_125 ?_
    obtain ⟨hg_8, h⟩ := drvG h
    refine jr_iald (rfl : kd 207 = 13) hg_8 dX12_best_126 ?_
    refine jr_aload_n dX12_best_127 rfl 0 rfl ?_
    refine gf_X12_17 (r := 207) rfl (rfl : kd 205 = 11) rfl dX12_best_128 ?_
    refine jr_sipush (v := (163 : Int32)) dX12_best_131 (by decide) ?_
    refine jr_iload_n dX12_best_134 rfl 1 rfl ?_
    refine jr_iadd dX12_best_135 ?_
    obtain ⟨hg_9, h⟩ := drvG h
    refine jr_iald (rfl : kd 207 = 13) hg_9 dX12_best_136 ?_
    obtain ⟨j145_11, ej145_11, h⟩ := drvF h
    have hj145_11 : ∀ (s_10 : Int32), j145_11 s_10 = some w' → J MX12_best 5 w 145 [(0, .ref 205), (1, .int p1), (2, .int p2), (3, .long p3), (5, .int x5)] [.int s_10] none w' := by
      intro s_10 h
      rw [ej145_11] at h
      try dsimp only at h
      refine jr_istore (lv' := [(6, .int s_10), (0, .ref 205), (1, .int p1), (2, .int p2), (3, .long p3), (5, .int x5)]) dX12_best_145 (by decide) rfl ?_
      refine jr_aload_n dX12_best_147 rfl 1 rfl ?_
      refine jr_iload dX12_best_148 5 rfl ?_
      obtain ⟨r_13, hq_12, h⟩ := drvB h
      refine j_callVv lk_X12_250 wIM_X12_isEarly wSE_X12_isEarly (rfl : kd 205 = 11) (by decide) rfl (tX12_isEarly  hq_12) (by omega) rfl rfl (Nat.le_of_ble_eq_true rfl) dX12_best_150 ?_
      refine jr_if_eq (tgt := 249) (nxt := 156) dX12_best_153 (by decide) rfl (fun hc => ?_) (fun hc => ?_)
      · replace h := drvT hc h
        refine jr_iincN (c := (1 : Int32)) (lv' := fun (x5_14 : Int32) => [(5, .int x5_14), (6, .int s_10), (0, .ref 205), (1, .int p1), (2, .int p2), (3, .long p3)]) dX12_best_249 (by decide) 5 rfl (by decide) (fun _ => rfl) (fun x5_14 e_15 => ?_)
        replace h := drvL e_15 h
        refine jr_goto (tgt := 107) dX12_best_252 (by decide) ?_
        refine jr_sub [2, 3, 4, 5, 0] rfl ?_
        exact hrec _ _ h
      · replace h := drvE hc h
        refine jr_iload_n dX12_best_156 rfl 3 rfl ?_
        obtain ⟨j165_16, ej165_16, h⟩ := drvF h
        have hj165_16 : ∀ (_ : Unit), j165_16 = some w' → J MX12_best 5 w 165 [(0, .ref 205), (1, .int p1), (2, .int p2), (3, .long p3), (5, .int x5), (6, .int s_10)] [] none w' := by
          intro _ h
          rw [ej165_16] at h
          try dsimp only at h
          refine jr_iload_n dX12_best_165 rfl 2 rfl ?_
          refine jr_iconst (v := (1 : Int32)) dX12_best_166 (by decide) ?_
          obtain ⟨j178_17, ej178_17, h⟩ := drvF h
          have hj178_17 : ∀ (_ : Unit), j178_17 = some w' → J MX12_best 5 w 178 [(0, .ref 205), (1, .int p1), (2, .int p2), (3, .long p3), (5, .int x5)] [] none w' := by
            intro _ h
            rw [ej178_17] at h
            try dsimp only at h
            refine jr_iconst (v := (0 : Int32)) dX12_best_178 (by decide) ?_
            refine jr_istore (lv' := [(7, .int (0 : Int32)), (0, .ref 205), (1, .int p1), (2, .int p2), (3, .long p3), (5, .int x5)]) dX12_best_179 (by decide) rfl ?_
            refine jr_sub [1, 2, 3, 4, 5, 0] rfl ?_
            refine hlX12_best_181  ?_ _ _ _ h
            · intro w_27 h
              try dsimp only at h
              refine jr_iincN (c := (1 : Int32)) (lv' := fun (x5_28 : Int32) => [(5, .int x5_28), (0, .ref 205), (1, .int p1), (2, .int p2), (3, .long p3)]) dX12_best_249 (by decide) 4 rfl (by decide) (fun _ => rfl) (fun x5_28 e_29 => ?_)
              replace h := drvL e_29 h
              refine jr_goto (tgt := 107) dX12_best_252 (by decide) ?_
              refine jr_sub [1, 2, 3, 4, 0] rfl ?_
              exact hrec _ _ h
          refine jr_icmp_ne (tgt := 178) (nxt := 170) dX12_best_167 (by decide) rfl (fun hc => ?_) (fun hc => ?_)
          · replace h := drvE hc h
            refine jr_sub [0, 1, 2, 3, 4] rfl ?_
            exact (hj178_17 ()) h
          · replace h := drvT hc h
            refine jr_iload dX12_best_170 5 rfl ?_
            refine jr_if_eq (tgt := 178) (nxt := 175) dX12_best_172 (by decide) rfl (fun hc => ?_) (fun hc => ?_)
            · replace h := drvT hc h
              refine jr_sub [0, 1, 2, 3, 4] rfl ?_
              exact (hj178_17 ()) h
            · replace h := drvE hc h
              refine jr_goto (tgt := 249) dX12_best_175 (by decide) ?_
              refine jr_iincN (c := (1 : Int32)) (lv' := fun (x5_30 : Int32) => [(5, .int x5_30), (0, .ref 205), (1, .int p1), (2, .int p2), (3, .long p3), (6, .int s_10)]) dX12_best_249 (by decide) 4 rfl (by decide) (fun _ => rfl) (fun x5_30 e_31 => ?_)
              replace h := drvL e_31 h
              refine jr_goto (tgt := 107) dX12_best_252 (by decide) ?_
              refine jr_sub [1, 2, 3, 4, 0] rfl ?_
              exact hrec _ _ h
        refine jr_if_ne (tgt := 165) (nxt := 160) dX12_best_157 (by decide) rfl (fun hc => ?_) (fun hc => ?_)
        · replace h := drvE hc h
          refine jr_sub [1, 2, 3, 4, 5, 0] rfl ?_
          exact (hj165_16 ()) h
        · replace h := drvT hc h
          refine jr_iload dX12_best_160 0 rfl ?_
          refine jr_if_eq (tgt := 249) (nxt := 165) dX12_best_162 (by decide) rfl (fun hc => ?_) (fun hc => ?_)
          · replace h := drvT hc h
            refine jr_iincN (c := (1 : Int32)) (lv' := fun (x5_32 : Int32) => [(5, .int x5_32), (6, .int s_10), (0, .ref 205), (1, .int p1), (2, .int p2), (3, .long p3)]) dX12_best_249 (by decide) 5 rfl (by decide) (fun _ => rfl) (fun x5_32 e_33 => ?_)
            replace h := drvL e_33 h
            refine jr_goto (tgt := 107) dX12_best_252 (by decide) ?_
            refine jr_sub [2, 3, 4, 5, 0] rfl ?_
            exact hrec _ _ h
          · replace h := drvE hc h
            refine jr_sub [1, 2, 3, 4, 5, 0] rfl ?_
            exact (hj165_16 ()) h
    refine jr_icmp_ne (tgt := 144) (nxt := 140) dX12_best_137 (by decide) rfl (fun hc => ?_) (fun hc => ?_)
    · replace h := drvE hc h
      refine jr_iconst (v := (0 : Int32)) dX12_best_144 (by decide) ?_
      refine jr_sub [0, 1, 2, 3, 4] rfl ?_
      exact hj145_11 _ h
    · replace h := drvT hc h
      refine jr_iconst (v := (1 : Int32)) dX12_best_140 (by decide) ?_
      refine jr_goto (tgt := 145) dX12_best_141 (by decide) ?_
      refine jr_sub [0, 1, 2, 3, 4] rfl ?_
      exact hj145_11 _ h
theorem hlX12_best_107 {n : Nat} {p1 : Int32} {p2 : Int32} {p3 : Int64} {w' : jWd}  : ∀ (c : Nat) (x5 : Int32) (w : jWd) , lX12_best_107 n p1 p2 p3 c x5 w = some w' → J MX12_best 5 w 107 [(0, .ref 205), (1, .int p1), (2, .int p2), (3, .long p3), (5, .int x5)] [] none w' := by
  intro c
  induction c with
  | zero => intro x5 w h; cases h
  | succ c ih => intro x5 w h; exact hbX12_best_107 (n := n) ih _ _ h
set_option maxHeartbeats 4000000 in
set_option maxRecDepth 100000 in
theorem hbX12_best_45 {n : Nat} {p3 : Int64} {p5 : Int32} {k97 : jWd → (Option jWd)} {w' : jWd} {rec : Int32 → jWd → Option jWd} (hk97 : ∀ (w9 : jWd), k97 w9 = some w' → J MX12_best 5 w9 97 [(0, .ref 205), (3, .long p3), (5, .int p5)] [] none w')
    (hrec : ∀ (x6 : Int32) (w : jWd) , rec x6 w = some w' → J MX12_best 5 w 45 [(0, .ref 205), (3, .long p3), (5, .int p5), (6, .int x6)] [] none w') : ∀ (x6 : Int32) (w : jWd) , bX12_best_45 n p3 p5 k97 rec x6 w = some w' → J MX12_best 5 w 45 [(0, .ref 205), (3, .long p3), (5, .int p5), (6, .int x6)] [] none w' := by
  intro x6 w h
  unfold bX12_best_45 at h
  refine jr_iload dX12_best_45 3 rfl ?_
  refine jr_aload_n dX12_best_47 rfl 0 rfl ?_
  refine gf_X12_17 (r := 207) rfl (rfl : kd 205 = 11) rfl dX12_best_48 ?_
  refine jr_sipush (v := (236 : Int32)) dX12_best_51 (by decide) ?_
  refine jr_iload dX12_best_54 2 rfl ?_
  refine jr_iadd dX12_best_56 ?_
  obtain ⟨hg_34, h⟩ := drvG h
  refine jr_iald (rfl : kd 207 = 13) hg_34 dX12_best_57 ?_
  refine jr_icmp_ge (tgt := 97) (nxt := 61) dX12_best_58 (by decide) rfl (fun hc => ?_) (fun hc => ?_)
  · replace h := drvT hc h
    refine jr_sub [0, 1, 2] rfl ?_
    exact hk97 _ h
  · replace h := drvE hc h
    refine jr_aload_n dX12_best_61 rfl 0 rfl ?_
    refine jr_lload_n dX12_best_62 rfl 1 rfl ?_
    refine jr_aload_n dX12_best_63 rfl 0 rfl ?_
    refine gf_X12_20 (r := 208) rfl (rfl : kd 205 = 11) rfl dX12_best_64 ?_
    refine jr_sipush (v := (540 : Int32)) dX12_best_67 (by decide) ?_
    refine jr_bipush (v := (12 : Int32)) dX12_best_70 (by decide) ?_
    refine jr_iload dX12_best_72 2 rfl ?_
    refine jr_imul dX12_best_74 ?_
    refine jr_iadd dX12_best_75 ?_
    refine jr_iload dX12_best_76 3 rfl ?_
    refine jr_iadd dX12_best_78 ?_
    obtain ⟨hg_35, h⟩ := drvG h
    refine jr_lald (rfl : kd 208 = 14) hg_35 dX12_best_79 ?_
    refine jr_bipush (v := (100 : Int32)) dX12_best_80 (by decide) ?_
    refine jr_iload dX12_best_82 2 rfl ?_
    refine jr_imul dX12_best_84 ?_
    refine jr_iload dX12_best_85 3 rfl ?_
    refine jr_iadd dX12_best_87 ?_
    obtain ⟨w_37, hq_36, h⟩ := drvB h
    refine j_callVn lk_X12_259 wIM_X12_looks wSE_X12_looks (rfl : kd 205 = 11) (by decide) rfl (tX12_looks  hq_36) (by omega) rfl rfl (Nat.le_of_ble_eq_true rfl) dX12_best_88 ?_
    refine jr_iincN (c := (1 : Int32)) (lv' := fun (x6_38 : Int32) => [(6, .int x6_38), (0, .ref 205), (3, .long p3), (5, .int p5)]) dX12_best_91 (by decide) 3 rfl (by decide) (fun _ => rfl) (fun x6_38 e_39 => ?_)
    replace h := drvL e_39 h
    refine jr_goto (tgt := 45) dX12_best_94 (by decide) ?_
    refine jr_sub [1, 2, 3, 0] rfl ?_
    exact hrec _ _ h
theorem hlX12_best_45 {n : Nat} {p3 : Int64} {p5 : Int32} {k97 : jWd → (Option jWd)} {w' : jWd} (hk97 : ∀ (w9 : jWd), k97 w9 = some w' → J MX12_best 5 w9 97 [(0, .ref 205), (3, .long p3), (5, .int p5)] [] none w') : ∀ (c : Nat) (x6 : Int32) (w : jWd) , lX12_best_45 n p3 p5 k97 c x6 w = some w' → J MX12_best 5 w 45 [(0, .ref 205), (3, .long p3), (5, .int p5), (6, .int x6)] [] none w' := by
  intro c
  induction c with
  | zero => intro x6 w h; cases h
  | succ c ih => intro x6 w h; exact hbX12_best_45 (n := n) hk97 ih _ _ h
set_option maxHeartbeats 4000000 in
set_option maxRecDepth 100000 in
theorem hbX12_best_29 {n : Nat} {p3 : Int64} {w' : jWd} {rec : Int32 → jWd → Option jWd} 
    (hrec : ∀ (x5 : Int32) (w : jWd) , rec x5 w = some w' → J MX12_best 5 w 29 [(0, .ref 205), (3, .long p3), (5, .int x5)] [] none w') : ∀ (x5 : Int32) (w : jWd) , bX12_best_29 n p3 rec x5 w = some w' → J MX12_best 5 w 29 [(0, .ref 205), (3, .long p3), (5, .int x5)] [] none w' := by
  intro x5 w h
  unfold bX12_best_29 at h
  refine jr_iload dX12_best_29 2 rfl ?_
  refine jr_aload_n dX12_best_31 rfl 0 rfl ?_
  refine gf_X12_17 (r := 207) rfl (rfl : kd 205 = 11) rfl dX12_best_32 ?_
  refine jr_sipush (v := (223 : Int32)) dX12_best_35 (by decide) ?_
  refine jr_ialdL (k := 223) (rfl : kd 207 = 13) (vp_lit (by decide) (by decide)) (by decide) dX12_best_38 ?_
  refine jr_icmp_ge (tgt := 103) (nxt := 42) dX12_best_39 (by decide) rfl (fun hc => ?_) (fun hc => ?_)
  · replace h := drvT hc h
    obtain rfl := drvS1 h
    exact jr_vret rfl dX12_best_103
  · replace h := drvE hc h
    refine jr_iconst (v := (0 : Int32)) dX12_best_42 (by decide) ?_
    refine jr_istore (lv' := [(6, .int (0 : Int32)), (0, .ref 205), (3, .long p3), (5, .int x5)]) dX12_best_43 (by decide) rfl ?_
    refine jr_sub [1, 2, 3, 0] rfl ?_
    refine hlX12_best_45  ?_ _ _ _ h
    · intro w_40 h
      try dsimp only at h
      refine jr_iincN (c := (1 : Int32)) (lv' := fun (x5_41 : Int32) => [(5, .int x5_41), (0, .ref 205), (3, .long p3)]) dX12_best_97 (by decide) 2 rfl (by decide) (fun _ => rfl) (fun x5_41 e_42 => ?_)
      replace h := drvL e_42 h
      refine jr_goto (tgt := 29) dX12_best_100 (by decide) ?_
      refine jr_sub [1, 2, 0] rfl ?_
      exact hrec _ _ h
theorem hlX12_best_29 {n : Nat} {p3 : Int64} {w' : jWd}  : ∀ (c : Nat) (x5 : Int32) (w : jWd) , lX12_best_29 n p3 c x5 w = some w' → J MX12_best 5 w 29 [(0, .ref 205), (3, .long p3), (5, .int x5)] [] none w' := by
  intro c
  induction c with
  | zero => intro x5 w h; cases h
  | succ c ih => intro x5 w h; exact hbX12_best_29 (n := n) ih _ _ h
set_option maxHeartbeats 4000000 in
set_option maxRecDepth 100000 in
theorem tX12_best {n : Nat} {a0 : Int32} {a1 : Int32} {w : jWd} {w' : jWd}  (h : fX12_best n a0 a1 w = some w') : JM yX12_best MX12_best 5 [.ref 205, .int a0, .int a1] w none w' := by
  refine jm_of pl_X12 rfl (Nat.le_of_ble_eq_true rfl) ?_
  show J MX12_best 5 w 0 [(0, .ref 205), (1, .int a0), (2, .int a1)] [] none w'
  unfold fX12_best at h
  refine jr_aload_n dX12_best_0 rfl 0 rfl ?_
  refine jr_iconst (v := (-1 : Int32)) dX12_best_1 (by decide) ?_
  refine pf_X12_253 rfl (rfl : kd 205 = 11) dX12_best_2 ?_
  refine j_nmw (fun w_1 e_2 => ?_)
  replace h := drvL e_2 h
  refine jr_aload_n dX12_best_5 rfl 0 rfl ?_
  refine jr_iconst (v := (-1 : Int32)) dX12_best_6 (by decide) ?_
  refine pf_X12_256 rfl (rfl : kd 205 = 11) dX12_best_7 ?_
  refine j_nmw (fun w_3 e_4 => ?_)
  replace h := drvL e_4 h
  refine jr_aload_n dX12_best_10 rfl 0 rfl ?_
  refine gf_X12_20 (r := 208) rfl (rfl : kd 205 = 11) rfl dX12_best_11 ?_
  refine jr_sipush (v := (480 : Int32)) dX12_best_14 (by decide) ?_
  refine jr_iload_n dX12_best_17 rfl 1 rfl ?_
  refine jr_iadd dX12_best_18 ?_
  obtain ⟨hg_5, h⟩ := drvG h
  refine jr_lald (rfl : kd 208 = 14) hg_5 dX12_best_19 ?_
  refine j_nml (fun x3_6 e_7 => ?_)
  replace h := drvL e_7 h
  refine jr_lstore_n (lv' := [(3, .long x3_6), (0, .ref 205), (1, .int a0), (2, .int a1)]) dX12_best_20 rfl (by decide) rfl ?_
  refine jr_iload_n dX12_best_21 rfl 3 rfl ?_
  refine jr_iconst (v := (3 : Int32)) dX12_best_22 (by decide) ?_
  refine jr_icmp_ne (tgt := 104) (nxt := 26) dX12_best_23 (by decide) rfl (fun hc => ?_) (fun hc => ?_)
  · replace h := drvE hc h
    refine jr_iconst (v := (0 : Int32)) dX12_best_104 (by decide) ?_
    refine jr_istore (lv' := [(5, .int (0 : Int32)), (3, .long x3_6), (0, .ref 205), (1, .int a0), (2, .int a1)]) dX12_best_105 (by decide) rfl ?_
    refine jr_sub [2, 3, 4, 1, 0] rfl ?_
    refine hlX12_best_107   _ _ _ h
  · replace h := drvT hc h
    refine jr_iconst (v := (0 : Int32)) dX12_best_26 (by decide) ?_
    refine jr_istore (lv' := [(5, .int (0 : Int32)), (3, .long x3_6), (0, .ref 205), (1, .int a0), (2, .int a1)]) dX12_best_27 (by decide) rfl ?_
    refine jr_sub [2, 1, 0] rfl ?_
    refine hlX12_best_29   _ _ _ h
set_option maxHeartbeats 4000000 in
set_option maxRecDepth 100000 in
theorem hbX12_whoseIs_4 {n : Nat} {p1 : Int32} {k71 : Int32 → jWd → (Option (Int32 × jWd))} {r : Int32} {w' : jWd} {rec : Int32 → Int32 → jWd → Option (Int32 × jWd)} (hk71 : ∀ (z2 : Int32) (w9 : jWd), k71 z2 w9 = some (r, w') → J MX12_whoseIs 6 w9 71 [(0, .ref 205), (2, .int z2)] [] (some (.int r)) w')
    (hrec : ∀ (x2 : Int32) (x3 : Int32) (w : jWd) , rec x2 x3 w = some (r, w') → J MX12_whoseIs 6 w 4 [(0, .ref 205), (1, .int p1), (2, .int x2), (3, .int x3)] [] (some (.int r)) w') : ∀ (x2 : Int32) (x3 : Int32) (w : jWd) , bX12_whoseIs_4 n p1 k71 rec x2 x3 w = some (r, w') → J MX12_whoseIs 6 w 4 [(0, .ref 205), (1, .int p1), (2, .int x2), (3, .int x3)] [] (some (.int r)) w' := by
  intro x2 x3 w h
  unfold bX12_whoseIs_4 at h
  refine jr_iload_n dX12_whoseIs_4 rfl 3 rfl ?_
  refine jr_iconst (v := (4 : Int32)) dX12_whoseIs_5 (by decide) ?_
  refine jr_icmp_ge (tgt := 71) (nxt := 9) dX12_whoseIs_6 (by decide) rfl (fun hc => ?_) (fun hc => ?_)
  · replace h := drvT hc h
    refine jr_sub [0, 2] rfl ?_
    exact hk71 _ _ h
  · replace h := drvE hc h
    refine jr_aload_n dX12_whoseIs_9 rfl 0 rfl ?_
    refine jr_iload_n dX12_whoseIs_10 rfl 1 rfl ?_
    refine jr_iload_n dX12_whoseIs_11 rfl 3 rfl ?_
    obtain ⟨w_2, hq_1, h⟩ := drvB h
    refine j_callVn lk_X12_263 wIM_X12_best wSE_X12_best (rfl : kd 205 = 11) (by decide) rfl (tX12_best  hq_1) (by omega) rfl rfl (Nat.le_of_ble_eq_true rfl) dX12_whoseIs_12 ?_
    refine jr_aload_n dX12_whoseIs_15 rfl 0 rfl ?_
    refine jr_aload_n dX12_whoseIs_16 rfl 0 rfl ?_
    refine gf_X12_256 rfl (rfl : kd 205 = 11) dX12_whoseIs_17 ?_
    refine pf_X12_266 rfl (rfl : kd 205 = 11) dX12_whoseIs_20 ?_
    refine j_nmw (fun w_3 e_4 => ?_)
    replace h := drvL e_4 h
    refine jr_aload_n dX12_whoseIs_23 rfl 0 rfl ?_
    refine gf_X12_253 rfl (rfl : kd 205 = 11) dX12_whoseIs_24 ?_
    refine jr_aload_n dX12_whoseIs_27 rfl 0 rfl ?_
    refine gf_X12_17 (r := 207) rfl (rfl : kd 205 = 11) rfl dX12_whoseIs_28 ?_
    refine jr_sipush (v := (248 : Int32)) dX12_whoseIs_31 (by decide) ?_
    refine jr_ialdL (k := 248) (rfl : kd 207 = 13) (vp_lit (by decide) (by decide)) (by decide) dX12_whoseIs_34 ?_
    refine jr_icmp_lt (tgt := 40) (nxt := 38) dX12_whoseIs_35 (by decide) rfl (fun hc => ?_) (fun hc => ?_)
    · replace h := drvT hc h
      refine jr_iload_n dX12_whoseIs_40 rfl 2 rfl ?_
      refine jr_if_ne (tgt := 59) (nxt := 44) dX12_whoseIs_41 (by decide) rfl (fun hc => ?_) (fun hc => ?_)
      · replace h := drvE hc h
        refine jr_iconst (v := (1 : Int32)) dX12_whoseIs_59 (by decide) ?_
        refine jr_goto (tgt := 64) dX12_whoseIs_60 (by decide) ?_
        refine jr_istore_n (lv' := [(2, .int (1 : Int32)), (0, .ref 205), (1, .int p1), (3, .int x3)]) dX12_whoseIs_64 rfl (by decide) rfl ?_
        refine jr_iincN (c := (1 : Int32)) (lv' := fun (x3_5 : Int32) => [(3, .int x3_5), (2, .int (1 : Int32)), (0, .ref 205), (1, .int p1)]) dX12_whoseIs_65 (by decide) 3 rfl (by decide) (fun _ => rfl) (fun x3_5 e_6 => ?_)
        replace h := drvL e_6 h
        refine jr_goto (tgt := 4) dX12_whoseIs_68 (by decide) ?_
        refine jr_sub [2, 3, 1, 0] rfl ?_
        exact hrec _ _ _ h
      · replace h := drvT hc h
        refine jr_aload_n dX12_whoseIs_44 rfl 0 rfl ?_
        refine gf_X12_253 rfl (rfl : kd 205 = 11) dX12_whoseIs_45 ?_
        refine jr_aload_n dX12_whoseIs_48 rfl 0 rfl ?_
        refine gf_X12_17 (r := 207) rfl (rfl : kd 205 = 11) rfl dX12_whoseIs_49 ?_
        refine jr_sipush (v := (249 : Int32)) dX12_whoseIs_52 (by decide) ?_
        refine jr_ialdL (k := 249) (rfl : kd 207 = 13) (vp_lit (by decide) (by decide)) (by decide) dX12_whoseIs_55 ?_
        refine jr_icmp_lt (tgt := 63) (nxt := 59) dX12_whoseIs_56 (by decide) rfl (fun hc => ?_) (fun hc => ?_)
        · replace h := drvT hc h
          refine jr_iconst (v := (0 : Int32)) dX12_whoseIs_63 (by decide) ?_
          refine jr_istore_n (lv' := [(2, .int (0 : Int32)), (0, .ref 205), (1, .int p1), (3, .int x3)]) dX12_whoseIs_64 rfl (by decide) rfl ?_
          refine jr_iincN (c := (1 : Int32)) (lv' := fun (x3_7 : Int32) => [(3, .int x3_7), (2, .int (0 : Int32)), (0, .ref 205), (1, .int p1)]) dX12_whoseIs_65 (by decide) 3 rfl (by decide) (fun _ => rfl) (fun x3_7 e_8 => ?_)
          replace h := drvL e_8 h
          refine jr_goto (tgt := 4) dX12_whoseIs_68 (by decide) ?_
          refine jr_sub [2, 3, 1, 0] rfl ?_
          exact hrec _ _ _ h
        · replace h := drvE hc h
          refine jr_iconst (v := (1 : Int32)) dX12_whoseIs_59 (by decide) ?_
          refine jr_goto (tgt := 64) dX12_whoseIs_60 (by decide) ?_
          refine jr_istore_n (lv' := [(2, .int (1 : Int32)), (0, .ref 205), (1, .int p1), (3, .int x3)]) dX12_whoseIs_64 rfl (by decide) rfl ?_
          refine jr_iincN (c := (1 : Int32)) (lv' := fun (x3_9 : Int32) => [(3, .int x3_9), (2, .int (1 : Int32)), (0, .ref 205), (1, .int p1)]) dX12_whoseIs_65 (by decide) 3 rfl (by decide) (fun _ => rfl) (fun x3_9 e_10 => ?_)
          replace h := drvL e_10 h
          refine jr_goto (tgt := 4) dX12_whoseIs_68 (by decide) ?_
          refine jr_sub [2, 3, 1, 0] rfl ?_
          exact hrec _ _ _ h
    · replace h := drvE hc h
      refine jr_iload_n dX12_whoseIs_38 rfl 3 rfl ?_
      obtain ⟨rfl, rfl⟩ := drvS2 h
      exact jr_iret rfl dX12_whoseIs_39
theorem hlX12_whoseIs_4 {n : Nat} {p1 : Int32} {k71 : Int32 → jWd → (Option (Int32 × jWd))} {r : Int32} {w' : jWd} (hk71 : ∀ (z2 : Int32) (w9 : jWd), k71 z2 w9 = some (r, w') → J MX12_whoseIs 6 w9 71 [(0, .ref 205), (2, .int z2)] [] (some (.int r)) w') : ∀ (c : Nat) (x2 : Int32) (x3 : Int32) (w : jWd) , lX12_whoseIs_4 n p1 k71 c x2 x3 w = some (r, w') → J MX12_whoseIs 6 w 4 [(0, .ref 205), (1, .int p1), (2, .int x2), (3, .int x3)] [] (some (.int r)) w' := by
  intro c
  induction c with
  | zero => intro x2 x3 w h; cases h
  | succ c ih => intro x2 x3 w h; exact hbX12_whoseIs_4 (n := n) hk71 ih _ _ _ h
set_option maxHeartbeats 4000000 in
set_option maxRecDepth 100000 in
theorem tX12_whoseIs {n : Nat} {a0 : Int32} {w : jWd} {r : Int32} {w' : jWd}  (h : fX12_whoseIs n a0 w = some (r, w')) : JM yX12_whoseIs MX12_whoseIs 6 [.ref 205, .int a0] w (some (.int r)) w' := by
  refine jm_of pl_X12 rfl (Nat.le_of_ble_eq_true rfl) ?_
  show J MX12_whoseIs 6 w 0 [(0, .ref 205), (1, .int a0)] [] (some (.int r)) w'
  unfold fX12_whoseIs at h
  refine jr_iconst (v := (0 : Int32)) dX12_whoseIs_0 (by decide) ?_
  refine jr_istore_n (lv' := [(2, .int (0 : Int32)), (0, .ref 205), (1, .int a0)]) dX12_whoseIs_1 rfl (by decide) rfl ?_
  refine jr_iconst (v := (0 : Int32)) dX12_whoseIs_2 (by decide) ?_
  refine jr_istore_n (lv' := [(3, .int (0 : Int32)), (2, .int (0 : Int32)), (0, .ref 205), (1, .int a0)]) dX12_whoseIs_3 rfl (by decide) rfl ?_
  refine jr_sub [2, 3, 1, 0] rfl ?_
  refine hlX12_whoseIs_4  ?_ _ _ _ _ h
  · intro z2_12 w_11 h
    try dsimp only at h
    refine jr_aload_n dX12_whoseIs_71 rfl 0 rfl ?_
    refine jr_iconst (v := (-1 : Int32)) dX12_whoseIs_72 (by decide) ?_
    refine pf_X12_266 rfl (rfl : kd 205 = 11) dX12_whoseIs_73 ?_
    refine j_nmw (fun w_13 e_14 => ?_)
    replace h := drvL e_14 h
    refine jr_iload_n dX12_whoseIs_76 rfl 1 rfl ?_
    refine jr_if_eq (tgt := 84) (nxt := 80) dX12_whoseIs_77 (by decide) rfl (fun hc => ?_) (fun hc => ?_)
    · replace h := drvT hc h
      refine jr_iconst (v := (5 : Int32)) dX12_whoseIs_84 (by decide) ?_
      obtain ⟨rfl, rfl⟩ := drvS2 h
      exact jr_iret rfl dX12_whoseIs_85
    · replace h := drvE hc h
      refine jr_iconst (v := (4 : Int32)) dX12_whoseIs_80 (by decide) ?_
      refine jr_goto (tgt := 85) dX12_whoseIs_81 (by decide) ?_
      obtain ⟨rfl, rfl⟩ := drvS2 h
      exact jr_iret rfl dX12_whoseIs_85
set_option maxHeartbeats 4000000 in
set_option maxRecDepth 100000 in
theorem hbX12_addsBy_42 {n : Nat} {p1 : Int32} {p2 : Int32} {p3 : Int32} {p4 : Int32} {p5 : Int32} {k154 : Int32 → jWd → (Option (Int32 × jWd))} {r : Int32} {w' : jWd} {rec : Int32 → Int32 → jWd → Option (Int32 × jWd)} (hk154 : ∀ (z6 : Int32) (w9 : jWd), k154 z6 w9 = some (r, w') → J MX12_addsBy 7 w9 154 [(0, .ref 205), (1, .int p1), (2, .int p2), (3, .int p3), (4, .int p4), (5, .int p5), (6, .int z6)] [] (some (.int r)) w')
    (hrec : ∀ (x6 : Int32) (x7 : Int32) (w : jWd) , rec x6 x7 w = some (r, w') → J MX12_addsBy 7 w 42 [(0, .ref 205), (1, .int p1), (2, .int p2), (3, .int p3), (4, .int p4), (5, .int p5), (6, .int x6), (7, .int x7)] [] (some (.int r)) w') : ∀ (x6 : Int32) (x7 : Int32) (w : jWd) , bX12_addsBy_42 n p1 p2 p3 p4 p5 k154 rec x6 x7 w = some (r, w') → J MX12_addsBy 7 w 42 [(0, .ref 205), (1, .int p1), (2, .int p2), (3, .int p3), (4, .int p4), (5, .int p5), (6, .int x6), (7, .int x7)] [] (some (.int r)) w' := by
  intro x6 x7 w h
  unfold bX12_addsBy_42 at h
  refine jr_iload dX12_addsBy_42 7 rfl ?_
  refine jr_aload_n dX12_addsBy_44 rfl 0 rfl ?_
  refine gf_X12_17 (r := 207) rfl (rfl : kd 205 = 11) rfl dX12_addsBy_45 ?_
  refine jr_sipush (v := (236 : Int32)) dX12_addsBy_48 (by decide) ?_
  refine jr_iload_n dX12_addsBy_51 rfl 1 rfl ?_
  refine jr_iadd dX12_addsBy_52 ?_
  obtain ⟨hg_6, h⟩ := drvG h
  refine jr_iald (rfl : kd 207 = 13) hg_6 dX12_addsBy_53 ?_
  refine jr_icmp_ge (tgt := 154) (nxt := 57) dX12_addsBy_54 (by decide) rfl (fun hc => ?_) (fun hc => ?_)
  · replace h := drvT hc h
    refine jr_sub [0, 1, 2, 3, 4, 5, 6] rfl ?_
    exact hk154 _ _ h
  · replace h := drvE hc h
    refine jr_iload dX12_addsBy_57 6 rfl ?_
    refine jr_if_ne (tgt := 154) (nxt := 62) dX12_addsBy_59 (by decide) rfl (fun hc => ?_) (fun hc => ?_)
    · replace h := drvE hc h
      refine jr_sub [0, 1, 2, 3, 4, 5, 6] rfl ?_
      exact hk154 _ _ h
    · replace h := drvT hc h
      refine jr_aload_n dX12_addsBy_62 rfl 0 rfl ?_
      refine gf_X12_20 (r := 208) rfl (rfl : kd 205 = 11) rfl dX12_addsBy_63 ?_
      refine jr_sipush (v := (540 : Int32)) dX12_addsBy_66 (by decide) ?_
      refine jr_bipush (v := (12 : Int32)) dX12_addsBy_69 (by decide) ?_
      refine jr_iload_n dX12_addsBy_71 rfl 1 rfl ?_
      refine jr_imul dX12_addsBy_72 ?_
      refine jr_iadd dX12_addsBy_73 ?_
      refine jr_iload dX12_addsBy_74 7 rfl ?_
      refine jr_iadd dX12_addsBy_76 ?_
      obtain ⟨hg_7, h⟩ := drvG h
      refine jr_lald (rfl : kd 208 = 14) hg_7 dX12_addsBy_77 ?_
      refine j_nml (fun x8_8 e_9 => ?_)
      replace h := drvL e_9 h
      refine jr_lstore (lv' := [(8, .long x8_8), (0, .ref 205), (1, .int p1), (2, .int p2), (3, .int p3), (4, .int p4), (5, .int p5), (6, .int x6), (7, .int x7)]) dX12_addsBy_78 (by decide) rfl ?_
      refine jr_aload_n dX12_addsBy_80 rfl 1 rfl ?_
      refine jr_aload_n dX12_addsBy_81 rfl 1 rfl ?_
      refine gf_X12_20 (r := 208) rfl (rfl : kd 205 = 11) rfl dX12_addsBy_82 ?_
      refine jr_sipush (v := (480 : Int32)) dX12_addsBy_85 (by decide) ?_
      refine jr_iload dX12_addsBy_88 6 rfl ?_
      refine jr_iadd dX12_addsBy_90 ?_
      obtain ⟨hg_10, h⟩ := drvG h
      refine jr_lald (rfl : kd 208 = 14) hg_10 dX12_addsBy_91 ?_
      refine jr_lload dX12_addsBy_92 0 rfl ?_
      obtain ⟨r_13, w_12, hq_11, h⟩ := drvB2 h
      refine j_callVv lk_X12_111 wIM_X12_likeOf wSE_X12_likeOf (rfl : kd 205 = 11) (by decide) rfl (tX12_likeOf  hq_11) (by omega) rfl rfl (Nat.le_of_ble_eq_true rfl) dX12_addsBy_94 ?_
      refine jr_aload_n dX12_addsBy_97 rfl 1 rfl ?_
      refine gf_X12_17 (r := 207) rfl (rfl : kd 205 = 11) rfl dX12_addsBy_98 ?_
      refine jr_sipush (v := (248 : Int32)) dX12_addsBy_101 (by decide) ?_
      refine jr_ialdL (k := 248) (rfl : kd 207 = 13) (vp_lit (by decide) (by decide)) (by decide) dX12_addsBy_104 ?_
      refine jr_icmp_ge (tgt := 141) (nxt := 108) dX12_addsBy_105 (by decide) rfl (fun hc => ?_) (fun hc => ?_)
      · replace h := drvT hc h
        refine jr_iconst (v := (1 : Int32)) dX12_addsBy_141 (by decide) ?_
        refine jr_goto (tgt := 146) dX12_addsBy_142 (by decide) ?_
        refine jr_istore (lv' := [(6, .int (1 : Int32)), (8, .long x8_8), (0, .ref 205), (1, .int p1), (2, .int p2), (3, .int p3), (4, .int p4), (5, .int p5), (7, .int x7)]) dX12_addsBy_146 (by decide) rfl ?_
        refine jr_iincN (c := (1 : Int32)) (lv' := fun (x7_14 : Int32) => [(7, .int x7_14), (6, .int (1 : Int32)), (8, .long x8_8), (0, .ref 205), (1, .int p1), (2, .int p2), (3, .int p3), (4, .int p4), (5, .int p5)]) dX12_addsBy_148 (by decide) 8 rfl (by decide) (fun _ => rfl) (fun x7_14 e_15 => ?_)
        replace h := drvL e_15 h
        refine jr_goto (tgt := 42) dX12_addsBy_151 (by decide) ?_
        refine jr_sub [3, 4, 5, 6, 7, 8, 1, 0] rfl ?_
        exact hrec _ _ _ h
      · replace h := drvE hc h
        refine jr_aload_n dX12_addsBy_108 rfl 1 rfl ?_
        refine jr_aload_n dX12_addsBy_109 rfl 1 rfl ?_
        refine gf_X12_20 (r := 208) rfl (rfl : kd 205 = 11) rfl dX12_addsBy_110 ?_
        refine jr_sipush (v := (480 : Int32)) dX12_addsBy_113 (by decide) ?_
        refine jr_iload dX12_addsBy_116 6 rfl ?_
        refine jr_iadd dX12_addsBy_118 ?_
        obtain ⟨hg_16, h⟩ := drvG h
        refine jr_lald (rfl : kd 208 = 14) hg_16 dX12_addsBy_119 ?_
        refine jr_aload_n dX12_addsBy_120 rfl 1 rfl ?_
        refine jr_lload dX12_addsBy_121 0 rfl ?_
        refine jr_iload_n dX12_addsBy_123 rfl 3 rfl ?_
        obtain ⟨r_19, w_18, hq_17, h⟩ := drvB2 h
        refine j_callVv lk_X12_236 wIM_X12_smooth wSE_X12_smooth (rfl : kd 205 = 11) (by decide) rfl (tX12_smooth  hq_17) (by omega) rfl rfl (Nat.le_of_ble_eq_true rfl) dX12_addsBy_124 ?_
        obtain ⟨r_22, w_21, hq_20, h⟩ := drvB2 h
        refine j_callVv lk_X12_111 wIM_X12_likeOf wSE_X12_likeOf (rfl : kd 205 = 11) (by decide) rfl (tX12_likeOf  hq_20) (by omega) rfl rfl (Nat.le_of_ble_eq_true rfl) dX12_addsBy_127 ?_
        refine jr_aload_n dX12_addsBy_130 rfl 1 rfl ?_
        refine gf_X12_17 (r := 207) rfl (rfl : kd 205 = 11) rfl dX12_addsBy_131 ?_
        refine jr_sipush (v := (248 : Int32)) dX12_addsBy_134 (by decide) ?_
        refine jr_ialdL (k := 248) (rfl : kd 207 = 13) (vp_lit (by decide) (by decide)) (by decide) dX12_addsBy_137 ?_
        refine jr_icmp_lt (tgt := 145) (nxt := 141) dX12_addsBy_138 (by decide) rfl (fun hc => ?_) (fun hc => ?_)
        · replace h := drvT hc h
          refine jr_iconst (v := (0 : Int32)) dX12_addsBy_145 (by decide) ?_
          refine jr_istore (lv' := [(6, .int (0 : Int32)), (8, .long x8_8), (0, .ref 205), (1, .int p1), (2, .int p2), (3, .int p3), (4, .int p4), (5, .int p5), (7, .int x7)]) dX12_addsBy_146 (by decide) rfl ?_
          refine jr_iincN (c := (1 : Int32)) (lv' := fun (x7_23 : Int32) => [(7, .int x7_23), (6, .int (0 : Int32)), (8, .long x8_8), (0, .ref 205), (1, .int p1), (2, .int p2), (3, .int p3), (4, .int p4), (5, .int p5)]) dX12_addsBy_148 (by decide) 8 rfl (by decide) (fun _ => rfl) (fun x7_23 e_24 => ?_)
          replace h := drvL e_24 h
          refine jr_goto (tgt := 42) dX12_addsBy_151 (by decide) ?_
          refine jr_sub [3, 4, 5, 6, 7, 8, 1, 0] rfl ?_
          exact hrec _ _ _ h
        · replace h := drvE hc h
          refine jr_iconst (v := (1 : Int32)) dX12_addsBy_141 (by decide) ?_
          refine jr_goto (tgt := 146) dX12_addsBy_142 (by decide) ?_
          refine jr_istore (lv' := [(6, .int (1 : Int32)), (8, .long x8_8), (0, .ref 205), (1, .int p1), (2, .int p2), (3, .int p3), (4, .int p4), (5, .int p5), (7, .int x7)]) dX12_addsBy_146 (by decide) rfl ?_
          refine jr_iincN (c := (1 : Int32)) (lv' := fun (x7_25 : Int32) => [(7, .int x7_25), (6, .int (1 : Int32)), (8, .long x8_8), (0, .ref 205), (1, .int p1), (2, .int p2), (3, .int p3), (4, .int p4), (5, .int p5)]) dX12_addsBy_148 (by decide) 8 rfl (by decide) (fun _ => rfl) (fun x7_25 e_26 => ?_)
          replace h := drvL e_26 h
          refine jr_goto (tgt := 42) dX12_addsBy_151 (by decide) ?_
          refine jr_sub [3, 4, 5, 6, 7, 8, 1, 0] rfl ?_
          exact hrec _ _ _ h
theorem hlX12_addsBy_42 {n : Nat} {p1 : Int32} {p2 : Int32} {p3 : Int32} {p4 : Int32} {p5 : Int32} {k154 : Int32 → jWd → (Option (Int32 × jWd))} {r : Int32} {w' : jWd} (hk154 : ∀ (z6 : Int32) (w9 : jWd), k154 z6 w9 = some (r, w') → J MX12_addsBy 7 w9 154 [(0, .ref 205), (1, .int p1), (2, .int p2), (3, .int p3), (4, .int p4), (5, .int p5), (6, .int z6)] [] (some (.int r)) w') : ∀ (c : Nat) (x6 : Int32) (x7 : Int32) (w : jWd) , lX12_addsBy_42 n p1 p2 p3 p4 p5 k154 c x6 x7 w = some (r, w') → J MX12_addsBy 7 w 42 [(0, .ref 205), (1, .int p1), (2, .int p2), (3, .int p3), (4, .int p4), (5, .int p5), (6, .int x6), (7, .int x7)] [] (some (.int r)) w' := by
  intro c
  induction c with
  | zero => intro x6 x7 w h; cases h
  | succ c ih => intro x6 x7 w h; exact hbX12_addsBy_42 (n := n) hk154 ih _ _ _ h
set_option maxHeartbeats 4000000 in
set_option maxRecDepth 100000 in
theorem hbX12_addsBy_10 {n : Nat} {p1 : Int32} {p2 : Int32} {p3 : Int32} {k180 : Int32 → jWd → (Option (Int32 × jWd))} {r : Int32} {w' : jWd} {rec : Int32 → Int32 → jWd → Option (Int32 × jWd)} (hk180 : ∀ (z4 : Int32) (w9 : jWd), k180 z4 w9 = some (r, w') → J MX12_addsBy 7 w9 180 [(3, .int p3), (4, .int z4)] [] (some (.int r)) w')
    (hrec : ∀ (x4 : Int32) (x5 : Int32) (w : jWd) , rec x4 x5 w = some (r, w') → J MX12_addsBy 7 w 10 [(0, .ref 205), (1, .int p1), (2, .int p2), (3, .int p3), (4, .int x4), (5, .int x5)] [] (some (.int r)) w') : ∀ (x4 : Int32) (x5 : Int32) (w : jWd) , bX12_addsBy_10 n p1 p2 p3 k180 rec x4 x5 w = some (r, w') → J MX12_addsBy 7 w 10 [(0, .ref 205), (1, .int p1), (2, .int p2), (3, .int p3), (4, .int x4), (5, .int x5)] [] (some (.int r)) w' := by
  intro x4 x5 w h
  unfold bX12_addsBy_10 at h
  refine jr_iload dX12_addsBy_10 5 rfl ?_
  refine jr_aload_n dX12_addsBy_12 rfl 0 rfl ?_
  refine gf_X12_17 (r := 207) rfl (rfl : kd 205 = 11) rfl dX12_addsBy_13 ?_
  refine jr_sipush (v := (162 : Int32)) dX12_addsBy_16 (by decide) ?_
  refine jr_ialdL (k := 162) (rfl : kd 207 = 13) (vp_lit (by decide) (by decide)) (by decide) dX12_addsBy_19 ?_
  refine jr_icmp_ge (tgt := 180) (nxt := 23) dX12_addsBy_20 (by decide) rfl (fun hc => ?_) (fun hc => ?_)
  · replace h := drvT hc h
    refine jr_sub [3, 4] rfl ?_
    exact hk180 _ _ h
  · replace h := drvE hc h
    refine jr_aload_n dX12_addsBy_23 rfl 0 rfl ?_
    refine jr_iload dX12_addsBy_24 5 rfl ?_
    obtain ⟨r_5, w_4, hq_3, h⟩ := drvB2 h
    refine j_callVv lk_X12_272 wIM_X12_whoseIs wSE_X12_whoseIs (rfl : kd 205 = 11) (by decide) rfl (tX12_whoseIs  hq_3) (by omega) rfl rfl (Nat.le_of_ble_eq_true rfl) dX12_addsBy_26 ?_
    refine jr_iconst (v := (3 : Int32)) dX12_addsBy_29 (by decide) ?_
    refine jr_icmp_ge (tgt := 36) (nxt := 33) dX12_addsBy_30 (by decide) rfl (fun hc => ?_) (fun hc => ?_)
    · replace h := drvT hc h
      refine jr_iconst (v := (0 : Int32)) dX12_addsBy_36 (by decide) ?_
      refine jr_istore (lv' := [(6, .int (0 : Int32)), (0, .ref 205), (1, .int p1), (2, .int p2), (3, .int p3), (4, .int x4), (5, .int x5)]) dX12_addsBy_37 (by decide) rfl ?_
      refine jr_iconst (v := (0 : Int32)) dX12_addsBy_39 (by decide) ?_
      refine jr_istore (lv' := [(7, .int (0 : Int32)), (6, .int (0 : Int32)), (0, .ref 205), (1, .int p1), (2, .int p2), (3, .int p3), (4, .int x4), (5, .int x5)]) dX12_addsBy_40 (by decide) rfl ?_
      refine jr_sub [2, 3, 4, 5, 6, 7, 1, 0] rfl ?_
      refine hlX12_addsBy_42  ?_ _ _ _ _ h
      · intro z6_28 w_27 h
        try dsimp only at h
        refine jr_iload dX12_addsBy_154 6 rfl ?_
        refine jr_if_ne (tgt := 162) (nxt := 159) dX12_addsBy_156 (by decide) rfl (fun hc => ?_) (fun hc => ?_)
        · replace h := drvE hc h
          refine jr_iload dX12_addsBy_162 4 rfl ?_
          refine jr_iload_n dX12_addsBy_164 rfl 3 rfl ?_
          refine jr_icmp_ne (tgt := 171) (nxt := 168) dX12_addsBy_165 (by decide) rfl (fun hc => ?_) (fun hc => ?_)
          · replace h := drvE hc h
            refine jr_iincN (c := (1 : Int32)) (lv' := fun (x4_29 : Int32) => [(4, .int x4_29), (0, .ref 205), (1, .int p1), (2, .int p2), (3, .int p3), (5, .int x5), (6, .int z6_28)]) dX12_addsBy_171 (by decide) 4 rfl (by decide) (fun _ => rfl) (fun x4_29 e_30 => ?_)
            replace h := drvL e_30 h
            refine jr_iincN (c := (1 : Int32)) (lv' := fun (x5_31 : Int32) => [(5, .int x5_31), (4, .int x4_29), (0, .ref 205), (1, .int p1), (2, .int p2), (3, .int p3), (6, .int z6_28)]) dX12_addsBy_174 (by decide) 5 rfl (by decide) (fun _ => rfl) (fun x5_31 e_32 => ?_)
            replace h := drvL e_32 h
            refine jr_goto (tgt := 10) dX12_addsBy_177 (by decide) ?_
            refine jr_sub [2, 3, 4, 5, 1, 0] rfl ?_
            exact hrec _ _ _ h
          · replace h := drvT hc h
            refine jr_iload dX12_addsBy_168 5 rfl ?_
            obtain ⟨rfl, rfl⟩ := drvS2 h
            exact jr_iret rfl dX12_addsBy_170
        · replace h := drvT hc h
          refine jr_goto (tgt := 174) dX12_addsBy_159 (by decide) ?_
          refine jr_iincN (c := (1 : Int32)) (lv' := fun (x5_33 : Int32) => [(5, .int x5_33), (0, .ref 205), (1, .int p1), (2, .int p2), (3, .int p3), (4, .int x4), (6, .int z6_28)]) dX12_addsBy_174 (by decide) 5 rfl (by decide) (fun _ => rfl) (fun x5_33 e_34 => ?_)
          replace h := drvL e_34 h
          refine jr_goto (tgt := 10) dX12_addsBy_177 (by decide) ?_
          refine jr_sub [1, 2, 3, 4, 5, 0] rfl ?_
          exact hrec _ _ _ h
    · replace h := drvE hc h
      refine jr_goto (tgt := 174) dX12_addsBy_33 (by decide) ?_
      refine jr_iincN (c := (1 : Int32)) (lv' := fun (x5_35 : Int32) => [(5, .int x5_35), (0, .ref 205), (1, .int p1), (2, .int p2), (3, .int p3), (4, .int x4)]) dX12_addsBy_174 (by decide) 5 rfl (by decide) (fun _ => rfl) (fun x5_35 e_36 => ?_)
      replace h := drvL e_36 h
      refine jr_goto (tgt := 10) dX12_addsBy_177 (by decide) ?_
      refine jr_sub [1, 2, 3, 4, 5, 0] rfl ?_
      exact hrec _ _ _ h
theorem hlX12_addsBy_10 {n : Nat} {p1 : Int32} {p2 : Int32} {p3 : Int32} {k180 : Int32 → jWd → (Option (Int32 × jWd))} {r : Int32} {w' : jWd} (hk180 : ∀ (z4 : Int32) (w9 : jWd), k180 z4 w9 = some (r, w') → J MX12_addsBy 7 w9 180 [(3, .int p3), (4, .int z4)] [] (some (.int r)) w') : ∀ (c : Nat) (x4 : Int32) (x5 : Int32) (w : jWd) , lX12_addsBy_10 n p1 p2 p3 k180 c x4 x5 w = some (r, w') → J MX12_addsBy 7 w 10 [(0, .ref 205), (1, .int p1), (2, .int p2), (3, .int p3), (4, .int x4), (5, .int x5)] [] (some (.int r)) w' := by
  intro c
  induction c with
  | zero => intro x4 x5 w h; cases h
  | succ c ih => intro x4 x5 w h; exact hbX12_addsBy_10 (n := n) hk180 ih _ _ _ h
set_option maxHeartbeats 4000000 in
set_option maxRecDepth 100000 in
theorem tX12_addsBy {n : Nat} {a0 : Int32} {a1 : Int32} {a2 : Int32} {w : jWd} {r : Int32} {w' : jWd}  (h : fX12_addsBy n a0 a1 a2 w = some (r, w')) : JM yX12_addsBy MX12_addsBy 7 [.ref 205, .int a0, .int a1, .int a2] w (some (.int r)) w' := by
  refine jm_of pl_X12 rfl (Nat.le_of_ble_eq_true rfl) ?_
  show J MX12_addsBy 7 w 0 [(0, .ref 205), (1, .int a0), (2, .int a1), (3, .int a2)] [] (some (.int r)) w'
  unfold fX12_addsBy at h
  refine jr_aload_n dX12_addsBy_0 rfl 0 rfl ?_
  obtain ⟨w_2, hq_1, h⟩ := drvB h
  refine j_callVn lk_X12_269 wIM_X12_smooths wSE_X12_smooths (rfl : kd 205 = 11) (by decide) rfl (tX12_smooths  hq_1) (by omega) rfl rfl (Nat.le_of_ble_eq_true rfl) dX12_addsBy_1 ?_
  refine jr_iconst (v := (0 : Int32)) dX12_addsBy_4 (by decide) ?_
  refine jr_istore (lv' := [(4, .int (0 : Int32)), (0, .ref 205), (1, .int a0), (2, .int a1), (3, .int a2)]) dX12_addsBy_5 (by decide) rfl ?_
  refine jr_iconst (v := (0 : Int32)) dX12_addsBy_7 (by decide) ?_
  refine jr_istore (lv' := [(5, .int (0 : Int32)), (4, .int (0 : Int32)), (0, .ref 205), (1, .int a0), (2, .int a1), (3, .int a2)]) dX12_addsBy_8 (by decide) rfl ?_
  refine jr_sub [2, 3, 4, 5, 1, 0] rfl ?_
  refine hlX12_addsBy_10  ?_ _ _ _ _ h
  · intro z4_38 w_37 h
    try dsimp only at h
    refine jr_iload_n dX12_addsBy_180 rfl 0 rfl ?_
    refine jr_iconst (v := (-1 : Int32)) dX12_addsBy_181 (by decide) ?_
    refine jr_icmp_ne (tgt := 190) (nxt := 185) dX12_addsBy_182 (by decide) rfl (fun hc => ?_) (fun hc => ?_)
    · replace h := drvE hc h
      refine jr_iconst (v := (-1 : Int32)) dX12_addsBy_190 (by decide) ?_
      obtain ⟨rfl, rfl⟩ := drvS2 h
      exact jr_iret rfl dX12_addsBy_191
    · replace h := drvT hc h
      refine jr_iload dX12_addsBy_185 1 rfl ?_
      refine jr_goto (tgt := 191) dX12_addsBy_187 (by decide) ?_
      obtain ⟨rfl, rfl⟩ := drvS2 h
      exact jr_iret rfl dX12_addsBy_191
set_option maxHeartbeats 4000000 in
set_option maxRecDepth 100000 in
theorem tX12_added {n : Nat} {a0 : Int32} {a1 : Int32} {a2 : Int32} {w : jWd} {r : Int32} {w' : jWd}  (h : fX12_added n a0 a1 a2 w = some (r, w')) : JM yX12_added MX12_added 8 [.ref 205, .int a0, .int a1, .int a2] w (some (.int r)) w' := by
  refine jm_of pl_X12 rfl (Nat.le_of_ble_eq_true rfl) ?_
  show J MX12_added 8 w 0 [(0, .ref 205), (1, .int a0), (2, .int a1), (3, .int a2)] [] (some (.int r)) w'
  unfold fX12_added at h
  refine jr_aload_n dX12_added_0 rfl 0 rfl ?_
  refine jr_iconst (v := (0 : Int32)) dX12_added_1 (by decide) ?_
  refine pf_X12_1 rfl (rfl : kd 205 = 11) dX12_added_2 ?_
  refine j_nmw (fun w_1 e_2 => ?_)
  replace h := drvL e_2 h
  refine jr_iload_n dX12_added_5 rfl 1 rfl ?_
  refine jr_i2l dX12_added_6 ?_
  refine jr_lconst (v := (0 : Int64)) dX12_added_7 rfl ?_
  refine jr_aload_n dX12_added_8 rfl 0 rfl ?_
  refine gf_X12_17 (r := 207) rfl (rfl : kd 205 = 11) rfl dX12_added_9 ?_
  refine jr_sipush (v := (223 : Int32)) dX12_added_12 (by decide) ?_
  refine jr_ialdL (k := 223) (rfl : kd 207 = 13) (vp_lit (by decide) (by decide)) (by decide) dX12_added_15 ?_
  refine jr_iconst (v := (1 : Int32)) dX12_added_16 (by decide) ?_
  refine jr_isub dX12_added_17 ?_
  refine jr_i2l dX12_added_18 ?_
  refine j_callSv lk_X12_81 wST_X12_within (tX12_within  (a0 := ((a0).toInt64)) (a1 := (0 : Int64)) (a2 := ((((wI w_1 207 223) - (1 : Int32))).toInt64)) (w := w_1)) (by omega) rfl rfl (Nat.le_of_ble_eq_true rfl) dX12_added_19 ?_
  refine jr_if_ne (tgt := 32) (nxt := 25) dX12_added_22 (by decide) rfl (fun hc => ?_) (fun hc => ?_)
  · replace h := drvE hc h
    refine jr_iload_n dX12_added_32 rfl 2 rfl ?_
    refine jr_i2l dX12_added_33 ?_
    refine jr_lconst (v := (0 : Int64)) dX12_added_34 rfl ?_
    refine jr_ldc2 (v := (9 : Int64)) wCC_X12_89 dX12_added_35 ?_
    refine j_callSv lk_X12_81 wST_X12_within (tX12_within  (a0 := ((a1).toInt64)) (a1 := (0 : Int64)) (a2 := (9 : Int64)) (w := w_1)) (by omega) rfl rfl (Nat.le_of_ble_eq_true rfl) dX12_added_38 ?_
    refine jr_if_ne (tgt := 51) (nxt := 44) dX12_added_41 (by decide) rfl (fun hc => ?_) (fun hc => ?_)
    · replace h := drvE hc h
      refine jr_iload_n dX12_added_51 rfl 3 rfl ?_
      refine jr_if_ge (tgt := 59) (nxt := 55) dX12_added_52 (by decide) rfl (fun hc => ?_) (fun hc => ?_)
      · replace h := drvT hc h
        refine jr_aload_n dX12_added_59 rfl 0 rfl ?_
        refine jr_iload_n dX12_added_60 rfl 1 rfl ?_
        refine jr_iload_n dX12_added_61 rfl 2 rfl ?_
        refine jr_iload_n dX12_added_62 rfl 3 rfl ?_
        obtain ⟨r_5, w_4, hq_3, h⟩ := drvB2 h
        refine j_callVv lk_X12_308 wIM_X12_addsBy wSE_X12_addsBy (rfl : kd 205 = 11) (by decide) rfl (tX12_addsBy  hq_3) (by omega) rfl rfl (Nat.le_of_ble_eq_true rfl) dX12_added_63 ?_
        obtain ⟨rfl, rfl⟩ := drvS2 h
        exact jr_iret rfl dX12_added_66
      · replace h := drvE hc h
        refine jr_iconst (v := (-1 : Int32)) dX12_added_55 (by decide) ?_
        refine jr_goto (tgt := 66) dX12_added_56 (by decide) ?_
        obtain ⟨rfl, rfl⟩ := drvS2 h
        exact jr_iret rfl dX12_added_66
    · replace h := drvT hc h
      refine jr_aload_n dX12_added_44 rfl 0 rfl ?_
      refine jr_bipush (v := (-3 : Int32)) dX12_added_45 (by decide) ?_
      obtain ⟨r_8, w_7, hq_6, h⟩ := drvB2 h
      refine j_callVv lk_X12_85 wIM_X12_no wSE_X12_no (rfl : kd 205 = 11) (by decide) rfl (tX12_no  hq_6) (by omega) rfl rfl (Nat.le_of_ble_eq_true rfl) dX12_added_47 ?_
      obtain ⟨rfl, rfl⟩ := drvS2 h
      exact jr_iret rfl dX12_added_50
  · replace h := drvT hc h
    refine jr_aload_n dX12_added_25 rfl 0 rfl ?_
    refine jr_bipush (v := (-2 : Int32)) dX12_added_26 (by decide) ?_
    obtain ⟨r_11, w_10, hq_9, h⟩ := drvB2 h
    refine j_callVv lk_X12_85 wIM_X12_no wSE_X12_no (rfl : kd 205 = 11) (by decide) rfl (tX12_no  hq_9) (by omega) rfl rfl (Nat.le_of_ble_eq_true rfl) dX12_added_28 ?_
    obtain ⟨rfl, rfl⟩ := drvS2 h
    exact jr_iret rfl dX12_added_31
set_option maxHeartbeats 4000000 in
set_option maxRecDepth 100000 in
theorem tX12_adds {n : Nat} {a0 : Int32} {a1 : Int32} {w : jWd} {r : Int32} {w' : jWd}  (h : fX12_adds n a0 a1 w = some (r, w')) : JM yX12_adds MX12_adds 8 [.ref 205, .int a0, .int a1] w (some (.int r)) w' := by
  refine jm_of pl_X12 rfl (Nat.le_of_ble_eq_true rfl) ?_
  show J MX12_adds 8 w 0 [(0, .ref 205), (1, .int a0), (2, .int a1)] [] (some (.int r)) w'
  unfold fX12_adds at h
  refine jr_aload_n dX12_adds_0 rfl 0 rfl ?_
  refine jr_iconst (v := (0 : Int32)) dX12_adds_1 (by decide) ?_
  refine pf_X12_1 rfl (rfl : kd 205 = 11) dX12_adds_2 ?_
  refine j_nmw (fun w_1 e_2 => ?_)
  replace h := drvL e_2 h
  refine jr_iload_n dX12_adds_5 rfl 1 rfl ?_
  refine jr_i2l dX12_adds_6 ?_
  refine jr_lconst (v := (0 : Int64)) dX12_adds_7 rfl ?_
  refine jr_aload_n dX12_adds_8 rfl 0 rfl ?_
  refine gf_X12_17 (r := 207) rfl (rfl : kd 205 = 11) rfl dX12_adds_9 ?_
  refine jr_sipush (v := (223 : Int32)) dX12_adds_12 (by decide) ?_
  refine jr_ialdL (k := 223) (rfl : kd 207 = 13) (vp_lit (by decide) (by decide)) (by decide) dX12_adds_15 ?_
  refine jr_iconst (v := (1 : Int32)) dX12_adds_16 (by decide) ?_
  refine jr_isub dX12_adds_17 ?_
  refine jr_i2l dX12_adds_18 ?_
  refine j_callSv lk_X12_81 wST_X12_within (tX12_within  (a0 := ((a0).toInt64)) (a1 := (0 : Int64)) (a2 := ((((wI w_1 207 223) - (1 : Int32))).toInt64)) (w := w_1)) (by omega) rfl rfl (Nat.le_of_ble_eq_true rfl) dX12_adds_19 ?_
  refine jr_if_ne (tgt := 32) (nxt := 25) dX12_adds_22 (by decide) rfl (fun hc => ?_) (fun hc => ?_)
  · replace h := drvE hc h
    refine jr_iload_n dX12_adds_32 rfl 2 rfl ?_
    refine jr_i2l dX12_adds_33 ?_
    refine jr_lconst (v := (0 : Int64)) dX12_adds_34 rfl ?_
    refine jr_ldc2 (v := (9 : Int64)) wCC_X12_89 dX12_adds_35 ?_
    refine j_callSv lk_X12_81 wST_X12_within (tX12_within  (a0 := ((a1).toInt64)) (a1 := (0 : Int64)) (a2 := (9 : Int64)) (w := w_1)) (by omega) rfl rfl (Nat.le_of_ble_eq_true rfl) dX12_adds_38 ?_
    refine jr_if_ne (tgt := 51) (nxt := 44) dX12_adds_41 (by decide) rfl (fun hc => ?_) (fun hc => ?_)
    · replace h := drvE hc h
      refine jr_aload_n dX12_adds_51 rfl 0 rfl ?_
      refine jr_iload_n dX12_adds_52 rfl 1 rfl ?_
      refine jr_iload_n dX12_adds_53 rfl 2 rfl ?_
      refine jr_iconst (v := (-1 : Int32)) dX12_adds_54 (by decide) ?_
      obtain ⟨r_5, w_4, hq_3, h⟩ := drvB2 h
      refine j_callVv lk_X12_308 wIM_X12_addsBy wSE_X12_addsBy (rfl : kd 205 = 11) (by decide) rfl (tX12_addsBy  hq_3) (by omega) rfl rfl (Nat.le_of_ble_eq_true rfl) dX12_adds_55 ?_
      obtain ⟨rfl, rfl⟩ := drvS2 h
      exact jr_iret rfl dX12_adds_58
    · replace h := drvT hc h
      refine jr_aload_n dX12_adds_44 rfl 0 rfl ?_
      refine jr_bipush (v := (-3 : Int32)) dX12_adds_45 (by decide) ?_
      obtain ⟨r_8, w_7, hq_6, h⟩ := drvB2 h
      refine j_callVv lk_X12_85 wIM_X12_no wSE_X12_no (rfl : kd 205 = 11) (by decide) rfl (tX12_no  hq_6) (by omega) rfl rfl (Nat.le_of_ble_eq_true rfl) dX12_adds_47 ?_
      obtain ⟨rfl, rfl⟩ := drvS2 h
      exact jr_iret rfl dX12_adds_50
  · replace h := drvT hc h
    refine jr_aload_n dX12_adds_25 rfl 0 rfl ?_
    refine jr_bipush (v := (-2 : Int32)) dX12_adds_26 (by decide) ?_
    obtain ⟨r_11, w_10, hq_9, h⟩ := drvB2 h
    refine j_callVv lk_X12_85 wIM_X12_no wSE_X12_no (rfl : kd 205 = 11) (by decide) rfl (tX12_no  hq_9) (by omega) rfl rfl (Nat.le_of_ble_eq_true rfl) dX12_adds_28 ?_
    obtain ⟨rfl, rfl⟩ := drvS2 h
    exact jr_iret rfl dX12_adds_31
set_option maxHeartbeats 4000000 in
set_option maxRecDepth 100000 in
theorem tX12_isAnswer {a0 : Int64} {a1 : Int64} {a2 : Int64} {a3 : Int64} {a4 : Int64} {w : jWd}  : JM yX12_isAnswer MX12_isAnswer 2 [.long a0, .long a1, .long a2, .long a3, .long a4] w (some (.int (fX12_isAnswer a0 a1 a2 a3 a4))) w := by
  refine jm_of pl_X12 rfl (Nat.le_of_ble_eq_true rfl) ?_
  show J MX12_isAnswer 2 w 0 [(0, .long a0), (2, .long a1), (4, .long a2), (6, .long a3), (8, .long a4)] [] (some (.int (fX12_isAnswer a0 a1 a2 a3 a4))) w
  generalize h : (fX12_isAnswer a0 a1 a2 a3 a4) = r
  unfold fX12_isAnswer at h
  refine jr_lload_n dX12_isAnswer_0 rfl 0 rfl ?_
  refine jr_lconst (v := (0 : Int64)) dX12_isAnswer_1 rfl ?_
  refine jr_ldc2 (v := (15 : Int64)) wCC_X12_91 dX12_isAnswer_2 ?_
  refine j_callSv lk_X12_81 wST_X12_within (tX12_within  (a0 := a0) (a1 := (0 : Int64)) (a2 := (15 : Int64)) (w := w)) (by omega) rfl rfl (Nat.le_of_ble_eq_true rfl) dX12_isAnswer_5 ?_
  refine jr_if_eq (tgt := 62) (nxt := 11) dX12_isAnswer_8 (by decide) rfl (fun hc => ?_) (fun hc => ?_)
  · replace h := drvT hc h
    refine jr_iconst (v := (0 : Int32)) dX12_isAnswer_62 (by decide) ?_
    subst h
    exact jr_zret (ty := .boolean) rfl rfl dX12_isAnswer_63
  · replace h := drvE hc h
    refine jr_lload_n dX12_isAnswer_11 rfl 1 rfl ?_
    refine jr_lconst (v := (0 : Int64)) dX12_isAnswer_12 rfl ?_
    refine jr_ldc2 (v := (9999 : Int64)) wCC_X12_93 dX12_isAnswer_13 ?_
    refine j_callSv lk_X12_81 wST_X12_within (tX12_within  (a0 := a1) (a1 := (0 : Int64)) (a2 := (9999 : Int64)) (w := w)) (by omega) rfl rfl (Nat.le_of_ble_eq_true rfl) dX12_isAnswer_16 ?_
    refine jr_if_eq (tgt := 62) (nxt := 22) dX12_isAnswer_19 (by decide) rfl (fun hc => ?_) (fun hc => ?_)
    · replace h := drvT hc h
      refine jr_iconst (v := (0 : Int32)) dX12_isAnswer_62 (by decide) ?_
      subst h
      exact jr_zret (ty := .boolean) rfl rfl dX12_isAnswer_63
    · replace h := drvE hc h
      refine jr_lload dX12_isAnswer_22 2 rfl ?_
      refine jr_lconst (v := (0 : Int64)) dX12_isAnswer_24 rfl ?_
      refine jr_ldc2 (v := (9 : Int64)) wCC_X12_89 dX12_isAnswer_25 ?_
      refine j_callSv lk_X12_81 wST_X12_within (tX12_within  (a0 := a2) (a1 := (0 : Int64)) (a2 := (9 : Int64)) (w := w)) (by omega) rfl rfl (Nat.le_of_ble_eq_true rfl) dX12_isAnswer_28 ?_
      refine jr_if_eq (tgt := 62) (nxt := 34) dX12_isAnswer_31 (by decide) rfl (fun hc => ?_) (fun hc => ?_)
      · replace h := drvT hc h
        refine jr_iconst (v := (0 : Int32)) dX12_isAnswer_62 (by decide) ?_
        subst h
        exact jr_zret (ty := .boolean) rfl rfl dX12_isAnswer_63
      · replace h := drvE hc h
        refine jr_lload dX12_isAnswer_34 3 rfl ?_
        refine jr_lconst (v := (0 : Int64)) dX12_isAnswer_36 rfl ?_
        refine jr_ldc2 (v := (2 : Int64)) wCC_X12_306 dX12_isAnswer_37 ?_
        refine j_callSv lk_X12_81 wST_X12_within (tX12_within  (a0 := a3) (a1 := (0 : Int64)) (a2 := (2 : Int64)) (w := w)) (by omega) rfl rfl (Nat.le_of_ble_eq_true rfl) dX12_isAnswer_40 ?_
        refine jr_if_eq (tgt := 62) (nxt := 46) dX12_isAnswer_43 (by decide) rfl (fun hc => ?_) (fun hc => ?_)
        · replace h := drvT hc h
          refine jr_iconst (v := (0 : Int32)) dX12_isAnswer_62 (by decide) ?_
          subst h
          exact jr_zret (ty := .boolean) rfl rfl dX12_isAnswer_63
        · replace h := drvE hc h
          refine jr_lload dX12_isAnswer_46 4 rfl ?_
          refine jr_lconst (v := (0 : Int64)) dX12_isAnswer_48 rfl ?_
          refine jr_ldc2 (v := (2 : Int64)) wCC_X12_306 dX12_isAnswer_49 ?_
          refine j_callSv lk_X12_81 wST_X12_within (tX12_within  (a0 := a4) (a1 := (0 : Int64)) (a2 := (2 : Int64)) (w := w)) (by omega) rfl rfl (Nat.le_of_ble_eq_true rfl) dX12_isAnswer_52 ?_
          refine jr_if_eq (tgt := 62) (nxt := 58) dX12_isAnswer_55 (by decide) rfl (fun hc => ?_) (fun hc => ?_)
          · replace h := drvT hc h
            refine jr_iconst (v := (0 : Int32)) dX12_isAnswer_62 (by decide) ?_
            subst h
            exact jr_zret (ty := .boolean) rfl rfl dX12_isAnswer_63
          · replace h := drvE hc h
            refine jr_iconst (v := (1 : Int32)) dX12_isAnswer_58 (by decide) ?_
            refine jr_goto (tgt := 63) dX12_isAnswer_59 (by decide) ?_
            subst h
            exact jr_zret (ty := .boolean) rfl rfl dX12_isAnswer_63
set_option maxHeartbeats 4000000 in
set_option maxRecDepth 100000 in
theorem hbX12_plain_11 {n : Nat} {p0 : Int64} {p4 : Int32} {w : jWd} {r : Int64} {rec : Int64 → Int32 → Option Int64} 
    (hrec : ∀ (x2 : Int64) (x5 : Int32) , rec x2 x5 = some r → J MX12_plain 3 w 11 [(0, .long p0), (2, .long x2), (4, .int p4), (5, .int x5)] [] (some (.long r)) w) : ∀ (x2 : Int64) (x5 : Int32) , bX12_plain_11 n p0 p4 rec x2 x5 = some r → J MX12_plain 3 w 11 [(0, .long p0), (2, .long x2), (4, .int p4), (5, .int x5)] [] (some (.long r)) w := by
  intro x2 x5 h
  unfold bX12_plain_11 at h
  refine jr_iload dX12_plain_11 3 rfl ?_
  refine jr_iload dX12_plain_13 2 rfl ?_
  refine jr_icmp_ge (tgt := 43) (nxt := 18) dX12_plain_15 (by decide) rfl (fun hc => ?_) (fun hc => ?_)
  · replace h := drvT hc h
    refine jr_lload_n dX12_plain_43 rfl 1 rfl ?_
    obtain rfl := drvS1 h
    exact jr_lret rfl dX12_plain_44
  · replace h := drvE hc h
    refine jr_lload_n dX12_plain_18 rfl 1 rfl ?_
    refine jr_lload_n dX12_plain_19 rfl 0 rfl ?_
    refine jr_iload dX12_plain_20 3 rfl ?_
    refine j_callSv lk_X12_73 wST_X12_wordAt (tX12_wordAt  (a0 := p0) (a1 := x5) (w := w)) (by omega) rfl rfl (Nat.le_of_ble_eq_true rfl) dX12_plain_22 ?_
    refine jr_i2l dX12_plain_25 ?_
    refine jr_bipush (v := (56 : Int32)) dX12_plain_26 (by decide) ?_
    refine jr_bipush (v := (8 : Int32)) dX12_plain_28 (by decide) ?_
    refine jr_iload dX12_plain_30 3 rfl ?_
    refine jr_imul dX12_plain_32 ?_
    refine jr_isub dX12_plain_33 ?_
    refine jr_lshl dX12_plain_34 ?_
    refine jr_lor dX12_plain_35 ?_
    refine j_nml (fun x2_3 e_4 => ?_)
    replace h := drvL e_4 h
    refine jr_lstore_n (lv' := [(2, .long x2_3), (0, .long p0), (4, .int p4), (5, .int x5)]) dX12_plain_36 rfl (by decide) rfl ?_
    refine jr_iincN (c := (1 : Int32)) (lv' := fun (x5_5 : Int32) => [(5, .int x5_5), (2, .long x2_3), (0, .long p0), (4, .int p4)]) dX12_plain_37 (by decide) 3 rfl (by decide) (fun _ => rfl) (fun x5_5 e_6 => ?_)
    replace h := drvL e_6 h
    refine jr_goto (tgt := 11) dX12_plain_40 (by decide) ?_
    refine jr_sub [2, 1, 3, 0] rfl ?_
    exact hrec _ _ h
theorem hlX12_plain_11 {n : Nat} {p0 : Int64} {p4 : Int32} {w : jWd} {r : Int64}  : ∀ (c : Nat) (x2 : Int64) (x5 : Int32) , lX12_plain_11 n p0 p4 c x2 x5 = some r → J MX12_plain 3 w 11 [(0, .long p0), (2, .long x2), (4, .int p4), (5, .int x5)] [] (some (.long r)) w := by
  intro c
  induction c with
  | zero => intro x2 x5 h; cases h
  | succ c ih => intro x2 x5 h; exact hbX12_plain_11 (n := n) ih _ _ h
set_option maxHeartbeats 4000000 in
set_option maxRecDepth 100000 in
theorem tX12_plain {n : Nat} {a0 : Int64} {w : jWd} {r : Int64}  (h : fX12_plain n a0 = some r) : JM yX12_plain MX12_plain 3 [.long a0] w (some (.long r)) w := by
  refine jm_of pl_X12 rfl (Nat.le_of_ble_eq_true rfl) ?_
  show J MX12_plain 3 w 0 [(0, .long a0)] [] (some (.long r)) w
  unfold fX12_plain at h
  refine jr_lconst (v := (0 : Int64)) dX12_plain_0 rfl ?_
  refine jr_lstore_n (lv' := [(2, .long (0 : Int64)), (0, .long a0)]) dX12_plain_1 rfl (by decide) rfl ?_
  refine jr_lload_n dX12_plain_2 rfl 1 rfl ?_
  obtain ⟨r_2, hq_1, h⟩ := drvB h
  refine j_callSv lk_X12_77 wST_X12_lengthOf (tX12_lengthOf  hq_1) (by omega) rfl rfl (Nat.le_of_ble_eq_true rfl) dX12_plain_3 ?_
  refine jr_istore (lv' := [(4, .int r_2), (2, .long (0 : Int64)), (0, .long a0)]) dX12_plain_6 (by decide) rfl ?_
  refine jr_iconst (v := (0 : Int32)) dX12_plain_8 (by decide) ?_
  refine jr_istore (lv' := [(5, .int (0 : Int32)), (4, .int r_2), (2, .long (0 : Int64)), (0, .long a0)]) dX12_plain_9 (by decide) rfl ?_
  refine jr_sub [3, 2, 1, 0] rfl ?_
  refine hlX12_plain_11   _ _ _ h
set_option maxHeartbeats 4000000 in
set_option maxRecDepth 100000 in
theorem tX12_answers {n : Nat} {a0 : Int32} {a1 : Int32} {a2 : Int32} {a3 : Int32} {a4 : Int32} {a5 : Int64} {w : jWd} {w' : jWd}  (h : fX12_answers n a0 a1 a2 a3 a4 a5 w = some w') : JM yX12_answers MX12_answers 4 [.ref 205, .int a0, .int a1, .int a2, .int a3, .int a4, .long a5] w none w' := by
  refine jm_of pl_X12 rfl (Nat.le_of_ble_eq_true rfl) ?_
  show J MX12_answers 4 w 0 [(0, .ref 205), (1, .int a0), (2, .int a1), (3, .int a2), (4, .int a3), (5, .int a4), (6, .long a5)] [] none w'
  unfold fX12_answers at h
  refine jr_aload_n dX12_answers_0 rfl 0 rfl ?_
  refine gf_X12_17 (r := 207) rfl (rfl : kd 205 = 11) rfl dX12_answers_1 ?_
  refine jr_sipush (v := (547 : Int32)) dX12_answers_4 (by decide) ?_
  refine jr_ialdL (k := 547) (rfl : kd 207 = 13) (vp_lit (by decide) (by decide)) (by decide) dX12_answers_7 ?_
  refine j_nmi (fun x8_1 e_2 => ?_)
  replace h := drvL e_2 h
  refine jr_istore (lv' := [(8, .int x8_1), (0, .ref 205), (1, .int a0), (2, .int a1), (3, .int a2), (4, .int a3), (5, .int a4), (6, .long a5)]) dX12_answers_8 (by decide) rfl ?_
  refine jr_aload_n dX12_answers_10 rfl 1 rfl ?_
  refine gf_X12_17 (r := 207) rfl (rfl : kd 205 = 11) rfl dX12_answers_11 ?_
  refine jr_sipush (v := (548 : Int32)) dX12_answers_14 (by decide) ?_
  refine jr_iload dX12_answers_17 0 rfl ?_
  refine jr_iadd dX12_answers_19 ?_
  refine jr_iload_n dX12_answers_20 rfl 2 rfl ?_
  obtain ⟨hg_5, h⟩ := drvG h
  refine jr_iast (rfl : kd 207 = 13) hg_5 dX12_answers_21 ?_
  refine j_nmw (fun w_3 e_4 => ?_)
  replace h := drvL e_4 h
  refine jr_aload_n dX12_answers_22 rfl 1 rfl ?_
  refine gf_X12_17 (r := 207) rfl (rfl : kd 205 = 11) rfl dX12_answers_23 ?_
  refine jr_sipush (v := (608 : Int32)) dX12_answers_26 (by decide) ?_
  refine jr_iload dX12_answers_29 0 rfl ?_
  refine jr_iadd dX12_answers_31 ?_
  refine jr_iload_n dX12_answers_32 rfl 3 rfl ?_
  obtain ⟨hg_8, h⟩ := drvG h
  refine jr_iast (rfl : kd 207 = 13) hg_8 dX12_answers_33 ?_
  refine j_nmw (fun w_6 e_7 => ?_)
  replace h := drvL e_7 h
  refine jr_aload_n dX12_answers_34 rfl 1 rfl ?_
  refine gf_X12_17 (r := 207) rfl (rfl : kd 205 = 11) rfl dX12_answers_35 ?_
  refine jr_sipush (v := (668 : Int32)) dX12_answers_38 (by decide) ?_
  refine jr_iload dX12_answers_41 0 rfl ?_
  refine jr_iadd dX12_answers_43 ?_
  refine jr_iload_n dX12_answers_44 rfl 4 rfl ?_
  obtain ⟨hg_11, h⟩ := drvG h
  refine jr_iast (rfl : kd 207 = 13) hg_11 dX12_answers_45 ?_
  refine j_nmw (fun w_9 e_10 => ?_)
  replace h := drvL e_10 h
  refine jr_aload_n dX12_answers_46 rfl 1 rfl ?_
  refine gf_X12_17 (r := 207) rfl (rfl : kd 205 = 11) rfl dX12_answers_47 ?_
  refine jr_sipush (v := (728 : Int32)) dX12_answers_50 (by decide) ?_
  refine jr_iload dX12_answers_53 0 rfl ?_
  refine jr_iadd dX12_answers_55 ?_
  refine jr_iload dX12_answers_56 5 rfl ?_
  obtain ⟨hg_14, h⟩ := drvG h
  refine jr_iast (rfl : kd 207 = 13) hg_14 dX12_answers_58 ?_
  refine j_nmw (fun w_12 e_13 => ?_)
  replace h := drvL e_13 h
  refine jr_aload_n dX12_answers_59 rfl 1 rfl ?_
  refine gf_X12_17 (r := 207) rfl (rfl : kd 205 = 11) rfl dX12_answers_60 ?_
  refine jr_sipush (v := (788 : Int32)) dX12_answers_63 (by decide) ?_
  refine jr_iload dX12_answers_66 0 rfl ?_
  refine jr_iadd dX12_answers_68 ?_
  refine jr_iload dX12_answers_69 6 rfl ?_
  obtain ⟨hg_17, h⟩ := drvG h
  refine jr_iast (rfl : kd 207 = 13) hg_17 dX12_answers_71 ?_
  refine j_nmw (fun w_15 e_16 => ?_)
  replace h := drvL e_16 h
  refine jr_aload_n dX12_answers_72 rfl 1 rfl ?_
  refine gf_X12_20 (r := 208) rfl (rfl : kd 205 = 11) rfl dX12_answers_73 ?_
  refine jr_sipush (v := (724 : Int32)) dX12_answers_76 (by decide) ?_
  refine jr_iload dX12_answers_79 0 rfl ?_
  refine jr_iadd dX12_answers_81 ?_
  refine jr_lload dX12_answers_82 7 rfl ?_
  obtain ⟨r_19, hq_18, h⟩ := drvB h
  refine j_callSv lk_X12_101 wST_X12_plain (tX12_plain  hq_18) (by omega) rfl rfl (Nat.le_of_ble_eq_true rfl) dX12_answers_84 ?_
  obtain ⟨hg_22, h⟩ := drvG h
  refine jr_last (rfl : kd 208 = 14) hg_22 dX12_answers_87 ?_
  refine j_nmw (fun w_20 e_21 => ?_)
  replace h := drvL e_21 h
  refine jr_aload_n dX12_answers_88 rfl 1 rfl ?_
  refine gf_X12_17 (r := 207) rfl (rfl : kd 205 = 11) rfl dX12_answers_89 ?_
  refine jr_sipush (v := (547 : Int32)) dX12_answers_92 (by decide) ?_
  refine jr_dup2_11 dX12_answers_95 rfl rfl ?_
  refine jr_ialdL (k := 547) (rfl : kd 207 = 13) (vp_lit (by decide) (by decide)) (by decide) dX12_answers_96 ?_
  refine jr_iconst (v := (1 : Int32)) dX12_answers_97 (by decide) ?_
  refine jr_iadd dX12_answers_98 ?_
  refine jr_iastL (k := 547) (rfl : kd 207 = 13) (vp_lit (by decide) (by decide)) (by decide) dX12_answers_99 ?_
  refine j_nmw (fun w_23 e_24 => ?_)
  replace h := drvL e_24 h
  obtain rfl := drvS1 h
  exact jr_vret rfl dX12_answers_100
set_option maxHeartbeats 4000000 in
set_option maxRecDepth 100000 in
theorem tX12_answer {n : Nat} {a0 : Int32} {a1 : Int32} {a2 : Int32} {a3 : Int32} {a4 : Int32} {a5 : Int64} {w : jWd} {r : Int32} {w' : jWd}  (h : fX12_answer n a0 a1 a2 a3 a4 a5 w = some (r, w')) : JM yX12_answer MX12_answer 5 [.ref 205, .int a0, .int a1, .int a2, .int a3, .int a4, .long a5] w (some (.int r)) w' := by
  refine jm_of pl_X12 rfl (Nat.le_of_ble_eq_true rfl) ?_
  show J MX12_answer 5 w 0 [(0, .ref 205), (1, .int a0), (2, .int a1), (3, .int a2), (4, .int a3), (5, .int a4), (6, .long a5)] [] (some (.int r)) w'
  unfold fX12_answer at h
  refine jr_aload_n dX12_answer_0 rfl 0 rfl ?_
  refine jr_iconst (v := (0 : Int32)) dX12_answer_1 (by decide) ?_
  refine pf_X12_1 rfl (rfl : kd 205 = 11) dX12_answer_2 ?_
  refine j_nmw (fun w_1 e_2 => ?_)
  replace h := drvL e_2 h
  refine jr_iload_n dX12_answer_5 rfl 1 rfl ?_
  refine jr_i2l dX12_answer_6 ?_
  refine jr_iload_n dX12_answer_7 rfl 2 rfl ?_
  refine jr_i2l dX12_answer_8 ?_
  refine jr_iload_n dX12_answer_9 rfl 3 rfl ?_
  refine jr_i2l dX12_answer_10 ?_
  refine jr_iload dX12_answer_11 4 rfl ?_
  refine jr_i2l dX12_answer_13 ?_
  refine jr_iload dX12_answer_14 5 rfl ?_
  refine jr_i2l dX12_answer_16 ?_
  refine j_callSv lk_X12_313 wST_X12_isAnswer (tX12_isAnswer  (a0 := ((a0).toInt64)) (a1 := ((a1).toInt64)) (a2 := ((a2).toInt64)) (a3 := ((a3).toInt64)) (a4 := ((a4).toInt64)) (w := w_1)) (by omega) rfl rfl (Nat.le_of_ble_eq_true rfl) dX12_answer_17 ?_
  obtain ⟨j38_3, ej38_3, h⟩ := drvF h
  have hj38_3 : ∀ (_ : Unit), j38_3 = some (r, w') → J MX12_answer 5 w_1 38 [(0, .ref 205)] [] (some (.int r)) w' := by
    intro _ h
    rw [ej38_3] at h
    try dsimp only at h
    refine jr_aload_n dX12_answer_38 rfl 0 rfl ?_
    refine jr_bipush (v := (-3 : Int32)) dX12_answer_39 (by decide) ?_
    obtain ⟨r_6, w_5, hq_4, h⟩ := drvB2 h
    refine j_callVv lk_X12_85 wIM_X12_no wSE_X12_no (rfl : kd 205 = 11) (by decide) rfl (tX12_no  hq_4) (by omega) rfl rfl (Nat.le_of_ble_eq_true rfl) dX12_answer_41 ?_
    obtain ⟨rfl, rfl⟩ := drvS2 h
    exact jr_iret rfl dX12_answer_44
  refine jr_if_eq (tgt := 38) (nxt := 23) dX12_answer_20 (by decide) rfl (fun hc => ?_) (fun hc => ?_)
  · replace h := drvT hc h
    refine jr_sub [0] rfl ?_
    exact (hj38_3 ()) h
  · replace h := drvE hc h
    refine jr_lload dX12_answer_23 6 rfl ?_
    refine jr_lconst (v := (0 : Int64)) dX12_answer_25 rfl ?_
    refine jr_lcmp dX12_answer_26 ?_
    obtain ⟨j45_7, ej45_7, h⟩ := drvF h
    have hj45_7 : ∀ (_ : Unit), j45_7 = some (r, w') → J MX12_answer 5 w_1 45 [(0, .ref 205), (1, .int a0), (2, .int a1), (3, .int a2), (4, .int a3), (5, .int a4), (6, .long a5)] [] (some (.int r)) w' := by
      intro _ h
      rw [ej45_7] at h
      try dsimp only at h
      refine jr_aload_n dX12_answer_45 rfl 0 rfl ?_
      refine gf_X12_17 (r := 207) rfl (rfl : kd 205 = 11) rfl dX12_answer_46 ?_
      refine jr_sipush (v := (547 : Int32)) dX12_answer_49 (by decide) ?_
      refine jr_ialdL (k := 547) (rfl : kd 207 = 13) (vp_lit (by decide) (by decide)) (by decide) dX12_answer_52 ?_
      refine jr_bipush (v := (60 : Int32)) dX12_answer_53 (by decide) ?_
      refine jr_icmp_ne (tgt := 65) (nxt := 58) dX12_answer_55 (by decide) rfl (fun hc => ?_) (fun hc => ?_)
      · replace h := drvE hc h
        refine jr_aload_n dX12_answer_65 rfl 0 rfl ?_
        refine jr_iload_n dX12_answer_66 rfl 1 rfl ?_
        refine jr_iload_n dX12_answer_67 rfl 2 rfl ?_
        refine jr_iload_n dX12_answer_68 rfl 3 rfl ?_
        refine jr_iload dX12_answer_69 4 rfl ?_
        refine jr_iload dX12_answer_71 5 rfl ?_
        refine jr_lload dX12_answer_73 6 rfl ?_
        obtain ⟨w_9, hq_8, h⟩ := drvB h
        refine j_callVn lk_X12_317 wIM_X12_answers wSE_X12_answers (rfl : kd 205 = 11) (by decide) rfl (tX12_answers  hq_8) (by omega) rfl rfl (Nat.le_of_ble_eq_true rfl) dX12_answer_75 ?_
        refine jr_aload_n dX12_answer_78 rfl 0 rfl ?_
        refine gf_X12_17 (r := 207) rfl (rfl : kd 205 = 11) rfl dX12_answer_79 ?_
        refine jr_sipush (v := (547 : Int32)) dX12_answer_82 (by decide) ?_
        refine jr_ialdL (k := 547) (rfl : kd 207 = 13) (vp_lit (by decide) (by decide)) (by decide) dX12_answer_85 ?_
        refine jr_iconst (v := (1 : Int32)) dX12_answer_86 (by decide) ?_
        refine jr_isub dX12_answer_87 ?_
        obtain ⟨rfl, rfl⟩ := drvS2 h
        exact jr_iret rfl dX12_answer_88
      · replace h := drvT hc h
        refine jr_aload_n dX12_answer_58 rfl 0 rfl ?_
        refine jr_bipush (v := (-4 : Int32)) dX12_answer_59 (by decide) ?_
        obtain ⟨r_12, w_11, hq_10, h⟩ := drvB2 h
        refine j_callVv lk_X12_85 wIM_X12_no wSE_X12_no (rfl : kd 205 = 11) (by decide) rfl (tX12_no  hq_10) (by omega) rfl rfl (Nat.le_of_ble_eq_true rfl) dX12_answer_61 ?_
        obtain ⟨rfl, rfl⟩ := drvS2 h
        exact jr_iret rfl dX12_answer_64
    refine jr_if_eq (tgt := 45) (nxt := 30) dX12_answer_27 (by decide) rfl (fun hc => ?_) (fun hc => ?_)
    · replace h := drvT hc h
      refine jr_sub [0, 1, 2, 3, 4, 5, 6] rfl ?_
      exact (hj45_7 ()) h
    · replace h := drvE hc h
      refine jr_lload dX12_answer_30 6 rfl ?_
      obtain ⟨r_14, hq_13, h⟩ := drvB h
      refine j_callSv lk_X12_77 wST_X12_lengthOf (tX12_lengthOf  hq_13) (by omega) rfl rfl (Nat.le_of_ble_eq_true rfl) dX12_answer_32 ?_
      refine jr_if_ne (tgt := 45) (nxt := 38) dX12_answer_35 (by decide) rfl (fun hc => ?_) (fun hc => ?_)
      · replace h := drvE hc h
        refine jr_sub [0, 1, 2, 3, 4, 5, 6] rfl ?_
        exact (hj45_7 ()) h
      · replace h := drvT hc h
        refine jr_sub [0] rfl ?_
        exact (hj38_3 ()) h
set_option maxHeartbeats 4000000 in
set_option maxRecDepth 100000 in
theorem hbX12_weightOf_4 {n : Nat} {p1 : Int32} {w : jWd} {r : Int32} {rec : Int32 → Int32 → Option Int32} 
    (hrec : ∀ (x2 : Int32) (x3 : Int32) , rec x2 x3 = some r → J MX12_weightOf 1 w 4 [(0, .ref 205), (1, .int p1), (2, .int x2), (3, .int x3)] [] (some (.int r)) w) : ∀ (x2 : Int32) (x3 : Int32) , bX12_weightOf_4 n p1 w rec x2 x3 = some r → J MX12_weightOf 1 w 4 [(0, .ref 205), (1, .int p1), (2, .int x2), (3, .int x3)] [] (some (.int r)) w := by
  intro x2 x3 h
  unfold bX12_weightOf_4 at h
  refine jr_iload_n dX12_weightOf_4 rfl 3 rfl ?_
  refine jr_aload_n dX12_weightOf_5 rfl 0 rfl ?_
  refine gf_X12_17 (r := 207) rfl (rfl : kd 205 = 11) rfl dX12_weightOf_6 ?_
  refine jr_sipush (v := (987 : Int32)) dX12_weightOf_9 (by decide) ?_
  refine jr_ialdL (k := 987) (rfl : kd 207 = 13) (vp_lit (by decide) (by decide)) (by decide) dX12_weightOf_12 ?_
  refine jr_icmp_ge (tgt := 48) (nxt := 16) dX12_weightOf_13 (by decide) rfl (fun hc => ?_) (fun hc => ?_)
  · replace h := drvT hc h
    refine jr_iload_n dX12_weightOf_48 rfl 2 rfl ?_
    obtain rfl := drvS1 h
    exact jr_iret rfl dX12_weightOf_49
  · replace h := drvE hc h
    refine jr_iload_n dX12_weightOf_16 rfl 2 rfl ?_
    refine jr_iload_n dX12_weightOf_17 rfl 1 rfl ?_
    refine jr_iload_n dX12_weightOf_18 rfl 3 rfl ?_
    refine jr_ishr dX12_weightOf_19 ?_
    refine jr_iconst (v := (1 : Int32)) dX12_weightOf_20 (by decide) ?_
    refine jr_iand dX12_weightOf_21 ?_
    refine jr_iconst (v := (1 : Int32)) dX12_weightOf_22 (by decide) ?_
    refine jr_icmp_ne (tgt := 39) (nxt := 26) dX12_weightOf_23 (by decide) rfl (fun hc => ?_) (fun hc => ?_)
    · replace h := drvE hc h
      refine jr_iconst (v := (0 : Int32)) dX12_weightOf_39 (by decide) ?_
      refine jr_iadd dX12_weightOf_40 ?_
      refine j_nmi (fun x2_1 e_2 => ?_)
      replace h := drvL e_2 h
      refine jr_istore_n (lv' := [(2, .int x2_1), (0, .ref 205), (1, .int p1), (3, .int x3)]) dX12_weightOf_41 rfl (by decide) rfl ?_
      refine jr_iincN (c := (1 : Int32)) (lv' := fun (x3_3 : Int32) => [(3, .int x3_3), (2, .int x2_1), (0, .ref 205), (1, .int p1)]) dX12_weightOf_42 (by decide) 3 rfl (by decide) (fun _ => rfl) (fun x3_3 e_4 => ?_)
      replace h := drvL e_4 h
      refine jr_goto (tgt := 4) dX12_weightOf_45 (by decide) ?_
      refine jr_sub [2, 3, 1, 0] rfl ?_
      exact hrec _ _ h
    · replace h := drvT hc h
      refine jr_aload_n dX12_weightOf_26 rfl 0 rfl ?_
      refine gf_X12_17 (r := 207) rfl (rfl : kd 205 = 11) rfl dX12_weightOf_27 ?_
      refine jr_sipush (v := (988 : Int32)) dX12_weightOf_30 (by decide) ?_
      refine jr_iload_n dX12_weightOf_33 rfl 3 rfl ?_
      refine jr_iadd dX12_weightOf_34 ?_
      obtain ⟨hg_5, h⟩ := drvG h
      refine jr_iald (rfl : kd 207 = 13) hg_5 dX12_weightOf_35 ?_
      refine jr_goto (tgt := 40) dX12_weightOf_36 (by decide) ?_
      refine jr_iadd dX12_weightOf_40 ?_
      refine j_nmi (fun x2_6 e_7 => ?_)
      replace h := drvL e_7 h
      refine jr_istore_n (lv' := [(2, .int x2_6), (0, .ref 205), (1, .int p1), (3, .int x3)]) dX12_weightOf_41 rfl (by decide) rfl ?_
      refine jr_iincN (c := (1 : Int32)) (lv' := fun (x3_8 : Int32) => [(3, .int x3_8), (2, .int x2_6), (0, .ref 205), (1, .int p1)]) dX12_weightOf_42 (by decide) 3 rfl (by decide) (fun _ => rfl) (fun x3_8 e_9 => ?_)
      replace h := drvL e_9 h
      refine jr_goto (tgt := 4) dX12_weightOf_45 (by decide) ?_
      refine jr_sub [2, 3, 1, 0] rfl ?_
      exact hrec _ _ h
theorem hlX12_weightOf_4 {n : Nat} {p1 : Int32} {w : jWd} {r : Int32}  : ∀ (c : Nat) (x2 : Int32) (x3 : Int32) , lX12_weightOf_4 n p1 w c x2 x3 = some r → J MX12_weightOf 1 w 4 [(0, .ref 205), (1, .int p1), (2, .int x2), (3, .int x3)] [] (some (.int r)) w := by
  intro c
  induction c with
  | zero => intro x2 x3 h; cases h
  | succ c ih => intro x2 x3 h; exact hbX12_weightOf_4 (n := n) ih _ _ h
set_option maxHeartbeats 4000000 in
set_option maxRecDepth 100000 in
theorem tX12_weightOf {n : Nat} {a0 : Int32} {w : jWd} {r : Int32}  (h : fX12_weightOf n a0 w = some r) : JM yX12_weightOf MX12_weightOf 1 [.ref 205, .int a0] w (some (.int r)) w := by
  refine jm_of pl_X12 rfl (Nat.le_of_ble_eq_true rfl) ?_
  show J MX12_weightOf 1 w 0 [(0, .ref 205), (1, .int a0)] [] (some (.int r)) w
  unfold fX12_weightOf at h
  refine jr_iconst (v := (0 : Int32)) dX12_weightOf_0 (by decide) ?_
  refine jr_istore_n (lv' := [(2, .int (0 : Int32)), (0, .ref 205), (1, .int a0)]) dX12_weightOf_1 rfl (by decide) rfl ?_
  refine jr_iconst (v := (0 : Int32)) dX12_weightOf_2 (by decide) ?_
  refine jr_istore_n (lv' := [(3, .int (0 : Int32)), (2, .int (0 : Int32)), (0, .ref 205), (1, .int a0)]) dX12_weightOf_3 rfl (by decide) rfl ?_
  refine jr_sub [2, 3, 1, 0] rfl ?_
  refine hlX12_weightOf_4   _ _ _ h
set_option maxHeartbeats 4000000 in
set_option maxRecDepth 100000 in
theorem hbX12_saying_6 {n : Nat} {p1 : Int32} {p2 : Int32} {p3 : Int32} {w : jWd} {r : Int32} {rec : Int32 → Int32 → Option Int32} 
    (hrec : ∀ (x4 : Int32) (x5 : Int32) , rec x4 x5 = some r → J MX12_saying 1 w 6 [(0, .ref 205), (1, .int p1), (2, .int p2), (3, .int p3), (4, .int x4), (5, .int x5)] [] (some (.int r)) w) : ∀ (x4 : Int32) (x5 : Int32) , bX12_saying_6 n p1 p2 p3 w rec x4 x5 = some r → J MX12_saying 1 w 6 [(0, .ref 205), (1, .int p1), (2, .int p2), (3, .int p3), (4, .int x4), (5, .int x5)] [] (some (.int r)) w := by
  intro x4 x5 h
  unfold bX12_saying_6 at h
  refine jr_iload dX12_saying_6 5 rfl ?_
  refine jr_aload_n dX12_saying_8 rfl 0 rfl ?_
  refine gf_X12_17 (r := 207) rfl (rfl : kd 205 = 11) rfl dX12_saying_9 ?_
  refine jr_sipush (v := (987 : Int32)) dX12_saying_12 (by decide) ?_
  refine jr_ialdL (k := 987) (rfl : kd 207 = 13) (vp_lit (by decide) (by decide)) (by decide) dX12_saying_15 ?_
  refine jr_icmp_ge (tgt := 64) (nxt := 19) dX12_saying_16 (by decide) rfl (fun hc => ?_) (fun hc => ?_)
  · replace h := drvT hc h
    refine jr_iload dX12_saying_64 4 rfl ?_
    obtain rfl := drvS1 h
    exact jr_iret rfl dX12_saying_66
  · replace h := drvE hc h
    refine jr_iload_n dX12_saying_19 rfl 1 rfl ?_
    refine jr_iload dX12_saying_20 5 rfl ?_
    refine jr_ishr dX12_saying_22 ?_
    refine jr_iconst (v := (1 : Int32)) dX12_saying_23 (by decide) ?_
    refine jr_iand dX12_saying_24 ?_
    refine jr_iconst (v := (1 : Int32)) dX12_saying_25 (by decide) ?_
    refine jr_icmp_ne (tgt := 58) (nxt := 29) dX12_saying_26 (by decide) rfl (fun hc => ?_) (fun hc => ?_)
    · replace h := drvE hc h
      refine jr_iincN (c := (1 : Int32)) (lv' := fun (x5_1 : Int32) => [(5, .int x5_1), (0, .ref 205), (1, .int p1), (2, .int p2), (3, .int p3), (4, .int x4)]) dX12_saying_58 (by decide) 5 rfl (by decide) (fun _ => rfl) (fun x5_1 e_2 => ?_)
      replace h := drvL e_2 h
      refine jr_goto (tgt := 6) dX12_saying_61 (by decide) ?_
      refine jr_sub [1, 2, 3, 4, 5, 0] rfl ?_
      exact hrec _ _ h
    · replace h := drvT hc h
      refine jr_aload_n dX12_saying_29 rfl 0 rfl ?_
      refine gf_X12_17 (r := 207) rfl (rfl : kd 205 = 11) rfl dX12_saying_30 ?_
      refine jr_sipush (v := (996 : Int32)) dX12_saying_33 (by decide) ?_
      refine jr_bipush (v := (16 : Int32)) dX12_saying_36 (by decide) ?_
      refine jr_iload dX12_saying_38 5 rfl ?_
      refine jr_imul dX12_saying_40 ?_
      refine jr_iadd dX12_saying_41 ?_
      refine jr_iload_n dX12_saying_42 rfl 2 rfl ?_
      refine jr_iadd dX12_saying_43 ?_
      obtain ⟨hg_3, h⟩ := drvG h
      refine jr_iald (rfl : kd 207 = 13) hg_3 dX12_saying_44 ?_
      refine jr_iload_n dX12_saying_45 rfl 3 rfl ?_
      refine jr_icmp_ne (tgt := 58) (nxt := 49) dX12_saying_46 (by decide) rfl (fun hc => ?_) (fun hc => ?_)
      · replace h := drvE hc h
        refine jr_iincN (c := (1 : Int32)) (lv' := fun (x5_4 : Int32) => [(5, .int x5_4), (0, .ref 205), (1, .int p1), (2, .int p2), (3, .int p3), (4, .int x4)]) dX12_saying_58 (by decide) 5 rfl (by decide) (fun _ => rfl) (fun x5_4 e_5 => ?_)
        replace h := drvL e_5 h
        refine jr_goto (tgt := 6) dX12_saying_61 (by decide) ?_
        refine jr_sub [1, 2, 3, 4, 5, 0] rfl ?_
        exact hrec _ _ h
      · replace h := drvT hc h
        refine jr_iload dX12_saying_49 4 rfl ?_
        refine jr_iconst (v := (1 : Int32)) dX12_saying_51 (by decide) ?_
        refine jr_iload dX12_saying_52 5 rfl ?_
        refine jr_ishl dX12_saying_54 ?_
        refine jr_ior dX12_saying_55 ?_
        refine j_nmi (fun x4_6 e_7 => ?_)
        replace h := drvL e_7 h
        refine jr_istore (lv' := [(4, .int x4_6), (0, .ref 205), (1, .int p1), (2, .int p2), (3, .int p3), (5, .int x5)]) dX12_saying_56 (by decide) rfl ?_
        refine jr_iincN (c := (1 : Int32)) (lv' := fun (x5_8 : Int32) => [(5, .int x5_8), (4, .int x4_6), (0, .ref 205), (1, .int p1), (2, .int p2), (3, .int p3)]) dX12_saying_58 (by decide) 5 rfl (by decide) (fun _ => rfl) (fun x5_8 e_9 => ?_)
        replace h := drvL e_9 h
        refine jr_goto (tgt := 6) dX12_saying_61 (by decide) ?_
        refine jr_sub [2, 3, 4, 5, 1, 0] rfl ?_
        exact hrec _ _ h
theorem hlX12_saying_6 {n : Nat} {p1 : Int32} {p2 : Int32} {p3 : Int32} {w : jWd} {r : Int32}  : ∀ (c : Nat) (x4 : Int32) (x5 : Int32) , lX12_saying_6 n p1 p2 p3 w c x4 x5 = some r → J MX12_saying 1 w 6 [(0, .ref 205), (1, .int p1), (2, .int p2), (3, .int p3), (4, .int x4), (5, .int x5)] [] (some (.int r)) w := by
  intro c
  induction c with
  | zero => intro x4 x5 h; cases h
  | succ c ih => intro x4 x5 h; exact hbX12_saying_6 (n := n) ih _ _ h
set_option maxHeartbeats 4000000 in
set_option maxRecDepth 100000 in
theorem tX12_saying {n : Nat} {a0 : Int32} {a1 : Int32} {a2 : Int32} {w : jWd} {r : Int32}  (h : fX12_saying n a0 a1 a2 w = some r) : JM yX12_saying MX12_saying 1 [.ref 205, .int a0, .int a1, .int a2] w (some (.int r)) w := by
  refine jm_of pl_X12 rfl (Nat.le_of_ble_eq_true rfl) ?_
  show J MX12_saying 1 w 0 [(0, .ref 205), (1, .int a0), (2, .int a1), (3, .int a2)] [] (some (.int r)) w
  unfold fX12_saying at h
  refine jr_iconst (v := (0 : Int32)) dX12_saying_0 (by decide) ?_
  refine jr_istore (lv' := [(4, .int (0 : Int32)), (0, .ref 205), (1, .int a0), (2, .int a1), (3, .int a2)]) dX12_saying_1 (by decide) rfl ?_
  refine jr_iconst (v := (0 : Int32)) dX12_saying_3 (by decide) ?_
  refine jr_istore (lv' := [(5, .int (0 : Int32)), (4, .int (0 : Int32)), (0, .ref 205), (1, .int a0), (2, .int a1), (3, .int a2)]) dX12_saying_4 (by decide) rfl ?_
  refine jr_sub [2, 3, 4, 5, 1, 0] rfl ?_
  refine hlX12_saying_6   _ _ _ h
set_option maxHeartbeats 4000000 in
set_option maxRecDepth 100000 in
theorem hbX12_costBy_9 {n : Nat} {p1 : Int32} {p2 : Int32} {w : jWd} {r : Int32} {rec : Int32 → Int32 → Option Int32} 
    (hrec : ∀ (x3 : Int32) (x4 : Int32) , rec x3 x4 = some r → J MX12_costBy 2 w 9 [(0, .ref 205), (1, .int p1), (2, .int p2), (3, .int x3), (4, .int x4)] [] (some (.int r)) w) : ∀ (x3 : Int32) (x4 : Int32) , bX12_costBy_9 n p1 p2 w rec x3 x4 = some r → J MX12_costBy 2 w 9 [(0, .ref 205), (1, .int p1), (2, .int p2), (3, .int x3), (4, .int x4)] [] (some (.int r)) w := by
  intro x3 x4 h
  unfold bX12_costBy_9 at h
  refine jr_iload dX12_costBy_9 4 rfl ?_
  refine jr_iconst (v := (4 : Int32)) dX12_costBy_11 (by decide) ?_
  refine jr_icmp_ge (tgt := 49) (nxt := 15) dX12_costBy_12 (by decide) rfl (fun hc => ?_) (fun hc => ?_)
  · replace h := drvT hc h
    refine jr_iload_n dX12_costBy_49 rfl 3 rfl ?_
    obtain rfl := drvS1 h
    exact jr_iret rfl dX12_costBy_50
  · replace h := drvE hc h
    refine jr_aload_n dX12_costBy_15 rfl 0 rfl ?_
    refine jr_iload_n dX12_costBy_16 rfl 1 rfl ?_
    refine jr_iload_n dX12_costBy_17 rfl 2 rfl ?_
    refine jr_iload dX12_costBy_18 4 rfl ?_
    obtain ⟨r_4, hq_3, h⟩ := drvB h
    refine j_callVv lk_X12_353 wIM_X12_saying wSE_X12_saying (rfl : kd 205 = 11) (by decide) rfl (tX12_saying  hq_3) (by omega) rfl rfl (Nat.le_of_ble_eq_true rfl) dX12_costBy_20 ?_
    refine jr_istore (lv' := [(5, .int r_4), (0, .ref 205), (1, .int p1), (2, .int p2), (3, .int x3), (4, .int x4)]) dX12_costBy_23 (by decide) rfl ?_
    refine jr_iload dX12_costBy_25 0 rfl ?_
    refine jr_iload_n dX12_costBy_27 rfl 2 rfl ?_
    refine jr_icmp_ne (tgt := 33) (nxt := 31) dX12_costBy_28 (by decide) rfl (fun hc => ?_) (fun hc => ?_)
    · replace h := drvE hc h
      refine jr_iload_n dX12_costBy_33 rfl 4 rfl ?_
      refine jr_aload_n dX12_costBy_34 rfl 1 rfl ?_
      refine gf_X12_61 (r := 220) rfl (rfl : kd 205 = 11) rfl dX12_costBy_35 ?_
      refine jr_iload dX12_costBy_38 0 rfl ?_
      obtain ⟨hg_5, h⟩ := drvG h
      refine jr_iald (rfl : kd 220 = 13) hg_5 dX12_costBy_40 ?_
      refine jr_iadd dX12_costBy_41 ?_
      refine j_nmi (fun x3_6 e_7 => ?_)
      replace h := drvL e_7 h
      refine jr_istore_n (lv' := [(3, .int x3_6), (5, .int r_4), (0, .ref 205), (1, .int p1), (2, .int p2), (4, .int x4)]) dX12_costBy_42 rfl (by decide) rfl ?_
      refine jr_iincN (c := (1 : Int32)) (lv' := fun (x4_8 : Int32) => [(4, .int x4_8), (3, .int x3_6), (5, .int r_4), (0, .ref 205), (1, .int p1), (2, .int p2)]) dX12_costBy_43 (by decide) 5 rfl (by decide) (fun _ => rfl) (fun x4_8 e_9 => ?_)
      replace h := drvL e_9 h
      refine jr_goto (tgt := 9) dX12_costBy_46 (by decide) ?_
      refine jr_sub [3, 4, 5, 1, 0] rfl ?_
      exact hrec _ _ h
    · replace h := drvT hc h
      refine jr_iconst (v := (-1 : Int32)) dX12_costBy_31 (by decide) ?_
      obtain rfl := drvS1 h
      exact jr_iret rfl dX12_costBy_32
theorem hlX12_costBy_9 {n : Nat} {p1 : Int32} {p2 : Int32} {w : jWd} {r : Int32}  : ∀ (c : Nat) (x3 : Int32) (x4 : Int32) , lX12_costBy_9 n p1 p2 w c x3 x4 = some r → J MX12_costBy 2 w 9 [(0, .ref 205), (1, .int p1), (2, .int p2), (3, .int x3), (4, .int x4)] [] (some (.int r)) w := by
  intro c
  induction c with
  | zero => intro x3 x4 h; cases h
  | succ c ih => intro x3 x4 h; exact hbX12_costBy_9 (n := n) ih _ _ h
set_option maxHeartbeats 4000000 in
set_option maxRecDepth 100000 in
theorem tX12_costBy {n : Nat} {a0 : Int32} {a1 : Int32} {w : jWd} {r : Int32}  (h : fX12_costBy n a0 a1 w = some r) : JM yX12_costBy MX12_costBy 2 [.ref 205, .int a0, .int a1] w (some (.int r)) w := by
  refine jm_of pl_X12 rfl (Nat.le_of_ble_eq_true rfl) ?_
  show J MX12_costBy 2 w 0 [(0, .ref 205), (1, .int a0), (2, .int a1)] [] (some (.int r)) w
  unfold fX12_costBy at h
  refine jr_aload_n dX12_costBy_0 rfl 0 rfl ?_
  refine jr_iload_n dX12_costBy_1 rfl 1 rfl ?_
  obtain ⟨r_2, hq_1, h⟩ := drvB h
  refine j_callVv lk_X12_350 wIM_X12_weightOf wSE_X12_weightOf (rfl : kd 205 = 11) (by decide) rfl (tX12_weightOf  hq_1) (by omega) rfl rfl (Nat.le_of_ble_eq_true rfl) dX12_costBy_2 ?_
  refine jr_istore_n (lv' := [(3, .int r_2), (0, .ref 205), (1, .int a0), (2, .int a1)]) dX12_costBy_5 rfl (by decide) rfl ?_
  refine jr_iconst (v := (0 : Int32)) dX12_costBy_6 (by decide) ?_
  refine jr_istore (lv' := [(4, .int (0 : Int32)), (3, .int r_2), (0, .ref 205), (1, .int a0), (2, .int a1)]) dX12_costBy_7 (by decide) rfl ?_
  refine jr_sub [2, 3, 4, 1, 0] rfl ?_
  refine hlX12_costBy_9   _ _ _ h
set_option maxHeartbeats 4000000 in
set_option maxRecDepth 100000 in
theorem hbX12_ask_85 {n : Nat} {p1 : Int32} {p2 : Int32} {p4 : Int32} {k146 : Int32 → jWd → (Option (Int32 × jWd))} {r : Int32} {w' : jWd} {rec : Int32 → Int32 → jWd → Option (Int32 × jWd)} (hk146 : ∀ (z3 : Int32) (w9 : jWd), k146 z3 w9 = some (r, w') → J MX12_ask 3 w9 146 [(0, .ref 205), (1, .int p1), (2, .int p2), (3, .int z3), (4, .int p4)] [] (some (.int r)) w')
    (hrec : ∀ (x3 : Int32) (x5 : Int32) (w : jWd) , rec x3 x5 w = some (r, w') → J MX12_ask 3 w 85 [(0, .ref 205), (1, .int p1), (2, .int p2), (3, .int x3), (4, .int p4), (5, .int x5)] [] (some (.int r)) w') : ∀ (x3 : Int32) (x5 : Int32) (w : jWd) , bX12_ask_85 n p1 p2 p4 k146 rec x3 x5 w = some (r, w') → J MX12_ask 3 w 85 [(0, .ref 205), (1, .int p1), (2, .int p2), (3, .int x3), (4, .int p4), (5, .int x5)] [] (some (.int r)) w' := by
  intro x3 x5 w h
  unfold bX12_ask_85 at h
  refine jr_iload dX12_ask_85 5 rfl ?_
  refine jr_bipush (v := (16 : Int32)) dX12_ask_87 (by decide) ?_
  refine jr_icmp_ge (tgt := 146) (nxt := 92) dX12_ask_89 (by decide) rfl (fun hc => ?_) (fun hc => ?_)
  · replace h := drvT hc h
    refine jr_sub [0, 1, 2, 3, 4] rfl ?_
    exact hk146 _ _ h
  · replace h := drvE hc h
    refine jr_aload_n dX12_ask_92 rfl 0 rfl ?_
    refine jr_iload dX12_ask_93 4 rfl ?_
    refine jr_iload dX12_ask_95 5 rfl ?_
    obtain ⟨r_13, hq_12, h⟩ := drvB h
    refine j_callVv lk_X12_356 wIM_X12_costBy wSE_X12_costBy (rfl : kd 205 = 11) (by decide) rfl (tX12_costBy  hq_12) (by omega) rfl rfl (Nat.le_of_ble_eq_true rfl) dX12_ask_97 ?_
    refine jr_istore (lv' := [(6, .int r_13), (0, .ref 205), (1, .int p1), (2, .int p2), (3, .int x3), (4, .int p4), (5, .int x5)]) dX12_ask_100 (by decide) rfl ?_
    refine jr_iload dX12_ask_102 0 rfl ?_
    refine jr_iconst (v := (-1 : Int32)) dX12_ask_104 (by decide) ?_
    refine jr_icmp_eq (tgt := 140) (nxt := 108) dX12_ask_105 (by decide) rfl (fun hc => ?_) (fun hc => ?_)
    · replace h := drvT hc h
      refine jr_iincN (c := (1 : Int32)) (lv' := fun (x5_14 : Int32) => [(5, .int x5_14), (6, .int r_13), (0, .ref 205), (1, .int p1), (2, .int p2), (3, .int x3), (4, .int p4)]) dX12_ask_140 (by decide) 6 rfl (by decide) (fun _ => rfl) (fun x5_14 e_15 => ?_)
      replace h := drvL e_15 h
      refine jr_goto (tgt := 85) dX12_ask_143 (by decide) ?_
      refine jr_sub [2, 3, 4, 5, 6, 0] rfl ?_
      exact hrec _ _ _ h
    · replace h := drvE hc h
      refine jr_iload_n dX12_ask_108 rfl 4 rfl ?_
      refine jr_iconst (v := (-1 : Int32)) dX12_ask_109 (by decide) ?_
      obtain ⟨j128_16, ej128_16, h⟩ := drvF h
      have hj128_16 : ∀ (_ : Unit), j128_16 = some (r, w') → J MX12_ask 3 w 128 [(0, .ref 205), (1, .int p1), (2, .int p2), (4, .int p4), (5, .int x5), (6, .int r_13)] [] (some (.int r)) w' := by
        intro _ h
        rw [ej128_16] at h
        try dsimp only at h
        refine jr_aload_n dX12_ask_128 rfl 0 rfl ?_
        refine gf_X12_61 (r := 220) rfl (rfl : kd 205 = 11) rfl dX12_ask_129 ?_
        refine jr_iload dX12_ask_132 3 rfl ?_
        refine jr_iload dX12_ask_134 5 rfl ?_
        obtain ⟨hg_19, h⟩ := drvG h
        refine jr_iast (rfl : kd 220 = 13) hg_19 dX12_ask_136 ?_
        refine j_nmw (fun w_17 e_18 => ?_)
        replace h := drvL e_18 h
        refine jr_iload dX12_ask_137 4 rfl ?_
        refine jr_istore_n (lv' := [(3, .int x5), (0, .ref 205), (1, .int p1), (2, .int p2), (4, .int p4), (5, .int x5), (6, .int r_13)]) dX12_ask_139 rfl (by decide) rfl ?_
        refine jr_iincN (c := (1 : Int32)) (lv' := fun (x5_20 : Int32) => [(5, .int x5_20), (3, .int x5), (0, .ref 205), (1, .int p1), (2, .int p2), (4, .int p4), (6, .int r_13)]) dX12_ask_140 (by decide) 5 rfl (by decide) (fun _ => rfl) (fun x5_20 e_21 => ?_)
        replace h := drvL e_21 h
        refine jr_goto (tgt := 85) dX12_ask_143 (by decide) ?_
        refine jr_sub [2, 3, 4, 1, 5, 0] rfl ?_
        exact hrec _ _ _ h
      refine jr_icmp_eq (tgt := 128) (nxt := 113) dX12_ask_110 (by decide) rfl (fun hc => ?_) (fun hc => ?_)
      · replace h := drvT hc h
        refine jr_sub [1, 2, 3, 5, 6, 0] rfl ?_
        exact (hj128_16 ()) h
      · replace h := drvE hc h
        refine jr_iload dX12_ask_113 0 rfl ?_
        refine jr_aload_n dX12_ask_115 rfl 1 rfl ?_
        refine gf_X12_61 (r := 220) rfl (rfl : kd 205 = 11) rfl dX12_ask_116 ?_
        refine jr_iload dX12_ask_119 5 rfl ?_
        obtain ⟨hg_22, h⟩ := drvG h
        refine jr_iald (rfl : kd 220 = 13) hg_22 dX12_ask_121 ?_
        refine jr_icmp_lt (tgt := 128) (nxt := 125) dX12_ask_122 (by decide) rfl (fun hc => ?_) (fun hc => ?_)
        · replace h := drvT hc h
          refine jr_sub [1, 2, 3, 5, 6, 0] rfl ?_
          exact (hj128_16 ()) h
        · replace h := drvE hc h
          refine jr_goto (tgt := 140) dX12_ask_125 (by decide) ?_
          refine jr_iincN (c := (1 : Int32)) (lv' := fun (x5_23 : Int32) => [(5, .int x5_23), (6, .int r_13), (0, .ref 205), (1, .int p1), (2, .int p2), (3, .int x3), (4, .int p4)]) dX12_ask_140 (by decide) 6 rfl (by decide) (fun _ => rfl) (fun x5_23 e_24 => ?_)
          replace h := drvL e_24 h
          refine jr_goto (tgt := 85) dX12_ask_143 (by decide) ?_
          refine jr_sub [2, 3, 4, 5, 6, 0] rfl ?_
          exact hrec _ _ _ h
theorem hlX12_ask_85 {n : Nat} {p1 : Int32} {p2 : Int32} {p4 : Int32} {k146 : Int32 → jWd → (Option (Int32 × jWd))} {r : Int32} {w' : jWd} (hk146 : ∀ (z3 : Int32) (w9 : jWd), k146 z3 w9 = some (r, w') → J MX12_ask 3 w9 146 [(0, .ref 205), (1, .int p1), (2, .int p2), (3, .int z3), (4, .int p4)] [] (some (.int r)) w') : ∀ (c : Nat) (x3 : Int32) (x5 : Int32) (w : jWd) , lX12_ask_85 n p1 p2 p4 k146 c x3 x5 w = some (r, w') → J MX12_ask 3 w 85 [(0, .ref 205), (1, .int p1), (2, .int p2), (3, .int x3), (4, .int p4), (5, .int x5)] [] (some (.int r)) w' := by
  intro c
  induction c with
  | zero => intro x3 x5 w h; cases h
  | succ c ih => intro x3 x5 w h; exact hbX12_ask_85 (n := n) hk146 ih _ _ _ h
set_option maxHeartbeats 4000000 in
set_option maxRecDepth 100000 in
theorem hbX12_ask_49 {n : Nat} {p1 : Int32} {p2 : Int32} {k152 : Int32 → jWd → (Option (Int32 × jWd))} {r : Int32} {w' : jWd} {rec : Int32 → Int32 → jWd → Option (Int32 × jWd)} (hk152 : ∀ (z3 : Int32) (w9 : jWd), k152 z3 w9 = some (r, w') → J MX12_ask 3 w9 152 [(0, .ref 205), (1, .int p1), (2, .int p2), (3, .int z3)] [] (some (.int r)) w')
    (hrec : ∀ (x3 : Int32) (x4 : Int32) (w : jWd) , rec x3 x4 w = some (r, w') → J MX12_ask 3 w 49 [(0, .ref 205), (1, .int p1), (2, .int p2), (3, .int x3), (4, .int x4)] [] (some (.int r)) w') : ∀ (x3 : Int32) (x4 : Int32) (w : jWd) , bX12_ask_49 n p1 p2 k152 rec x3 x4 w = some (r, w') → J MX12_ask 3 w 49 [(0, .ref 205), (1, .int p1), (2, .int p2), (3, .int x3), (4, .int x4)] [] (some (.int r)) w' := by
  intro x3 x4 w h
  unfold bX12_ask_49 at h
  refine jr_iload dX12_ask_49 4 rfl ?_
  refine jr_iload_n dX12_ask_51 rfl 1 rfl ?_
  refine jr_icmp_gt (tgt := 152) (nxt := 55) dX12_ask_52 (by decide) rfl (fun hc => ?_) (fun hc => ?_)
  · replace h := drvT hc h
    refine jr_sub [0, 1, 2, 3] rfl ?_
    exact hk152 _ _ h
  · replace h := drvE hc h
    refine jr_aload_n dX12_ask_55 rfl 0 rfl ?_
    refine gf_X12_61 (r := 220) rfl (rfl : kd 205 = 11) rfl dX12_ask_56 ?_
    refine jr_iload dX12_ask_59 4 rfl ?_
    refine jr_iconst (v := (0 : Int32)) dX12_ask_61 (by decide) ?_
    obtain ⟨hg_9, h⟩ := drvG h
    refine jr_iast (rfl : kd 220 = 13) hg_9 dX12_ask_62 ?_
    refine j_nmw (fun w_7 e_8 => ?_)
    replace h := drvL e_8 h
    refine jr_iconst (v := (-1 : Int32)) dX12_ask_63 (by decide) ?_
    refine jr_istore_n (lv' := [(3, .int (-1 : Int32)), (0, .ref 205), (1, .int p1), (2, .int p2), (4, .int x4)]) dX12_ask_64 rfl (by decide) rfl ?_
    refine jr_iload dX12_ask_65 4 rfl ?_
    refine jr_iload_n dX12_ask_67 rfl 2 rfl ?_
    refine jr_iconst (v := (-1 : Int32)) dX12_ask_68 (by decide) ?_
    refine jr_ixor dX12_ask_69 ?_
    refine jr_iand dX12_ask_70 ?_
    refine jr_if_ne (tgt := 146) (nxt := 74) dX12_ask_71 (by decide) rfl (fun hc => ?_) (fun hc => ?_)
    · replace h := drvE hc h
      refine jr_iincN (c := (1 : Int32)) (lv' := fun (x4_10 : Int32) => [(4, .int x4_10), (3, .int (-1 : Int32)), (0, .ref 205), (1, .int p1), (2, .int p2)]) dX12_ask_146 (by decide) 4 rfl (by decide) (fun _ => rfl) (fun x4_10 e_11 => ?_)
      replace h := drvL e_11 h
      refine jr_goto (tgt := 49) dX12_ask_149 (by decide) ?_
      refine jr_sub [2, 3, 4, 1, 0] rfl ?_
      exact hrec _ _ _ h
    · replace h := drvT hc h
      refine jr_iload dX12_ask_74 4 rfl ?_
      refine jr_if_ne (tgt := 82) (nxt := 79) dX12_ask_76 (by decide) rfl (fun hc => ?_) (fun hc => ?_)
      · replace h := drvE hc h
        refine jr_iconst (v := (0 : Int32)) dX12_ask_82 (by decide) ?_
        refine jr_istore (lv' := [(5, .int (0 : Int32)), (3, .int (-1 : Int32)), (0, .ref 205), (1, .int p1), (2, .int p2), (4, .int x4)]) dX12_ask_83 (by decide) rfl ?_
        refine jr_sub [2, 3, 4, 1, 5, 0] rfl ?_
        refine hlX12_ask_85  ?_ _ _ _ _ h
        · intro z3_26 w_25 h
          try dsimp only at h
          refine jr_iincN (c := (1 : Int32)) (lv' := fun (x4_27 : Int32) => [(4, .int x4_27), (0, .ref 205), (1, .int p1), (2, .int p2), (3, .int z3_26)]) dX12_ask_146 (by decide) 4 rfl (by decide) (fun _ => rfl) (fun x4_27 e_28 => ?_)
          replace h := drvL e_28 h
          refine jr_goto (tgt := 49) dX12_ask_149 (by decide) ?_
          refine jr_sub [1, 2, 3, 4, 0] rfl ?_
          exact hrec _ _ _ h
      · replace h := drvT hc h
        refine jr_goto (tgt := 146) dX12_ask_79 (by decide) ?_
        refine jr_iincN (c := (1 : Int32)) (lv' := fun (x4_29 : Int32) => [(4, .int x4_29), (3, .int (-1 : Int32)), (0, .ref 205), (1, .int p1), (2, .int p2)]) dX12_ask_146 (by decide) 4 rfl (by decide) (fun _ => rfl) (fun x4_29 e_30 => ?_)
        replace h := drvL e_30 h
        refine jr_goto (tgt := 49) dX12_ask_149 (by decide) ?_
        refine jr_sub [2, 3, 4, 1, 0] rfl ?_
        exact hrec _ _ _ h
theorem hlX12_ask_49 {n : Nat} {p1 : Int32} {p2 : Int32} {k152 : Int32 → jWd → (Option (Int32 × jWd))} {r : Int32} {w' : jWd} (hk152 : ∀ (z3 : Int32) (w9 : jWd), k152 z3 w9 = some (r, w') → J MX12_ask 3 w9 152 [(0, .ref 205), (1, .int p1), (2, .int p2), (3, .int z3)] [] (some (.int r)) w') : ∀ (c : Nat) (x3 : Int32) (x4 : Int32) (w : jWd) , lX12_ask_49 n p1 p2 k152 c x3 x4 w = some (r, w') → J MX12_ask 3 w 49 [(0, .ref 205), (1, .int p1), (2, .int p2), (3, .int x3), (4, .int x4)] [] (some (.int r)) w' := by
  intro c
  induction c with
  | zero => intro x3 x4 w h; cases h
  | succ c ih => intro x3 x4 w h; exact hbX12_ask_49 (n := n) hk152 ih _ _ _ h
set_option maxHeartbeats 4000000 in
set_option maxRecDepth 100000 in
theorem tX12_ask {n : Nat} {a0 : Int32} {a1 : Int32} {w : jWd} {r : Int32} {w' : jWd}  (h : fX12_ask n a0 a1 w = some (r, w')) : JM yX12_ask MX12_ask 3 [.ref 205, .int a0, .int a1] w (some (.int r)) w' := by
  refine jm_of pl_X12 rfl (Nat.le_of_ble_eq_true rfl) ?_
  show J MX12_ask 3 w 0 [(0, .ref 205), (1, .int a0), (2, .int a1)] [] (some (.int r)) w'
  unfold fX12_ask at h
  refine jr_aload_n dX12_ask_0 rfl 0 rfl ?_
  refine jr_iconst (v := (0 : Int32)) dX12_ask_1 (by decide) ?_
  refine pf_X12_1 rfl (rfl : kd 205 = 11) dX12_ask_2 ?_
  refine j_nmw (fun w_1 e_2 => ?_)
  replace h := drvL e_2 h
  refine jr_iload_n dX12_ask_5 rfl 2 rfl ?_
  refine jr_i2l dX12_ask_6 ?_
  refine jr_lconst (v := (0 : Int64)) dX12_ask_7 rfl ?_
  refine jr_lconst (v := (1 : Int64)) dX12_ask_8 rfl ?_
  refine j_callSv lk_X12_81 wST_X12_within (tX12_within  (a0 := ((a1).toInt64)) (a1 := (0 : Int64)) (a2 := (1 : Int64)) (w := w_1)) (by omega) rfl rfl (Nat.le_of_ble_eq_true rfl) dX12_ask_9 ?_
  obtain ⟨j37_3, ej37_3, h⟩ := drvF h
  have hj37_3 : ∀ (_ : Unit), j37_3 = some (r, w') → J MX12_ask 3 w_1 37 [(0, .ref 205)] [] (some (.int r)) w' := by
    intro _ h
    rw [ej37_3] at h
    try dsimp only at h
    refine jr_aload_n dX12_ask_37 rfl 0 rfl ?_
    refine jr_bipush (v := (-2 : Int32)) dX12_ask_38 (by decide) ?_
    obtain ⟨r_6, w_5, hq_4, h⟩ := drvB2 h
    refine j_callVv lk_X12_85 wIM_X12_no wSE_X12_no (rfl : kd 205 = 11) (by decide) rfl (tX12_no  hq_4) (by omega) rfl rfl (Nat.le_of_ble_eq_true rfl) dX12_ask_40 ?_
    obtain ⟨rfl, rfl⟩ := drvS2 h
    exact jr_iret rfl dX12_ask_43
  refine jr_if_eq (tgt := 37) (nxt := 15) dX12_ask_12 (by decide) rfl (fun hc => ?_) (fun hc => ?_)
  · replace h := drvT hc h
    refine jr_sub [0] rfl ?_
    exact (hj37_3 ()) h
  · replace h := drvE hc h
    refine jr_iload_n dX12_ask_15 rfl 1 rfl ?_
    refine jr_i2l dX12_ask_16 ?_
    refine jr_lconst (v := (0 : Int64)) dX12_ask_17 rfl ?_
    refine jr_iconst (v := (1 : Int32)) dX12_ask_18 (by decide) ?_
    refine jr_aload_n dX12_ask_19 rfl 0 rfl ?_
    refine gf_X12_17 (r := 207) rfl (rfl : kd 205 = 11) rfl dX12_ask_20 ?_
    refine jr_sipush (v := (987 : Int32)) dX12_ask_23 (by decide) ?_
    refine jr_ialdL (k := 987) (rfl : kd 207 = 13) (vp_lit (by decide) (by decide)) (by decide) dX12_ask_26 ?_
    refine jr_ishl dX12_ask_27 ?_
    refine jr_iconst (v := (1 : Int32)) dX12_ask_28 (by decide) ?_
    refine jr_isub dX12_ask_29 ?_
    refine jr_i2l dX12_ask_30 ?_
    refine j_callSv lk_X12_81 wST_X12_within (tX12_within  (a0 := ((a0).toInt64)) (a1 := (0 : Int64)) (a2 := ((((i_shl (1 : Int32) (wI w_1 207 987)) - (1 : Int32))).toInt64)) (w := w_1)) (by omega) rfl rfl (Nat.le_of_ble_eq_true rfl) dX12_ask_31 ?_
    refine jr_if_ne (tgt := 44) (nxt := 37) dX12_ask_34 (by decide) rfl (fun hc => ?_) (fun hc => ?_)
    · replace h := drvE hc h
      refine jr_iconst (v := (-1 : Int32)) dX12_ask_44 (by decide) ?_
      refine jr_istore_n (lv' := [(3, .int (-1 : Int32)), (0, .ref 205), (1, .int a0), (2, .int a1)]) dX12_ask_45 rfl (by decide) rfl ?_
      refine jr_iconst (v := (0 : Int32)) dX12_ask_46 (by decide) ?_
      refine jr_istore (lv' := [(4, .int (0 : Int32)), (3, .int (-1 : Int32)), (0, .ref 205), (1, .int a0), (2, .int a1)]) dX12_ask_47 (by decide) rfl ?_
      refine jr_sub [2, 3, 4, 1, 0] rfl ?_
      refine hlX12_ask_49  ?_ _ _ _ _ h
      · intro z3_32 w_31 h
        try dsimp only at h
        refine jr_iload_n dX12_ask_152 rfl 2 rfl ?_
        refine jr_if_ne (tgt := 165) (nxt := 156) dX12_ask_153 (by decide) rfl (fun hc => ?_) (fun hc => ?_)
        · replace h := drvE hc h
          refine jr_iload_n dX12_ask_165 rfl 3 rfl ?_
          obtain ⟨rfl, rfl⟩ := drvS2 h
          exact jr_iret rfl dX12_ask_166
        · replace h := drvT hc h
          refine jr_aload_n dX12_ask_156 rfl 0 rfl ?_
          refine gf_X12_61 (r := 220) rfl (rfl : kd 205 = 11) rfl dX12_ask_157 ?_
          refine jr_iload_n dX12_ask_160 rfl 1 rfl ?_
          obtain ⟨hg_33, h⟩ := drvG h
          refine jr_iald (rfl : kd 220 = 13) hg_33 dX12_ask_161 ?_
          refine jr_goto (tgt := 166) dX12_ask_162 (by decide) ?_
          obtain ⟨rfl, rfl⟩ := drvS2 h
          exact jr_iret rfl dX12_ask_166
    · replace h := drvT hc h
      refine jr_sub [0] rfl ?_
      exact (hj37_3 ()) h
set_option maxHeartbeats 4000000 in
set_option maxRecDepth 100000 in
theorem tX12_isThere {a0 : Int32} {w : jWd} {r : Int32}  (h : fX12_isThere a0 w = some r) : JM yX12_isThere MX12_isThere 1 [.ref 205, .int a0] w (some (.int r)) w := by
  refine jm_of pl_X12 rfl (Nat.le_of_ble_eq_true rfl) ?_
  show J MX12_isThere 1 w 0 [(0, .ref 205), (1, .int a0)] [] (some (.int r)) w
  unfold fX12_isThere at h
  refine jr_iload_n dX12_isThere_0 rfl 1 rfl ?_
  refine jr_if_lt (tgt := 20) (nxt := 4) dX12_isThere_1 (by decide) rfl (fun hc => ?_) (fun hc => ?_)
  · replace h := drvT hc h
    refine jr_iconst (v := (0 : Int32)) dX12_isThere_20 (by decide) ?_
    obtain rfl := drvS1 h
    exact jr_zret (ty := .boolean) rfl rfl dX12_isThere_21
  · replace h := drvE hc h
    refine jr_iload_n dX12_isThere_4 rfl 1 rfl ?_
    refine jr_aload_n dX12_isThere_5 rfl 0 rfl ?_
    refine gf_X12_17 (r := 207) rfl (rfl : kd 205 = 11) rfl dX12_isThere_6 ?_
    refine jr_sipush (v := (547 : Int32)) dX12_isThere_9 (by decide) ?_
    refine jr_ialdL (k := 547) (rfl : kd 207 = 13) (vp_lit (by decide) (by decide)) (by decide) dX12_isThere_12 ?_
    refine jr_icmp_ge (tgt := 20) (nxt := 16) dX12_isThere_13 (by decide) rfl (fun hc => ?_) (fun hc => ?_)
    · replace h := drvT hc h
      refine jr_iconst (v := (0 : Int32)) dX12_isThere_20 (by decide) ?_
      obtain rfl := drvS1 h
      exact jr_zret (ty := .boolean) rfl rfl dX12_isThere_21
    · replace h := drvE hc h
      refine jr_iconst (v := (1 : Int32)) dX12_isThere_16 (by decide) ?_
      refine jr_goto (tgt := 21) dX12_isThere_17 (by decide) ?_
      obtain rfl := drvS1 h
      exact jr_zret (ty := .boolean) rfl rfl dX12_isThere_21
set_option maxHeartbeats 4000000 in
set_option maxRecDepth 100000 in
theorem tX12_isBehind {a0 : Int32} {w : jWd} {r : Int32}  (h : fX12_isBehind a0 w = some r) : JM yX12_isBehind MX12_isBehind 1 [.ref 205, .int a0] w (some (.int r)) w := by
  refine jm_of pl_X12 rfl (Nat.le_of_ble_eq_true rfl) ?_
  show J MX12_isBehind 1 w 0 [(0, .ref 205), (1, .int a0)] [] (some (.int r)) w
  unfold fX12_isBehind at h
  refine jr_aload_n dX12_isBehind_0 rfl 0 rfl ?_
  refine gf_X12_20 (r := 208) rfl (rfl : kd 205 = 11) rfl dX12_isBehind_1 ?_
  refine jr_sipush (v := (724 : Int32)) dX12_isBehind_4 (by decide) ?_
  refine jr_iload_n dX12_isBehind_7 rfl 1 rfl ?_
  refine jr_iadd dX12_isBehind_8 ?_
  obtain ⟨hg_1, h⟩ := drvG h
  refine jr_lald (rfl : kd 208 = 14) hg_1 dX12_isBehind_9 ?_
  refine jr_lconst (v := (0 : Int64)) dX12_isBehind_10 rfl ?_
  refine jr_lcmp dX12_isBehind_11 ?_
  refine jr_if_eq (tgt := 40) (nxt := 15) dX12_isBehind_12 (by decide) rfl (fun hc => ?_) (fun hc => ?_)
  · replace h := drvT hc h
    refine jr_iconst (v := (0 : Int32)) dX12_isBehind_40 (by decide) ?_
    obtain rfl := drvS1 h
    exact jr_zret (ty := .boolean) rfl rfl dX12_isBehind_41
  · replace h := drvE hc h
    refine jr_aload_n dX12_isBehind_15 rfl 0 rfl ?_
    refine gf_X12_17 (r := 207) rfl (rfl : kd 205 = 11) rfl dX12_isBehind_16 ?_
    refine jr_sipush (v := (608 : Int32)) dX12_isBehind_19 (by decide) ?_
    refine jr_iload_n dX12_isBehind_22 rfl 1 rfl ?_
    refine jr_iadd dX12_isBehind_23 ?_
    obtain ⟨hg_2, h⟩ := drvG h
    refine jr_iald (rfl : kd 207 = 13) hg_2 dX12_isBehind_24 ?_
    refine jr_aload_n dX12_isBehind_25 rfl 0 rfl ?_
    refine gf_X12_17 (r := 207) rfl (rfl : kd 205 = 11) rfl dX12_isBehind_26 ?_
    refine jr_sipush (v := (161 : Int32)) dX12_isBehind_29 (by decide) ?_
    refine jr_ialdL (k := 161) (rfl : kd 207 = 13) (vp_lit (by decide) (by decide)) (by decide) dX12_isBehind_32 ?_
    refine jr_icmp_le (tgt := 40) (nxt := 36) dX12_isBehind_33 (by decide) rfl (fun hc => ?_) (fun hc => ?_)
    · replace h := drvT hc h
      refine jr_iconst (v := (0 : Int32)) dX12_isBehind_40 (by decide) ?_
      obtain rfl := drvS1 h
      exact jr_zret (ty := .boolean) rfl rfl dX12_isBehind_41
    · replace h := drvE hc h
      refine jr_iconst (v := (1 : Int32)) dX12_isBehind_36 (by decide) ?_
      refine jr_goto (tgt := 41) dX12_isBehind_37 (by decide) ?_
      obtain rfl := drvS1 h
      exact jr_zret (ty := .boolean) rfl rfl dX12_isBehind_41
set_option maxHeartbeats 4000000 in
set_option maxRecDepth 100000 in
theorem hbX12_mostOfPrint_5 {n : Nat} {p1 : Int64} {r : Int32} {w' : jWd} {rec : Int32 → Int32 → jWd → Option (Int32 × jWd)} 
    (hrec : ∀ (x3 : Int32) (x4 : Int32) (w : jWd) , rec x3 x4 w = some (r, w') → J MX12_mostOfPrint 4 w 5 [(0, .ref 205), (1, .long p1), (3, .int x3), (4, .int x4)] [] (some (.int r)) w') : ∀ (x3 : Int32) (x4 : Int32) (w : jWd) , bX12_mostOfPrint_5 n p1 rec x3 x4 w = some (r, w') → J MX12_mostOfPrint 4 w 5 [(0, .ref 205), (1, .long p1), (3, .int x3), (4, .int x4)] [] (some (.int r)) w' := by
  intro x3 x4 w h
  unfold bX12_mostOfPrint_5 at h
  refine jr_iload dX12_mostOfPrint_5 3 rfl ?_
  refine jr_aload_n dX12_mostOfPrint_7 rfl 0 rfl ?_
  refine gf_X12_17 (r := 207) rfl (rfl : kd 205 = 11) rfl dX12_mostOfPrint_8 ?_
  refine jr_sipush (v := (162 : Int32)) dX12_mostOfPrint_11 (by decide) ?_
  refine jr_ialdL (k := 162) (rfl : kd 207 = 13) (vp_lit (by decide) (by decide)) (by decide) dX12_mostOfPrint_14 ?_
  refine jr_icmp_ge (tgt := 55) (nxt := 18) dX12_mostOfPrint_15 (by decide) rfl (fun hc => ?_) (fun hc => ?_)
  · replace h := drvT hc h
    refine jr_iload_n dX12_mostOfPrint_55 rfl 2 rfl ?_
    obtain ⟨rfl, rfl⟩ := drvS2 h
    exact jr_iret rfl dX12_mostOfPrint_56
  · replace h := drvE hc h
    refine jr_aload_n dX12_mostOfPrint_18 rfl 0 rfl ?_
    refine jr_lload_n dX12_mostOfPrint_19 rfl 1 rfl ?_
    refine jr_aload_n dX12_mostOfPrint_20 rfl 0 rfl ?_
    refine gf_X12_20 (r := 208) rfl (rfl : kd 205 = 11) rfl dX12_mostOfPrint_21 ?_
    refine jr_sipush (v := (480 : Int32)) dX12_mostOfPrint_24 (by decide) ?_
    refine jr_iload dX12_mostOfPrint_27 3 rfl ?_
    refine jr_iadd dX12_mostOfPrint_29 ?_
    obtain ⟨hg_1, h⟩ := drvG h
    refine jr_lald (rfl : kd 208 = 14) hg_1 dX12_mostOfPrint_30 ?_
    obtain ⟨r_4, w_3, hq_2, h⟩ := drvB2 h
    refine j_callVv lk_X12_111 wIM_X12_likeOf wSE_X12_likeOf (rfl : kd 205 = 11) (by decide) rfl (tX12_likeOf  hq_2) (by omega) rfl rfl (Nat.le_of_ble_eq_true rfl) dX12_mostOfPrint_31 ?_
    refine jr_istore (lv' := [(5, .int r_4), (0, .ref 205), (1, .long p1), (3, .int x3), (4, .int x4)]) dX12_mostOfPrint_34 (by decide) rfl ?_
    refine jr_iload dX12_mostOfPrint_36 0 rfl ?_
    refine jr_iload_n dX12_mostOfPrint_38 rfl 3 rfl ?_
    refine jr_icmp_le (tgt := 47) (nxt := 42) dX12_mostOfPrint_39 (by decide) rfl (fun hc => ?_) (fun hc => ?_)
    · replace h := drvT hc h
      refine jr_iload_n dX12_mostOfPrint_47 rfl 3 rfl ?_
      refine jr_istore_n (lv' := [(3, .int x3), (5, .int r_4), (0, .ref 205), (1, .long p1), (4, .int x4)]) dX12_mostOfPrint_48 rfl (by decide) rfl ?_
      refine jr_iincN (c := (1 : Int32)) (lv' := fun (x4_5 : Int32) => [(4, .int x4_5), (3, .int x3), (5, .int r_4), (0, .ref 205), (1, .long p1)]) dX12_mostOfPrint_49 (by decide) 4 rfl (by decide) (fun _ => rfl) (fun x4_5 e_6 => ?_)
      replace h := drvL e_6 h
      refine jr_goto (tgt := 5) dX12_mostOfPrint_52 (by decide) ?_
      refine jr_sub [3, 4, 1, 0] rfl ?_
      exact hrec _ _ _ h
    · replace h := drvE hc h
      refine jr_iload dX12_mostOfPrint_42 0 rfl ?_
      refine jr_goto (tgt := 48) dX12_mostOfPrint_44 (by decide) ?_
      refine jr_istore_n (lv' := [(3, .int r_4), (5, .int r_4), (0, .ref 205), (1, .long p1), (4, .int x4)]) dX12_mostOfPrint_48 rfl (by decide) rfl ?_
      refine jr_iincN (c := (1 : Int32)) (lv' := fun (x4_7 : Int32) => [(4, .int x4_7), (3, .int r_4), (5, .int r_4), (0, .ref 205), (1, .long p1)]) dX12_mostOfPrint_49 (by decide) 4 rfl (by decide) (fun _ => rfl) (fun x4_7 e_8 => ?_)
      replace h := drvL e_8 h
      refine jr_goto (tgt := 5) dX12_mostOfPrint_52 (by decide) ?_
      refine jr_sub [3, 4, 1, 0] rfl ?_
      exact hrec _ _ _ h
theorem hlX12_mostOfPrint_5 {n : Nat} {p1 : Int64} {r : Int32} {w' : jWd}  : ∀ (c : Nat) (x3 : Int32) (x4 : Int32) (w : jWd) , lX12_mostOfPrint_5 n p1 c x3 x4 w = some (r, w') → J MX12_mostOfPrint 4 w 5 [(0, .ref 205), (1, .long p1), (3, .int x3), (4, .int x4)] [] (some (.int r)) w' := by
  intro c
  induction c with
  | zero => intro x3 x4 w h; cases h
  | succ c ih => intro x3 x4 w h; exact hbX12_mostOfPrint_5 (n := n) ih _ _ _ h
set_option maxHeartbeats 4000000 in
set_option maxRecDepth 100000 in
theorem tX12_mostOfPrint {n : Nat} {a0 : Int64} {w : jWd} {r : Int32} {w' : jWd}  (h : fX12_mostOfPrint n a0 w = some (r, w')) : JM yX12_mostOfPrint MX12_mostOfPrint 4 [.ref 205, .long a0] w (some (.int r)) w' := by
  refine jm_of pl_X12 rfl (Nat.le_of_ble_eq_true rfl) ?_
  show J MX12_mostOfPrint 4 w 0 [(0, .ref 205), (1, .long a0)] [] (some (.int r)) w'
  unfold fX12_mostOfPrint at h
  refine jr_iconst (v := (-1 : Int32)) dX12_mostOfPrint_0 (by decide) ?_
  refine jr_istore_n (lv' := [(3, .int (-1 : Int32)), (0, .ref 205), (1, .long a0)]) dX12_mostOfPrint_1 rfl (by decide) rfl ?_
  refine jr_iconst (v := (0 : Int32)) dX12_mostOfPrint_2 (by decide) ?_
  refine jr_istore (lv' := [(4, .int (0 : Int32)), (3, .int (-1 : Int32)), (0, .ref 205), (1, .long a0)]) dX12_mostOfPrint_3 (by decide) rfl ?_
  refine jr_sub [2, 3, 1, 0] rfl ?_
  refine hlX12_mostOfPrint_5   _ _ _ _ h
set_option maxHeartbeats 4000000 in
set_option maxRecDepth 100000 in
theorem hbX12_mostOfSongs_20 {n : Nat} {p1 : Int64} {p3 : Int32} {p5 : Int32} {k87 : Int32 → jWd → (Option (Int32 × jWd))} {r : Int32} {w' : jWd} {rec : Int32 → Int32 → jWd → Option (Int32 × jWd)} (hk87 : ∀ (z4 : Int32) (w9 : jWd), k87 z4 w9 = some (r, w') → J MX12_mostOfSongs 4 w9 87 [(0, .ref 205), (1, .long p1), (3, .int p3), (4, .int z4), (5, .int p5)] [] (some (.int r)) w')
    (hrec : ∀ (x4 : Int32) (x6 : Int32) (w : jWd) , rec x4 x6 w = some (r, w') → J MX12_mostOfSongs 4 w 20 [(0, .ref 205), (1, .long p1), (3, .int p3), (4, .int x4), (5, .int p5), (6, .int x6)] [] (some (.int r)) w') : ∀ (x4 : Int32) (x6 : Int32) (w : jWd) , bX12_mostOfSongs_20 n p1 p3 p5 k87 rec x4 x6 w = some (r, w') → J MX12_mostOfSongs 4 w 20 [(0, .ref 205), (1, .long p1), (3, .int p3), (4, .int x4), (5, .int p5), (6, .int x6)] [] (some (.int r)) w' := by
  intro x4 x6 w h
  unfold bX12_mostOfSongs_20 at h
  refine jr_iload dX12_mostOfSongs_20 5 rfl ?_
  refine jr_aload_n dX12_mostOfSongs_22 rfl 0 rfl ?_
  refine gf_X12_17 (r := 207) rfl (rfl : kd 205 = 11) rfl dX12_mostOfSongs_23 ?_
  refine jr_bipush (v := (121 : Int32)) dX12_mostOfSongs_26 (by decide) ?_
  refine jr_iload dX12_mostOfSongs_28 4 rfl ?_
  refine jr_iadd dX12_mostOfSongs_30 ?_
  obtain ⟨hg_1, h⟩ := drvG h
  refine jr_iald (rfl : kd 207 = 13) hg_1 dX12_mostOfSongs_31 ?_
  refine jr_icmp_ge (tgt := 87) (nxt := 35) dX12_mostOfSongs_32 (by decide) rfl (fun hc => ?_) (fun hc => ?_)
  · replace h := drvT hc h
    refine jr_sub [0, 1, 2, 3, 4] rfl ?_
    exact hk87 _ _ h
  · replace h := drvE hc h
    refine jr_aload_n dX12_mostOfSongs_35 rfl 0 rfl ?_
    refine jr_iload dX12_mostOfSongs_36 4 rfl ?_
    obtain ⟨r_3, hq_2, h⟩ := drvB h
    refine j_callVv lk_X12_250 wIM_X12_isEarly wSE_X12_isEarly (rfl : kd 205 = 11) (by decide) rfl (tX12_isEarly  hq_2) (by omega) rfl rfl (Nat.le_of_ble_eq_true rfl) dX12_mostOfSongs_38 ?_
    refine jr_iload_n dX12_mostOfSongs_41 rfl 2 rfl ?_
    refine jr_icmp_ne (tgt := 87) (nxt := 45) dX12_mostOfSongs_42 (by decide) rfl (fun hc => ?_) (fun hc => ?_)
    · replace h := drvE hc h
      refine jr_sub [0, 1, 2, 3, 4] rfl ?_
      exact hk87 _ _ h
    · replace h := drvT hc h
      refine jr_aload_n dX12_mostOfSongs_45 rfl 0 rfl ?_
      refine jr_lload_n dX12_mostOfSongs_46 rfl 1 rfl ?_
      refine jr_aload_n dX12_mostOfSongs_47 rfl 0 rfl ?_
      refine gf_X12_20 (r := 208) rfl (rfl : kd 205 = 11) rfl dX12_mostOfSongs_48 ?_
      refine jr_bipush (v := (12 : Int32)) dX12_mostOfSongs_51 (by decide) ?_
      refine jr_iload dX12_mostOfSongs_53 4 rfl ?_
      refine jr_imul dX12_mostOfSongs_55 ?_
      refine jr_iload dX12_mostOfSongs_56 5 rfl ?_
      refine jr_iadd dX12_mostOfSongs_58 ?_
      obtain ⟨hg_4, h⟩ := drvG h
      refine jr_lald (rfl : kd 208 = 14) hg_4 dX12_mostOfSongs_59 ?_
      obtain ⟨r_7, w_6, hq_5, h⟩ := drvB2 h
      refine j_callVv lk_X12_111 wIM_X12_likeOf wSE_X12_likeOf (rfl : kd 205 = 11) (by decide) rfl (tX12_likeOf  hq_5) (by omega) rfl rfl (Nat.le_of_ble_eq_true rfl) dX12_mostOfSongs_60 ?_
      refine jr_istore (lv' := [(7, .int r_7), (0, .ref 205), (1, .long p1), (3, .int p3), (4, .int x4), (5, .int p5), (6, .int x6)]) dX12_mostOfSongs_63 (by decide) rfl ?_
      refine jr_iload dX12_mostOfSongs_65 0 rfl ?_
      refine jr_iload dX12_mostOfSongs_67 4 rfl ?_
      refine jr_icmp_le (tgt := 77) (nxt := 72) dX12_mostOfSongs_69 (by decide) rfl (fun hc => ?_) (fun hc => ?_)
      · replace h := drvT hc h
        refine jr_iload dX12_mostOfSongs_77 4 rfl ?_
        refine jr_istore (lv' := [(4, .int x4), (7, .int r_7), (0, .ref 205), (1, .long p1), (3, .int p3), (5, .int p5), (6, .int x6)]) dX12_mostOfSongs_79 (by decide) rfl ?_
        refine jr_iincN (c := (1 : Int32)) (lv' := fun (x6_8 : Int32) => [(6, .int x6_8), (4, .int x4), (7, .int r_7), (0, .ref 205), (1, .long p1), (3, .int p3), (5, .int p5)]) dX12_mostOfSongs_81 (by decide) 6 rfl (by decide) (fun _ => rfl) (fun x6_8 e_9 => ?_)
        replace h := drvL e_9 h
        refine jr_goto (tgt := 20) dX12_mostOfSongs_84 (by decide) ?_
        refine jr_sub [3, 4, 5, 1, 6, 0] rfl ?_
        exact hrec _ _ _ h
      · replace h := drvE hc h
        refine jr_iload dX12_mostOfSongs_72 0 rfl ?_
        refine jr_goto (tgt := 79) dX12_mostOfSongs_74 (by decide) ?_
        refine jr_istore (lv' := [(4, .int r_7), (7, .int r_7), (0, .ref 205), (1, .long p1), (3, .int p3), (5, .int p5), (6, .int x6)]) dX12_mostOfSongs_79 (by decide) rfl ?_
        refine jr_iincN (c := (1 : Int32)) (lv' := fun (x6_10 : Int32) => [(6, .int x6_10), (4, .int r_7), (7, .int r_7), (0, .ref 205), (1, .long p1), (3, .int p3), (5, .int p5)]) dX12_mostOfSongs_81 (by decide) 6 rfl (by decide) (fun _ => rfl) (fun x6_10 e_11 => ?_)
        replace h := drvL e_11 h
        refine jr_goto (tgt := 20) dX12_mostOfSongs_84 (by decide) ?_
        refine jr_sub [3, 4, 5, 1, 6, 0] rfl ?_
        exact hrec _ _ _ h
theorem hlX12_mostOfSongs_20 {n : Nat} {p1 : Int64} {p3 : Int32} {p5 : Int32} {k87 : Int32 → jWd → (Option (Int32 × jWd))} {r : Int32} {w' : jWd} (hk87 : ∀ (z4 : Int32) (w9 : jWd), k87 z4 w9 = some (r, w') → J MX12_mostOfSongs 4 w9 87 [(0, .ref 205), (1, .long p1), (3, .int p3), (4, .int z4), (5, .int p5)] [] (some (.int r)) w') : ∀ (c : Nat) (x4 : Int32) (x6 : Int32) (w : jWd) , lX12_mostOfSongs_20 n p1 p3 p5 k87 c x4 x6 w = some (r, w') → J MX12_mostOfSongs 4 w 20 [(0, .ref 205), (1, .long p1), (3, .int p3), (4, .int x4), (5, .int p5), (6, .int x6)] [] (some (.int r)) w' := by
  intro c
  induction c with
  | zero => intro x4 x6 w h; cases h
  | succ c ih => intro x4 x6 w h; exact hbX12_mostOfSongs_20 (n := n) hk87 ih _ _ _ h
set_option maxHeartbeats 4000000 in
set_option maxRecDepth 100000 in
theorem hbX12_mostOfSongs_6 {n : Nat} {p1 : Int64} {p3 : Int32} {r : Int32} {w' : jWd} {rec : Int32 → Int32 → jWd → Option (Int32 × jWd)} 
    (hrec : ∀ (x4 : Int32) (x5 : Int32) (w : jWd) , rec x4 x5 w = some (r, w') → J MX12_mostOfSongs 4 w 6 [(0, .ref 205), (1, .long p1), (3, .int p3), (4, .int x4), (5, .int x5)] [] (some (.int r)) w') : ∀ (x4 : Int32) (x5 : Int32) (w : jWd) , bX12_mostOfSongs_6 n p1 p3 rec x4 x5 w = some (r, w') → J MX12_mostOfSongs 4 w 6 [(0, .ref 205), (1, .long p1), (3, .int p3), (4, .int x4), (5, .int x5)] [] (some (.int r)) w' := by
  intro x4 x5 w h
  unfold bX12_mostOfSongs_6 at h
  refine jr_iload dX12_mostOfSongs_6 4 rfl ?_
  refine jr_aload_n dX12_mostOfSongs_8 rfl 0 rfl ?_
  refine gf_X12_17 (r := 207) rfl (rfl : kd 205 = 11) rfl dX12_mostOfSongs_9 ?_
  refine jr_iconst (v := (0 : Int32)) dX12_mostOfSongs_12 (by decide) ?_
  refine jr_ialdL (k := 0) (rfl : kd 207 = 13) (vp_lit (by decide) (by decide)) (by decide) dX12_mostOfSongs_13 ?_
  refine jr_icmp_ge (tgt := 93) (nxt := 17) dX12_mostOfSongs_14 (by decide) rfl (fun hc => ?_) (fun hc => ?_)
  · replace h := drvT hc h
    refine jr_iload dX12_mostOfSongs_93 3 rfl ?_
    obtain ⟨rfl, rfl⟩ := drvS2 h
    exact jr_iret rfl dX12_mostOfSongs_95
  · replace h := drvE hc h
    refine jr_iconst (v := (0 : Int32)) dX12_mostOfSongs_17 (by decide) ?_
    refine jr_istore (lv' := [(6, .int (0 : Int32)), (0, .ref 205), (1, .long p1), (3, .int p3), (4, .int x4), (5, .int x5)]) dX12_mostOfSongs_18 (by decide) rfl ?_
    refine jr_sub [1, 2, 3, 4, 5, 0] rfl ?_
    refine hlX12_mostOfSongs_20  ?_ _ _ _ _ h
    · intro z4_13 w_12 h
      try dsimp only at h
      refine jr_iincN (c := (1 : Int32)) (lv' := fun (x5_14 : Int32) => [(5, .int x5_14), (0, .ref 205), (1, .long p1), (3, .int p3), (4, .int z4_13)]) dX12_mostOfSongs_87 (by decide) 4 rfl (by decide) (fun _ => rfl) (fun x5_14 e_15 => ?_)
      replace h := drvL e_15 h
      refine jr_goto (tgt := 6) dX12_mostOfSongs_90 (by decide) ?_
      refine jr_sub [1, 2, 3, 4, 0] rfl ?_
      exact hrec _ _ _ h
theorem hlX12_mostOfSongs_6 {n : Nat} {p1 : Int64} {p3 : Int32} {r : Int32} {w' : jWd}  : ∀ (c : Nat) (x4 : Int32) (x5 : Int32) (w : jWd) , lX12_mostOfSongs_6 n p1 p3 c x4 x5 w = some (r, w') → J MX12_mostOfSongs 4 w 6 [(0, .ref 205), (1, .long p1), (3, .int p3), (4, .int x4), (5, .int x5)] [] (some (.int r)) w' := by
  intro c
  induction c with
  | zero => intro x4 x5 w h; cases h
  | succ c ih => intro x4 x5 w h; exact hbX12_mostOfSongs_6 (n := n) ih _ _ _ h
set_option maxHeartbeats 4000000 in
set_option maxRecDepth 100000 in
theorem tX12_mostOfSongs {n : Nat} {a0 : Int64} {a1 : Int32} {w : jWd} {r : Int32} {w' : jWd}  (h : fX12_mostOfSongs n a0 a1 w = some (r, w')) : JM yX12_mostOfSongs MX12_mostOfSongs 4 [.ref 205, .long a0, .int a1] w (some (.int r)) w' := by
  refine jm_of pl_X12 rfl (Nat.le_of_ble_eq_true rfl) ?_
  show J MX12_mostOfSongs 4 w 0 [(0, .ref 205), (1, .long a0), (3, .int a1)] [] (some (.int r)) w'
  unfold fX12_mostOfSongs at h
  refine jr_iconst (v := (-1 : Int32)) dX12_mostOfSongs_0 (by decide) ?_
  refine jr_istore (lv' := [(4, .int (-1 : Int32)), (0, .ref 205), (1, .long a0), (3, .int a1)]) dX12_mostOfSongs_1 (by decide) rfl ?_
  refine jr_iconst (v := (0 : Int32)) dX12_mostOfSongs_3 (by decide) ?_
  refine jr_istore (lv' := [(5, .int (0 : Int32)), (4, .int (-1 : Int32)), (0, .ref 205), (1, .long a0), (3, .int a1)]) dX12_mostOfSongs_4 (by decide) rfl ?_
  refine jr_sub [2, 3, 4, 1, 0] rfl ?_
  refine hlX12_mostOfSongs_6   _ _ _ _ h
set_option maxHeartbeats 4000000 in
set_option maxRecDepth 100000 in
theorem tX12_isBack {n : Nat} {a0 : Int32} {w : jWd} {r : Int32} {w' : jWd}  (h : fX12_isBack n a0 w = some (r, w')) : JM yX12_isBack MX12_isBack 5 [.ref 205, .int a0] w (some (.int r)) w' := by
  refine jm_of pl_X12 rfl (Nat.le_of_ble_eq_true rfl) ?_
  show J MX12_isBack 5 w 0 [(0, .ref 205), (1, .int a0)] [] (some (.int r)) w'
  unfold fX12_isBack at h
  refine jr_aload_n dX12_isBack_0 rfl 0 rfl ?_
  refine gf_X12_20 (r := 208) rfl (rfl : kd 205 = 11) rfl dX12_isBack_1 ?_
  refine jr_sipush (v := (724 : Int32)) dX12_isBack_4 (by decide) ?_
  refine jr_iload_n dX12_isBack_7 rfl 1 rfl ?_
  refine jr_iadd dX12_isBack_8 ?_
  obtain ⟨hg_1, h⟩ := drvG h
  refine jr_lald (rfl : kd 208 = 14) hg_1 dX12_isBack_9 ?_
  refine j_nml (fun x2_2 e_3 => ?_)
  replace h := drvL e_3 h
  refine jr_lstore_n (lv' := [(2, .long x2_2), (0, .ref 205), (1, .int a0)]) dX12_isBack_10 rfl (by decide) rfl ?_
  refine jr_aload_n dX12_isBack_11 rfl 1 rfl ?_
  refine jr_iload_n dX12_isBack_12 rfl 2 rfl ?_
  obtain ⟨r_5, hq_4, h⟩ := drvB h
  refine j_callVv lk_X12_321 wIM_X12_isBehind wSE_X12_isBehind (rfl : kd 205 = 11) (by decide) rfl (tX12_isBehind  hq_4) (by omega) rfl rfl (Nat.le_of_ble_eq_true rfl) dX12_isBack_13 ?_
  refine jr_if_eq (tgt := 56) (nxt := 19) dX12_isBack_16 (by decide) rfl (fun hc => ?_) (fun hc => ?_)
  · replace h := drvT hc h
    refine jr_iconst (v := (0 : Int32)) dX12_isBack_56 (by decide) ?_
    obtain ⟨rfl, rfl⟩ := drvS2 h
    exact jr_zret (ty := .boolean) rfl rfl dX12_isBack_57
  · replace h := drvE hc h
    refine jr_aload_n dX12_isBack_19 rfl 1 rfl ?_
    refine jr_lload_n dX12_isBack_20 rfl 0 rfl ?_
    obtain ⟨r_8, w_7, hq_6, h⟩ := drvB2 h
    refine j_callVv lk_X12_279 wIM_X12_mostOfPrint wSE_X12_mostOfPrint (rfl : kd 205 = 11) (by decide) rfl (tX12_mostOfPrint  hq_6) (by omega) rfl rfl (Nat.le_of_ble_eq_true rfl) dX12_isBack_21 ?_
    refine jr_aload_n dX12_isBack_24 rfl 1 rfl ?_
    refine gf_X12_17 (r := 207) rfl (rfl : kd 205 = 11) rfl dX12_isBack_25 ?_
    refine jr_sipush (v := (248 : Int32)) dX12_isBack_28 (by decide) ?_
    refine jr_ialdL (k := 248) (rfl : kd 207 = 13) (vp_lit (by decide) (by decide)) (by decide) dX12_isBack_31 ?_
    refine jr_icmp_lt (tgt := 56) (nxt := 35) dX12_isBack_32 (by decide) rfl (fun hc => ?_) (fun hc => ?_)
    · replace h := drvT hc h
      refine jr_iconst (v := (0 : Int32)) dX12_isBack_56 (by decide) ?_
      obtain ⟨rfl, rfl⟩ := drvS2 h
      exact jr_zret (ty := .boolean) rfl rfl dX12_isBack_57
    · replace h := drvE hc h
      refine jr_aload_n dX12_isBack_35 rfl 1 rfl ?_
      refine jr_lload_n dX12_isBack_36 rfl 0 rfl ?_
      refine jr_iconst (v := (1 : Int32)) dX12_isBack_37 (by decide) ?_
      obtain ⟨r_11, w_10, hq_9, h⟩ := drvB2 h
      refine j_callVv lk_X12_275 wIM_X12_mostOfSongs wSE_X12_mostOfSongs (rfl : kd 205 = 11) (by decide) rfl (tX12_mostOfSongs  hq_9) (by omega) rfl rfl (Nat.le_of_ble_eq_true rfl) dX12_isBack_38 ?_
      refine jr_aload_n dX12_isBack_41 rfl 1 rfl ?_
      refine gf_X12_17 (r := 207) rfl (rfl : kd 205 = 11) rfl dX12_isBack_42 ?_
      refine jr_sipush (v := (248 : Int32)) dX12_isBack_45 (by decide) ?_
      refine jr_ialdL (k := 248) (rfl : kd 207 = 13) (vp_lit (by decide) (by decide)) (by decide) dX12_isBack_48 ?_
      refine jr_icmp_ge (tgt := 56) (nxt := 52) dX12_isBack_49 (by decide) rfl (fun hc => ?_) (fun hc => ?_)
      · replace h := drvT hc h
        refine jr_iconst (v := (0 : Int32)) dX12_isBack_56 (by decide) ?_
        obtain ⟨rfl, rfl⟩ := drvS2 h
        exact jr_zret (ty := .boolean) rfl rfl dX12_isBack_57
      · replace h := drvE hc h
        refine jr_iconst (v := (1 : Int32)) dX12_isBack_52 (by decide) ?_
        refine jr_goto (tgt := 57) dX12_isBack_53 (by decide) ?_
        obtain ⟨rfl, rfl⟩ := drvS2 h
        exact jr_zret (ty := .boolean) rfl rfl dX12_isBack_57
set_option maxHeartbeats 4000000 in
set_option maxRecDepth 100000 in
theorem tX12_back {n : Nat} {a0 : Int32} {w : jWd} {r : Int32} {w' : jWd}  (h : fX12_back n a0 w = some (r, w')) : JM yX12_back MX12_back 6 [.ref 205, .int a0] w (some (.int r)) w' := by
  refine jm_of pl_X12 rfl (Nat.le_of_ble_eq_true rfl) ?_
  show J MX12_back 6 w 0 [(0, .ref 205), (1, .int a0)] [] (some (.int r)) w'
  unfold fX12_back at h
  refine jr_aload_n dX12_back_0 rfl 0 rfl ?_
  refine jr_iconst (v := (0 : Int32)) dX12_back_1 (by decide) ?_
  refine pf_X12_1 rfl (rfl : kd 205 = 11) dX12_back_2 ?_
  refine j_nmw (fun w_1 e_2 => ?_)
  replace h := drvL e_2 h
  refine jr_aload_n dX12_back_5 rfl 0 rfl ?_
  refine jr_iload_n dX12_back_6 rfl 1 rfl ?_
  obtain ⟨r_4, hq_3, h⟩ := drvB h
  refine j_callVv lk_X12_324 wIM_X12_isThere wSE_X12_isThere (rfl : kd 205 = 11) (by decide) rfl (tX12_isThere  hq_3) (by omega) rfl rfl (Nat.le_of_ble_eq_true rfl) dX12_back_7 ?_
  refine jr_if_ne (tgt := 20) (nxt := 13) dX12_back_10 (by decide) rfl (fun hc => ?_) (fun hc => ?_)
  · replace h := drvE hc h
    refine jr_aload_n dX12_back_20 rfl 0 rfl ?_
    refine jr_iload_n dX12_back_21 rfl 1 rfl ?_
    obtain ⟨r_7, w_6, hq_5, h⟩ := drvB2 h
    refine j_callVv lk_X12_327 wIM_X12_isBack wSE_X12_isBack (rfl : kd 205 = 11) (by decide) rfl (tX12_isBack  hq_5) (by omega) rfl rfl (Nat.le_of_ble_eq_true rfl) dX12_back_22 ?_
    refine jr_if_eq (tgt := 32) (nxt := 28) dX12_back_25 (by decide) rfl (fun hc => ?_) (fun hc => ?_)
    · replace h := drvT hc h
      refine jr_iconst (v := (0 : Int32)) dX12_back_32 (by decide) ?_
      obtain ⟨rfl, rfl⟩ := drvS2 h
      exact jr_iret rfl dX12_back_33
    · replace h := drvE hc h
      refine jr_iconst (v := (1 : Int32)) dX12_back_28 (by decide) ?_
      refine jr_goto (tgt := 33) dX12_back_29 (by decide) ?_
      obtain ⟨rfl, rfl⟩ := drvS2 h
      exact jr_iret rfl dX12_back_33
  · replace h := drvT hc h
    refine jr_aload_n dX12_back_13 rfl 0 rfl ?_
    refine jr_bipush (v := (-2 : Int32)) dX12_back_14 (by decide) ?_
    obtain ⟨r_10, w_9, hq_8, h⟩ := drvB2 h
    refine j_callVv lk_X12_85 wIM_X12_no wSE_X12_no (rfl : kd 205 = 11) (by decide) rfl (tX12_no  hq_8) (by omega) rfl rfl (Nat.le_of_ble_eq_true rfl) dX12_back_16 ?_
    obtain ⟨rfl, rfl⟩ := drvS2 h
    exact jr_iret rfl dX12_back_19
set_option maxHeartbeats 4000000 in
set_option maxRecDepth 100000 in
theorem hbX12_common_6 {n : Nat} {w : jWd} {r : Int64} {rec : Int64 → Int64 → Option Int64} 
    (hrec : ∀ (x4 : Int64) (x6 : Int64) , rec x4 x6 = some r → J MX12_common 1 w 6 [(4, .long x4), (6, .long x6)] [] (some (.long r)) w) : ∀ (x4 : Int64) (x6 : Int64) , bX12_common_6 n rec x4 x6 = some r → J MX12_common 1 w 6 [(4, .long x4), (6, .long x6)] [] (some (.long r)) w := by
  intro x4 x6 h
  unfold bX12_common_6 at h
  refine jr_lload dX12_common_6 1 rfl ?_
  refine jr_lconst (v := (0 : Int64)) dX12_common_8 rfl ?_
  refine jr_lcmp dX12_common_9 ?_
  refine jr_if_eq (tgt := 31) (nxt := 13) dX12_common_10 (by decide) rfl (fun hc => ?_) (fun hc => ?_)
  · replace h := drvT hc h
    refine jr_lload dX12_common_31 0 rfl ?_
    obtain rfl := drvS1 h
    exact jr_lret rfl dX12_common_33
  · replace h := drvE hc h
    refine jr_lload dX12_common_13 0 rfl ?_
    refine jr_lload dX12_common_15 1 rfl ?_
    obtain ⟨hz_1, h⟩ := drvZl h
    refine jr_lrem dX12_common_17 hz_1 ?_
    refine j_nml (fun x8_2 e_3 => ?_)
    replace h := drvL e_3 h
    refine jr_lstore (lv' := [(8, .long x8_2), (4, .long x4), (6, .long x6)]) dX12_common_18 (by decide) rfl ?_
    refine jr_lload dX12_common_20 2 rfl ?_
    refine jr_lstore (lv' := [(4, .long x6), (8, .long x8_2), (6, .long x6)]) dX12_common_22 (by decide) rfl ?_
    refine jr_lload dX12_common_24 1 rfl ?_
    refine jr_lstore (lv' := [(6, .long x8_2), (4, .long x6), (8, .long x8_2)]) dX12_common_26 (by decide) rfl ?_
    refine jr_goto (tgt := 6) dX12_common_28 (by decide) ?_
    refine jr_sub [1, 0] rfl ?_
    exact hrec _ _ h
theorem hlX12_common_6 {n : Nat} {w : jWd} {r : Int64}  : ∀ (c : Nat) (x4 : Int64) (x6 : Int64) , lX12_common_6 n c x4 x6 = some r → J MX12_common 1 w 6 [(4, .long x4), (6, .long x6)] [] (some (.long r)) w := by
  intro c
  induction c with
  | zero => intro x4 x6 h; cases h
  | succ c ih => intro x4 x6 h; exact hbX12_common_6 (n := n) ih _ _ h
set_option maxHeartbeats 4000000 in
set_option maxRecDepth 100000 in
theorem tX12_common {n : Nat} {a0 : Int64} {a1 : Int64} {w : jWd} {r : Int64}  (h : fX12_common n a0 a1 = some r) : JM yX12_common MX12_common 1 [.long a0, .long a1] w (some (.long r)) w := by
  refine jm_of pl_X12 rfl (Nat.le_of_ble_eq_true rfl) ?_
  show J MX12_common 1 w 0 [(0, .long a0), (2, .long a1)] [] (some (.long r)) w
  unfold fX12_common at h
  refine jr_lload_n dX12_common_0 rfl 0 rfl ?_
  refine jr_lstore (lv' := [(4, .long a0), (0, .long a0), (2, .long a1)]) dX12_common_1 (by decide) rfl ?_
  refine jr_lload_n dX12_common_3 rfl 2 rfl ?_
  refine jr_lstore (lv' := [(6, .long a1), (4, .long a0), (0, .long a0), (2, .long a1)]) dX12_common_4 (by decide) rfl ?_
  refine jr_sub [1, 0] rfl ?_
  refine hlX12_common_6   _ _ _ h
set_option maxHeartbeats 4000000 in
set_option maxRecDepth 100000 in
theorem tX12_part {n : Nat} {a0 : Int64} {a1 : Int64} {a2 : Int32} {w : jWd} {r : Int64}  (h : fX12_part n a0 a1 a2 = some r) : JM yX12_part MX12_part 2 [.long a0, .long a1, .int a2] w (some (.long r)) w := by
  refine jm_of pl_X12 rfl (Nat.le_of_ble_eq_true rfl) ?_
  show J MX12_part 2 w 0 [(0, .long a0), (2, .long a1), (4, .int a2)] [] (some (.long r)) w
  unfold fX12_part at h
  refine jr_lload_n dX12_part_0 rfl 0 rfl ?_
  refine jr_lload_n dX12_part_1 rfl 1 rfl ?_
  obtain ⟨r_2, hq_1, h⟩ := drvB h
  refine j_callSv lk_X12_285 wST_X12_common (tX12_common  hq_1) (by omega) rfl rfl (Nat.le_of_ble_eq_true rfl) dX12_part_2 ?_
  refine jr_lstore (lv' := [(5, .long r_2), (0, .long a0), (2, .long a1), (4, .int a2)]) dX12_part_5 (by decide) rfl ?_
  refine jr_lload dX12_part_7 0 rfl ?_
  refine jr_lconst (v := (0 : Int64)) dX12_part_9 rfl ?_
  refine jr_lcmp dX12_part_10 ?_
  refine jr_if_ne (tgt := 18) (nxt := 14) dX12_part_11 (by decide) rfl (fun hc => ?_) (fun hc => ?_)
  · replace h := drvE hc h
    refine jr_iload dX12_part_18 3 rfl ?_
    obtain ⟨j28_4, ej28_4, h⟩ := drvF h
    have hj28_4 : ∀ (s_3 : Int64), j28_4 s_3 = some r → J MX12_part 2 w 28 [(5, .long r_2)] [.long s_3] (some (.long r)) w := by
      intro s_3 h
      rw [ej28_4] at h
      try dsimp only at h
      refine jr_lload dX12_part_28 0 rfl ?_
      obtain ⟨hz_5, h⟩ := drvZl h
      refine jr_ldiv dX12_part_30 hz_5 ?_
      obtain rfl := drvS1 h
      exact jr_lret rfl dX12_part_31
    refine jr_if_ne (tgt := 27) (nxt := 23) dX12_part_20 (by decide) rfl (fun hc => ?_) (fun hc => ?_)
    · replace h := drvE hc h
      refine jr_lload_n dX12_part_27 rfl 2 rfl ?_
      refine jr_sub [0] rfl ?_
      exact hj28_4 _ h
    · replace h := drvT hc h
      refine jr_lload_n dX12_part_23 rfl 1 rfl ?_
      refine jr_goto (tgt := 28) dX12_part_24 (by decide) ?_
      refine jr_sub [0] rfl ?_
      exact hj28_4 _ h
  · replace h := drvT hc h
    refine jr_lconst (v := (0 : Int64)) dX12_part_14 rfl ?_
    refine jr_goto (tgt := 31) dX12_part_15 (by decide) ?_
    obtain rfl := drvS1 h
    exact jr_lret rfl dX12_part_31
set_option maxHeartbeats 4000000 in
set_option maxRecDepth 100000 in
theorem tX12_backOdds {n : Nat} {a0 : Int32} {a1 : Int32} {w : jWd} {r : Int32} {w' : jWd}  (h : fX12_backOdds n a0 a1 w = some (r, w')) : JM yX12_backOdds MX12_backOdds 5 [.ref 205, .int a0, .int a1] w (some (.int r)) w' := by
  refine jm_of pl_X12 rfl (Nat.le_of_ble_eq_true rfl) ?_
  show J MX12_backOdds 5 w 0 [(0, .ref 205), (1, .int a0), (2, .int a1)] [] (some (.int r)) w'
  unfold fX12_backOdds at h
  refine jr_aload_n dX12_backOdds_0 rfl 0 rfl ?_
  refine jr_iconst (v := (0 : Int32)) dX12_backOdds_1 (by decide) ?_
  refine pf_X12_1 rfl (rfl : kd 205 = 11) dX12_backOdds_2 ?_
  refine j_nmw (fun w_1 e_2 => ?_)
  replace h := drvL e_2 h
  refine jr_aload_n dX12_backOdds_5 rfl 0 rfl ?_
  refine jr_iload_n dX12_backOdds_6 rfl 1 rfl ?_
  obtain ⟨r_4, hq_3, h⟩ := drvB h
  refine j_callVv lk_X12_324 wIM_X12_isThere wSE_X12_isThere (rfl : kd 205 = 11) (by decide) rfl (tX12_isThere  hq_3) (by omega) rfl rfl (Nat.le_of_ble_eq_true rfl) dX12_backOdds_7 ?_
  obtain ⟨j23_5, ej23_5, h⟩ := drvF h
  have hj23_5 : ∀ (_ : Unit), j23_5 = some (r, w') → J MX12_backOdds 5 w_1 23 [(0, .ref 205)] [] (some (.int r)) w' := by
    intro _ h
    rw [ej23_5] at h
    try dsimp only at h
    refine jr_aload_n dX12_backOdds_23 rfl 0 rfl ?_
    refine jr_bipush (v := (-2 : Int32)) dX12_backOdds_24 (by decide) ?_
    obtain ⟨r_8, w_7, hq_6, h⟩ := drvB2 h
    refine j_callVv lk_X12_85 wIM_X12_no wSE_X12_no (rfl : kd 205 = 11) (by decide) rfl (tX12_no  hq_6) (by omega) rfl rfl (Nat.le_of_ble_eq_true rfl) dX12_backOdds_26 ?_
    obtain ⟨rfl, rfl⟩ := drvS2 h
    exact jr_iret rfl dX12_backOdds_29
  refine jr_if_eq (tgt := 23) (nxt := 13) dX12_backOdds_10 (by decide) rfl (fun hc => ?_) (fun hc => ?_)
  · replace h := drvT hc h
    refine jr_sub [0] rfl ?_
    exact (hj23_5 ()) h
  · replace h := drvE hc h
    refine jr_iload_n dX12_backOdds_13 rfl 2 rfl ?_
    refine jr_i2l dX12_backOdds_14 ?_
    refine jr_lconst (v := (0 : Int64)) dX12_backOdds_15 rfl ?_
    refine jr_lconst (v := (1 : Int64)) dX12_backOdds_16 rfl ?_
    refine j_callSv lk_X12_81 wST_X12_within (tX12_within  (a0 := ((a1).toInt64)) (a1 := (0 : Int64)) (a2 := (1 : Int64)) (w := w_1)) (by omega) rfl rfl (Nat.le_of_ble_eq_true rfl) dX12_backOdds_17 ?_
    refine jr_if_ne (tgt := 30) (nxt := 23) dX12_backOdds_20 (by decide) rfl (fun hc => ?_) (fun hc => ?_)
    · replace h := drvE hc h
      refine jr_aload_n dX12_backOdds_30 rfl 0 rfl ?_
      refine jr_iload_n dX12_backOdds_31 rfl 1 rfl ?_
      obtain ⟨r_10, hq_9, h⟩ := drvB h
      refine j_callVv lk_X12_321 wIM_X12_isBehind wSE_X12_isBehind (rfl : kd 205 = 11) (by decide) rfl (tX12_isBehind  hq_9) (by omega) rfl rfl (Nat.le_of_ble_eq_true rfl) dX12_backOdds_32 ?_
      refine jr_if_ne (tgt := 40) (nxt := 38) dX12_backOdds_35 (by decide) rfl (fun hc => ?_) (fun hc => ?_)
      · replace h := drvE hc h
        refine jr_aload_n dX12_backOdds_40 rfl 0 rfl ?_
        refine jr_aload_n dX12_backOdds_41 rfl 0 rfl ?_
        refine gf_X12_20 (r := 208) rfl (rfl : kd 205 = 11) rfl dX12_backOdds_42 ?_
        refine jr_sipush (v := (724 : Int32)) dX12_backOdds_45 (by decide) ?_
        refine jr_iload_n dX12_backOdds_48 rfl 1 rfl ?_
        refine jr_iadd dX12_backOdds_49 ?_
        obtain ⟨hg_11, h⟩ := drvG h
        refine jr_lald (rfl : kd 208 = 14) hg_11 dX12_backOdds_50 ?_
        obtain ⟨r_14, w_13, hq_12, h⟩ := drvB2 h
        refine j_callVv lk_X12_279 wIM_X12_mostOfPrint wSE_X12_mostOfPrint (rfl : kd 205 = 11) (by decide) rfl (tX12_mostOfPrint  hq_12) (by omega) rfl rfl (Nat.le_of_ble_eq_true rfl) dX12_backOdds_51 ?_
        refine jr_istore_n (lv' := [(3, .int r_14), (0, .ref 205), (1, .int a0), (2, .int a1)]) dX12_backOdds_54 rfl (by decide) rfl ?_
        refine jr_aload_n dX12_backOdds_55 rfl 1 rfl ?_
        refine jr_aload_n dX12_backOdds_56 rfl 1 rfl ?_
        refine gf_X12_20 (r := 208) rfl (rfl : kd 205 = 11) rfl dX12_backOdds_57 ?_
        refine jr_sipush (v := (724 : Int32)) dX12_backOdds_60 (by decide) ?_
        refine jr_iload_n dX12_backOdds_63 rfl 2 rfl ?_
        refine jr_iadd dX12_backOdds_64 ?_
        obtain ⟨hg_15, h⟩ := drvG h
        refine jr_lald (rfl : kd 208 = 14) hg_15 dX12_backOdds_65 ?_
        refine jr_iconst (v := (1 : Int32)) dX12_backOdds_66 (by decide) ?_
        obtain ⟨r_18, w_17, hq_16, h⟩ := drvB2 h
        refine j_callVv lk_X12_275 wIM_X12_mostOfSongs wSE_X12_mostOfSongs (rfl : kd 205 = 11) (by decide) rfl (tX12_mostOfSongs  hq_16) (by omega) rfl rfl (Nat.le_of_ble_eq_true rfl) dX12_backOdds_67 ?_
        refine jr_istore (lv' := [(4, .int r_18), (3, .int r_14), (0, .ref 205), (1, .int a0), (2, .int a1)]) dX12_backOdds_70 (by decide) rfl ?_
        refine jr_iload_n dX12_backOdds_72 rfl 1 rfl ?_
        obtain ⟨j81_20, ej81_20, h⟩ := drvF h
        have hj81_20 : ∀ (s_19 : Int32), j81_20 s_19 = some (r, w') → J MX12_backOdds 5 w_17 81 [(0, .ref 205), (1, .int a0), (2, .int a1), (4, .int r_18)] [.int s_19] (some (.int r)) w' := by
          intro s_19 h
          rw [ej81_20] at h
          try dsimp only at h
          refine jr_i2l dX12_backOdds_81 ?_
          refine jr_aload_n dX12_backOdds_82 rfl 0 rfl ?_
          refine gf_X12_17 (r := 207) rfl (rfl : kd 205 = 11) rfl dX12_backOdds_83 ?_
          refine jr_sipush (v := (668 : Int32)) dX12_backOdds_86 (by decide) ?_
          refine jr_iload_n dX12_backOdds_89 rfl 1 rfl ?_
          refine jr_iadd dX12_backOdds_90 ?_
          obtain ⟨hg_21, h⟩ := drvG h
          refine jr_iald (rfl : kd 207 = 13) hg_21 dX12_backOdds_91 ?_
          refine jr_i2l dX12_backOdds_92 ?_
          refine jr_lconst (v := (1 : Int64)) dX12_backOdds_93 rfl ?_
          refine jr_ladd dX12_backOdds_94 ?_
          refine jr_lmul dX12_backOdds_95 ?_
          refine jr_iload dX12_backOdds_96 3 rfl ?_
          obtain ⟨j112_23, ej112_23, h⟩ := drvF h
          have hj112_23 : ∀ (s_22 : Int64), j112_23 s_22 = some (r, w') → J MX12_backOdds 5 w_17 112 [(2, .int a1)] [.long s_22, .long (((s_19).toInt64) * ((((wI w_17 207 (((668 : Int32) + a0)).toNatClampNeg)).toInt64) + (1 : Int64)))] (some (.int r)) w' := by
            intro s_22 h
            rw [ej112_23] at h
            try dsimp only at h
            refine jr_iload_n dX12_backOdds_112 rfl 0 rfl ?_
            obtain ⟨r_25, hq_24, h⟩ := drvB h
            refine j_callSv lk_X12_298 wST_X12_part (tX12_part  hq_24) (by omega) rfl rfl (Nat.le_of_ble_eq_true rfl) dX12_backOdds_113 ?_
            refine jr_l2i dX12_backOdds_116 ?_
            obtain ⟨rfl, rfl⟩ := drvS2 h
            exact jr_iret rfl dX12_backOdds_117
          refine jr_if_ge (tgt := 105) (nxt := 101) dX12_backOdds_98 (by decide) rfl (fun hc => ?_) (fun hc => ?_)
          · replace h := drvT hc h
            refine jr_ldc2 (v := (10 : Int64)) wCC_X12_330 dX12_backOdds_105 ?_
            refine jr_iload dX12_backOdds_108 3 rfl ?_
            refine jr_i2l dX12_backOdds_110 ?_
            refine jr_lmul dX12_backOdds_111 ?_
            refine jr_sub [2] rfl ?_
            exact hj112_23 _ h
          · replace h := drvE hc h
            refine jr_lconst (v := (0 : Int64)) dX12_backOdds_101 rfl ?_
            refine jr_goto (tgt := 112) dX12_backOdds_102 (by decide) ?_
            refine jr_sub [2] rfl ?_
            exact hj112_23 _ h
        refine jr_if_ge (tgt := 80) (nxt := 76) dX12_backOdds_73 (by decide) rfl (fun hc => ?_) (fun hc => ?_)
        · replace h := drvT hc h
          refine jr_iload_n dX12_backOdds_80 rfl 1 rfl ?_
          refine jr_sub [2, 3, 4, 0] rfl ?_
          exact hj81_20 _ h
        · replace h := drvE hc h
          refine jr_iconst (v := (0 : Int32)) dX12_backOdds_76 (by decide) ?_
          refine jr_goto (tgt := 81) dX12_backOdds_77 (by decide) ?_
          refine jr_sub [2, 3, 4, 0] rfl ?_
          exact hj81_20 _ h
      · replace h := drvT hc h
        refine jr_iload_n dX12_backOdds_38 rfl 2 rfl ?_
        obtain ⟨rfl, rfl⟩ := drvS2 h
        exact jr_iret rfl dX12_backOdds_39
    · replace h := drvT hc h
      refine jr_sub [0] rfl ?_
      exact (hj23_5 ()) h
set_option maxHeartbeats 4000000 in
set_option maxRecDepth 100000 in
theorem tX12_bounds {a0 : Int32} {a1 : Int32} {w : jWd} {r : Int32} {w' : jWd}  (h : fX12_bounds a0 a1 w = some (r, w')) : JM yX12_bounds MX12_bounds 2 [.ref 205, .int a0, .int a1] w (some (.int r)) w' := by
  refine jm_of pl_X12 rfl (Nat.le_of_ble_eq_true rfl) ?_
  show J MX12_bounds 2 w 0 [(0, .ref 205), (1, .int a0), (2, .int a1)] [] (some (.int r)) w'
  unfold fX12_bounds at h
  refine jr_aload_n dX12_bounds_0 rfl 0 rfl ?_
  refine jr_iconst (v := (0 : Int32)) dX12_bounds_1 (by decide) ?_
  refine pf_X12_1 rfl (rfl : kd 205 = 11) dX12_bounds_2 ?_
  refine j_nmw (fun w_1 e_2 => ?_)
  replace h := drvL e_2 h
  refine jr_iload_n dX12_bounds_5 rfl 1 rfl ?_
  refine jr_i2l dX12_bounds_6 ?_
  refine jr_lconst (v := (1 : Int64)) dX12_bounds_7 rfl ?_
  refine jr_ldc2 (v := (100 : Int64)) wCC_X12_105 dX12_bounds_8 ?_
  refine j_callSv lk_X12_81 wST_X12_within (tX12_within  (a0 := ((a0).toInt64)) (a1 := (1 : Int64)) (a2 := (100 : Int64)) (w := w_1)) (by omega) rfl rfl (Nat.le_of_ble_eq_true rfl) dX12_bounds_11 ?_
  obtain ⟨j28_3, ej28_3, h⟩ := drvF h
  have hj28_3 : ∀ (_ : Unit), j28_3 = some (r, w') → J MX12_bounds 2 w_1 28 [(0, .ref 205)] [] (some (.int r)) w' := by
    intro _ h
    rw [ej28_3] at h
    try dsimp only at h
    refine jr_aload_n dX12_bounds_28 rfl 0 rfl ?_
    refine jr_bipush (v := (-3 : Int32)) dX12_bounds_29 (by decide) ?_
    obtain ⟨r_6, w_5, hq_4, h⟩ := drvB2 h
    refine j_callVv lk_X12_85 wIM_X12_no wSE_X12_no (rfl : kd 205 = 11) (by decide) rfl (tX12_no  hq_4) (by omega) rfl rfl (Nat.le_of_ble_eq_true rfl) dX12_bounds_31 ?_
    obtain ⟨rfl, rfl⟩ := drvS2 h
    exact jr_iret rfl dX12_bounds_34
  refine jr_if_eq (tgt := 28) (nxt := 17) dX12_bounds_14 (by decide) rfl (fun hc => ?_) (fun hc => ?_)
  · replace h := drvT hc h
    refine jr_sub [0] rfl ?_
    exact (hj28_3 ()) h
  · replace h := drvE hc h
    refine jr_iload_n dX12_bounds_17 rfl 2 rfl ?_
    refine jr_i2l dX12_bounds_18 ?_
    refine jr_lconst (v := (1 : Int64)) dX12_bounds_19 rfl ?_
    refine jr_iload_n dX12_bounds_20 rfl 1 rfl ?_
    refine jr_i2l dX12_bounds_21 ?_
    refine j_callSv lk_X12_81 wST_X12_within (tX12_within  (a0 := ((a1).toInt64)) (a1 := (1 : Int64)) (a2 := ((a0).toInt64)) (w := w_1)) (by omega) rfl rfl (Nat.le_of_ble_eq_true rfl) dX12_bounds_22 ?_
    refine jr_if_ne (tgt := 35) (nxt := 28) dX12_bounds_25 (by decide) rfl (fun hc => ?_) (fun hc => ?_)
    · replace h := drvE hc h
      refine jr_aload_n dX12_bounds_35 rfl 0 rfl ?_
      refine gf_X12_17 (r := 207) rfl (rfl : kd 205 = 11) rfl dX12_bounds_36 ?_
      refine jr_sipush (v := (248 : Int32)) dX12_bounds_39 (by decide) ?_
      refine jr_iload_n dX12_bounds_42 rfl 1 rfl ?_
      refine jr_iastL (k := 248) (rfl : kd 207 = 13) (vp_lit (by decide) (by decide)) (by decide) dX12_bounds_43 ?_
      refine j_nmw (fun w_7 e_8 => ?_)
      replace h := drvL e_8 h
      refine jr_aload_n dX12_bounds_44 rfl 0 rfl ?_
      refine gf_X12_17 (r := 207) rfl (rfl : kd 205 = 11) rfl dX12_bounds_45 ?_
      refine jr_sipush (v := (249 : Int32)) dX12_bounds_48 (by decide) ?_
      refine jr_iload_n dX12_bounds_51 rfl 2 rfl ?_
      refine jr_iastL (k := 249) (rfl : kd 207 = 13) (vp_lit (by decide) (by decide)) (by decide) dX12_bounds_52 ?_
      refine j_nmw (fun w_9 e_10 => ?_)
      replace h := drvL e_10 h
      refine jr_iconst (v := (0 : Int32)) dX12_bounds_53 (by decide) ?_
      obtain ⟨rfl, rfl⟩ := drvS2 h
      exact jr_iret rfl dX12_bounds_54
    · replace h := drvT hc h
      refine jr_sub [0] rfl ?_
      exact (hj28_3 ()) h
set_option maxHeartbeats 4000000 in
set_option maxRecDepth 100000 in
theorem hbX12_meets_123 {n : Nat} {p1 : Int32} {p2 : Int32} {p3 : Int32} {p4 : Int32} {p5 : Int32} {p6 : Int32} {k203 : jWd → (Option jWd)} {w' : jWd} {rec : Int32 → jWd → Option jWd} (hk203 : ∀ (w9 : jWd), k203 w9 = some w' → J MX12_meets 4 w9 203 [(0, .ref 205), (1, .int p1), (2, .int p2), (3, .int p3), (4, .int p4), (5, .int p5)] [] none w')
    (hrec : ∀ (x7 : Int32) (w : jWd) , rec x7 w = some w' → J MX12_meets 4 w 123 [(0, .ref 205), (1, .int p1), (2, .int p2), (3, .int p3), (4, .int p4), (5, .int p5), (6, .int p6), (7, .int x7)] [] none w') : ∀ (x7 : Int32) (w : jWd) , bX12_meets_123 n p1 p2 p3 p4 p5 p6 k203 rec x7 w = some w' → J MX12_meets 4 w 123 [(0, .ref 205), (1, .int p1), (2, .int p2), (3, .int p3), (4, .int p4), (5, .int p5), (6, .int p6), (7, .int x7)] [] none w' := by
  intro x7 w h
  unfold bX12_meets_123 at h
  refine jr_iload dX12_meets_123 7 rfl ?_
  refine jr_iload dX12_meets_125 6 rfl ?_
  refine jr_icmp_ge (tgt := 203) (nxt := 130) dX12_meets_127 (by decide) rfl (fun hc => ?_) (fun hc => ?_)
  · replace h := drvT hc h
    refine jr_sub [0, 1, 2, 3, 4, 5] rfl ?_
    exact hk203 _ h
  · replace h := drvE hc h
    refine jr_aload_n dX12_meets_130 rfl 0 rfl ?_
    refine jr_dup dX12_meets_131 rfl ?_
    refine gf_X12_288 rfl (rfl : kd 205 = 11) dX12_meets_132 ?_
    refine jr_iconst (v := (1 : Int32)) dX12_meets_135 (by decide) ?_
    refine jr_iadd dX12_meets_136 ?_
    refine pf_X12_288 rfl (rfl : kd 205 = 11) dX12_meets_137 ?_
    refine j_nmw (fun w_10 e_11 => ?_)
    replace h := drvL e_11 h
    refine jr_aload_n dX12_meets_140 rfl 0 rfl ?_
    refine jr_dup dX12_meets_141 rfl ?_
    refine gf_X12_291 rfl (rfl : kd 205 = 11) dX12_meets_142 ?_
    refine jr_aload_n dX12_meets_145 rfl 0 rfl ?_
    refine jr_aload_n dX12_meets_146 rfl 0 rfl ?_
    refine gf_X12_20 (r := 208) rfl (rfl : kd 205 = 11) rfl dX12_meets_147 ?_
    refine jr_sipush (v := (480 : Int32)) dX12_meets_150 (by decide) ?_
    refine jr_iload_n dX12_meets_153 rfl 3 rfl ?_
    refine jr_iadd dX12_meets_154 ?_
    obtain ⟨hg_12, h⟩ := drvG h
    refine jr_lald (rfl : kd 208 = 14) hg_12 dX12_meets_155 ?_
    refine jr_aload_n dX12_meets_156 rfl 0 rfl ?_
    refine gf_X12_20 (r := 208) rfl (rfl : kd 205 = 11) rfl dX12_meets_157 ?_
    refine jr_iload_n dX12_meets_160 rfl 2 rfl ?_
    obtain ⟨j171_14, ej171_14, h⟩ := drvF h
    have hj171_14 : ∀ (s_13 : Int32), j171_14 s_13 = some w' → J MX12_meets 4 w_10 171 [(0, .ref 205), (1, .int p1), (2, .int p2), (3, .int p3), (4, .int p4), (5, .int p5), (6, .int p6), (7, .int x7)] [.int s_13, .ref 208, .long (wJ w_10 208 (((480 : Int32) + p3)).toNatClampNeg), .ref 205, .int (wI w_10 205 33), .ref 205] none w' := by
      intro s_13 h
      rw [ej171_14] at h
      try dsimp only at h
      refine jr_bipush (v := (12 : Int32)) dX12_meets_171 (by decide) ?_
      refine jr_iload dX12_meets_173 5 rfl ?_
      refine jr_imul dX12_meets_175 ?_
      refine jr_iadd dX12_meets_176 ?_
      refine jr_iload dX12_meets_177 7 rfl ?_
      refine jr_iadd dX12_meets_179 ?_
      obtain ⟨hg_15, h⟩ := drvG h
      refine jr_lald (rfl : kd 208 = 14) hg_15 dX12_meets_180 ?_
      obtain ⟨r_18, w_17, hq_16, h⟩ := drvB2 h
      refine j_callVv lk_X12_111 wIM_X12_likeOf wSE_X12_likeOf (rfl : kd 205 = 11) (by decide) rfl (tX12_likeOf  hq_16) (by omega) rfl rfl (Nat.le_of_ble_eq_true rfl) dX12_meets_181 ?_
      refine jr_iload_n dX12_meets_184 rfl 1 rfl ?_
      obtain ⟨j193_20, ej193_20, h⟩ := drvF h
      have hj193_20 : ∀ (s_19 : Int32), j193_20 s_19 = some w' → J MX12_meets 4 w_17 193 [(0, .ref 205), (1, .int p1), (2, .int p2), (3, .int p3), (4, .int p4), (5, .int p5), (6, .int p6), (7, .int x7)] [.int s_19, .int (wI w_10 205 33), .ref 205] none w' := by
        intro s_19 h
        rw [ej193_20] at h
        try dsimp only at h
        refine jr_iadd dX12_meets_193 ?_
        refine pf_X12_291 rfl (rfl : kd 205 = 11) dX12_meets_194 ?_
        refine j_nmw (fun w_21 e_22 => ?_)
        replace h := drvL e_22 h
        refine jr_iincN (c := (1 : Int32)) (lv' := fun (x7_23 : Int32) => [(7, .int x7_23), (0, .ref 205), (1, .int p1), (2, .int p2), (3, .int p3), (4, .int p4), (5, .int p5), (6, .int p6)]) dX12_meets_197 (by decide) 7 rfl (by decide) (fun _ => rfl) (fun x7_23 e_24 => ?_)
        replace h := drvL e_24 h
        refine jr_goto (tgt := 123) dX12_meets_200 (by decide) ?_
        refine jr_sub [1, 2, 3, 4, 5, 6, 7, 0] rfl ?_
        exact hrec _ _ h
      refine jr_icmp_lt (tgt := 192) (nxt := 188) dX12_meets_185 (by decide) rfl (fun hc => ?_) (fun hc => ?_)
      · replace h := drvT hc h
        refine jr_iconst (v := (0 : Int32)) dX12_meets_192 (by decide) ?_
        refine jr_sub [0, 1, 2, 3, 4, 5, 6, 7] rfl ?_
        exact hj193_20 _ h
      · replace h := drvE hc h
        refine jr_iconst (v := (1 : Int32)) dX12_meets_188 (by decide) ?_
        refine jr_goto (tgt := 193) dX12_meets_189 (by decide) ?_
        refine jr_sub [0, 1, 2, 3, 4, 5, 6, 7] rfl ?_
        exact hj193_20 _ h
    refine jr_if_eq (tgt := 170) (nxt := 164) dX12_meets_161 (by decide) rfl (fun hc => ?_) (fun hc => ?_)
    · replace h := drvT hc h
      refine jr_iconst (v := (0 : Int32)) dX12_meets_170 (by decide) ?_
      refine jr_sub [0, 1, 2, 3, 4, 5, 6, 7] rfl ?_
      exact hj171_14 _ h
    · replace h := drvE hc h
      refine jr_sipush (v := (540 : Int32)) dX12_meets_164 (by decide) ?_
      refine jr_goto (tgt := 171) dX12_meets_167 (by decide) ?_
      refine jr_sub [0, 1, 2, 3, 4, 5, 6, 7] rfl ?_
      exact hj171_14 _ h
theorem hlX12_meets_123 {n : Nat} {p1 : Int32} {p2 : Int32} {p3 : Int32} {p4 : Int32} {p5 : Int32} {p6 : Int32} {k203 : jWd → (Option jWd)} {w' : jWd} (hk203 : ∀ (w9 : jWd), k203 w9 = some w' → J MX12_meets 4 w9 203 [(0, .ref 205), (1, .int p1), (2, .int p2), (3, .int p3), (4, .int p4), (5, .int p5)] [] none w') : ∀ (c : Nat) (x7 : Int32) (w : jWd) , lX12_meets_123 n p1 p2 p3 p4 p5 p6 k203 c x7 w = some w' → J MX12_meets 4 w 123 [(0, .ref 205), (1, .int p1), (2, .int p2), (3, .int p3), (4, .int p4), (5, .int p5), (6, .int p6), (7, .int x7)] [] none w' := by
  intro c
  induction c with
  | zero => intro x7 w h; cases h
  | succ c ih => intro x7 w h; exact hbX12_meets_123 (n := n) hk203 ih _ _ h
set_option maxHeartbeats 4000000 in
set_option maxRecDepth 100000 in
theorem hbX12_meets_50 {n : Nat} {p1 : Int32} {p2 : Int32} {p3 : Int32} {p4 : Int32} {k209 : jWd → (Option jWd)} {w' : jWd} {rec : Int32 → jWd → Option jWd} (hk209 : ∀ (w9 : jWd), k209 w9 = some w' → J MX12_meets 4 w9 209 [(0, .ref 205), (1, .int p1), (2, .int p2), (3, .int p3)] [] none w')
    (hrec : ∀ (x5 : Int32) (w : jWd) , rec x5 w = some w' → J MX12_meets 4 w 50 [(0, .ref 205), (1, .int p1), (2, .int p2), (3, .int p3), (4, .int p4), (5, .int x5)] [] none w') : ∀ (x5 : Int32) (w : jWd) , bX12_meets_50 n p1 p2 p3 p4 k209 rec x5 w = some w' → J MX12_meets 4 w 50 [(0, .ref 205), (1, .int p1), (2, .int p2), (3, .int p3), (4, .int p4), (5, .int x5)] [] none w' := by
  intro x5 w h
  unfold bX12_meets_50 at h
  refine jr_iload dX12_meets_50 5 rfl ?_
  refine jr_iload dX12_meets_52 4 rfl ?_
  refine jr_icmp_ge (tgt := 209) (nxt := 57) dX12_meets_54 (by decide) rfl (fun hc => ?_) (fun hc => ?_)
  · replace h := drvT hc h
    refine jr_sub [0, 1, 2, 3] rfl ?_
    exact hk209 _ h
  · replace h := drvE hc h
    refine jr_iload_n dX12_meets_57 rfl 2 rfl ?_
    obtain ⟨j90_7, ej90_7, h⟩ := drvF h
    have hj90_7 : ∀ (_ : Unit), j90_7 = some w' → J MX12_meets 4 w 90 [(0, .ref 205), (1, .int p1), (2, .int p2), (3, .int p3), (4, .int p4), (5, .int x5)] [] none w' := by
      intro _ h
      rw [ej90_7] at h
      try dsimp only at h
      refine jr_iload_n dX12_meets_90 rfl 2 rfl ?_
      obtain ⟨j118_9, ej118_9, h⟩ := drvF h
      have hj118_9 : ∀ (s_8 : Int32), j118_9 s_8 = some w' → J MX12_meets 4 w 118 [(0, .ref 205), (1, .int p1), (2, .int p2), (3, .int p3), (4, .int p4), (5, .int x5)] [.int s_8] none w' := by
        intro s_8 h
        rw [ej118_9] at h
        try dsimp only at h
        refine jr_istore (lv' := [(6, .int s_8), (0, .ref 205), (1, .int p1), (2, .int p2), (3, .int p3), (4, .int p4), (5, .int x5)]) dX12_meets_118 (by decide) rfl ?_
        refine jr_iconst (v := (0 : Int32)) dX12_meets_120 (by decide) ?_
        refine jr_istore (lv' := [(7, .int (0 : Int32)), (6, .int s_8), (0, .ref 205), (1, .int p1), (2, .int p2), (3, .int p3), (4, .int p4), (5, .int x5)]) dX12_meets_121 (by decide) rfl ?_
        refine jr_sub [2, 3, 4, 5, 6, 7, 1, 0] rfl ?_
        refine hlX12_meets_123  ?_ _ _ _ h
        · intro w_25 h
          try dsimp only at h
          refine jr_iincN (c := (1 : Int32)) (lv' := fun (x5_26 : Int32) => [(5, .int x5_26), (0, .ref 205), (1, .int p1), (2, .int p2), (3, .int p3), (4, .int p4)]) dX12_meets_203 (by decide) 5 rfl (by decide) (fun _ => rfl) (fun x5_26 e_27 => ?_)
          replace h := drvL e_27 h
          refine jr_goto (tgt := 50) dX12_meets_206 (by decide) ?_
          refine jr_sub [1, 2, 3, 4, 5, 0] rfl ?_
          exact hrec _ _ h
      refine jr_if_eq (tgt := 108) (nxt := 94) dX12_meets_91 (by decide) rfl (fun hc => ?_) (fun hc => ?_)
      · replace h := drvT hc h
        refine jr_aload_n dX12_meets_108 rfl 0 rfl ?_
        refine gf_X12_17 (r := 207) rfl (rfl : kd 205 = 11) rfl dX12_meets_109 ?_
        refine jr_bipush (v := (121 : Int32)) dX12_meets_112 (by decide) ?_
        refine jr_iload dX12_meets_114 5 rfl ?_
        refine jr_iadd dX12_meets_116 ?_
        obtain ⟨hg_28, h⟩ := drvG h
        refine jr_iald (rfl : kd 207 = 13) hg_28 dX12_meets_117 ?_
        refine jr_sub [0, 1, 2, 3, 4, 5] rfl ?_
        exact hj118_9 _ h
      · replace h := drvE hc h
        refine jr_aload_n dX12_meets_94 rfl 0 rfl ?_
        refine gf_X12_17 (r := 207) rfl (rfl : kd 205 = 11) rfl dX12_meets_95 ?_
        refine jr_sipush (v := (236 : Int32)) dX12_meets_98 (by decide) ?_
        refine jr_iload dX12_meets_101 5 rfl ?_
        refine jr_iadd dX12_meets_103 ?_
        obtain ⟨hg_29, h⟩ := drvG h
        refine jr_iald (rfl : kd 207 = 13) hg_29 dX12_meets_104 ?_
        refine jr_goto (tgt := 118) dX12_meets_105 (by decide) ?_
        refine jr_sub [0, 1, 2, 3, 4, 5] rfl ?_
        exact hj118_9 _ h
    refine jr_if_eq (tgt := 78) (nxt := 61) dX12_meets_58 (by decide) rfl (fun hc => ?_) (fun hc => ?_)
    · replace h := drvT hc h
      refine jr_aload_n dX12_meets_78 rfl 0 rfl ?_
      refine jr_iload dX12_meets_79 5 rfl ?_
      obtain ⟨r_31, hq_30, h⟩ := drvB h
      refine j_callVv lk_X12_250 wIM_X12_isEarly wSE_X12_isEarly (rfl : kd 205 = 11) (by decide) rfl (tX12_isEarly  hq_30) (by omega) rfl rfl (Nat.le_of_ble_eq_true rfl) dX12_meets_81 ?_
      refine jr_if_ne (tgt := 90) (nxt := 87) dX12_meets_84 (by decide) rfl (fun hc => ?_) (fun hc => ?_)
      · replace h := drvE hc h
        refine jr_sub [0, 1, 2, 3, 4, 5] rfl ?_
        exact (hj90_7 ()) h
      · replace h := drvT hc h
        refine jr_goto (tgt := 203) dX12_meets_87 (by decide) ?_
        refine jr_iincN (c := (1 : Int32)) (lv' := fun (x5_32 : Int32) => [(5, .int x5_32), (0, .ref 205), (1, .int p1), (2, .int p2), (3, .int p3), (4, .int p4)]) dX12_meets_203 (by decide) 5 rfl (by decide) (fun _ => rfl) (fun x5_32 e_33 => ?_)
        replace h := drvL e_33 h
        refine jr_goto (tgt := 50) dX12_meets_206 (by decide) ?_
        refine jr_sub [1, 2, 3, 4, 5, 0] rfl ?_
        exact hrec _ _ h
    · replace h := drvE hc h
      refine jr_aload_n dX12_meets_61 rfl 0 rfl ?_
      refine gf_X12_17 (r := 207) rfl (rfl : kd 205 = 11) rfl dX12_meets_62 ?_
      refine jr_sipush (v := (224 : Int32)) dX12_meets_65 (by decide) ?_
      refine jr_iload dX12_meets_68 5 rfl ?_
      refine jr_iadd dX12_meets_70 ?_
      obtain ⟨hg_34, h⟩ := drvG h
      refine jr_iald (rfl : kd 207 = 13) hg_34 dX12_meets_71 ?_
      refine jr_if_ne (tgt := 90) (nxt := 75) dX12_meets_72 (by decide) rfl (fun hc => ?_) (fun hc => ?_)
      · replace h := drvE hc h
        refine jr_sub [0, 1, 2, 3, 4, 5] rfl ?_
        exact (hj90_7 ()) h
      · replace h := drvT hc h
        refine jr_goto (tgt := 203) dX12_meets_75 (by decide) ?_
        refine jr_iincN (c := (1 : Int32)) (lv' := fun (x5_35 : Int32) => [(5, .int x5_35), (0, .ref 205), (1, .int p1), (2, .int p2), (3, .int p3), (4, .int p4)]) dX12_meets_203 (by decide) 5 rfl (by decide) (fun _ => rfl) (fun x5_35 e_36 => ?_)
        replace h := drvL e_36 h
        refine jr_goto (tgt := 50) dX12_meets_206 (by decide) ?_
        refine jr_sub [1, 2, 3, 4, 5, 0] rfl ?_
        exact hrec _ _ h
theorem hlX12_meets_50 {n : Nat} {p1 : Int32} {p2 : Int32} {p3 : Int32} {p4 : Int32} {k209 : jWd → (Option jWd)} {w' : jWd} (hk209 : ∀ (w9 : jWd), k209 w9 = some w' → J MX12_meets 4 w9 209 [(0, .ref 205), (1, .int p1), (2, .int p2), (3, .int p3)] [] none w') : ∀ (c : Nat) (x5 : Int32) (w : jWd) , lX12_meets_50 n p1 p2 p3 p4 k209 c x5 w = some w' → J MX12_meets 4 w 50 [(0, .ref 205), (1, .int p1), (2, .int p2), (3, .int p3), (4, .int p4), (5, .int x5)] [] none w' := by
  intro c
  induction c with
  | zero => intro x5 w h; cases h
  | succ c ih => intro x5 w h; exact hbX12_meets_50 (n := n) hk209 ih _ _ h
set_option maxHeartbeats 4000000 in
set_option maxRecDepth 100000 in
theorem hbX12_meets_12 {n : Nat} {p1 : Int32} {p2 : Int32} {w' : jWd} {rec : Int32 → jWd → Option jWd} 
    (hrec : ∀ (x3 : Int32) (w : jWd) , rec x3 w = some w' → J MX12_meets 4 w 12 [(0, .ref 205), (1, .int p1), (2, .int p2), (3, .int x3)] [] none w') : ∀ (x3 : Int32) (w : jWd) , bX12_meets_12 n p1 p2 rec x3 w = some w' → J MX12_meets 4 w 12 [(0, .ref 205), (1, .int p1), (2, .int p2), (3, .int x3)] [] none w' := by
  intro x3 w h
  unfold bX12_meets_12 at h
  refine jr_iload_n dX12_meets_12 rfl 3 rfl ?_
  refine jr_aload_n dX12_meets_13 rfl 0 rfl ?_
  refine gf_X12_17 (r := 207) rfl (rfl : kd 205 = 11) rfl dX12_meets_14 ?_
  refine jr_sipush (v := (162 : Int32)) dX12_meets_17 (by decide) ?_
  refine jr_ialdL (k := 162) (rfl : kd 207 = 13) (vp_lit (by decide) (by decide)) (by decide) dX12_meets_20 ?_
  refine jr_icmp_ge (tgt := 215) (nxt := 24) dX12_meets_21 (by decide) rfl (fun hc => ?_) (fun hc => ?_)
  · replace h := drvT hc h
    obtain rfl := drvS1 h
    exact jr_vret rfl dX12_meets_215
  · replace h := drvE hc h
    refine jr_iload_n dX12_meets_24 rfl 2 rfl ?_
    obtain ⟨j45_6, ej45_6, h⟩ := drvF h
    have hj45_6 : ∀ (s_5 : Int32), j45_6 s_5 = some w' → J MX12_meets 4 w 45 [(0, .ref 205), (1, .int p1), (2, .int p2), (3, .int x3)] [.int s_5] none w' := by
      intro s_5 h
      rw [ej45_6] at h
      try dsimp only at h
      refine jr_istore (lv' := [(4, .int s_5), (0, .ref 205), (1, .int p1), (2, .int p2), (3, .int x3)]) dX12_meets_45 (by decide) rfl ?_
      refine jr_iconst (v := (0 : Int32)) dX12_meets_47 (by decide) ?_
      refine jr_istore (lv' := [(5, .int (0 : Int32)), (4, .int s_5), (0, .ref 205), (1, .int p1), (2, .int p2), (3, .int x3)]) dX12_meets_48 (by decide) rfl ?_
      refine jr_sub [2, 3, 4, 5, 1, 0] rfl ?_
      refine hlX12_meets_50  ?_ _ _ _ h
      · intro w_37 h
        try dsimp only at h
        refine jr_iincN (c := (1 : Int32)) (lv' := fun (x3_38 : Int32) => [(3, .int x3_38), (0, .ref 205), (1, .int p1), (2, .int p2)]) dX12_meets_209 (by decide) 3 rfl (by decide) (fun _ => rfl) (fun x3_38 e_39 => ?_)
        replace h := drvL e_39 h
        refine jr_goto (tgt := 12) dX12_meets_212 (by decide) ?_
        refine jr_sub [1, 2, 3, 0] rfl ?_
        exact hrec _ _ h
    refine jr_if_eq (tgt := 39) (nxt := 28) dX12_meets_25 (by decide) rfl (fun hc => ?_) (fun hc => ?_)
    · replace h := drvT hc h
      refine jr_aload_n dX12_meets_39 rfl 0 rfl ?_
      refine gf_X12_17 (r := 207) rfl (rfl : kd 205 = 11) rfl dX12_meets_40 ?_
      refine jr_iconst (v := (0 : Int32)) dX12_meets_43 (by decide) ?_
      refine jr_ialdL (k := 0) (rfl : kd 207 = 13) (vp_lit (by decide) (by decide)) (by decide) dX12_meets_44 ?_
      refine jr_sub [0, 1, 2, 3] rfl ?_
      exact hj45_6 _ h
    · replace h := drvE hc h
      refine jr_aload_n dX12_meets_28 rfl 0 rfl ?_
      refine gf_X12_17 (r := 207) rfl (rfl : kd 205 = 11) rfl dX12_meets_29 ?_
      refine jr_sipush (v := (223 : Int32)) dX12_meets_32 (by decide) ?_
      refine jr_ialdL (k := 223) (rfl : kd 207 = 13) (vp_lit (by decide) (by decide)) (by decide) dX12_meets_35 ?_
      refine jr_goto (tgt := 45) dX12_meets_36 (by decide) ?_
      refine jr_sub [0, 1, 2, 3] rfl ?_
      exact hj45_6 _ h
theorem hlX12_meets_12 {n : Nat} {p1 : Int32} {p2 : Int32} {w' : jWd}  : ∀ (c : Nat) (x3 : Int32) (w : jWd) , lX12_meets_12 n p1 p2 c x3 w = some w' → J MX12_meets 4 w 12 [(0, .ref 205), (1, .int p1), (2, .int p2), (3, .int x3)] [] none w' := by
  intro c
  induction c with
  | zero => intro x3 w h; cases h
  | succ c ih => intro x3 w h; exact hbX12_meets_12 (n := n) ih _ _ h
set_option maxHeartbeats 4000000 in
set_option maxRecDepth 100000 in
theorem tX12_meets {n : Nat} {a0 : Int32} {a1 : Int32} {w : jWd} {w' : jWd}  (h : fX12_meets n a0 a1 w = some w') : JM yX12_meets MX12_meets 4 [.ref 205, .int a0, .int a1] w none w' := by
  refine jm_of pl_X12 rfl (Nat.le_of_ble_eq_true rfl) ?_
  show J MX12_meets 4 w 0 [(0, .ref 205), (1, .int a0), (2, .int a1)] [] none w'
  unfold fX12_meets at h
  refine jr_aload_n dX12_meets_0 rfl 0 rfl ?_
  refine jr_iconst (v := (0 : Int32)) dX12_meets_1 (by decide) ?_
  refine pf_X12_288 rfl (rfl : kd 205 = 11) dX12_meets_2 ?_
  refine j_nmw (fun w_1 e_2 => ?_)
  replace h := drvL e_2 h
  refine jr_aload_n dX12_meets_5 rfl 0 rfl ?_
  refine jr_iconst (v := (0 : Int32)) dX12_meets_6 (by decide) ?_
  refine pf_X12_291 rfl (rfl : kd 205 = 11) dX12_meets_7 ?_
  refine j_nmw (fun w_3 e_4 => ?_)
  replace h := drvL e_4 h
  refine jr_iconst (v := (0 : Int32)) dX12_meets_10 (by decide) ?_
  refine jr_istore_n (lv' := [(3, .int (0 : Int32)), (0, .ref 205), (1, .int a0), (2, .int a1)]) dX12_meets_11 rfl (by decide) rfl ?_
  refine jr_sub [1, 2, 3, 0] rfl ?_
  refine hlX12_meets_12   _ _ _ h
set_option maxHeartbeats 4000000 in
set_option maxRecDepth 100000 in
theorem tX12_chance {n : Nat} {a0 : Int32} {a1 : Int32} {w : jWd} {r : Int32} {w' : jWd}  (h : fX12_chance n a0 a1 w = some (r, w')) : JM yX12_chance MX12_chance 5 [.ref 205, .int a0, .int a1] w (some (.int r)) w' := by
  refine jm_of pl_X12 rfl (Nat.le_of_ble_eq_true rfl) ?_
  show J MX12_chance 5 w 0 [(0, .ref 205), (1, .int a0), (2, .int a1)] [] (some (.int r)) w'
  unfold fX12_chance at h
  refine jr_aload_n dX12_chance_0 rfl 0 rfl ?_
  refine jr_iconst (v := (0 : Int32)) dX12_chance_1 (by decide) ?_
  refine pf_X12_1 rfl (rfl : kd 205 = 11) dX12_chance_2 ?_
  refine j_nmw (fun w_1 e_2 => ?_)
  replace h := drvL e_2 h
  refine jr_iload_n dX12_chance_5 rfl 2 rfl ?_
  refine jr_i2l dX12_chance_6 ?_
  refine jr_lconst (v := (0 : Int64)) dX12_chance_7 rfl ?_
  refine jr_lconst (v := (1 : Int64)) dX12_chance_8 rfl ?_
  refine j_callSv lk_X12_81 wST_X12_within (tX12_within  (a0 := ((a1).toInt64)) (a1 := (0 : Int64)) (a2 := (1 : Int64)) (w := w_1)) (by omega) rfl rfl (Nat.le_of_ble_eq_true rfl) dX12_chance_9 ?_
  refine jr_if_ne (tgt := 22) (nxt := 15) dX12_chance_12 (by decide) rfl (fun hc => ?_) (fun hc => ?_)
  · replace h := drvE hc h
    refine jr_iload_n dX12_chance_22 rfl 1 rfl ?_
    refine jr_i2l dX12_chance_23 ?_
    refine jr_lconst (v := (1 : Int64)) dX12_chance_24 rfl ?_
    refine jr_ldc2 (v := (100 : Int64)) wCC_X12_105 dX12_chance_25 ?_
    refine j_callSv lk_X12_81 wST_X12_within (tX12_within  (a0 := ((a0).toInt64)) (a1 := (1 : Int64)) (a2 := (100 : Int64)) (w := w_1)) (by omega) rfl rfl (Nat.le_of_ble_eq_true rfl) dX12_chance_28 ?_
    refine jr_if_ne (tgt := 41) (nxt := 34) dX12_chance_31 (by decide) rfl (fun hc => ?_) (fun hc => ?_)
    · replace h := drvE hc h
      refine jr_aload_n dX12_chance_41 rfl 0 rfl ?_
      refine jr_iload_n dX12_chance_42 rfl 1 rfl ?_
      refine jr_iconst (v := (1 : Int32)) dX12_chance_43 (by decide) ?_
      obtain ⟨w_4, hq_3, h⟩ := drvB h
      refine j_callVn lk_X12_294 wIM_X12_meets wSE_X12_meets (rfl : kd 205 = 11) (by decide) rfl (tX12_meets  hq_3) (by omega) rfl rfl (Nat.le_of_ble_eq_true rfl) dX12_chance_44 ?_
      refine jr_aload_n dX12_chance_47 rfl 0 rfl ?_
      refine gf_X12_291 rfl (rfl : kd 205 = 11) dX12_chance_48 ?_
      refine jr_i2l dX12_chance_51 ?_
      refine jr_aload_n dX12_chance_52 rfl 0 rfl ?_
      refine gf_X12_288 rfl (rfl : kd 205 = 11) dX12_chance_53 ?_
      refine jr_i2l dX12_chance_56 ?_
      refine jr_iload_n dX12_chance_57 rfl 2 rfl ?_
      obtain ⟨r_6, hq_5, h⟩ := drvB h
      refine j_callSv lk_X12_298 wST_X12_part (tX12_part  hq_5) (by omega) rfl rfl (Nat.le_of_ble_eq_true rfl) dX12_chance_58 ?_
      refine jr_l2i dX12_chance_61 ?_
      obtain ⟨rfl, rfl⟩ := drvS2 h
      exact jr_iret rfl dX12_chance_62
    · replace h := drvT hc h
      refine jr_aload_n dX12_chance_34 rfl 0 rfl ?_
      refine jr_bipush (v := (-3 : Int32)) dX12_chance_35 (by decide) ?_
      obtain ⟨r_9, w_8, hq_7, h⟩ := drvB2 h
      refine j_callVv lk_X12_85 wIM_X12_no wSE_X12_no (rfl : kd 205 = 11) (by decide) rfl (tX12_no  hq_7) (by omega) rfl rfl (Nat.le_of_ble_eq_true rfl) dX12_chance_37 ?_
      obtain ⟨rfl, rfl⟩ := drvS2 h
      exact jr_iret rfl dX12_chance_40
  · replace h := drvT hc h
    refine jr_aload_n dX12_chance_15 rfl 0 rfl ?_
    refine jr_bipush (v := (-2 : Int32)) dX12_chance_16 (by decide) ?_
    obtain ⟨r_12, w_11, hq_10, h⟩ := drvB2 h
    refine j_callVv lk_X12_85 wIM_X12_no wSE_X12_no (rfl : kd 205 = 11) (by decide) rfl (tX12_no  hq_10) (by omega) rfl rfl (Nat.le_of_ble_eq_true rfl) dX12_chance_18 ?_
    obtain ⟨rfl, rfl⟩ := drvS2 h
    exact jr_iret rfl dX12_chance_21
set_option maxHeartbeats 4000000 in
set_option maxRecDepth 100000 in
theorem hbX12_copies_2 {n : Nat} {p1 : Int32} {p2 : Int32} {k39 : jWd → (Option jWd)} {w' : jWd} {rec : Int32 → jWd → Option jWd} (hk39 : ∀ (w9 : jWd), k39 w9 = some w' → J MX12_copies 1 w9 39 [(0, .ref 205), (1, .int p1), (2, .int p2)] [] none w')
    (hrec : ∀ (x3 : Int32) (w : jWd) , rec x3 w = some w' → J MX12_copies 1 w 2 [(0, .ref 205), (1, .int p1), (2, .int p2), (3, .int x3)] [] none w') : ∀ (x3 : Int32) (w : jWd) , bX12_copies_2 n p1 p2 k39 rec x3 w = some w' → J MX12_copies 1 w 2 [(0, .ref 205), (1, .int p1), (2, .int p2), (3, .int x3)] [] none w' := by
  intro x3 w h
  unfold bX12_copies_2 at h
  refine jr_iload_n dX12_copies_2 rfl 3 rfl ?_
  refine jr_sipush (v := (1124 : Int32)) dX12_copies_3 (by decide) ?_
  refine jr_icmp_ge (tgt := 39) (nxt := 9) dX12_copies_6 (by decide) rfl (fun hc => ?_) (fun hc => ?_)
  · replace h := drvT hc h
    refine jr_sub [0, 1, 2] rfl ?_
    exact hk39 _ h
  · replace h := drvE hc h
    refine jr_aload_n dX12_copies_9 rfl 0 rfl ?_
    refine gf_X12_17 (r := 207) rfl (rfl : kd 205 = 11) rfl dX12_copies_10 ?_
    refine jr_sipush (v := (1124 : Int32)) dX12_copies_13 (by decide) ?_
    refine jr_iload_n dX12_copies_16 rfl 2 rfl ?_
    refine jr_imul dX12_copies_17 ?_
    refine jr_iload_n dX12_copies_18 rfl 3 rfl ?_
    refine jr_iadd dX12_copies_19 ?_
    refine jr_aload_n dX12_copies_20 rfl 0 rfl ?_
    refine gf_X12_17 (r := 207) rfl (rfl : kd 205 = 11) rfl dX12_copies_21 ?_
    refine jr_sipush (v := (1124 : Int32)) dX12_copies_24 (by decide) ?_
    refine jr_iload_n dX12_copies_27 rfl 1 rfl ?_
    refine jr_imul dX12_copies_28 ?_
    refine jr_iload_n dX12_copies_29 rfl 3 rfl ?_
    refine jr_iadd dX12_copies_30 ?_
    obtain ⟨hg_1, h⟩ := drvG h
    refine jr_iald (rfl : kd 207 = 13) hg_1 dX12_copies_31 ?_
    obtain ⟨hg_4, h⟩ := drvG h
    refine jr_iast (rfl : kd 207 = 13) hg_4 dX12_copies_32 ?_
    refine j_nmw (fun w_2 e_3 => ?_)
    replace h := drvL e_3 h
    refine jr_iincN (c := (1 : Int32)) (lv' := fun (x3_5 : Int32) => [(3, .int x3_5), (0, .ref 205), (1, .int p1), (2, .int p2)]) dX12_copies_33 (by decide) 3 rfl (by decide) (fun _ => rfl) (fun x3_5 e_6 => ?_)
    replace h := drvL e_6 h
    refine jr_goto (tgt := 2) dX12_copies_36 (by decide) ?_
    refine jr_sub [1, 2, 3, 0] rfl ?_
    exact hrec _ _ h
theorem hlX12_copies_2 {n : Nat} {p1 : Int32} {p2 : Int32} {k39 : jWd → (Option jWd)} {w' : jWd} (hk39 : ∀ (w9 : jWd), k39 w9 = some w' → J MX12_copies 1 w9 39 [(0, .ref 205), (1, .int p1), (2, .int p2)] [] none w') : ∀ (c : Nat) (x3 : Int32) (w : jWd) , lX12_copies_2 n p1 p2 k39 c x3 w = some w' → J MX12_copies 1 w 2 [(0, .ref 205), (1, .int p1), (2, .int p2), (3, .int x3)] [] none w' := by
  intro c
  induction c with
  | zero => intro x3 w h; cases h
  | succ c ih => intro x3 w h; exact hbX12_copies_2 (n := n) hk39 ih _ _ h
set_option maxHeartbeats 4000000 in
set_option maxRecDepth 100000 in
theorem hbX12_copies_41 {n : Nat} {p1 : Int32} {p2 : Int32} {k78 : jWd → (Option jWd)} {w' : jWd} {rec : Int32 → jWd → Option jWd} (hk78 : ∀ (w9 : jWd), k78 w9 = some w' → J MX12_copies 1 w9 78 [(0, .ref 205), (1, .int p1), (2, .int p2)] [] none w')
    (hrec : ∀ (x3 : Int32) (w : jWd) , rec x3 w = some w' → J MX12_copies 1 w 41 [(0, .ref 205), (1, .int p1), (2, .int p2), (3, .int x3)] [] none w') : ∀ (x3 : Int32) (w : jWd) , bX12_copies_41 n p1 p2 k78 rec x3 w = some w' → J MX12_copies 1 w 41 [(0, .ref 205), (1, .int p1), (2, .int p2), (3, .int x3)] [] none w' := by
  intro x3 w h
  unfold bX12_copies_41 at h
  refine jr_iload_n dX12_copies_41 rfl 3 rfl ?_
  refine jr_sipush (v := (784 : Int32)) dX12_copies_42 (by decide) ?_
  refine jr_icmp_ge (tgt := 78) (nxt := 48) dX12_copies_45 (by decide) rfl (fun hc => ?_) (fun hc => ?_)
  · replace h := drvT hc h
    refine jr_sub [0, 1, 2] rfl ?_
    exact hk78 _ h
  · replace h := drvE hc h
    refine jr_aload_n dX12_copies_48 rfl 0 rfl ?_
    refine gf_X12_20 (r := 208) rfl (rfl : kd 205 = 11) rfl dX12_copies_49 ?_
    refine jr_sipush (v := (784 : Int32)) dX12_copies_52 (by decide) ?_
    refine jr_iload_n dX12_copies_55 rfl 2 rfl ?_
    refine jr_imul dX12_copies_56 ?_
    refine jr_iload_n dX12_copies_57 rfl 3 rfl ?_
    refine jr_iadd dX12_copies_58 ?_
    refine jr_aload_n dX12_copies_59 rfl 0 rfl ?_
    refine gf_X12_20 (r := 208) rfl (rfl : kd 205 = 11) rfl dX12_copies_60 ?_
    refine jr_sipush (v := (784 : Int32)) dX12_copies_63 (by decide) ?_
    refine jr_iload_n dX12_copies_66 rfl 1 rfl ?_
    refine jr_imul dX12_copies_67 ?_
    refine jr_iload_n dX12_copies_68 rfl 3 rfl ?_
    refine jr_iadd dX12_copies_69 ?_
    obtain ⟨hg_8, h⟩ := drvG h
    refine jr_lald (rfl : kd 208 = 14) hg_8 dX12_copies_70 ?_
    obtain ⟨hg_11, h⟩ := drvG h
    refine jr_last (rfl : kd 208 = 14) hg_11 dX12_copies_71 ?_
    refine j_nmw (fun w_9 e_10 => ?_)
    replace h := drvL e_10 h
    refine jr_iincN (c := (1 : Int32)) (lv' := fun (x3_12 : Int32) => [(3, .int x3_12), (0, .ref 205), (1, .int p1), (2, .int p2)]) dX12_copies_72 (by decide) 3 rfl (by decide) (fun _ => rfl) (fun x3_12 e_13 => ?_)
    replace h := drvL e_13 h
    refine jr_goto (tgt := 41) dX12_copies_75 (by decide) ?_
    refine jr_sub [1, 2, 3, 0] rfl ?_
    exact hrec _ _ h
theorem hlX12_copies_41 {n : Nat} {p1 : Int32} {p2 : Int32} {k78 : jWd → (Option jWd)} {w' : jWd} (hk78 : ∀ (w9 : jWd), k78 w9 = some w' → J MX12_copies 1 w9 78 [(0, .ref 205), (1, .int p1), (2, .int p2)] [] none w') : ∀ (c : Nat) (x3 : Int32) (w : jWd) , lX12_copies_41 n p1 p2 k78 c x3 w = some w' → J MX12_copies 1 w 41 [(0, .ref 205), (1, .int p1), (2, .int p2), (3, .int x3)] [] none w' := by
  intro c
  induction c with
  | zero => intro x3 w h; cases h
  | succ c ih => intro x3 w h; exact hbX12_copies_41 (n := n) hk78 ih _ _ h
set_option maxHeartbeats 4000000 in
set_option maxRecDepth 100000 in
theorem hbX12_copies_80 {n : Nat} {p1 : Int32} {p2 : Int32} {k117 : jWd → (Option jWd)} {w' : jWd} {rec : Int32 → jWd → Option jWd} (hk117 : ∀ (w9 : jWd), k117 w9 = some w' → J MX12_copies 1 w9 117 [(0, .ref 205), (1, .int p1), (2, .int p2)] [] none w')
    (hrec : ∀ (x3 : Int32) (w : jWd) , rec x3 w = some w' → J MX12_copies 1 w 80 [(0, .ref 205), (1, .int p1), (2, .int p2), (3, .int x3)] [] none w') : ∀ (x3 : Int32) (w : jWd) , bX12_copies_80 n p1 p2 k117 rec x3 w = some w' → J MX12_copies 1 w 80 [(0, .ref 205), (1, .int p1), (2, .int p2), (3, .int x3)] [] none w' := by
  intro x3 w h
  unfold bX12_copies_80 at h
  refine jr_iload_n dX12_copies_80 rfl 3 rfl ?_
  refine jr_sipush (v := (645 : Int32)) dX12_copies_81 (by decide) ?_
  refine jr_icmp_ge (tgt := 117) (nxt := 87) dX12_copies_84 (by decide) rfl (fun hc => ?_) (fun hc => ?_)
  · replace h := drvT hc h
    refine jr_sub [0, 1, 2] rfl ?_
    exact hk117 _ h
  · replace h := drvE hc h
    refine jr_aload_n dX12_copies_87 rfl 0 rfl ?_
    refine gf_X12_31 (r := 211) rfl (rfl : kd 205 = 11) rfl dX12_copies_88 ?_
    refine jr_sipush (v := (645 : Int32)) dX12_copies_91 (by decide) ?_
    refine jr_iload_n dX12_copies_94 rfl 2 rfl ?_
    refine jr_imul dX12_copies_95 ?_
    refine jr_iload_n dX12_copies_96 rfl 3 rfl ?_
    refine jr_iadd dX12_copies_97 ?_
    refine jr_aload_n dX12_copies_98 rfl 0 rfl ?_
    refine gf_X12_31 (r := 211) rfl (rfl : kd 205 = 11) rfl dX12_copies_99 ?_
    refine jr_sipush (v := (645 : Int32)) dX12_copies_102 (by decide) ?_
    refine jr_iload_n dX12_copies_105 rfl 1 rfl ?_
    refine jr_imul dX12_copies_106 ?_
    refine jr_iload_n dX12_copies_107 rfl 3 rfl ?_
    refine jr_iadd dX12_copies_108 ?_
    obtain ⟨hg_15, h⟩ := drvG h
    refine jr_iald (rfl : kd 211 = 13) hg_15 dX12_copies_109 ?_
    obtain ⟨hg_18, h⟩ := drvG h
    refine jr_iast (rfl : kd 211 = 13) hg_18 dX12_copies_110 ?_
    refine j_nmw (fun w_16 e_17 => ?_)
    replace h := drvL e_17 h
    refine jr_iincN (c := (1 : Int32)) (lv' := fun (x3_19 : Int32) => [(3, .int x3_19), (0, .ref 205), (1, .int p1), (2, .int p2)]) dX12_copies_111 (by decide) 3 rfl (by decide) (fun _ => rfl) (fun x3_19 e_20 => ?_)
    replace h := drvL e_20 h
    refine jr_goto (tgt := 80) dX12_copies_114 (by decide) ?_
    refine jr_sub [1, 2, 3, 0] rfl ?_
    exact hrec _ _ h
theorem hlX12_copies_80 {n : Nat} {p1 : Int32} {p2 : Int32} {k117 : jWd → (Option jWd)} {w' : jWd} (hk117 : ∀ (w9 : jWd), k117 w9 = some w' → J MX12_copies 1 w9 117 [(0, .ref 205), (1, .int p1), (2, .int p2)] [] none w') : ∀ (c : Nat) (x3 : Int32) (w : jWd) , lX12_copies_80 n p1 p2 k117 c x3 w = some w' → J MX12_copies 1 w 80 [(0, .ref 205), (1, .int p1), (2, .int p2), (3, .int x3)] [] none w' := by
  intro c
  induction c with
  | zero => intro x3 w h; cases h
  | succ c ih => intro x3 w h; exact hbX12_copies_80 (n := n) hk117 ih _ _ h
set_option maxHeartbeats 4000000 in
set_option maxRecDepth 100000 in
theorem hbX12_copies_119 {n : Nat} {p1 : Int32} {p2 : Int32} {w' : jWd} {rec : Int32 → jWd → Option jWd} 
    (hrec : ∀ (x3 : Int32) (w : jWd) , rec x3 w = some w' → J MX12_copies 1 w 119 [(0, .ref 205), (1, .int p1), (2, .int p2), (3, .int x3)] [] none w') : ∀ (x3 : Int32) (w : jWd) , bX12_copies_119 n p1 p2 rec x3 w = some w' → J MX12_copies 1 w 119 [(0, .ref 205), (1, .int p1), (2, .int p2), (3, .int x3)] [] none w' := by
  intro x3 w h
  unfold bX12_copies_119 at h
  refine jr_iload_n dX12_copies_119 rfl 3 rfl ?_
  refine jr_bipush (v := (29 : Int32)) dX12_copies_120 (by decide) ?_
  refine jr_icmp_ge (tgt := 153) (nxt := 125) dX12_copies_122 (by decide) rfl (fun hc => ?_) (fun hc => ?_)
  · replace h := drvT hc h
    obtain rfl := drvS1 h
    exact jr_vret rfl dX12_copies_153
  · replace h := drvE hc h
    refine jr_aload_n dX12_copies_125 rfl 0 rfl ?_
    refine gf_X12_34 (r := 212) rfl (rfl : kd 205 = 11) rfl dX12_copies_126 ?_
    refine jr_bipush (v := (29 : Int32)) dX12_copies_129 (by decide) ?_
    refine jr_iload_n dX12_copies_131 rfl 2 rfl ?_
    refine jr_imul dX12_copies_132 ?_
    refine jr_iload_n dX12_copies_133 rfl 3 rfl ?_
    refine jr_iadd dX12_copies_134 ?_
    refine jr_aload_n dX12_copies_135 rfl 0 rfl ?_
    refine gf_X12_34 (r := 212) rfl (rfl : kd 205 = 11) rfl dX12_copies_136 ?_
    refine jr_bipush (v := (29 : Int32)) dX12_copies_139 (by decide) ?_
    refine jr_iload_n dX12_copies_141 rfl 1 rfl ?_
    refine jr_imul dX12_copies_142 ?_
    refine jr_iload_n dX12_copies_143 rfl 3 rfl ?_
    refine jr_iadd dX12_copies_144 ?_
    obtain ⟨hg_22, h⟩ := drvG h
    refine jr_iald (rfl : kd 212 = 13) hg_22 dX12_copies_145 ?_
    obtain ⟨hg_25, h⟩ := drvG h
    refine jr_iast (rfl : kd 212 = 13) hg_25 dX12_copies_146 ?_
    refine j_nmw (fun w_23 e_24 => ?_)
    replace h := drvL e_24 h
    refine jr_iincN (c := (1 : Int32)) (lv' := fun (x3_26 : Int32) => [(3, .int x3_26), (0, .ref 205), (1, .int p1), (2, .int p2)]) dX12_copies_147 (by decide) 3 rfl (by decide) (fun _ => rfl) (fun x3_26 e_27 => ?_)
    replace h := drvL e_27 h
    refine jr_goto (tgt := 119) dX12_copies_150 (by decide) ?_
    refine jr_sub [1, 2, 3, 0] rfl ?_
    exact hrec _ _ h
theorem hlX12_copies_119 {n : Nat} {p1 : Int32} {p2 : Int32} {w' : jWd}  : ∀ (c : Nat) (x3 : Int32) (w : jWd) , lX12_copies_119 n p1 p2 c x3 w = some w' → J MX12_copies 1 w 119 [(0, .ref 205), (1, .int p1), (2, .int p2), (3, .int x3)] [] none w' := by
  intro c
  induction c with
  | zero => intro x3 w h; cases h
  | succ c ih => intro x3 w h; exact hbX12_copies_119 (n := n) ih _ _ h
set_option maxHeartbeats 4000000 in
set_option maxRecDepth 100000 in
theorem tX12_copies {n : Nat} {a0 : Int32} {a1 : Int32} {w : jWd} {w' : jWd}  (h : fX12_copies n a0 a1 w = some w') : JM yX12_copies MX12_copies 1 [.ref 205, .int a0, .int a1] w none w' := by
  refine jm_of pl_X12 rfl (Nat.le_of_ble_eq_true rfl) ?_
  show J MX12_copies 1 w 0 [(0, .ref 205), (1, .int a0), (2, .int a1)] [] none w'
  unfold fX12_copies at h
  refine jr_iconst (v := (0 : Int32)) dX12_copies_0 (by decide) ?_
  refine jr_istore_n (lv' := [(3, .int (0 : Int32)), (0, .ref 205), (1, .int a0), (2, .int a1)]) dX12_copies_1 rfl (by decide) rfl ?_
  refine jr_sub [1, 2, 3, 0] rfl ?_
  refine hlX12_copies_2  ?_ _ _ _ h
  · intro w_7 h
    try dsimp only at h
    refine jr_iconst (v := (0 : Int32)) dX12_copies_39 (by decide) ?_
    refine jr_istore_n (lv' := [(3, .int (0 : Int32)), (0, .ref 205), (1, .int a0), (2, .int a1)]) dX12_copies_40 rfl (by decide) rfl ?_
    refine jr_sub [1, 2, 3, 0] rfl ?_
    refine hlX12_copies_41  ?_ _ _ _ h
    · intro w_14 h
      try dsimp only at h
      refine jr_iconst (v := (0 : Int32)) dX12_copies_78 (by decide) ?_
      refine jr_istore_n (lv' := [(3, .int (0 : Int32)), (0, .ref 205), (1, .int a0), (2, .int a1)]) dX12_copies_79 rfl (by decide) rfl ?_
      refine jr_sub [1, 2, 3, 0] rfl ?_
      refine hlX12_copies_80  ?_ _ _ _ h
      · intro w_21 h
        try dsimp only at h
        refine jr_iconst (v := (0 : Int32)) dX12_copies_117 (by decide) ?_
        refine jr_istore_n (lv' := [(3, .int (0 : Int32)), (0, .ref 205), (1, .int a0), (2, .int a1)]) dX12_copies_118 rfl (by decide) rfl ?_
        refine jr_sub [1, 2, 3, 0] rfl ?_
        refine hlX12_copies_119   _ _ _ h
