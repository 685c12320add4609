/-! each function is what its method does (by program) -/
set_option maxHeartbeats 4000000 in
set_option maxRecDepth 100000 in
theorem tX12_open {a0 : Int32} {a1 : Int32} {a2 : Int32} {a3 : Int32} {w : jWd} {r : Int32} {w' : jWd}  (h : fX12_open a0 a1 a2 a3 w = some (r, w')) : JM yX12_open MX12_open 2 [.ref 205, .int a0, .int a1, .int a2, .int a3] w (some (.int r)) w' := by
  refine jm_of pl_X12 rfl (Nat.le_of_ble_eq_true rfl) ?_
  show J MX12_open 2 w 0 [(0, .ref 205), (1, .int a0), (2, .int a1), (3, .int a2), (4, .int a3)] [] (some (.int r)) w'
  unfold fX12_open at h
  refine jr_aload_n dX12_open_0 rfl 0 rfl ?_
  refine jr_iconst (v := (0 : Int32)) dX12_open_1 (by decide) ?_
  refine pf_X12_1 rfl (rfl : kd 205 = 11) dX12_open_2 ?_
  refine j_nmw (fun w_1 e_2 => ?_)
  replace h := drvL e_2 h
  refine jr_iload_n dX12_open_5 rfl 1 rfl ?_
  refine jr_i2l dX12_open_6 ?_
  refine jr_lconst (v := (0 : Int64)) dX12_open_7 rfl ?_
  refine jr_lconst (v := (1 : Int64)) dX12_open_8 rfl ?_
  refine j_callSv lk_X12_81 wST_X12_within (tX12_within  (a0 := ((a0).toInt64)) (a1 := (0 : Int64)) (a2 := (1 : Int64)) (w := w_1)) (by omega) rfl rfl (Nat.le_of_ble_eq_true rfl) dX12_open_9 ?_
  refine jr_if_ne (tgt := 22) (nxt := 15) dX12_open_12 (by decide) rfl (fun hc => ?_) (fun hc => ?_)
  · replace h := drvE hc h
    refine jr_iload_n dX12_open_22 rfl 1 rfl ?_
    obtain ⟨j78_3, ej78_3, h⟩ := drvF h
    have hj78_3 : ∀ (_ : Unit), j78_3 = some (r, w') → J MX12_open 2 w_1 78 [(0, .ref 205)] [] (some (.int r)) w' := by
      intro _ h
      rw [ej78_3] at h
      try dsimp only at h
      refine jr_aload_n dX12_open_78 rfl 0 rfl ?_
      refine jr_bipush (v := (-3 : Int32)) dX12_open_79 (by decide) ?_
      obtain ⟨r_6, w_5, hq_4, h⟩ := drvB2 h
      refine j_callVv lk_X12_85 wIM_X12_no wSE_X12_no (rfl : kd 205 = 11) (by decide) rfl (tX12_no  hq_4) (by omega) rfl rfl (Nat.le_of_ble_eq_true rfl) dX12_open_81 ?_
      obtain ⟨rfl, rfl⟩ := drvS2 h
      exact jr_iret rfl dX12_open_84
    obtain ⟨j85_7, ej85_7, h⟩ := drvF h
    have hj85_7 : ∀ (_ : Unit), j85_7 = some (r, w') → J MX12_open 2 w_1 85 [(0, .ref 205), (1, .int a0), (2, .int a1), (3, .int a2), (4, .int a3)] [] (some (.int r)) w' := by
      intro _ h
      rw [ej85_7] at h
      try dsimp only at h
      refine jr_iload_n dX12_open_85 rfl 1 rfl ?_
      obtain ⟨j116_8, ej116_8, h⟩ := drvF h
      have hj116_8 : ∀ (_ : Unit), j116_8 = some (r, w') → J MX12_open 2 w_1 116 [(0, .ref 205)] [] (some (.int r)) w' := by
        intro _ h
        rw [ej116_8] at h
        try dsimp only at h
        refine jr_aload_n dX12_open_116 rfl 0 rfl ?_
        refine jr_bipush (v := (-4 : Int32)) dX12_open_117 (by decide) ?_
        obtain ⟨r_11, w_10, hq_9, h⟩ := drvB2 h
        refine j_callVv lk_X12_85 wIM_X12_no wSE_X12_no (rfl : kd 205 = 11) (by decide) rfl (tX12_no  hq_9) (by omega) rfl rfl (Nat.le_of_ble_eq_true rfl) dX12_open_119 ?_
        obtain ⟨rfl, rfl⟩ := drvS2 h
        exact jr_iret rfl dX12_open_122
      obtain ⟨j123_12, ej123_12, h⟩ := drvF h
      have hj123_12 : ∀ (_ : Unit), j123_12 = some (r, w') → J MX12_open 2 w_1 123 [(0, .ref 205), (1, .int a0), (2, .int a1), (3, .int a2), (4, .int a3)] [] (some (.int r)) w' := by
        intro _ h
        rw [ej123_12] at h
        try dsimp only at h
        refine jr_iload_n dX12_open_123 rfl 1 rfl ?_
        refine jr_iconst (v := (1 : Int32)) dX12_open_124 (by decide) ?_
        refine jr_icmp_ne (tgt := 187) (nxt := 128) dX12_open_125 (by decide) rfl (fun hc => ?_) (fun hc => ?_)
        · replace h := drvE hc h
          refine jr_aload_n dX12_open_187 rfl 0 rfl ?_
          refine jr_iload_n dX12_open_188 rfl 2 rfl ?_
          refine jr_iload_n dX12_open_189 rfl 3 rfl ?_
          refine jr_iload dX12_open_190 4 rfl ?_
          obtain ⟨r_15, w_14, hq_13, h⟩ := drvB2 h
          refine j_callVv lk_X12_97 wIM_X12_opens wSE_X12_opens (rfl : kd 205 = 11) (by decide) rfl (tX12_opens  hq_13) (by omega) rfl rfl (Nat.le_of_ble_eq_true rfl) dX12_open_192 ?_
          obtain ⟨rfl, rfl⟩ := drvS2 h
          exact jr_iret rfl dX12_open_195
        · replace h := drvT hc h
          refine jr_aload_n dX12_open_128 rfl 0 rfl ?_
          refine gf_X12_17 (r := 207) rfl (rfl : kd 205 = 11) rfl dX12_open_129 ?_
          refine jr_sipush (v := (224 : Int32)) dX12_open_132 (by decide) ?_
          refine jr_aload_n dX12_open_135 rfl 0 rfl ?_
          refine gf_X12_17 (r := 207) rfl (rfl : kd 205 = 11) rfl dX12_open_136 ?_
          refine jr_sipush (v := (223 : Int32)) dX12_open_139 (by decide) ?_
          refine jr_ialdL (k := 223) (rfl : kd 207 = 13) (vp_lit (by decide) (by decide)) (by decide) dX12_open_142 ?_
          refine jr_iadd dX12_open_143 ?_
          refine jr_iload_n dX12_open_144 rfl 2 rfl ?_
          obtain ⟨hg_18, h⟩ := drvG h
          refine jr_iast (rfl : kd 207 = 13) hg_18 dX12_open_145 ?_
          refine j_nmw (fun w_16 e_17 => ?_)
          replace h := drvL e_17 h
          refine jr_aload_n dX12_open_146 rfl 0 rfl ?_
          refine gf_X12_17 (r := 207) rfl (rfl : kd 205 = 11) rfl dX12_open_147 ?_
          refine jr_sipush (v := (236 : Int32)) dX12_open_150 (by decide) ?_
          refine jr_aload_n dX12_open_153 rfl 0 rfl ?_
          refine gf_X12_17 (r := 207) rfl (rfl : kd 205 = 11) rfl dX12_open_154 ?_
          refine jr_sipush (v := (223 : Int32)) dX12_open_157 (by decide) ?_
          refine jr_ialdL (k := 223) (rfl : kd 207 = 13) (vp_lit (by decide) (by decide)) (by decide) dX12_open_160 ?_
          refine jr_iadd dX12_open_161 ?_
          refine jr_iconst (v := (0 : Int32)) dX12_open_162 (by decide) ?_
          obtain ⟨hg_21, h⟩ := drvG h
          refine jr_iast (rfl : kd 207 = 13) hg_21 dX12_open_163 ?_
          refine j_nmw (fun w_19 e_20 => ?_)
          replace h := drvL e_20 h
          refine jr_aload_n dX12_open_164 rfl 0 rfl ?_
          refine gf_X12_17 (r := 207) rfl (rfl : kd 205 = 11) rfl dX12_open_165 ?_
          refine jr_sipush (v := (223 : Int32)) dX12_open_168 (by decide) ?_
          refine jr_dup2_11 dX12_open_171 rfl rfl ?_
          refine jr_ialdL (k := 223) (rfl : kd 207 = 13) (vp_lit (by decide) (by decide)) (by decide) dX12_open_172 ?_
          refine jr_iconst (v := (1 : Int32)) dX12_open_173 (by decide) ?_
          refine jr_iadd dX12_open_174 ?_
          refine jr_iastL (k := 223) (rfl : kd 207 = 13) (vp_lit (by decide) (by decide)) (by decide) dX12_open_175 ?_
          refine j_nmw (fun w_22 e_23 => ?_)
          replace h := drvL e_23 h
          refine jr_aload_n dX12_open_176 rfl 0 rfl ?_
          refine gf_X12_17 (r := 207) rfl (rfl : kd 205 = 11) rfl dX12_open_177 ?_
          refine jr_sipush (v := (223 : Int32)) dX12_open_180 (by decide) ?_
          refine jr_ialdL (k := 223) (rfl : kd 207 = 13) (vp_lit (by decide) (by decide)) (by decide) dX12_open_183 ?_
          refine jr_iconst (v := (1 : Int32)) dX12_open_184 (by decide) ?_
          refine jr_isub dX12_open_185 ?_
          obtain ⟨rfl, rfl⟩ := drvS2 h
          exact jr_iret rfl dX12_open_186
      refine jr_if_ne (tgt := 103) (nxt := 89) dX12_open_86 (by decide) rfl (fun hc => ?_) (fun hc => ?_)
      · replace h := drvE hc h
        refine jr_aload_n dX12_open_103 rfl 0 rfl ?_
        refine gf_X12_17 (r := 207) rfl (rfl : kd 205 = 11) rfl dX12_open_104 ?_
        refine jr_sipush (v := (223 : Int32)) dX12_open_107 (by decide) ?_
        refine jr_ialdL (k := 223) (rfl : kd 207 = 13) (vp_lit (by decide) (by decide)) (by decide) dX12_open_110 ?_
        refine jr_bipush (v := (12 : Int32)) dX12_open_111 (by decide) ?_
        refine jr_icmp_ne (tgt := 123) (nxt := 116) dX12_open_113 (by decide) rfl (fun hc => ?_) (fun hc => ?_)
        · replace h := drvE hc h
          refine jr_sub [0, 1, 2, 3, 4] rfl ?_
          exact (hj123_12 ()) h
        · replace h := drvT hc h
          refine jr_sub [0] rfl ?_
          exact (hj116_8 ()) h
      · replace h := drvT hc h
        refine jr_aload_n dX12_open_89 rfl 0 rfl ?_
        refine gf_X12_17 (r := 207) rfl (rfl : kd 205 = 11) rfl dX12_open_90 ?_
        refine jr_iconst (v := (0 : Int32)) dX12_open_93 (by decide) ?_
        refine jr_ialdL (k := 0) (rfl : kd 207 = 13) (vp_lit (by decide) (by decide)) (by decide) dX12_open_94 ?_
        refine jr_bipush (v := (40 : Int32)) dX12_open_95 (by decide) ?_
        refine jr_icmp_ne (tgt := 123) (nxt := 100) dX12_open_97 (by decide) rfl (fun hc => ?_) (fun hc => ?_)
        · replace h := drvE hc h
          refine jr_sub [0, 1, 2, 3, 4] rfl ?_
          exact (hj123_12 ()) h
        · replace h := drvT hc h
          refine jr_goto (tgt := 116) dX12_open_100 (by decide) ?_
          refine jr_sub [0] rfl ?_
          exact (hj116_8 ()) h
    refine jr_if_ne (tgt := 66) (nxt := 26) dX12_open_23 (by decide) rfl (fun hc => ?_) (fun hc => ?_)
    · replace h := drvE hc h
      refine jr_iload_n dX12_open_66 rfl 2 rfl ?_
      refine jr_i2l dX12_open_67 ?_
      refine jr_lconst (v := (0 : Int64)) dX12_open_68 rfl ?_
      refine jr_ldc2 (v := (5 : Int64)) wCC_X12_95 dX12_open_69 ?_
      refine j_callSv lk_X12_81 wST_X12_within (tX12_within  (a0 := ((a1).toInt64)) (a1 := (0 : Int64)) (a2 := (5 : Int64)) (w := w_1)) (by omega) rfl rfl (Nat.le_of_ble_eq_true rfl) dX12_open_72 ?_
      refine jr_if_ne (tgt := 85) (nxt := 78) dX12_open_75 (by decide) rfl (fun hc => ?_) (fun hc => ?_)
      · replace h := drvE hc h
        refine jr_sub [0, 1, 2, 3, 4] rfl ?_
        exact (hj85_7 ()) h
      · replace h := drvT hc h
        refine jr_sub [0] rfl ?_
        exact (hj78_3 ()) h
    · replace h := drvT hc h
      refine jr_iload_n dX12_open_26 rfl 2 rfl ?_
      refine jr_i2l dX12_open_27 ?_
      refine jr_lconst (v := (0 : Int64)) dX12_open_28 rfl ?_
      refine jr_ldc2 (v := (9 : Int64)) wCC_X12_89 dX12_open_29 ?_
      refine j_callSv lk_X12_81 wST_X12_within (tX12_within  (a0 := ((a1).toInt64)) (a1 := (0 : Int64)) (a2 := (9 : Int64)) (w := w_1)) (by omega) rfl rfl (Nat.le_of_ble_eq_true rfl) dX12_open_32 ?_
      refine jr_if_eq (tgt := 78) (nxt := 38) dX12_open_35 (by decide) rfl (fun hc => ?_) (fun hc => ?_)
      · replace h := drvT hc h
        refine jr_sub [0] rfl ?_
        exact (hj78_3 ()) h
      · replace h := drvE hc h
        refine jr_iload_n dX12_open_38 rfl 3 rfl ?_
        refine jr_i2l dX12_open_39 ?_
        refine jr_lconst (v := (0 : Int64)) dX12_open_40 rfl ?_
        refine jr_ldc2 (v := (15 : Int64)) wCC_X12_91 dX12_open_41 ?_
        refine j_callSv lk_X12_81 wST_X12_within (tX12_within  (a0 := ((a2).toInt64)) (a1 := (0 : Int64)) (a2 := (15 : Int64)) (w := w_1)) (by omega) rfl rfl (Nat.le_of_ble_eq_true rfl) dX12_open_44 ?_
        refine jr_if_eq (tgt := 78) (nxt := 50) dX12_open_47 (by decide) rfl (fun hc => ?_) (fun hc => ?_)
        · replace h := drvT hc h
          refine jr_sub [0] rfl ?_
          exact (hj78_3 ()) h
        · replace h := drvE hc h
          refine jr_iload dX12_open_50 4 rfl ?_
          refine jr_i2l dX12_open_52 ?_
          refine jr_lconst (v := (0 : Int64)) dX12_open_53 rfl ?_
          refine jr_ldc2 (v := (9999 : Int64)) wCC_X12_93 dX12_open_54 ?_
          refine j_callSv lk_X12_81 wST_X12_within (tX12_within  (a0 := ((a3).toInt64)) (a1 := (0 : Int64)) (a2 := (9999 : Int64)) (w := w_1)) (by omega) rfl rfl (Nat.le_of_ble_eq_true rfl) dX12_open_57 ?_
          refine jr_if_ne (tgt := 85) (nxt := 63) dX12_open_60 (by decide) rfl (fun hc => ?_) (fun hc => ?_)
          · replace h := drvE hc h
            refine jr_sub [0, 1, 2, 3, 4] rfl ?_
            exact (hj85_7 ()) h
          · replace h := drvT hc h
            refine jr_goto (tgt := 78) dX12_open_63 (by decide) ?_
            refine jr_sub [0] rfl ?_
            exact (hj78_3 ()) h
  · replace h := drvT hc h
    refine jr_aload_n dX12_open_15 rfl 0 rfl ?_
    refine jr_bipush (v := (-2 : Int32)) dX12_open_16 (by decide) ?_
    obtain ⟨r_26, w_25, hq_24, h⟩ := drvB2 h
    refine j_callVv lk_X12_85 wIM_X12_no wSE_X12_no (rfl : kd 205 = 11) (by decide) rfl (tX12_no  hq_24) (by omega) rfl rfl (Nat.le_of_ble_eq_true rfl) dX12_open_18 ?_
    obtain ⟨rfl, rfl⟩ := drvS2 h
    exact jr_iret rfl dX12_open_21
set_option maxHeartbeats 4000000 in
set_option maxRecDepth 100000 in
theorem tX12_pages {a0 : Int32} {a1 : Int32} {w : jWd} {r : Int32} {w' : jWd}  (h : fX12_pages a0 a1 w = some (r, w')) : JM yX12_pages MX12_pages 2 [.ref 205, .int a0, .int a1] w (some (.int r)) w' := by
  refine jm_of pl_X12 rfl (Nat.le_of_ble_eq_true rfl) ?_
  show J MX12_pages 2 w 0 [(0, .ref 205), (1, .int a0), (2, .int a1)] [] (some (.int r)) w'
  unfold fX12_pages at h
  refine jr_aload_n dX12_pages_0 rfl 0 rfl ?_
  refine jr_iconst (v := (0 : Int32)) dX12_pages_1 (by decide) ?_
  refine pf_X12_1 rfl (rfl : kd 205 = 11) dX12_pages_2 ?_
  refine j_nmw (fun w_1 e_2 => ?_)
  replace h := drvL e_2 h
  refine jr_iload_n dX12_pages_5 rfl 1 rfl ?_
  refine jr_i2l dX12_pages_6 ?_
  refine jr_lconst (v := (0 : Int64)) dX12_pages_7 rfl ?_
  refine jr_ldc2 (v := (9999 : Int64)) wCC_X12_93 dX12_pages_8 ?_
  refine j_callSv lk_X12_81 wST_X12_within (tX12_within  (a0 := ((a0).toInt64)) (a1 := (0 : Int64)) (a2 := (9999 : Int64)) (w := w_1)) (by omega) rfl rfl (Nat.le_of_ble_eq_true rfl) dX12_pages_11 ?_
  obtain ⟨j29_3, ej29_3, h⟩ := drvF h
  have hj29_3 : ∀ (_ : Unit), j29_3 = some (r, w') → J MX12_pages 2 w_1 29 [(0, .ref 205)] [] (some (.int r)) w' := by
    intro _ h
    rw [ej29_3] at h
    try dsimp only at h
    refine jr_aload_n dX12_pages_29 rfl 0 rfl ?_
    refine jr_bipush (v := (-3 : Int32)) dX12_pages_30 (by decide) ?_
    obtain ⟨r_6, w_5, hq_4, h⟩ := drvB2 h
    refine j_callVv lk_X12_85 wIM_X12_no wSE_X12_no (rfl : kd 205 = 11) (by decide) rfl (tX12_no  hq_4) (by omega) rfl rfl (Nat.le_of_ble_eq_true rfl) dX12_pages_32 ?_
    obtain ⟨rfl, rfl⟩ := drvS2 h
    exact jr_iret rfl dX12_pages_35
  refine jr_if_eq (tgt := 29) (nxt := 17) dX12_pages_14 (by decide) rfl (fun hc => ?_) (fun hc => ?_)
  · replace h := drvT hc h
    refine jr_sub [0] rfl ?_
    exact (hj29_3 ()) h
  · replace h := drvE hc h
    refine jr_iload_n dX12_pages_17 rfl 2 rfl ?_
    refine jr_i2l dX12_pages_18 ?_
    refine jr_lconst (v := (1 : Int64)) dX12_pages_19 rfl ?_
    refine jr_ldc2 (v := (99 : Int64)) wCC_X12_339 dX12_pages_20 ?_
    refine j_callSv lk_X12_81 wST_X12_within (tX12_within  (a0 := ((a1).toInt64)) (a1 := (1 : Int64)) (a2 := (99 : Int64)) (w := w_1)) (by omega) rfl rfl (Nat.le_of_ble_eq_true rfl) dX12_pages_23 ?_
    refine jr_if_ne (tgt := 36) (nxt := 29) dX12_pages_26 (by decide) rfl (fun hc => ?_) (fun hc => ?_)
    · replace h := drvE hc h
      refine jr_aload_n dX12_pages_36 rfl 0 rfl ?_
      refine gf_X12_17 (r := 207) rfl (rfl : kd 205 = 11) rfl dX12_pages_37 ?_
      refine jr_sipush (v := (889 : Int32)) dX12_pages_40 (by decide) ?_
      refine jr_ialdL (k := 889) (rfl : kd 207 = 13) (vp_lit (by decide) (by decide)) (by decide) dX12_pages_43 ?_
      refine jr_bipush (v := (40 : Int32)) dX12_pages_44 (by decide) ?_
      refine jr_icmp_ne (tgt := 56) (nxt := 49) dX12_pages_46 (by decide) rfl (fun hc => ?_) (fun hc => ?_)
      · replace h := drvE hc h
        refine jr_aload_n dX12_pages_56 rfl 0 rfl ?_
        refine gf_X12_17 (r := 207) rfl (rfl : kd 205 = 11) rfl dX12_pages_57 ?_
        refine jr_sipush (v := (890 : Int32)) dX12_pages_60 (by decide) ?_
        refine jr_aload_n dX12_pages_63 rfl 0 rfl ?_
        refine gf_X12_17 (r := 207) rfl (rfl : kd 205 = 11) rfl dX12_pages_64 ?_
        refine jr_sipush (v := (889 : Int32)) dX12_pages_67 (by decide) ?_
        refine jr_ialdL (k := 889) (rfl : kd 207 = 13) (vp_lit (by decide) (by decide)) (by decide) dX12_pages_70 ?_
        refine jr_iadd dX12_pages_71 ?_
        refine jr_iload_n dX12_pages_72 rfl 1 rfl ?_
        obtain ⟨hg_9, h⟩ := drvG h
        refine jr_iast (rfl : kd 207 = 13) hg_9 dX12_pages_73 ?_
        refine j_nmw (fun w_7 e_8 => ?_)
        replace h := drvL e_8 h
        refine jr_aload_n dX12_pages_74 rfl 0 rfl ?_
        refine gf_X12_17 (r := 207) rfl (rfl : kd 205 = 11) rfl dX12_pages_75 ?_
        refine jr_sipush (v := (930 : Int32)) dX12_pages_78 (by decide) ?_
        refine jr_aload_n dX12_pages_81 rfl 0 rfl ?_
        refine gf_X12_17 (r := 207) rfl (rfl : kd 205 = 11) rfl dX12_pages_82 ?_
        refine jr_sipush (v := (889 : Int32)) dX12_pages_85 (by decide) ?_
        refine jr_ialdL (k := 889) (rfl : kd 207 = 13) (vp_lit (by decide) (by decide)) (by decide) dX12_pages_88 ?_
        refine jr_iadd dX12_pages_89 ?_
        refine jr_iload_n dX12_pages_90 rfl 2 rfl ?_
        obtain ⟨hg_12, h⟩ := drvG h
        refine jr_iast (rfl : kd 207 = 13) hg_12 dX12_pages_91 ?_
        refine j_nmw (fun w_10 e_11 => ?_)
        replace h := drvL e_11 h
        refine jr_aload_n dX12_pages_92 rfl 0 rfl ?_
        refine gf_X12_17 (r := 207) rfl (rfl : kd 205 = 11) rfl dX12_pages_93 ?_
        refine jr_sipush (v := (889 : Int32)) dX12_pages_96 (by decide) ?_
        refine jr_dup2_11 dX12_pages_99 rfl rfl ?_
        refine jr_ialdL (k := 889) (rfl : kd 207 = 13) (vp_lit (by decide) (by decide)) (by decide) dX12_pages_100 ?_
        refine jr_iconst (v := (1 : Int32)) dX12_pages_101 (by decide) ?_
        refine jr_iadd dX12_pages_102 ?_
        refine jr_iastL (k := 889) (rfl : kd 207 = 13) (vp_lit (by decide) (by decide)) (by decide) dX12_pages_103 ?_
        refine j_nmw (fun w_13 e_14 => ?_)
        replace h := drvL e_14 h
        refine jr_aload_n dX12_pages_104 rfl 0 rfl ?_
        refine gf_X12_17 (r := 207) rfl (rfl : kd 205 = 11) rfl dX12_pages_105 ?_
        refine jr_sipush (v := (889 : Int32)) dX12_pages_108 (by decide) ?_
        refine jr_ialdL (k := 889) (rfl : kd 207 = 13) (vp_lit (by decide) (by decide)) (by decide) dX12_pages_111 ?_
        obtain ⟨rfl, rfl⟩ := drvS2 h
        exact jr_iret rfl dX12_pages_112
      · replace h := drvT hc h
        refine jr_aload_n dX12_pages_49 rfl 0 rfl ?_
        refine jr_bipush (v := (-4 : Int32)) dX12_pages_50 (by decide) ?_
        obtain ⟨r_17, w_16, hq_15, h⟩ := drvB2 h
        refine j_callVv lk_X12_85 wIM_X12_no wSE_X12_no (rfl : kd 205 = 11) (by decide) rfl (tX12_no  hq_15) (by omega) rfl rfl (Nat.le_of_ble_eq_true rfl) dX12_pages_52 ?_
        obtain ⟨rfl, rfl⟩ := drvS2 h
        exact jr_iret rfl dX12_pages_55
    · replace h := drvT hc h
      refine jr_sub [0] rfl ?_
      exact (hj29_3 ()) h
set_option maxHeartbeats 4000000 in
set_option maxRecDepth 100000 in
theorem tX12_paid {a0 : Int32} {a1 : Int32} {w : jWd} {r : Int32} {w' : jWd}  (h : fX12_paid a0 a1 w = some (r, w')) : JM yX12_paid MX12_paid 2 [.ref 205, .int a0, .int a1] w (some (.int r)) w' := by
  refine jm_of pl_X12 rfl (Nat.le_of_ble_eq_true rfl) ?_
  show J MX12_paid 2 w 0 [(0, .ref 205), (1, .int a0), (2, .int a1)] [] (some (.int r)) w'
  unfold fX12_paid at h
  refine jr_aload_n dX12_paid_0 rfl 0 rfl ?_
  refine jr_iconst (v := (0 : Int32)) dX12_paid_1 (by decide) ?_
  refine pf_X12_1 rfl (rfl : kd 205 = 11) dX12_paid_2 ?_
  refine j_nmw (fun w_1 e_2 => ?_)
  replace h := drvL e_2 h
  refine jr_iload_n dX12_paid_5 rfl 1 rfl ?_
  refine jr_i2l dX12_paid_6 ?_
  refine jr_lconst (v := (0 : Int64)) dX12_paid_7 rfl ?_
  refine jr_ldc2 (v := (9999 : Int64)) wCC_X12_93 dX12_paid_8 ?_
  refine j_callSv lk_X12_81 wST_X12_within (tX12_within  (a0 := ((a0).toInt64)) (a1 := (0 : Int64)) (a2 := (9999 : Int64)) (w := w_1)) (by omega) rfl rfl (Nat.le_of_ble_eq_true rfl) dX12_paid_11 ?_
  obtain ⟨j29_3, ej29_3, h⟩ := drvF h
  have hj29_3 : ∀ (_ : Unit), j29_3 = some (r, w') → J MX12_paid 2 w_1 29 [(0, .ref 205)] [] (some (.int r)) w' := by
    intro _ h
    rw [ej29_3] at h
    try dsimp only at h
    refine jr_aload_n dX12_paid_29 rfl 0 rfl ?_
    refine jr_bipush (v := (-3 : Int32)) dX12_paid_30 (by decide) ?_
    obtain ⟨r_6, w_5, hq_4, h⟩ := drvB2 h
    refine j_callVv lk_X12_85 wIM_X12_no wSE_X12_no (rfl : kd 205 = 11) (by decide) rfl (tX12_no  hq_4) (by omega) rfl rfl (Nat.le_of_ble_eq_true rfl) dX12_paid_32 ?_
    obtain ⟨rfl, rfl⟩ := drvS2 h
    exact jr_iret rfl dX12_paid_35
  refine jr_if_eq (tgt := 29) (nxt := 17) dX12_paid_14 (by decide) rfl (fun hc => ?_) (fun hc => ?_)
  · replace h := drvT hc h
    refine jr_sub [0] rfl ?_
    exact (hj29_3 ()) h
  · replace h := drvE hc h
    refine jr_iload_n dX12_paid_17 rfl 2 rfl ?_
    refine jr_i2l dX12_paid_18 ?_
    refine jr_lconst (v := (1 : Int64)) dX12_paid_19 rfl ?_
    refine jr_ldc2 (v := (999 : Int64)) wCC_X12_337 dX12_paid_20 ?_
    refine j_callSv lk_X12_81 wST_X12_within (tX12_within  (a0 := ((a1).toInt64)) (a1 := (1 : Int64)) (a2 := (999 : Int64)) (w := w_1)) (by omega) rfl rfl (Nat.le_of_ble_eq_true rfl) dX12_paid_23 ?_
    refine jr_if_ne (tgt := 36) (nxt := 29) dX12_paid_26 (by decide) rfl (fun hc => ?_) (fun hc => ?_)
    · replace h := drvE hc h
      refine jr_aload_n dX12_paid_36 rfl 0 rfl ?_
      refine gf_X12_17 (r := 207) rfl (rfl : kd 205 = 11) rfl dX12_paid_37 ?_
      refine jr_sipush (v := (848 : Int32)) dX12_paid_40 (by decide) ?_
      refine jr_ialdL (k := 848) (rfl : kd 207 = 13) (vp_lit (by decide) (by decide)) (by decide) dX12_paid_43 ?_
      refine jr_bipush (v := (20 : Int32)) dX12_paid_44 (by decide) ?_
      refine jr_icmp_ne (tgt := 56) (nxt := 49) dX12_paid_46 (by decide) rfl (fun hc => ?_) (fun hc => ?_)
      · replace h := drvE hc h
        refine jr_aload_n dX12_paid_56 rfl 0 rfl ?_
        refine gf_X12_17 (r := 207) rfl (rfl : kd 205 = 11) rfl dX12_paid_57 ?_
        refine jr_sipush (v := (849 : Int32)) dX12_paid_60 (by decide) ?_
        refine jr_aload_n dX12_paid_63 rfl 0 rfl ?_
        refine gf_X12_17 (r := 207) rfl (rfl : kd 205 = 11) rfl dX12_paid_64 ?_
        refine jr_sipush (v := (848 : Int32)) dX12_paid_67 (by decide) ?_
        refine jr_ialdL (k := 848) (rfl : kd 207 = 13) (vp_lit (by decide) (by decide)) (by decide) dX12_paid_70 ?_
        refine jr_iadd dX12_paid_71 ?_
        refine jr_iload_n dX12_paid_72 rfl 1 rfl ?_
        obtain ⟨hg_9, h⟩ := drvG h
        refine jr_iast (rfl : kd 207 = 13) hg_9 dX12_paid_73 ?_
        refine j_nmw (fun w_7 e_8 => ?_)
        replace h := drvL e_8 h
        refine jr_aload_n dX12_paid_74 rfl 0 rfl ?_
        refine gf_X12_17 (r := 207) rfl (rfl : kd 205 = 11) rfl dX12_paid_75 ?_
        refine jr_sipush (v := (869 : Int32)) dX12_paid_78 (by decide) ?_
        refine jr_aload_n dX12_paid_81 rfl 0 rfl ?_
        refine gf_X12_17 (r := 207) rfl (rfl : kd 205 = 11) rfl dX12_paid_82 ?_
        refine jr_sipush (v := (848 : Int32)) dX12_paid_85 (by decide) ?_
        refine jr_ialdL (k := 848) (rfl : kd 207 = 13) (vp_lit (by decide) (by decide)) (by decide) dX12_paid_88 ?_
        refine jr_iadd dX12_paid_89 ?_
        refine jr_iload_n dX12_paid_90 rfl 2 rfl ?_
        obtain ⟨hg_12, h⟩ := drvG h
        refine jr_iast (rfl : kd 207 = 13) hg_12 dX12_paid_91 ?_
        refine j_nmw (fun w_10 e_11 => ?_)
        replace h := drvL e_11 h
        refine jr_aload_n dX12_paid_92 rfl 0 rfl ?_
        refine gf_X12_17 (r := 207) rfl (rfl : kd 205 = 11) rfl dX12_paid_93 ?_
        refine jr_sipush (v := (848 : Int32)) dX12_paid_96 (by decide) ?_
        refine jr_dup2_11 dX12_paid_99 rfl rfl ?_
        refine jr_ialdL (k := 848) (rfl : kd 207 = 13) (vp_lit (by decide) (by decide)) (by decide) dX12_paid_100 ?_
        refine jr_iconst (v := (1 : Int32)) dX12_paid_101 (by decide) ?_
        refine jr_iadd dX12_paid_102 ?_
        refine jr_iastL (k := 848) (rfl : kd 207 = 13) (vp_lit (by decide) (by decide)) (by decide) dX12_paid_103 ?_
        refine j_nmw (fun w_13 e_14 => ?_)
        replace h := drvL e_14 h
        refine jr_aload_n dX12_paid_104 rfl 0 rfl ?_
        refine gf_X12_17 (r := 207) rfl (rfl : kd 205 = 11) rfl dX12_paid_105 ?_
        refine jr_sipush (v := (848 : Int32)) dX12_paid_108 (by decide) ?_
        refine jr_ialdL (k := 848) (rfl : kd 207 = 13) (vp_lit (by decide) (by decide)) (by decide) dX12_paid_111 ?_
        obtain ⟨rfl, rfl⟩ := drvS2 h
        exact jr_iret rfl dX12_paid_112
      · replace h := drvT hc h
        refine jr_aload_n dX12_paid_49 rfl 0 rfl ?_
        refine jr_bipush (v := (-4 : Int32)) dX12_paid_50 (by decide) ?_
        obtain ⟨r_17, w_16, hq_15, h⟩ := drvB2 h
        refine j_callVv lk_X12_85 wIM_X12_no wSE_X12_no (rfl : kd 205 = 11) (by decide) rfl (tX12_no  hq_15) (by omega) rfl rfl (Nat.le_of_ble_eq_true rfl) dX12_paid_52 ?_
        obtain ⟨rfl, rfl⟩ := drvS2 h
        exact jr_iret rfl dX12_paid_55
    · replace h := drvT hc h
      refine jr_sub [0] rfl ?_
      exact (hj29_3 ()) h
set_option maxHeartbeats 4000000 in
set_option maxRecDepth 100000 in
theorem hbX12_parted_27 {n : Nat} {p1 : Int32} {p2 : Int32} {r : Int32} {w' : jWd} {rec : Int32 → Int32 → jWd → Option (Int32 × jWd)} 
    (hrec : ∀ (x3 : Int32) (x4 : Int32) (w : jWd) , rec x3 x4 w = some (r, w') → J MX12_parted 6 w 27 [(0, .ref 205), (1, .int p1), (2, .int p2), (3, .int x3), (4, .int x4)] [] (some (.int r)) w') : ∀ (x3 : Int32) (x4 : Int32) (w : jWd) , bX12_parted_27 n p1 p2 rec x3 x4 w = some (r, w') → J MX12_parted 6 w 27 [(0, .ref 205), (1, .int p1), (2, .int p2), (3, .int x3), (4, .int x4)] [] (some (.int r)) w' := by
  intro x3 x4 w h
  unfold bX12_parted_27 at h
  refine jr_iload dX12_parted_27 4 rfl ?_
  refine jr_aload_n dX12_parted_29 rfl 0 rfl ?_
  refine gf_X12_17 (r := 207) rfl (rfl : kd 205 = 11) rfl dX12_parted_30 ?_
  refine jr_sipush (v := (547 : Int32)) dX12_parted_33 (by decide) ?_
  refine jr_ialdL (k := 547) (rfl : kd 207 = 13) (vp_lit (by decide) (by decide)) (by decide) dX12_parted_36 ?_
  refine jr_icmp_ge (tgt := 109) (nxt := 40) dX12_parted_37 (by decide) rfl (fun hc => ?_) (fun hc => ?_)
  · replace h := drvT hc h
    refine jr_iload_n dX12_parted_109 rfl 3 rfl ?_
    obtain ⟨rfl, rfl⟩ := drvS2 h
    exact jr_iret rfl dX12_parted_110
  · replace h := drvE hc h
    refine jr_aload_n dX12_parted_40 rfl 0 rfl ?_
    refine gf_X12_17 (r := 207) rfl (rfl : kd 205 = 11) rfl dX12_parted_41 ?_
    refine jr_iload_n dX12_parted_44 rfl 1 rfl ?_
    obtain ⟨j57_4, ej57_4, h⟩ := drvF h
    have hj57_4 : ∀ (s_3 : Int32), j57_4 s_3 = some (r, w') → J MX12_parted 6 w 57 [(0, .ref 205), (1, .int p1), (2, .int p2), (3, .int x3), (4, .int x4)] [.int s_3, .ref 207] (some (.int r)) w' := by
      intro s_3 h
      rw [ej57_4] at h
      try dsimp only at h
      refine jr_iload dX12_parted_57 4 rfl ?_
      refine jr_iadd dX12_parted_59 ?_
      obtain ⟨hg_5, h⟩ := drvG h
      refine jr_iald (rfl : kd 207 = 13) hg_5 dX12_parted_60 ?_
      refine j_nmi (fun x5_6 e_7 => ?_)
      replace h := drvL e_7 h
      refine jr_istore (lv' := [(5, .int x5_6), (0, .ref 205), (1, .int p1), (2, .int p2), (3, .int x3), (4, .int x4)]) dX12_parted_61 (by decide) rfl ?_
      refine jr_iload dX12_parted_63 0 rfl ?_
      refine jr_iload_n dX12_parted_65 rfl 3 rfl ?_
      obtain ⟨j74_9, ej74_9, h⟩ := drvF h
      have hj74_9 : ∀ (s_8 : Int32), j74_9 s_8 = some (r, w') → J MX12_parted 6 w 74 [(0, .ref 205), (1, .int p1), (2, .int p2), (3, .int x3), (4, .int x4)] [.int s_8, .int x5_6] (some (.int r)) w' := by
        intro s_8 h
        rw [ej74_9] at h
        try dsimp only at h
        refine jr_icmp_ne (tgt := 103) (nxt := 77) dX12_parted_74 (by decide) rfl (fun hc => ?_) (fun hc => ?_)
        · replace h := drvE hc h
          refine jr_iincN (c := (1 : Int32)) (lv' := fun (x4_10 : Int32) => [(4, .int x4_10), (0, .ref 205), (1, .int p1), (2, .int p2), (3, .int x3)]) dX12_parted_103 (by decide) 4 rfl (by decide) (fun _ => rfl) (fun x4_10 e_11 => ?_)
          replace h := drvL e_11 h
          refine jr_goto (tgt := 27) dX12_parted_106 (by decide) ?_
          refine jr_sub [1, 2, 3, 4, 0] rfl ?_
          exact hrec _ _ _ h
        · replace h := drvT hc h
          refine jr_aload_n dX12_parted_77 rfl 0 rfl ?_
          refine jr_iload dX12_parted_78 4 rfl ?_
          obtain ⟨r_14, w_13, hq_12, h⟩ := drvB2 h
          refine j_callVv lk_X12_327 wIM_X12_isBack wSE_X12_isBack (rfl : kd 205 = 11) (by decide) rfl (tX12_isBack  hq_12) (by omega) rfl rfl (Nat.le_of_ble_eq_true rfl) dX12_parted_80 ?_
          refine jr_if_ne (tgt := 103) (nxt := 86) dX12_parted_83 (by decide) rfl (fun hc => ?_) (fun hc => ?_)
          · replace h := drvE hc h
            refine jr_iincN (c := (1 : Int32)) (lv' := fun (x4_15 : Int32) => [(4, .int x4_15), (0, .ref 205), (1, .int p1), (2, .int p2), (3, .int x3)]) dX12_parted_103 (by decide) 4 rfl (by decide) (fun _ => rfl) (fun x4_15 e_16 => ?_)
            replace h := drvL e_16 h
            refine jr_goto (tgt := 27) dX12_parted_106 (by decide) ?_
            refine jr_sub [1, 2, 3, 4, 0] rfl ?_
            exact hrec _ _ _ h
          · replace h := drvT hc h
            refine jr_iload_n dX12_parted_86 rfl 3 rfl ?_
            refine jr_bipush (v := (10 : Int32)) dX12_parted_87 (by decide) ?_
            refine jr_aload_n dX12_parted_89 rfl 0 rfl ?_
            refine gf_X12_17 (r := 207) rfl (rfl : kd 205 = 11) rfl dX12_parted_90 ?_
            refine jr_sipush (v := (668 : Int32)) dX12_parted_93 (by decide) ?_
            refine jr_iload dX12_parted_96 4 rfl ?_
            refine jr_iadd dX12_parted_98 ?_
            obtain ⟨hg_17, h⟩ := drvG h
            refine jr_iald (rfl : kd 207 = 13) hg_17 dX12_parted_99 ?_
            refine jr_isub dX12_parted_100 ?_
            refine jr_iadd dX12_parted_101 ?_
            refine j_nmi (fun x3_18 e_19 => ?_)
            replace h := drvL e_19 h
            refine jr_istore_n (lv' := [(3, .int x3_18), (0, .ref 205), (1, .int p1), (2, .int p2), (4, .int x4)]) dX12_parted_102 rfl (by decide) rfl ?_
            refine jr_iincN (c := (1 : Int32)) (lv' := fun (x4_20 : Int32) => [(4, .int x4_20), (3, .int x3_18), (0, .ref 205), (1, .int p1), (2, .int p2)]) dX12_parted_103 (by decide) 4 rfl (by decide) (fun _ => rfl) (fun x4_20 e_21 => ?_)
            replace h := drvL e_21 h
            refine jr_goto (tgt := 27) dX12_parted_106 (by decide) ?_
            refine jr_sub [2, 3, 4, 1, 0] rfl ?_
            exact hrec _ _ _ h
      refine jr_if_eq (tgt := 73) (nxt := 69) dX12_parted_66 (by decide) rfl (fun hc => ?_) (fun hc => ?_)
      · replace h := drvT hc h
        refine jr_iconst (v := (0 : Int32)) dX12_parted_73 (by decide) ?_
        refine jr_sub [1, 2, 3, 4, 5] rfl ?_
        exact hj74_9 _ h
      · replace h := drvE hc h
        refine jr_iconst (v := (1 : Int32)) dX12_parted_69 (by decide) ?_
        refine jr_goto (tgt := 74) dX12_parted_70 (by decide) ?_
        refine jr_sub [1, 2, 3, 4, 5] rfl ?_
        exact hj74_9 _ h
    refine jr_if_ne (tgt := 54) (nxt := 48) dX12_parted_45 (by decide) rfl (fun hc => ?_) (fun hc => ?_)
    · replace h := drvE hc h
      refine jr_sipush (v := (788 : Int32)) dX12_parted_54 (by decide) ?_
      refine jr_sub [0, 1, 2, 3, 4] rfl ?_
      exact hj57_4 _ h
    · replace h := drvT hc h
      refine jr_sipush (v := (728 : Int32)) dX12_parted_48 (by decide) ?_
      refine jr_goto (tgt := 57) dX12_parted_51 (by decide) ?_
      refine jr_sub [0, 1, 2, 3, 4] rfl ?_
      exact hj57_4 _ h
theorem hlX12_parted_27 {n : Nat} {p1 : Int32} {p2 : Int32} {r : Int32} {w' : jWd}  : ∀ (c : Nat) (x3 : Int32) (x4 : Int32) (w : jWd) , lX12_parted_27 n p1 p2 c x3 x4 w = some (r, w') → J MX12_parted 6 w 27 [(0, .ref 205), (1, .int p1), (2, .int p2), (3, .int x3), (4, .int x4)] [] (some (.int r)) w' := by
  intro c
  induction c with
  | zero => intro x3 x4 w h; cases h
  | succ c ih => intro x3 x4 w h; exact hbX12_parted_27 (n := n) ih _ _ _ h
set_option maxHeartbeats 4000000 in
set_option maxRecDepth 100000 in
theorem tX12_parted {n : Nat} {a0 : Int32} {a1 : Int32} {w : jWd} {r : Int32} {w' : jWd}  (h : fX12_parted n a0 a1 w = some (r, w')) : JM yX12_parted MX12_parted 6 [.ref 205, .int a0, .int a1] w (some (.int r)) w' := by
  refine jm_of pl_X12 rfl (Nat.le_of_ble_eq_true rfl) ?_
  show J MX12_parted 6 w 0 [(0, .ref 205), (1, .int a0), (2, .int a1)] [] (some (.int r)) w'
  unfold fX12_parted at h
  refine jr_aload_n dX12_parted_0 rfl 0 rfl ?_
  refine jr_iconst (v := (0 : Int32)) dX12_parted_1 (by decide) ?_
  refine pf_X12_1 rfl (rfl : kd 205 = 11) dX12_parted_2 ?_
  refine j_nmw (fun w_1 e_2 => ?_)
  replace h := drvL e_2 h
  refine jr_iload_n dX12_parted_5 rfl 1 rfl ?_
  refine jr_i2l dX12_parted_6 ?_
  refine jr_lconst (v := (0 : Int64)) dX12_parted_7 rfl ?_
  refine jr_lconst (v := (1 : Int64)) dX12_parted_8 rfl ?_
  refine j_callSv lk_X12_81 wST_X12_within (tX12_within  (a0 := ((a0).toInt64)) (a1 := (0 : Int64)) (a2 := (1 : Int64)) (w := w_1)) (by omega) rfl rfl (Nat.le_of_ble_eq_true rfl) dX12_parted_9 ?_
  refine jr_if_ne (tgt := 22) (nxt := 15) dX12_parted_12 (by decide) rfl (fun hc => ?_) (fun hc => ?_)
  · replace h := drvE hc h
    refine jr_iconst (v := (0 : Int32)) dX12_parted_22 (by decide) ?_
    refine jr_istore_n (lv' := [(3, .int (0 : Int32)), (0, .ref 205), (1, .int a0), (2, .int a1)]) dX12_parted_23 rfl (by decide) rfl ?_
    refine jr_iconst (v := (0 : Int32)) dX12_parted_24 (by decide) ?_
    refine jr_istore (lv' := [(4, .int (0 : Int32)), (3, .int (0 : Int32)), (0, .ref 205), (1, .int a0), (2, .int a1)]) dX12_parted_25 (by decide) rfl ?_
    refine jr_sub [2, 3, 4, 1, 0] rfl ?_
    refine hlX12_parted_27   _ _ _ _ h
  · replace h := drvT hc h
    refine jr_aload_n dX12_parted_15 rfl 0 rfl ?_
    refine jr_bipush (v := (-2 : Int32)) dX12_parted_16 (by decide) ?_
    obtain ⟨r_24, w_23, hq_22, h⟩ := drvB2 h
    refine j_callVv lk_X12_85 wIM_X12_no wSE_X12_no (rfl : kd 205 = 11) (by decide) rfl (tX12_no  hq_22) (by omega) rfl rfl (Nat.le_of_ble_eq_true rfl) dX12_parted_18 ?_
    obtain ⟨rfl, rfl⟩ := drvS2 h
    exact jr_iret rfl dX12_parted_21
set_option maxHeartbeats 4000000 in
set_option maxRecDepth 100000 in
theorem tX12_print {a0 : Int32} {w : jWd} {r : Int32} {w' : jWd}  (h : fX12_print a0 w = some (r, w')) : JM yX12_print MX12_print 2 [.ref 205, .int a0] w (some (.int r)) w' := by
  refine jm_of pl_X12 rfl (Nat.le_of_ble_eq_true rfl) ?_
  show J MX12_print 2 w 0 [(0, .ref 205), (1, .int a0)] [] (some (.int r)) w'
  unfold fX12_print at h
  refine jr_aload_n dX12_print_0 rfl 0 rfl ?_
  refine jr_iconst (v := (0 : Int32)) dX12_print_1 (by decide) ?_
  refine pf_X12_1 rfl (rfl : kd 205 = 11) dX12_print_2 ?_
  refine j_nmw (fun w_1 e_2 => ?_)
  replace h := drvL e_2 h
  refine jr_iload_n dX12_print_5 rfl 1 rfl ?_
  refine jr_i2l dX12_print_6 ?_
  refine jr_lconst (v := (0 : Int64)) dX12_print_7 rfl ?_
  refine jr_ldc2 (v := (9999 : Int64)) wCC_X12_93 dX12_print_8 ?_
  refine j_callSv lk_X12_81 wST_X12_within (tX12_within  (a0 := ((a0).toInt64)) (a1 := (0 : Int64)) (a2 := (9999 : Int64)) (w := w_1)) (by omega) rfl rfl (Nat.le_of_ble_eq_true rfl) dX12_print_11 ?_
  refine jr_if_ne (tgt := 24) (nxt := 17) dX12_print_14 (by decide) rfl (fun hc => ?_) (fun hc => ?_)
  · replace h := drvE hc h
    refine jr_aload_n dX12_print_24 rfl 0 rfl ?_
    refine gf_X12_17 (r := 207) rfl (rfl : kd 205 = 11) rfl dX12_print_25 ?_
    refine jr_sipush (v := (161 : Int32)) dX12_print_28 (by decide) ?_
    refine jr_ialdL (k := 161) (rfl : kd 207 = 13) (vp_lit (by decide) (by decide)) (by decide) dX12_print_31 ?_
    refine j_nmi (fun x2_3 e_4 => ?_)
    replace h := drvL e_4 h
    refine jr_istore_n (lv' := [(2, .int x2_3), (0, .ref 205), (1, .int a0)]) dX12_print_32 rfl (by decide) rfl ?_
    refine jr_aload_n dX12_print_33 rfl 1 rfl ?_
    refine gf_X12_17 (r := 207) rfl (rfl : kd 205 = 11) rfl dX12_print_34 ?_
    refine jr_sipush (v := (161 : Int32)) dX12_print_37 (by decide) ?_
    refine jr_iload_n dX12_print_40 rfl 2 rfl ?_
    refine jr_iastL (k := 161) (rfl : kd 207 = 13) (vp_lit (by decide) (by decide)) (by decide) dX12_print_41 ?_
    refine j_nmw (fun w_5 e_6 => ?_)
    replace h := drvL e_6 h
    refine jr_iload_n dX12_print_42 rfl 0 rfl ?_
    obtain ⟨rfl, rfl⟩ := drvS2 h
    exact jr_iret rfl dX12_print_43
  · replace h := drvT hc h
    refine jr_aload_n dX12_print_17 rfl 0 rfl ?_
    refine jr_bipush (v := (-3 : Int32)) dX12_print_18 (by decide) ?_
    obtain ⟨r_9, w_8, hq_7, h⟩ := drvB2 h
    refine j_callVv lk_X12_85 wIM_X12_no wSE_X12_no (rfl : kd 205 = 11) (by decide) rfl (tX12_no  hq_7) (by omega) rfl rfl (Nat.le_of_ble_eq_true rfl) dX12_print_20 ?_
    obtain ⟨rfl, rfl⟩ := drvS2 h
    exact jr_iret rfl dX12_print_23
set_option maxHeartbeats 4000000 in
set_option maxRecDepth 100000 in
theorem hbX12_rate_27 {n : Nat} {k106 : Int32 → (Option (Int32 × jWd))} {w : jWd} {r : Int32} {w' : jWd} {rec : Int32 → Int32 → Option (Int32 × jWd)} (hk106 : ∀ (z1 : Int32), k106 z1 = some (r, w') → J MX12_rate 4 w 106 [(1, .int z1)] [] (some (.int r)) w')
    (hrec : ∀ (x1 : Int32) (x2 : Int32) , rec x1 x2 = some (r, w') → J MX12_rate 4 w 27 [(0, .ref 205), (1, .int x1), (2, .int x2)] [] (some (.int r)) w') : ∀ (x1 : Int32) (x2 : Int32) , bX12_rate_27 n k106 w rec x1 x2 = some (r, w') → J MX12_rate 4 w 27 [(0, .ref 205), (1, .int x1), (2, .int x2)] [] (some (.int r)) w' := by
  intro x1 x2 h
  unfold bX12_rate_27 at h
  refine jr_iload_n dX12_rate_27 rfl 2 rfl ?_
  refine jr_aload_n dX12_rate_28 rfl 0 rfl ?_
  refine gf_X12_17 (r := 207) rfl (rfl : kd 205 = 11) rfl dX12_rate_29 ?_
  refine jr_sipush (v := (889 : Int32)) dX12_rate_32 (by decide) ?_
  refine jr_ialdL (k := 889) (rfl : kd 207 = 13) (vp_lit (by decide) (by decide)) (by decide) dX12_rate_35 ?_
  refine jr_icmp_ge (tgt := 106) (nxt := 39) dX12_rate_36 (by decide) rfl (fun hc => ?_) (fun hc => ?_)
  · replace h := drvT hc h
    refine jr_sub [1] rfl ?_
    exact hk106 _ h
  · replace h := drvE hc h
    refine jr_aload_n dX12_rate_39 rfl 0 rfl ?_
    refine jr_aload_n dX12_rate_40 rfl 0 rfl ?_
    refine gf_X12_17 (r := 207) rfl (rfl : kd 205 = 11) rfl dX12_rate_41 ?_
    refine jr_sipush (v := (890 : Int32)) dX12_rate_44 (by decide) ?_
    refine jr_iload_n dX12_rate_47 rfl 2 rfl ?_
    refine jr_iadd dX12_rate_48 ?_
    obtain ⟨hg_3, h⟩ := drvG h
    refine jr_iald (rfl : kd 207 = 13) hg_3 dX12_rate_49 ?_
    obtain ⟨r_5, hq_4, h⟩ := drvB h
    refine j_callVv lk_X12_347 wIM_X12_freeUpTo wSE_X12_freeUpTo (rfl : kd 205 = 11) (by decide) rfl (tX12_freeUpTo  hq_4) (by omega) rfl rfl (Nat.le_of_ble_eq_true rfl) dX12_rate_50 ?_
    refine jr_istore_n (lv' := [(3, .int r_5), (0, .ref 205), (1, .int x1), (2, .int x2)]) dX12_rate_53 rfl (by decide) rfl ?_
    refine jr_aload_n dX12_rate_54 rfl 1 rfl ?_
    refine jr_iconst (v := (0 : Int32)) dX12_rate_55 (by decide) ?_
    refine jr_aload_n dX12_rate_56 rfl 1 rfl ?_
    refine gf_X12_17 (r := 207) rfl (rfl : kd 205 = 11) rfl dX12_rate_57 ?_
    refine jr_sipush (v := (890 : Int32)) dX12_rate_60 (by decide) ?_
    refine jr_iload_n dX12_rate_63 rfl 3 rfl ?_
    refine jr_iadd dX12_rate_64 ?_
    obtain ⟨hg_6, h⟩ := drvG h
    refine jr_iald (rfl : kd 207 = 13) hg_6 dX12_rate_65 ?_
    obtain ⟨r_8, hq_7, h⟩ := drvB h
    refine j_callVv lk_X12_341 wIM_X12_pagesIn wSE_X12_pagesIn (rfl : kd 205 = 11) (by decide) rfl (tX12_pagesIn  hq_7) (by omega) rfl rfl (Nat.le_of_ble_eq_true rfl) dX12_rate_66 ?_
    refine jr_istore (lv' := [(4, .int r_8), (3, .int r_5), (0, .ref 205), (1, .int x1), (2, .int x2)]) dX12_rate_69 (by decide) rfl ?_
    refine jr_iload_n dX12_rate_71 rfl 1 rfl ?_
    refine jr_if_ne (tgt := 77) (nxt := 75) dX12_rate_72 (by decide) rfl (fun hc => ?_) (fun hc => ?_)
    · replace h := drvE hc h
      refine jr_iload dX12_rate_77 0 rfl ?_
      refine jr_iload_n dX12_rate_79 rfl 1 rfl ?_
      refine jr_iadd dX12_rate_80 ?_
      refine jr_iconst (v := (1 : Int32)) dX12_rate_81 (by decide) ?_
      refine jr_isub dX12_rate_82 ?_
      refine jr_iload_n dX12_rate_83 rfl 1 rfl ?_
      obtain ⟨hz_9, h⟩ := drvZi h
      refine jr_idiv dX12_rate_84 hz_9 ?_
      refine j_nmi (fun x5_10 e_11 => ?_)
      replace h := drvL e_11 h
      refine jr_istore (lv' := [(5, .int x5_10), (4, .int r_8), (3, .int r_5), (0, .ref 205), (1, .int x1), (2, .int x2)]) dX12_rate_85 (by decide) rfl ?_
      refine jr_iload dX12_rate_87 0 rfl ?_
      refine jr_iload_n dX12_rate_89 rfl 4 rfl ?_
      refine jr_icmp_le (tgt := 98) (nxt := 93) dX12_rate_90 (by decide) rfl (fun hc => ?_) (fun hc => ?_)
      · replace h := drvT hc h
        refine jr_iload_n dX12_rate_98 rfl 4 rfl ?_
        refine jr_istore_n (lv' := [(1, .int x1), (5, .int x5_10), (4, .int r_8), (3, .int r_5), (0, .ref 205), (2, .int x2)]) dX12_rate_99 rfl (by decide) rfl ?_
        refine jr_iincN (c := (1 : Int32)) (lv' := fun (x2_12 : Int32) => [(2, .int x2_12), (1, .int x1), (5, .int x5_10), (4, .int r_8), (3, .int r_5), (0, .ref 205)]) dX12_rate_100 (by decide) 5 rfl (by decide) (fun _ => rfl) (fun x2_12 e_13 => ?_)
        replace h := drvL e_13 h
        refine jr_goto (tgt := 27) dX12_rate_103 (by decide) ?_
        refine jr_sub [5, 1, 0] rfl ?_
        exact hrec _ _ h
      · replace h := drvE hc h
        refine jr_iload dX12_rate_93 0 rfl ?_
        refine jr_goto (tgt := 99) dX12_rate_95 (by decide) ?_
        refine jr_istore_n (lv' := [(1, .int x5_10), (5, .int x5_10), (4, .int r_8), (3, .int r_5), (0, .ref 205), (2, .int x2)]) dX12_rate_99 rfl (by decide) rfl ?_
        refine jr_iincN (c := (1 : Int32)) (lv' := fun (x2_14 : Int32) => [(2, .int x2_14), (1, .int x5_10), (5, .int x5_10), (4, .int r_8), (3, .int r_5), (0, .ref 205)]) dX12_rate_100 (by decide) 5 rfl (by decide) (fun _ => rfl) (fun x2_14 e_15 => ?_)
        replace h := drvL e_15 h
        refine jr_goto (tgt := 27) dX12_rate_103 (by decide) ?_
        refine jr_sub [5, 1, 0] rfl ?_
        exact hrec _ _ h
    · replace h := drvT hc h
      refine jr_iconst (v := (-1 : Int32)) dX12_rate_75 (by decide) ?_
      obtain ⟨rfl, rfl⟩ := drvS2 h
      exact jr_iret rfl dX12_rate_76
theorem hlX12_rate_27 {n : Nat} {k106 : Int32 → (Option (Int32 × jWd))} {w : jWd} {r : Int32} {w' : jWd} (hk106 : ∀ (z1 : Int32), k106 z1 = some (r, w') → J MX12_rate 4 w 106 [(1, .int z1)] [] (some (.int r)) w') : ∀ (c : Nat) (x1 : Int32) (x2 : Int32) , lX12_rate_27 n k106 w c x1 x2 = some (r, w') → J MX12_rate 4 w 27 [(0, .ref 205), (1, .int x1), (2, .int x2)] [] (some (.int r)) w' := by
  intro c
  induction c with
  | zero => intro x1 x2 h; cases h
  | succ c ih => intro x1 x2 h; exact hbX12_rate_27 (n := n) hk106 ih _ _ h
set_option maxHeartbeats 4000000 in
set_option maxRecDepth 100000 in
theorem tX12_rate {n : Nat} {w : jWd} {r : Int32} {w' : jWd}  (h : fX12_rate n w = some (r, w')) : JM yX12_rate MX12_rate 4 [.ref 205] w (some (.int r)) w' := by
  refine jm_of pl_X12 rfl (Nat.le_of_ble_eq_true rfl) ?_
  show J MX12_rate 4 w 0 [(0, .ref 205)] [] (some (.int r)) w'
  unfold fX12_rate at h
  refine jr_aload_n dX12_rate_0 rfl 0 rfl ?_
  refine jr_iconst (v := (0 : Int32)) dX12_rate_1 (by decide) ?_
  refine pf_X12_1 rfl (rfl : kd 205 = 11) dX12_rate_2 ?_
  refine j_nmw (fun w_1 e_2 => ?_)
  replace h := drvL e_2 h
  refine jr_aload_n dX12_rate_5 rfl 0 rfl ?_
  refine gf_X12_17 (r := 207) rfl (rfl : kd 205 = 11) rfl dX12_rate_6 ?_
  refine jr_sipush (v := (889 : Int32)) dX12_rate_9 (by decide) ?_
  refine jr_ialdL (k := 889) (rfl : kd 207 = 13) (vp_lit (by decide) (by decide)) (by decide) dX12_rate_12 ?_
  refine jr_if_ne (tgt := 23) (nxt := 16) dX12_rate_13 (by decide) rfl (fun hc => ?_) (fun hc => ?_)
  · replace h := drvE hc h
    refine jr_iconst (v := (1 : Int32)) dX12_rate_23 (by decide) ?_
    refine jr_istore_n (lv' := [(1, .int (1 : Int32)), (0, .ref 205)]) dX12_rate_24 rfl (by decide) rfl ?_
    refine jr_iconst (v := (0 : Int32)) dX12_rate_25 (by decide) ?_
    refine jr_istore_n (lv' := [(2, .int (0 : Int32)), (1, .int (1 : Int32)), (0, .ref 205)]) dX12_rate_26 rfl (by decide) rfl ?_
    refine jr_sub [2, 1, 0] rfl ?_
    refine hlX12_rate_27  ?_ _ _ _ h
    · intro z1_16 h
      try dsimp only at h
      refine jr_iload_n dX12_rate_106 rfl 0 rfl ?_
      refine jr_bipush (v := (99 : Int32)) dX12_rate_107 (by decide) ?_
      refine jr_icmp_le (tgt := 116) (nxt := 112) dX12_rate_109 (by decide) rfl (fun hc => ?_) (fun hc => ?_)
      · replace h := drvT hc h
        refine jr_iload_n dX12_rate_116 rfl 0 rfl ?_
        obtain ⟨rfl, rfl⟩ := drvS2 h
        exact jr_iret rfl dX12_rate_117
      · replace h := drvE hc h
        refine jr_iconst (v := (-1 : Int32)) dX12_rate_112 (by decide) ?_
        refine jr_goto (tgt := 117) dX12_rate_113 (by decide) ?_
        obtain ⟨rfl, rfl⟩ := drvS2 h
        exact jr_iret rfl dX12_rate_117
  · replace h := drvT hc h
    refine jr_aload_n dX12_rate_16 rfl 0 rfl ?_
    refine jr_bipush (v := (-5 : Int32)) dX12_rate_17 (by decide) ?_
    obtain ⟨r_19, w_18, hq_17, h⟩ := drvB2 h
    refine j_callVv lk_X12_85 wIM_X12_no wSE_X12_no (rfl : kd 205 = 11) (by decide) rfl (tX12_no  hq_17) (by omega) rfl rfl (Nat.le_of_ble_eq_true rfl) dX12_rate_19 ?_
    obtain ⟨rfl, rfl⟩ := drvS2 h
    exact jr_iret rfl dX12_rate_22
set_option maxHeartbeats 4000000 in
set_option maxRecDepth 100000 in
theorem hbX12_side_5 {n : Nat} {p1 : Int32} {p2 : Int32} {r : Int32} {w' : jWd} {rec : Int32 → Int32 → jWd → Option (Int32 × jWd)} 
    (hrec : ∀ (x3 : Int32) (x4 : Int32) (w : jWd) , rec x3 x4 w = some (r, w') → J MX12_side 10 w 5 [(0, .ref 205), (1, .int p1), (2, .int p2), (3, .int x3), (4, .int x4)] [] (some (.int r)) w') : ∀ (x3 : Int32) (x4 : Int32) (w : jWd) , bX12_side_5 n p1 p2 rec x3 x4 w = some (r, w') → J MX12_side 10 w 5 [(0, .ref 205), (1, .int p1), (2, .int p2), (3, .int x3), (4, .int x4)] [] (some (.int r)) w' := by
  intro x3 x4 w h
  unfold bX12_side_5 at h
  refine jr_iload dX12_side_5 4 rfl ?_
  refine jr_if_eq (tgt := 69) (nxt := 10) dX12_side_7 (by decide) rfl (fun hc => ?_) (fun hc => ?_)
  · replace h := drvT hc h
    refine jr_iload_n dX12_side_69 rfl 3 rfl ?_
    obtain ⟨rfl, rfl⟩ := drvS2 h
    exact jr_iret rfl dX12_side_70
  · replace h := drvE hc h
    refine jr_aload_n dX12_side_10 rfl 0 rfl ?_
    refine jr_iconst (v := (1 : Int32)) dX12_side_11 (by decide) ?_
    refine jr_sipush (v := (255 : Int32)) dX12_side_12 (by decide) ?_
    refine jr_iload_n dX12_side_15 rfl 3 rfl ?_
    obtain ⟨j33_2, ej33_2, h⟩ := drvF h
    have hj33_2 : ∀ (s_1 : Int32), j33_2 s_1 = some (r, w') → J MX12_side 10 w 33 [(0, .ref 205), (1, .int p1), (2, .int p2), (3, .int x3)] [.int s_1, .int (255 : Int32), .int (1 : Int32), .ref 205] (some (.int r)) w' := by
      intro s_1 h
      rw [ej33_2] at h
      try dsimp only at h
      obtain ⟨r_5, w_4, hq_3, h⟩ := drvB2 h
      refine j_callVv lk_X12_199 wIM_X12_reads wSE_X12_reads (rfl : kd 205 = 11) (by decide) rfl (tX12_reads  hq_3) (by omega) rfl rfl (Nat.le_of_ble_eq_true rfl) dX12_side_33 ?_
      refine jr_istore (lv' := [(5, .int r_5), (0, .ref 205), (1, .int p1), (2, .int p2), (3, .int x3)]) dX12_side_36 (by decide) rfl ?_
      refine jr_aload_n dX12_side_38 rfl 1 rfl ?_
      refine gf_X12_158 rfl (rfl : kd 205 = 11) dX12_side_39 ?_
      obtain ⟨j55_7, ej55_7, h⟩ := drvF h
      have hj55_7 : ∀ (w_6 : jWd), j55_7 w_6 = some (r, w') → J MX12_side 10 w_6 55 [(0, .ref 205), (1, .int p1), (2, .int p2), (3, .int x3)] [] (some (.int r)) w' := by
        intro w_6 h
        rw [ej55_7] at h
        try dsimp only at h
        refine jr_iincN (c := (1 : Int32)) (lv' := fun (x3_8 : Int32) => [(3, .int x3_8), (0, .ref 205), (1, .int p1), (2, .int p2)]) dX12_side_55 (by decide) 3 rfl (by decide) (fun _ => rfl) (fun x3_8 e_9 => ?_)
        replace h := drvL e_9 h
        refine jr_aload_n dX12_side_58 rfl 1 rfl ?_
        refine jr_bipush (v := (14 : Int32)) dX12_side_59 (by decide) ?_
        refine j_callVv lk_X12_164 wIM_X12_is wSE_X12_is (rfl : kd 205 = 11) (by decide) rfl (tX12_is  (a0 := (14 : Int32)) (w := w_6)) (by omega) rfl rfl (Nat.le_of_ble_eq_true rfl) dX12_side_61 ?_
        refine j_nmi (fun x4_10 e_11 => ?_)
        replace h := drvL e_11 h
        refine jr_istore (lv' := [(4, .int x4_10), (3, .int x3_8), (0, .ref 205), (1, .int p1), (2, .int p2)]) dX12_side_64 (by decide) rfl ?_
        refine jr_goto (tgt := 5) dX12_side_66 (by decide) ?_
        refine jr_sub [2, 3, 4, 1, 0] rfl ?_
        exact hrec _ _ _ h
      refine jr_if_ne (tgt := 55) (nxt := 45) dX12_side_42 (by decide) rfl (fun hc => ?_) (fun hc => ?_)
      · replace h := drvE hc h
        refine jr_sub [1, 2, 3, 4] rfl ?_
        exact hj55_7 _ h
      · replace h := drvT hc h
        refine jr_aload_n dX12_side_45 rfl 1 rfl ?_
        refine gf_X12_31 (r := 211) rfl (rfl : kd 205 = 11) rfl dX12_side_46 ?_
        refine jr_iload_n dX12_side_49 rfl 2 rfl ?_
        refine jr_iload_n dX12_side_50 rfl 4 rfl ?_
        refine jr_iadd dX12_side_51 ?_
        refine jr_iload dX12_side_52 0 rfl ?_
        obtain ⟨hg_14, h⟩ := drvG h
        refine jr_iast (rfl : kd 211 = 13) hg_14 dX12_side_54 ?_
        refine j_nmw (fun w_12 e_13 => ?_)
        replace h := drvL e_13 h
        refine jr_sub [1, 2, 3, 4] rfl ?_
        exact hj55_7 _ h
    refine jr_if_ne (tgt := 23) (nxt := 19) dX12_side_16 (by decide) rfl (fun hc => ?_) (fun hc => ?_)
    · replace h := drvE hc h
      refine jr_iload_n dX12_side_23 rfl 3 rfl ?_
      refine jr_iconst (v := (4 : Int32)) dX12_side_24 (by decide) ?_
      refine jr_icmp_ne (tgt := 32) (nxt := 28) dX12_side_25 (by decide) rfl (fun hc => ?_) (fun hc => ?_)
      · replace h := drvE hc h
        refine jr_iconst (v := (0 : Int32)) dX12_side_32 (by decide) ?_
        refine jr_sub [0, 1, 2, 3] rfl ?_
        exact hj33_2 _ h
      · replace h := drvT hc h
        refine jr_iconst (v := (1 : Int32)) dX12_side_28 (by decide) ?_
        refine jr_goto (tgt := 33) dX12_side_29 (by decide) ?_
        refine jr_sub [0, 1, 2, 3] rfl ?_
        exact hj33_2 _ h
    · replace h := drvT hc h
      refine jr_iload_n dX12_side_19 rfl 2 rfl ?_
      refine jr_goto (tgt := 33) dX12_side_20 (by decide) ?_
      refine jr_sub [0, 1, 2, 3] rfl ?_
      exact hj33_2 _ h
theorem hlX12_side_5 {n : Nat} {p1 : Int32} {p2 : Int32} {r : Int32} {w' : jWd}  : ∀ (c : Nat) (x3 : Int32) (x4 : Int32) (w : jWd) , lX12_side_5 n p1 p2 c x3 x4 w = some (r, w') → J MX12_side 10 w 5 [(0, .ref 205), (1, .int p1), (2, .int p2), (3, .int x3), (4, .int x4)] [] (some (.int r)) w' := by
  intro c
  induction c with
  | zero => intro x3 x4 w h; cases h
  | succ c ih => intro x3 x4 w h; exact hbX12_side_5 (n := n) ih _ _ _ h
set_option maxHeartbeats 4000000 in
set_option maxRecDepth 100000 in
theorem tX12_side {n : Nat} {a0 : Int32} {a1 : Int32} {w : jWd} {r : Int32} {w' : jWd}  (h : fX12_side n a0 a1 w = some (r, w')) : JM yX12_side MX12_side 10 [.ref 205, .int a0, .int a1] w (some (.int r)) w' := by
  refine jm_of pl_X12 rfl (Nat.le_of_ble_eq_true rfl) ?_
  show J MX12_side 10 w 0 [(0, .ref 205), (1, .int a0), (2, .int a1)] [] (some (.int r)) w'
  unfold fX12_side at h
  refine jr_iconst (v := (0 : Int32)) dX12_side_0 (by decide) ?_
  refine jr_istore_n (lv' := [(3, .int (0 : Int32)), (0, .ref 205), (1, .int a0), (2, .int a1)]) dX12_side_1 rfl (by decide) rfl ?_
  refine jr_iconst (v := (1 : Int32)) dX12_side_2 (by decide) ?_
  refine jr_istore (lv' := [(4, .int (1 : Int32)), (3, .int (0 : Int32)), (0, .ref 205), (1, .int a0), (2, .int a1)]) dX12_side_3 (by decide) rfl ?_
  refine jr_sub [2, 3, 4, 1, 0] rfl ?_
  refine hlX12_side_5   _ _ _ _ h
set_option maxHeartbeats 4000000 in
set_option maxRecDepth 100000 in
theorem tX12_readRule {n : Nat} {w : jWd} {w' : jWd}  (h : fX12_readRule n w = some w') : JM yX12_readRule MX12_readRule 50 [.ref 205] w none w' := by
  refine jm_of pl_X12 rfl (Nat.le_of_ble_eq_true rfl) ?_
  show J MX12_readRule 50 w 0 [(0, .ref 205)] [] none w'
  unfold fX12_readRule at h
  refine jr_sipush (v := (1935 : Int32)) dX12_readRule_0 (by decide) ?_
  refine jr_istore_n (lv' := [(1, .int (1935 : Int32)), (0, .ref 205)]) dX12_readRule_3 rfl (by decide) rfl ?_
  refine jr_aload_n dX12_readRule_4 rfl 1 rfl ?_
  refine gf_X12_31 (r := 211) rfl (rfl : kd 205 = 11) rfl dX12_readRule_5 ?_
  refine jr_iload_n dX12_readRule_8 rfl 0 rfl ?_
  refine jr_ialdL (k := 1935) (rfl : kd 211 = 13) (vp_lit (by decide) (by decide)) (by decide) dX12_readRule_9 ?_
  refine j_nmi (fun x2_1 e_2 => ?_)
  replace h := drvL e_2 h
  refine jr_istore_n (lv' := [(2, .int x2_1), (1, .int (1935 : Int32)), (0, .ref 205)]) dX12_readRule_10 rfl (by decide) rfl ?_
  refine jr_iload_n dX12_readRule_11 rfl 0 rfl ?_
  refine jr_bipush (v := (12 : Int32)) dX12_readRule_12 (by decide) ?_
  obtain ⟨j22_4, ej22_4, h⟩ := drvF h
  have hj22_4 : ∀ (s_3 : Int32), j22_4 s_3 = some w' → J MX12_readRule 50 w 22 [(0, .ref 205), (1, .int (1935 : Int32)), (2, .int x2_1)] [.int s_3] none w' := by
    intro s_3 h
    rw [ej22_4] at h
    try dsimp only at h
    refine jr_istore_n (lv' := [(3, .int s_3), (0, .ref 205), (1, .int (1935 : Int32)), (2, .int x2_1)]) dX12_readRule_22 rfl (by decide) rfl ?_
    refine jr_aload_n dX12_readRule_23 rfl 1 rfl ?_
    refine jr_iload_n dX12_readRule_24 rfl 2 rfl ?_
    refine jr_iconst (v := (1 : Int32)) dX12_readRule_25 (by decide) ?_
    refine jr_iadd dX12_readRule_26 ?_
    refine jr_iconst (v := (4 : Int32)) dX12_readRule_27 (by decide) ?_
    refine jr_iload_n dX12_readRule_28 rfl 0 rfl ?_
    obtain ⟨j37_6, ej37_6, h⟩ := drvF h
    have hj37_6 : ∀ (s_5 : Int32), j37_6 s_5 = some w' → J MX12_readRule 50 w 37 [(0, .ref 205), (1, .int (1935 : Int32)), (2, .int x2_1), (3, .int s_3)] [.int s_5, .int (4 : Int32), .int ((1935 : Int32) + (1 : Int32)), .ref 205] none w' := by
      intro s_5 h
      rw [ej37_6] at h
      try dsimp only at h
      refine jr_imul dX12_readRule_37 ?_
      refine jr_iadd dX12_readRule_38 ?_
      refine jr_iload_n dX12_readRule_39 rfl 3 rfl ?_
      obtain ⟨r_9, w_8, hq_7, h⟩ := drvB2 h
      refine j_callVv lk_X12_203 wIM_X12_side wSE_X12_side (rfl : kd 205 = 11) (by decide) rfl (tX12_side  hq_7) (by omega) rfl rfl (Nat.le_of_ble_eq_true rfl) dX12_readRule_40 ?_
      refine jr_istore (lv' := [(4, .int r_9), (0, .ref 205), (1, .int (1935 : Int32)), (2, .int x2_1), (3, .int s_3)]) dX12_readRule_43 (by decide) rfl ?_
      refine jr_aload_n dX12_readRule_45 rfl 1 rfl ?_
      refine jr_iconst (v := (0 : Int32)) dX12_readRule_46 (by decide) ?_
      obtain ⟨w_11, hq_10, h⟩ := drvB h
      refine j_callVn lk_X12_196 wIM_X12_needs wSE_X12_needs (rfl : kd 205 = 11) (by decide) rfl (tX12_needs  hq_10) (by omega) rfl rfl (Nat.le_of_ble_eq_true rfl) dX12_readRule_47 ?_
      refine jr_aload_n dX12_readRule_50 rfl 1 rfl ?_
      refine gf_X12_158 rfl (rfl : kd 205 = 11) dX12_readRule_51 ?_
      obtain ⟨j74_14, ej74_14, h⟩ := drvF h
      have hj74_14 : ∀ (s_12 : Int32) (w_13 : jWd), j74_14 s_12 w_13 = some w' → J MX12_readRule 50 w_13 74 [(0, .ref 205), (1, .int (1935 : Int32)), (2, .int x2_1), (4, .int r_9)] [.int s_12] none w' := by
        intro s_12 w_13 h
        rw [ej74_14] at h
        try dsimp only at h
        refine jr_istore (lv' := [(5, .int s_12), (0, .ref 205), (1, .int (1935 : Int32)), (2, .int x2_1), (4, .int r_9)]) dX12_readRule_74 (by decide) rfl ?_
        refine jr_aload_n dX12_readRule_76 rfl 1 rfl ?_
        refine gf_X12_158 rfl (rfl : kd 205 = 11) dX12_readRule_77 ?_
        refine jr_if_eq (tgt := 84) (nxt := 83) dX12_readRule_80 (by decide) rfl (fun hc => ?_) (fun hc => ?_)
        · replace h := drvT hc h
          refine jr_aload_n dX12_readRule_84 rfl 1 rfl ?_
          refine gf_X12_31 (r := 211) rfl (rfl : kd 205 = 11) rfl dX12_readRule_85 ?_
          refine jr_iload_n dX12_readRule_88 rfl 2 rfl ?_
          refine jr_bipush (v := (97 : Int32)) dX12_readRule_89 (by decide) ?_
          refine jr_iadd dX12_readRule_91 ?_
          refine jr_iload_n dX12_readRule_92 rfl 3 rfl ?_
          refine jr_iadd dX12_readRule_93 ?_
          refine jr_iload dX12_readRule_94 4 rfl ?_
          obtain ⟨hg_17, h⟩ := drvG h
          refine jr_iast (rfl : kd 211 = 13) hg_17 dX12_readRule_96 ?_
          refine j_nmw (fun w_15 e_16 => ?_)
          replace h := drvL e_16 h
          refine jr_aload_n dX12_readRule_97 rfl 1 rfl ?_
          refine gf_X12_31 (r := 211) rfl (rfl : kd 205 = 11) rfl dX12_readRule_98 ?_
          refine jr_iload_n dX12_readRule_101 rfl 2 rfl ?_
          refine jr_bipush (v := (109 : Int32)) dX12_readRule_102 (by decide) ?_
          refine jr_iadd dX12_readRule_104 ?_
          refine jr_iload_n dX12_readRule_105 rfl 3 rfl ?_
          refine jr_iadd dX12_readRule_106 ?_
          refine jr_iload dX12_readRule_107 0 rfl ?_
          obtain ⟨hg_20, h⟩ := drvG h
          refine jr_iast (rfl : kd 211 = 13) hg_20 dX12_readRule_109 ?_
          refine j_nmw (fun w_18 e_19 => ?_)
          replace h := drvL e_19 h
          refine jr_aload_n dX12_readRule_110 rfl 1 rfl ?_
          refine gf_X12_31 (r := 211) rfl (rfl : kd 205 = 11) rfl dX12_readRule_111 ?_
          refine jr_iload_n dX12_readRule_114 rfl 2 rfl ?_
          refine jr_bipush (v := (121 : Int32)) dX12_readRule_115 (by decide) ?_
          refine jr_iadd dX12_readRule_117 ?_
          refine jr_iload_n dX12_readRule_118 rfl 3 rfl ?_
          refine jr_iadd dX12_readRule_119 ?_
          refine jr_aload_n dX12_readRule_120 rfl 1 rfl ?_
          refine gf_X12_177 rfl (rfl : kd 205 = 11) dX12_readRule_121 ?_
          obtain ⟨hg_23, h⟩ := drvG h
          refine jr_iast (rfl : kd 211 = 13) hg_23 dX12_readRule_124 ?_
          refine j_nmw (fun w_21 e_22 => ?_)
          replace h := drvL e_22 h
          refine jr_aload_n dX12_readRule_125 rfl 1 rfl ?_
          refine jr_iconst (v := (1 : Int32)) dX12_readRule_126 (by decide) ?_
          obtain ⟨r_26, w_25, hq_24, h⟩ := drvB2 h
          refine j_callVv lk_X12_170 wIM_X12_eats wSE_X12_eats (rfl : kd 205 = 11) (by decide) rfl (tX12_eats  hq_24) (by omega) rfl rfl (Nat.le_of_ble_eq_true rfl) dX12_readRule_127 ?_
          obtain ⟨j137_28, ej137_28, h⟩ := drvF h
          have hj137_28 : ∀ (w_27 : jWd), j137_28 w_27 = some w' → J MX12_readRule 50 w_27 137 [(0, .ref 205), (1, .int (1935 : Int32)), (2, .int x2_1)] [] none w' := by
            intro w_27 h
            rw [ej137_28] at h
            try dsimp only at h
            refine jr_aload_n dX12_readRule_137 rfl 0 rfl ?_
            refine gf_X12_31 (r := 211) rfl (rfl : kd 205 = 11) rfl dX12_readRule_138 ?_
            refine jr_iload_n dX12_readRule_141 rfl 1 rfl ?_
            refine jr_sipush (v := (133 : Int32)) dX12_readRule_142 (by decide) ?_
            refine jr_iadd dX12_readRule_145 ?_
            refine jr_iload_n dX12_readRule_146 rfl 2 rfl ?_
            refine jr_iadd dX12_readRule_147 ?_
            refine jr_aload_n dX12_readRule_148 rfl 0 rfl ?_
            refine gf_X12_177 rfl (rfl : kd 205 = 11) dX12_readRule_149 ?_
            obtain ⟨hg_31, h⟩ := drvG h
            refine jr_iast (rfl : kd 211 = 13) hg_31 dX12_readRule_152 ?_
            refine j_nmw (fun w_29 e_30 => ?_)
            replace h := drvL e_30 h
            refine jr_aload_n dX12_readRule_153 rfl 0 rfl ?_
            refine jr_bipush (v := (15 : Int32)) dX12_readRule_154 (by decide) ?_
            obtain ⟨w_33, hq_32, h⟩ := drvB h
            refine j_callVn lk_X12_196 wIM_X12_needs wSE_X12_needs (rfl : kd 205 = 11) (by decide) rfl (tX12_needs  hq_32) (by omega) rfl rfl (Nat.le_of_ble_eq_true rfl) dX12_readRule_156 ?_
            refine jr_aload_n dX12_readRule_159 rfl 0 rfl ?_
            refine gf_X12_31 (r := 211) rfl (rfl : kd 205 = 11) rfl dX12_readRule_160 ?_
            refine jr_iload_n dX12_readRule_163 rfl 1 rfl ?_
            refine jr_dup2_11 dX12_readRule_164 rfl rfl ?_
            refine jr_ialdL (k := 1935) (rfl : kd 211 = 13) (vp_lit (by decide) (by decide)) (by decide) dX12_readRule_165 ?_
            refine jr_iconst (v := (1 : Int32)) dX12_readRule_166 (by decide) ?_
            refine jr_iadd dX12_readRule_167 ?_
            refine jr_iastL (k := 1935) (rfl : kd 211 = 13) (vp_lit (by decide) (by decide)) (by decide) dX12_readRule_168 ?_
            refine j_nmw (fun w_34 e_35 => ?_)
            replace h := drvL e_35 h
            obtain rfl := drvS1 h
            exact jr_vret rfl dX12_readRule_169
          refine jr_if_eq (tgt := 137) (nxt := 133) dX12_readRule_130 (by decide) rfl (fun hc => ?_) (fun hc => ?_)
          · replace h := drvT hc h
            refine jr_sub [1, 2, 3] rfl ?_
            exact hj137_28 _ h
          · replace h := drvE hc h
            refine jr_aload_n dX12_readRule_133 rfl 1 rfl ?_
            obtain ⟨w_37, hq_36, h⟩ := drvB h
            refine j_callVn lk_X12_193 wIM_X12_test wSE_X12_test (rfl : kd 205 = 11) (by decide) rfl (tX12_test  hq_36) (by omega) rfl rfl (Nat.le_of_ble_eq_true rfl) dX12_readRule_134 ?_
            refine jr_sub [1, 2, 3] rfl ?_
            exact hj137_28 _ h
        · replace h := drvE hc h
          obtain rfl := drvS1 h
          exact jr_vret rfl dX12_readRule_83
      refine jr_if_ne (tgt := 73) (nxt := 57) dX12_readRule_54 (by decide) rfl (fun hc => ?_) (fun hc => ?_)
      · replace h := drvE hc h
        refine jr_iconst (v := (0 : Int32)) dX12_readRule_73 (by decide) ?_
        refine jr_sub [1, 2, 3, 0] rfl ?_
        exact hj74_14 _ _ h
      · replace h := drvT hc h
        refine jr_aload_n dX12_readRule_57 rfl 1 rfl ?_
        refine jr_iload_n dX12_readRule_58 rfl 2 rfl ?_
        refine jr_bipush (v := (49 : Int32)) dX12_readRule_59 (by decide) ?_
        refine jr_iadd dX12_readRule_61 ?_
        refine jr_iconst (v := (4 : Int32)) dX12_readRule_62 (by decide) ?_
        refine jr_iload_n dX12_readRule_63 rfl 3 rfl ?_
        refine jr_imul dX12_readRule_64 ?_
        refine jr_iadd dX12_readRule_65 ?_
        refine jr_iconst (v := (0 : Int32)) dX12_readRule_66 (by decide) ?_
        obtain ⟨r_40, w_39, hq_38, h⟩ := drvB2 h
        refine j_callVv lk_X12_203 wIM_X12_side wSE_X12_side (rfl : kd 205 = 11) (by decide) rfl (tX12_side  hq_38) (by omega) rfl rfl (Nat.le_of_ble_eq_true rfl) dX12_readRule_67 ?_
        refine jr_goto (tgt := 74) dX12_readRule_70 (by decide) ?_
        refine jr_sub [1, 2, 3, 0] rfl ?_
        exact hj74_14 _ _ h
    refine jr_if_eq (tgt := 36) (nxt := 32) dX12_readRule_29 (by decide) rfl (fun hc => ?_) (fun hc => ?_)
    · replace h := drvT hc h
      refine jr_iload_n dX12_readRule_36 rfl 3 rfl ?_
      refine jr_sub [1, 2, 3, 0] rfl ?_
      exact hj37_6 _ h
    · replace h := drvE hc h
      refine jr_iconst (v := (0 : Int32)) dX12_readRule_32 (by decide) ?_
      refine jr_goto (tgt := 37) dX12_readRule_33 (by decide) ?_
      refine jr_sub [1, 2, 3, 0] rfl ?_
      exact hj37_6 _ h
  refine jr_icmp_ne (tgt := 21) (nxt := 17) dX12_readRule_14 (by decide) rfl (fun hc => ?_) (fun hc => ?_)
  · replace h := drvE hc h
    refine jr_iconst (v := (0 : Int32)) dX12_readRule_21 (by decide) ?_
    refine jr_sub [2, 1, 0] rfl ?_
    exact hj22_4 _ h
  · replace h := drvT hc h
    refine jr_iconst (v := (1 : Int32)) dX12_readRule_17 (by decide) ?_
    refine jr_goto (tgt := 22) dX12_readRule_18 (by decide) ?_
    refine jr_sub [2, 1, 0] rfl ?_
    exact hj22_4 _ h
set_option maxHeartbeats 4000000 in
set_option maxRecDepth 100000 in
theorem tX12_readWay {n : Nat} {w : jWd} {w' : jWd}  (h : fX12_readWay n w = some w') : JM yX12_readWay MX12_readWay 11 [.ref 205] w none w' := by
  refine jm_of pl_X12 rfl (Nat.le_of_ble_eq_true rfl) ?_
  show J MX12_readWay 11 w 0 [(0, .ref 205)] [] none w'
  unfold fX12_readWay at h
  refine jr_bipush (v := (87 : Int32)) dX12_readWay_0 (by decide) ?_
  refine jr_istore_n (lv' := [(1, .int (87 : Int32)), (0, .ref 205)]) dX12_readWay_2 rfl (by decide) rfl ?_
  refine jr_aload_n dX12_readWay_3 rfl 1 rfl ?_
  refine gf_X12_158 rfl (rfl : kd 205 = 11) dX12_readWay_4 ?_
  obtain ⟨j32_2, ej32_2, h⟩ := drvF h
  have hj32_2 : ∀ (w_1 : jWd), j32_2 w_1 = some w' → J MX12_readWay 11 w_1 32 [(0, .ref 205), (1, .int (87 : Int32))] [] none w' := by
    intro w_1 h
    rw [ej32_2] at h
    try dsimp only at h
    refine jr_aload_n dX12_readWay_32 rfl 0 rfl ?_
    refine gf_X12_34 (r := 212) rfl (rfl : kd 205 = 11) rfl dX12_readWay_33 ?_
    refine jr_iload_n dX12_readWay_36 rfl 1 rfl ?_
    refine jr_ialdL (k := 87) (rfl : kd 212 = 13) (vp_lit (by decide) (by decide)) (by decide) dX12_readWay_37 ?_
    refine jr_bipush (v := (12 : Int32)) dX12_readWay_38 (by decide) ?_
    obtain ⟨j48_4, ej48_4, h⟩ := drvF h
    have hj48_4 : ∀ (w_3 : jWd), j48_4 w_3 = some w' → J MX12_readWay 11 w_3 48 [(0, .ref 205), (1, .int (87 : Int32))] [] none w' := by
      intro w_3 h
      rw [ej48_4] at h
      try dsimp only at h
      refine jr_aload_n dX12_readWay_48 rfl 0 rfl ?_
      refine gf_X12_158 rfl (rfl : kd 205 = 11) dX12_readWay_49 ?_
      refine jr_if_eq (tgt := 56) (nxt := 55) dX12_readWay_52 (by decide) rfl (fun hc => ?_) (fun hc => ?_)
      · replace h := drvT hc h
        refine jr_aload_n dX12_readWay_56 rfl 0 rfl ?_
        refine gf_X12_142 rfl (rfl : kd 205 = 11) dX12_readWay_57 ?_
        refine j_nmi (fun x2_5 e_6 => ?_)
        replace h := drvL e_6 h
        refine jr_istore_n (lv' := [(2, .int x2_5), (0, .ref 205), (1, .int (87 : Int32))]) dX12_readWay_60 rfl (by decide) rfl ?_
        refine jr_aload_n dX12_readWay_61 rfl 1 rfl ?_
        obtain ⟨w_8, hq_7, h⟩ := drvB h
        refine j_callVn lk_X12_167 wIM_X12_next wSE_X12_next (rfl : kd 205 = 11) (by decide) rfl (tX12_next  hq_7) (by omega) rfl rfl (Nat.le_of_ble_eq_true rfl) dX12_readWay_62 ?_
        refine jr_iload_n dX12_readWay_65 rfl 0 rfl ?_
        refine jr_bipush (v := (11 : Int32)) dX12_readWay_66 (by decide) ?_
        obtain ⟨j189_10, ej189_10, h⟩ := drvF h
        have hj189_10 : ∀ (w_9 : jWd), j189_10 w_9 = some w' → J MX12_readWay 11 w_9 189 [(0, .ref 205), (1, .int (87 : Int32))] [] none w' := by
          intro w_9 h
          rw [ej189_10] at h
          try dsimp only at h
          refine jr_aload_n dX12_readWay_189 rfl 0 rfl ?_
          refine jr_bipush (v := (15 : Int32)) dX12_readWay_190 (by decide) ?_
          obtain ⟨w_12, hq_11, h⟩ := drvB h
          refine j_callVn lk_X12_196 wIM_X12_needs wSE_X12_needs (rfl : kd 205 = 11) (by decide) rfl (tX12_needs  hq_11) (by omega) rfl rfl (Nat.le_of_ble_eq_true rfl) dX12_readWay_192 ?_
          refine jr_aload_n dX12_readWay_195 rfl 0 rfl ?_
          refine gf_X12_34 (r := 212) rfl (rfl : kd 205 = 11) rfl dX12_readWay_196 ?_
          refine jr_iload_n dX12_readWay_199 rfl 1 rfl ?_
          refine jr_dup2_11 dX12_readWay_200 rfl rfl ?_
          refine jr_ialdL (k := 87) (rfl : kd 212 = 13) (vp_lit (by decide) (by decide)) (by decide) dX12_readWay_201 ?_
          refine jr_iconst (v := (1 : Int32)) dX12_readWay_202 (by decide) ?_
          refine jr_iadd dX12_readWay_203 ?_
          refine jr_iastL (k := 87) (rfl : kd 212 = 13) (vp_lit (by decide) (by decide)) (by decide) dX12_readWay_204 ?_
          refine j_nmw (fun w_13 e_14 => ?_)
          replace h := drvL e_14 h
          obtain rfl := drvS1 h
          exact jr_vret rfl dX12_readWay_205
        refine jr_icmp_ne (tgt := 151) (nxt := 71) dX12_readWay_68 (by decide) rfl (fun hc => ?_) (fun hc => ?_)
        · replace h := drvE hc h
          refine jr_aload_n dX12_readWay_151 rfl 1 rfl ?_
          refine jr_iconst (v := (0 : Int32)) dX12_readWay_152 (by decide) ?_
          refine jr_bipush (v := (99 : Int32)) dX12_readWay_153 (by decide) ?_
          refine jr_iconst (v := (0 : Int32)) dX12_readWay_155 (by decide) ?_
          obtain ⟨r_17, w_16, hq_15, h⟩ := drvB2 h
          refine j_callVv lk_X12_199 wIM_X12_reads wSE_X12_reads (rfl : kd 205 = 11) (by decide) rfl (tX12_reads  hq_15) (by omega) rfl rfl (Nat.le_of_ble_eq_true rfl) dX12_readWay_156 ?_
          refine jr_istore_n (lv' := [(3, .int r_17), (2, .int x2_5), (0, .ref 205), (1, .int (87 : Int32))]) dX12_readWay_159 rfl (by decide) rfl ?_
          refine jr_aload_n dX12_readWay_160 rfl 2 rfl ?_
          refine gf_X12_34 (r := 212) rfl (rfl : kd 205 = 11) rfl dX12_readWay_161 ?_
          refine jr_iload_n dX12_readWay_164 rfl 3 rfl ?_
          refine jr_iload_n dX12_readWay_165 rfl 1 rfl ?_
          refine jr_bipush (v := (8 : Int32)) dX12_readWay_166 (by decide) ?_
          obtain ⟨j186_19, ej186_19, h⟩ := drvF h
          have hj186_19 : ∀ (s_18 : Int32), j186_19 s_18 = some w' → J MX12_readWay 11 w_16 186 [(0, .ref 205), (1, .int (87 : Int32)), (3, .int r_17)] [.int s_18, .int (87 : Int32), .ref 212] none w' := by
            intro s_18 h
            rw [ej186_19] at h
            try dsimp only at h
            refine jr_iadd dX12_readWay_186 ?_
            refine jr_iload_n dX12_readWay_187 rfl 2 rfl ?_
            obtain ⟨hg_22, h⟩ := drvG h
            refine jr_iast (rfl : kd 212 = 13) hg_22 dX12_readWay_188 ?_
            refine j_nmw (fun w_20 e_21 => ?_)
            replace h := drvL e_21 h
            refine jr_sub [0, 1] rfl ?_
            exact hj189_10 _ h
          refine jr_icmp_ne (tgt := 175) (nxt := 171) dX12_readWay_168 (by decide) rfl (fun hc => ?_) (fun hc => ?_)
          · replace h := drvE hc h
            refine jr_iload_n dX12_readWay_175 rfl 1 rfl ?_
            refine jr_bipush (v := (9 : Int32)) dX12_readWay_176 (by decide) ?_
            refine jr_icmp_ne (tgt := 185) (nxt := 181) dX12_readWay_178 (by decide) rfl (fun hc => ?_) (fun hc => ?_)
            · replace h := drvE hc h
              refine jr_iconst (v := (3 : Int32)) dX12_readWay_185 (by decide) ?_
              refine jr_sub [2, 3, 0] rfl ?_
              exact hj186_19 _ h
            · replace h := drvT hc h
              refine jr_iconst (v := (2 : Int32)) dX12_readWay_181 (by decide) ?_
              refine jr_goto (tgt := 186) dX12_readWay_182 (by decide) ?_
              refine jr_sub [2, 3, 0] rfl ?_
              exact hj186_19 _ h
          · replace h := drvT hc h
            refine jr_iconst (v := (1 : Int32)) dX12_readWay_171 (by decide) ?_
            refine jr_goto (tgt := 186) dX12_readWay_172 (by decide) ?_
            refine jr_sub [2, 3, 0] rfl ?_
            exact hj186_19 _ h
        · replace h := drvT hc h
          refine jr_aload_n dX12_readWay_71 rfl 1 rfl ?_
          refine jr_iconst (v := (1 : Int32)) dX12_readWay_72 (by decide) ?_
          refine jr_sipush (v := (255 : Int32)) dX12_readWay_73 (by decide) ?_
          refine jr_iconst (v := (0 : Int32)) dX12_readWay_76 (by decide) ?_
          obtain ⟨r_25, w_24, hq_23, h⟩ := drvB2 h
          refine j_callVv lk_X12_199 wIM_X12_reads wSE_X12_reads (rfl : kd 205 = 11) (by decide) rfl (tX12_reads  hq_23) (by omega) rfl rfl (Nat.le_of_ble_eq_true rfl) dX12_readWay_77 ?_
          refine jr_istore_n (lv' := [(3, .int r_25), (2, .int x2_5), (0, .ref 205), (1, .int (87 : Int32))]) dX12_readWay_80 rfl (by decide) rfl ?_
          refine jr_aload_n dX12_readWay_81 rfl 2 rfl ?_
          refine jr_bipush (v := (12 : Int32)) dX12_readWay_82 (by decide) ?_
          obtain ⟨w_27, hq_26, h⟩ := drvB h
          refine j_callVn lk_X12_196 wIM_X12_needs wSE_X12_needs (rfl : kd 205 = 11) (by decide) rfl (tX12_needs  hq_26) (by omega) rfl rfl (Nat.le_of_ble_eq_true rfl) dX12_readWay_84 ?_
          refine jr_aload_n dX12_readWay_87 rfl 2 rfl ?_
          refine jr_iconst (v := (1 : Int32)) dX12_readWay_88 (by decide) ?_
          refine jr_sipush (v := (255 : Int32)) dX12_readWay_89 (by decide) ?_
          refine jr_iconst (v := (0 : Int32)) dX12_readWay_92 (by decide) ?_
          obtain ⟨r_30, w_29, hq_28, h⟩ := drvB2 h
          refine j_callVv lk_X12_199 wIM_X12_reads wSE_X12_reads (rfl : kd 205 = 11) (by decide) rfl (tX12_reads  hq_28) (by omega) rfl rfl (Nat.le_of_ble_eq_true rfl) dX12_readWay_93 ?_
          refine jr_istore (lv' := [(4, .int r_30), (3, .int r_25), (2, .int x2_5), (0, .ref 205), (1, .int (87 : Int32))]) dX12_readWay_96 (by decide) rfl ?_
          refine jr_aload_n dX12_readWay_98 rfl 3 rfl ?_
          refine gf_X12_34 (r := 212) rfl (rfl : kd 205 = 11) rfl dX12_readWay_99 ?_
          refine jr_iload_n dX12_readWay_102 rfl 4 rfl ?_
          refine jr_iconst (v := (5 : Int32)) dX12_readWay_103 (by decide) ?_
          refine jr_iadd dX12_readWay_104 ?_
          refine jr_aload_n dX12_readWay_105 rfl 3 rfl ?_
          refine gf_X12_34 (r := 212) rfl (rfl : kd 205 = 11) rfl dX12_readWay_106 ?_
          refine jr_iload_n dX12_readWay_109 rfl 4 rfl ?_
          refine jr_iconst (v := (4 : Int32)) dX12_readWay_110 (by decide) ?_
          refine jr_iadd dX12_readWay_111 ?_
          obtain ⟨hg_31, h⟩ := drvG h
          refine jr_iald (rfl : kd 212 = 13) hg_31 dX12_readWay_112 ?_
          refine jr_iadd dX12_readWay_113 ?_
          refine jr_iload_n dX12_readWay_114 rfl 1 rfl ?_
          obtain ⟨hg_34, h⟩ := drvG h
          refine jr_iast (rfl : kd 212 = 13) hg_34 dX12_readWay_115 ?_
          refine j_nmw (fun w_32 e_33 => ?_)
          replace h := drvL e_33 h
          refine jr_aload_n dX12_readWay_116 rfl 3 rfl ?_
          refine gf_X12_34 (r := 212) rfl (rfl : kd 205 = 11) rfl dX12_readWay_117 ?_
          refine jr_iload_n dX12_readWay_120 rfl 4 rfl ?_
          refine jr_bipush (v := (17 : Int32)) dX12_readWay_121 (by decide) ?_
          refine jr_iadd dX12_readWay_123 ?_
          refine jr_aload_n dX12_readWay_124 rfl 3 rfl ?_
          refine gf_X12_34 (r := 212) rfl (rfl : kd 205 = 11) rfl dX12_readWay_125 ?_
          refine jr_iload_n dX12_readWay_128 rfl 4 rfl ?_
          refine jr_iconst (v := (4 : Int32)) dX12_readWay_129 (by decide) ?_
          refine jr_iadd dX12_readWay_130 ?_
          obtain ⟨hg_35, h⟩ := drvG h
          refine jr_iald (rfl : kd 212 = 13) hg_35 dX12_readWay_131 ?_
          refine jr_iadd dX12_readWay_132 ?_
          refine jr_iload dX12_readWay_133 0 rfl ?_
          obtain ⟨hg_38, h⟩ := drvG h
          refine jr_iast (rfl : kd 212 = 13) hg_38 dX12_readWay_135 ?_
          refine j_nmw (fun w_36 e_37 => ?_)
          replace h := drvL e_37 h
          refine jr_aload_n dX12_readWay_136 rfl 3 rfl ?_
          refine gf_X12_34 (r := 212) rfl (rfl : kd 205 = 11) rfl dX12_readWay_137 ?_
          refine jr_iload_n dX12_readWay_140 rfl 4 rfl ?_
          refine jr_iconst (v := (4 : Int32)) dX12_readWay_141 (by decide) ?_
          refine jr_iadd dX12_readWay_142 ?_
          refine jr_dup2_11 dX12_readWay_143 rfl rfl ?_
          obtain ⟨hg_39, h⟩ := drvG h
          refine jr_iald (rfl : kd 212 = 13) hg_39 dX12_readWay_144 ?_
          refine jr_iconst (v := (1 : Int32)) dX12_readWay_145 (by decide) ?_
          refine jr_iadd dX12_readWay_146 ?_
          obtain ⟨hg_42, h⟩ := drvG h
          refine jr_iast (rfl : kd 212 = 13) hg_42 dX12_readWay_147 ?_
          refine j_nmw (fun w_40 e_41 => ?_)
          replace h := drvL e_41 h
          refine jr_goto (tgt := 189) dX12_readWay_148 (by decide) ?_
          refine jr_sub [3, 4] rfl ?_
          exact hj189_10 _ h
      · replace h := drvE hc h
        obtain rfl := drvS1 h
        exact jr_vret rfl dX12_readWay_55
    refine jr_icmp_ne (tgt := 48) (nxt := 43) dX12_readWay_40 (by decide) rfl (fun hc => ?_) (fun hc => ?_)
    · replace h := drvE hc h
      refine jr_sub [0, 1] rfl ?_
      exact hj48_4 _ h
    · replace h := drvT hc h
      refine jr_aload_n dX12_readWay_43 rfl 0 rfl ?_
      refine jr_iconst (v := (4 : Int32)) dX12_readWay_44 (by decide) ?_
      obtain ⟨w_44, hq_43, h⟩ := drvB h
      refine j_callVn lk_X12_173 wIM_X12_fails wSE_X12_fails (rfl : kd 205 = 11) (by decide) rfl (tX12_fails  hq_43) (by omega) rfl rfl (Nat.le_of_ble_eq_true rfl) dX12_readWay_45 ?_
      refine jr_sub [0, 1] rfl ?_
      exact hj48_4 _ h
  refine jr_if_ne (tgt := 32) (nxt := 10) dX12_readWay_7 (by decide) rfl (fun hc => ?_) (fun hc => ?_)
  · replace h := drvE hc h
    refine jr_sub [1, 0] rfl ?_
    exact hj32_2 _ h
  · replace h := drvT hc h
    refine jr_aload_n dX12_readWay_10 rfl 1 rfl ?_
    refine gf_X12_142 rfl (rfl : kd 205 = 11) dX12_readWay_11 ?_
    refine jr_i2l dX12_readWay_14 ?_
    refine jr_ldc2 (v := (8 : Int64)) wCC_X12_207 dX12_readWay_15 ?_
    refine jr_ldc2 (v := (11 : Int64)) wCC_X12_209 dX12_readWay_18 ?_
    refine j_callSv lk_X12_81 wST_X12_within (tX12_within  (a0 := (((wI w 205 13)).toInt64)) (a1 := (8 : Int64)) (a2 := (11 : Int64)) (w := w)) (by omega) rfl rfl (Nat.le_of_ble_eq_true rfl) dX12_readWay_21 ?_
    refine jr_if_ne (tgt := 32) (nxt := 27) dX12_readWay_24 (by decide) rfl (fun hc => ?_) (fun hc => ?_)
    · replace h := drvE hc h
      refine jr_sub [1, 0] rfl ?_
      exact hj32_2 _ h
    · replace h := drvT hc h
      refine jr_aload_n dX12_readWay_27 rfl 1 rfl ?_
      refine jr_iconst (v := (2 : Int32)) dX12_readWay_28 (by decide) ?_
      obtain ⟨w_46, hq_45, h⟩ := drvB h
      refine j_callVn lk_X12_173 wIM_X12_fails wSE_X12_fails (rfl : kd 205 = 11) (by decide) rfl (tX12_fails  hq_45) (by omega) rfl rfl (Nat.le_of_ble_eq_true rfl) dX12_readWay_29 ?_
      refine jr_sub [1, 0] rfl ?_
      exact hj32_2 _ h
set_option maxHeartbeats 4000000 in
set_option maxRecDepth 100000 in
theorem tX12_restore {n : Nat} {a0 : Int32} {w : jWd} {r : Int32} {w' : jWd}  (h : fX12_restore n a0 w = some (r, w')) : JM yX12_restore MX12_restore 2 [.ref 205, .int a0] w (some (.int r)) w' := by
  refine jm_of pl_X12 rfl (Nat.le_of_ble_eq_true rfl) ?_
  show J MX12_restore 2 w 0 [(0, .ref 205), (1, .int a0)] [] (some (.int r)) w'
  unfold fX12_restore at h
  refine jr_aload_n dX12_restore_0 rfl 0 rfl ?_
  refine jr_iconst (v := (0 : Int32)) dX12_restore_1 (by decide) ?_
  refine pf_X12_1 rfl (rfl : kd 205 = 11) dX12_restore_2 ?_
  refine j_nmw (fun w_1 e_2 => ?_)
  replace h := drvL e_2 h
  refine jr_iload_n dX12_restore_5 rfl 1 rfl ?_
  refine jr_i2l dX12_restore_6 ?_
  refine jr_lconst (v := (0 : Int64)) dX12_restore_7 rfl ?_
  refine jr_lconst (v := (1 : Int64)) dX12_restore_8 rfl ?_
  refine j_callSv lk_X12_81 wST_X12_within (tX12_within  (a0 := ((a0).toInt64)) (a1 := (0 : Int64)) (a2 := (1 : Int64)) (w := w_1)) (by omega) rfl rfl (Nat.le_of_ble_eq_true rfl) dX12_restore_9 ?_
  refine jr_if_ne (tgt := 22) (nxt := 15) dX12_restore_12 (by decide) rfl (fun hc => ?_) (fun hc => ?_)
  · replace h := drvE hc h
    refine jr_aload_n dX12_restore_22 rfl 0 rfl ?_
    refine gf_X12_24 (r := 209) rfl (rfl : kd 205 = 11) rfl dX12_restore_23 ?_
    refine jr_iload_n dX12_restore_26 rfl 1 rfl ?_
    obtain ⟨hg_3, h⟩ := drvG h
    refine jr_zald (rfl : kd 209 = 15) hg_3 dX12_restore_27 ?_
    refine jr_if_ne (tgt := 38) (nxt := 31) dX12_restore_28 (by decide) rfl (fun hc => ?_) (fun hc => ?_)
    · replace h := drvE hc h
      refine jr_aload_n dX12_restore_38 rfl 0 rfl ?_
      refine jr_iload_n dX12_restore_39 rfl 1 rfl ?_
      refine jr_iconst (v := (1 : Int32)) dX12_restore_40 (by decide) ?_
      refine jr_iadd dX12_restore_41 ?_
      refine jr_iconst (v := (0 : Int32)) dX12_restore_42 (by decide) ?_
      obtain ⟨w_5, hq_4, h⟩ := drvB h
      refine j_callVn lk_X12_368 wIM_X12_copies wSE_X12_copies (rfl : kd 205 = 11) (by decide) rfl (tX12_copies  hq_4) (by omega) rfl rfl (Nat.le_of_ble_eq_true rfl) dX12_restore_43 ?_
      refine jr_iconst (v := (0 : Int32)) dX12_restore_46 (by decide) ?_
      obtain ⟨rfl, rfl⟩ := drvS2 h
      exact jr_iret rfl dX12_restore_47
    · replace h := drvT hc h
      refine jr_aload_n dX12_restore_31 rfl 0 rfl ?_
      refine jr_bipush (v := (-5 : Int32)) dX12_restore_32 (by decide) ?_
      obtain ⟨r_8, w_7, hq_6, h⟩ := drvB2 h
      refine j_callVv lk_X12_85 wIM_X12_no wSE_X12_no (rfl : kd 205 = 11) (by decide) rfl (tX12_no  hq_6) (by omega) rfl rfl (Nat.le_of_ble_eq_true rfl) dX12_restore_34 ?_
      obtain ⟨rfl, rfl⟩ := drvS2 h
      exact jr_iret rfl dX12_restore_37
  · replace h := drvT hc h
    refine jr_aload_n dX12_restore_15 rfl 0 rfl ?_
    refine jr_bipush (v := (-2 : Int32)) dX12_restore_16 (by decide) ?_
    obtain ⟨r_11, w_10, hq_9, h⟩ := drvB2 h
    refine j_callVv lk_X12_85 wIM_X12_no wSE_X12_no (rfl : kd 205 = 11) (by decide) rfl (tX12_no  hq_9) (by omega) rfl rfl (Nat.le_of_ble_eq_true rfl) dX12_restore_18 ?_
    obtain ⟨rfl, rfl⟩ := drvS2 h
    exact jr_iret rfl dX12_restore_21
set_option maxHeartbeats 4000000 in
set_option maxRecDepth 100000 in
theorem hbX12_row_72 {n : Nat} {p1 : Int32} {p3 : Int32} {r : Int32} {w' : jWd} {rec : Int32 → jWd → Option (Int32 × jWd)} 
    (hrec : ∀ (x4 : Int32) (w : jWd) , rec x4 w = some (r, w') → J MX12_row 2 w 72 [(0, .ref 205), (1, .int p1), (3, .int p3), (4, .int x4)] [] (some (.int r)) w') : ∀ (x4 : Int32) (w : jWd) , bX12_row_72 n p1 p3 rec x4 w = some (r, w') → J MX12_row 2 w 72 [(0, .ref 205), (1, .int p1), (3, .int p3), (4, .int x4)] [] (some (.int r)) w' := by
  intro x4 w h
  unfold bX12_row_72 at h
  refine jr_iload dX12_row_72 3 rfl ?_
  refine jr_iload_n dX12_row_74 rfl 2 rfl ?_
  refine jr_icmp_ge (tgt := 97) (nxt := 78) dX12_row_75 (by decide) rfl (fun hc => ?_) (fun hc => ?_)
  · replace h := drvT hc h
    refine jr_iconst (v := (0 : Int32)) dX12_row_97 (by decide) ?_
    obtain ⟨rfl, rfl⟩ := drvS2 h
    exact jr_iret rfl dX12_row_98
  · replace h := drvE hc h
    refine jr_aload_n dX12_row_78 rfl 0 rfl ?_
    refine gf_X12_70 (r := 223) rfl (rfl : kd 205 = 11) rfl dX12_row_79 ?_
    refine jr_bipush (v := (60 : Int32)) dX12_row_82 (by decide) ?_
    refine jr_iload_n dX12_row_84 rfl 1 rfl ?_
    refine jr_imul dX12_row_85 ?_
    refine jr_iload dX12_row_86 3 rfl ?_
    refine jr_iadd dX12_row_88 ?_
    refine jr_lconst (v := (0 : Int64)) dX12_row_89 rfl ?_
    obtain ⟨hg_15, h⟩ := drvG h
    refine jr_last (rfl : kd 223 = 14) hg_15 dX12_row_90 ?_
    refine j_nmw (fun w_13 e_14 => ?_)
    replace h := drvL e_14 h
    refine jr_iincN (c := (1 : Int32)) (lv' := fun (x4_16 : Int32) => [(4, .int x4_16), (0, .ref 205), (1, .int p1), (3, .int p3)]) dX12_row_91 (by decide) 3 rfl (by decide) (fun _ => rfl) (fun x4_16 e_17 => ?_)
    replace h := drvL e_17 h
    refine jr_goto (tgt := 72) dX12_row_94 (by decide) ?_
    refine jr_sub [1, 2, 3, 0] rfl ?_
    exact hrec _ _ h
theorem hlX12_row_72 {n : Nat} {p1 : Int32} {p3 : Int32} {r : Int32} {w' : jWd}  : ∀ (c : Nat) (x4 : Int32) (w : jWd) , lX12_row_72 n p1 p3 c x4 w = some (r, w') → J MX12_row 2 w 72 [(0, .ref 205), (1, .int p1), (3, .int p3), (4, .int x4)] [] (some (.int r)) w' := by
  intro c
  induction c with
  | zero => intro x4 w h; cases h
  | succ c ih => intro x4 w h; exact hbX12_row_72 (n := n) ih _ _ h
set_option maxHeartbeats 4000000 in
set_option maxRecDepth 100000 in
theorem tX12_row {n : Nat} {a0 : Int32} {a1 : Int32} {a2 : Int32} {w : jWd} {r : Int32} {w' : jWd}  (h : fX12_row n a0 a1 a2 w = some (r, w')) : JM yX12_row MX12_row 2 [.ref 205, .int a0, .int a1, .int a2] w (some (.int r)) w' := by
  refine jm_of pl_X12 rfl (Nat.le_of_ble_eq_true rfl) ?_
  show J MX12_row 2 w 0 [(0, .ref 205), (1, .int a0), (2, .int a1), (3, .int a2)] [] (some (.int r)) w'
  unfold fX12_row at h
  refine jr_aload_n dX12_row_0 rfl 0 rfl ?_
  refine jr_iconst (v := (0 : Int32)) dX12_row_1 (by decide) ?_
  refine pf_X12_1 rfl (rfl : kd 205 = 11) dX12_row_2 ?_
  refine j_nmw (fun w_1 e_2 => ?_)
  replace h := drvL e_2 h
  refine jr_iload_n dX12_row_5 rfl 1 rfl ?_
  refine jr_i2l dX12_row_6 ?_
  refine jr_lconst (v := (0 : Int64)) dX12_row_7 rfl ?_
  refine jr_ldc2 (v := (3 : Int64)) wCC_X12_335 dX12_row_8 ?_
  refine j_callSv lk_X12_81 wST_X12_within (tX12_within  (a0 := ((a0).toInt64)) (a1 := (0 : Int64)) (a2 := (3 : Int64)) (w := w_1)) (by omega) rfl rfl (Nat.le_of_ble_eq_true rfl) dX12_row_11 ?_
  obtain ⟨j29_3, ej29_3, h⟩ := drvF h
  have hj29_3 : ∀ (_ : Unit), j29_3 = some (r, w') → J MX12_row 2 w_1 29 [(0, .ref 205)] [] (some (.int r)) w' := by
    intro _ h
    rw [ej29_3] at h
    try dsimp only at h
    refine jr_aload_n dX12_row_29 rfl 0 rfl ?_
    refine jr_bipush (v := (-2 : Int32)) dX12_row_30 (by decide) ?_
    obtain ⟨r_6, w_5, hq_4, h⟩ := drvB2 h
    refine j_callVv lk_X12_85 wIM_X12_no wSE_X12_no (rfl : kd 205 = 11) (by decide) rfl (tX12_no  hq_4) (by omega) rfl rfl (Nat.le_of_ble_eq_true rfl) dX12_row_32 ?_
    obtain ⟨rfl, rfl⟩ := drvS2 h
    exact jr_iret rfl dX12_row_35
  refine jr_if_eq (tgt := 29) (nxt := 17) dX12_row_14 (by decide) rfl (fun hc => ?_) (fun hc => ?_)
  · replace h := drvT hc h
    refine jr_sub [0] rfl ?_
    exact (hj29_3 ()) h
  · replace h := drvE hc h
    refine jr_iload_n dX12_row_17 rfl 2 rfl ?_
    refine jr_i2l dX12_row_18 ?_
    refine jr_lconst (v := (0 : Int64)) dX12_row_19 rfl ?_
    refine jr_ldc2 (v := (3 : Int64)) wCC_X12_335 dX12_row_20 ?_
    refine j_callSv lk_X12_81 wST_X12_within (tX12_within  (a0 := ((a1).toInt64)) (a1 := (0 : Int64)) (a2 := (3 : Int64)) (w := w_1)) (by omega) rfl rfl (Nat.le_of_ble_eq_true rfl) dX12_row_23 ?_
    refine jr_if_ne (tgt := 36) (nxt := 29) dX12_row_26 (by decide) rfl (fun hc => ?_) (fun hc => ?_)
    · replace h := drvE hc h
      refine jr_iload_n dX12_row_36 rfl 3 rfl ?_
      refine jr_i2l dX12_row_37 ?_
      refine jr_lconst (v := (0 : Int64)) dX12_row_38 rfl ?_
      refine jr_ldc2 (v := (60 : Int64)) wCC_X12_359 dX12_row_39 ?_
      refine j_callSv lk_X12_81 wST_X12_within (tX12_within  (a0 := ((a2).toInt64)) (a1 := (0 : Int64)) (a2 := (60 : Int64)) (w := w_1)) (by omega) rfl rfl (Nat.le_of_ble_eq_true rfl) dX12_row_42 ?_
      refine jr_if_ne (tgt := 55) (nxt := 48) dX12_row_45 (by decide) rfl (fun hc => ?_) (fun hc => ?_)
      · replace h := drvE hc h
        refine jr_aload_n dX12_row_55 rfl 0 rfl ?_
        refine gf_X12_64 (r := 221) rfl (rfl : kd 205 = 11) rfl dX12_row_56 ?_
        refine jr_iload_n dX12_row_59 rfl 1 rfl ?_
        refine jr_iload_n dX12_row_60 rfl 2 rfl ?_
        obtain ⟨hg_9, h⟩ := drvG h
        refine jr_iast (rfl : kd 221 = 13) hg_9 dX12_row_61 ?_
        refine j_nmw (fun w_7 e_8 => ?_)
        replace h := drvL e_8 h
        refine jr_aload_n dX12_row_62 rfl 0 rfl ?_
        refine gf_X12_67 (r := 222) rfl (rfl : kd 205 = 11) rfl dX12_row_63 ?_
        refine jr_iload_n dX12_row_66 rfl 1 rfl ?_
        refine jr_iload_n dX12_row_67 rfl 3 rfl ?_
        obtain ⟨hg_12, h⟩ := drvG h
        refine jr_iast (rfl : kd 222 = 13) hg_12 dX12_row_68 ?_
        refine j_nmw (fun w_10 e_11 => ?_)
        replace h := drvL e_11 h
        refine jr_iconst (v := (0 : Int32)) dX12_row_69 (by decide) ?_
        refine jr_istore (lv' := [(4, .int (0 : Int32)), (0, .ref 205), (1, .int a0), (2, .int a1), (3, .int a2)]) dX12_row_70 (by decide) rfl ?_
        refine jr_sub [1, 2, 4, 0] rfl ?_
        refine hlX12_row_72   _ _ _ h
      · replace h := drvT hc h
        refine jr_aload_n dX12_row_48 rfl 0 rfl ?_
        refine jr_bipush (v := (-3 : Int32)) dX12_row_49 (by decide) ?_
        obtain ⟨r_20, w_19, hq_18, h⟩ := drvB2 h
        refine j_callVv lk_X12_85 wIM_X12_no wSE_X12_no (rfl : kd 205 = 11) (by decide) rfl (tX12_no  hq_18) (by omega) rfl rfl (Nat.le_of_ble_eq_true rfl) dX12_row_51 ?_
        obtain ⟨rfl, rfl⟩ := drvS2 h
        exact jr_iret rfl dX12_row_54
    · replace h := drvT hc h
      refine jr_sub [0] rfl ?_
      exact (hj29_3 ()) h
set_option maxHeartbeats 4000000 in
set_option maxRecDepth 100000 in
theorem hbX12_said_32 {n : Nat} {p1 : Int64} {p3 : Int64} {p5 : Int32} {p6 : Int32} {k86 : Int32 → (Option Int64)} {w : jWd} {r : Int64} {rec : Int32 → Int32 → Int32 → Option Int64} (hk86 : ∀ (z7 : Int32), k86 z7 = some r → J MX12_said 3 w 86 [(0, .ref 205), (1, .long p1), (3, .long p3), (5, .int p5), (6, .int p6), (7, .int z7)] [] (some (.long r)) w)
    (hrec : ∀ (x7 : Int32) (x8 : Int32) (x9 : Int32) , rec x7 x8 x9 = some r → J MX12_said 3 w 32 [(0, .ref 205), (1, .long p1), (3, .long p3), (5, .int p5), (6, .int p6), (7, .int x7), (8, .int x8), (9, .int x9)] [] (some (.long r)) w) : ∀ (x7 : Int32) (x8 : Int32) (x9 : Int32) , bX12_said_32 n p1 p3 p5 p6 k86 w rec x7 x8 x9 = some r → J MX12_said 3 w 32 [(0, .ref 205), (1, .long p1), (3, .long p3), (5, .int p5), (6, .int p6), (7, .int x7), (8, .int x8), (9, .int x9)] [] (some (.long r)) w := by
  intro x7 x8 x9 h
  unfold bX12_said_32 at h
  refine jr_iload dX12_said_32 7 rfl ?_
  refine jr_aload_n dX12_said_34 rfl 0 rfl ?_
  refine gf_X12_34 (r := 212) rfl (rfl : kd 205 = 11) rfl dX12_said_35 ?_
  refine jr_iconst (v := (4 : Int32)) dX12_said_38 (by decide) ?_
  refine jr_ialdL (k := 4) (rfl : kd 212 = 13) (vp_lit (by decide) (by decide)) (by decide) dX12_said_39 ?_
  refine jr_icmp_ge (tgt := 86) (nxt := 43) dX12_said_40 (by decide) rfl (fun hc => ?_) (fun hc => ?_)
  · replace h := drvT hc h
    refine jr_sub [0, 1, 2, 3, 4, 5] rfl ?_
    exact hk86 _ h
  · replace h := drvE hc h
    refine jr_iload dX12_said_43 6 rfl ?_
    refine jr_if_ne (tgt := 86) (nxt := 48) dX12_said_45 (by decide) rfl (fun hc => ?_) (fun hc => ?_)
    · replace h := drvE hc h
      refine jr_sub [0, 1, 2, 3, 4, 5] rfl ?_
      exact hk86 _ h
    · replace h := drvT hc h
      refine jr_aload_n dX12_said_48 rfl 0 rfl ?_
      refine gf_X12_34 (r := 212) rfl (rfl : kd 205 = 11) rfl dX12_said_49 ?_
      refine jr_bipush (v := (17 : Int32)) dX12_said_52 (by decide) ?_
      refine jr_iload dX12_said_54 7 rfl ?_
      refine jr_iadd dX12_said_56 ?_
      obtain ⟨hg_5, h⟩ := drvG h
      refine jr_iald (rfl : kd 212 = 13) hg_5 dX12_said_57 ?_
      refine jr_iload dX12_said_58 5 rfl ?_
      refine jr_icmp_eq (tgt := 66) (nxt := 63) dX12_said_60 (by decide) rfl (fun hc => ?_) (fun hc => ?_)
      · replace h := drvT hc h
        refine jr_aload_n dX12_said_66 rfl 0 rfl ?_
        refine gf_X12_34 (r := 212) rfl (rfl : kd 205 = 11) rfl dX12_said_67 ?_
        refine jr_iconst (v := (5 : Int32)) dX12_said_70 (by decide) ?_
        refine jr_iload dX12_said_71 7 rfl ?_
        refine jr_iadd dX12_said_73 ?_
        obtain ⟨hg_6, h⟩ := drvG h
        refine jr_iald (rfl : kd 212 = 13) hg_6 dX12_said_74 ?_
        refine j_nmi (fun x7_7 e_8 => ?_)
        replace h := drvL e_8 h
        refine jr_istore (lv' := [(7, .int x7_7), (0, .ref 205), (1, .long p1), (3, .long p3), (5, .int p5), (6, .int p6), (8, .int x8), (9, .int x9)]) dX12_said_75 (by decide) rfl ?_
        refine jr_iconst (v := (1 : Int32)) dX12_said_77 (by decide) ?_
        refine jr_istore (lv' := [(8, .int (1 : Int32)), (7, .int x7_7), (0, .ref 205), (1, .long p1), (3, .long p3), (5, .int p5), (6, .int p6), (9, .int x9)]) dX12_said_78 (by decide) rfl ?_
        refine jr_iincN (c := (1 : Int32)) (lv' := fun (x9_9 : Int32) => [(9, .int x9_9), (8, .int (1 : Int32)), (7, .int x7_7), (0, .ref 205), (1, .long p1), (3, .long p3), (5, .int p5), (6, .int p6)]) dX12_said_80 (by decide) 7 rfl (by decide) (fun _ => rfl) (fun x9_9 e_10 => ?_)
        replace h := drvL e_10 h
        refine jr_goto (tgt := 32) dX12_said_83 (by decide) ?_
        refine jr_sub [3, 4, 5, 6, 7, 2, 1, 0] rfl ?_
        exact hrec _ _ _ h
      · replace h := drvE hc h
        refine jr_goto (tgt := 80) dX12_said_63 (by decide) ?_
        refine jr_iincN (c := (1 : Int32)) (lv' := fun (x9_11 : Int32) => [(9, .int x9_11), (0, .ref 205), (1, .long p1), (3, .long p3), (5, .int p5), (6, .int p6), (7, .int x7), (8, .int x8)]) dX12_said_80 (by decide) 7 rfl (by decide) (fun _ => rfl) (fun x9_11 e_12 => ?_)
        replace h := drvL e_12 h
        refine jr_goto (tgt := 32) dX12_said_83 (by decide) ?_
        refine jr_sub [1, 2, 3, 4, 5, 6, 7, 0] rfl ?_
        exact hrec _ _ _ h
theorem hlX12_said_32 {n : Nat} {p1 : Int64} {p3 : Int64} {p5 : Int32} {p6 : Int32} {k86 : Int32 → (Option Int64)} {w : jWd} {r : Int64} (hk86 : ∀ (z7 : Int32), k86 z7 = some r → J MX12_said 3 w 86 [(0, .ref 205), (1, .long p1), (3, .long p3), (5, .int p5), (6, .int p6), (7, .int z7)] [] (some (.long r)) w) : ∀ (c : Nat) (x7 : Int32) (x8 : Int32) (x9 : Int32) , lX12_said_32 n p1 p3 p5 p6 k86 w c x7 x8 x9 = some r → J MX12_said 3 w 32 [(0, .ref 205), (1, .long p1), (3, .long p3), (5, .int p5), (6, .int p6), (7, .int x7), (8, .int x8), (9, .int x9)] [] (some (.long r)) w := by
  intro c
  induction c with
  | zero => intro x7 x8 x9 h; cases h
  | succ c ih => intro x7 x8 x9 h; exact hbX12_said_32 (n := n) hk86 ih _ _ _ h
set_option maxHeartbeats 4000000 in
set_option maxRecDepth 100000 in
theorem hbX12_said_11 {n : Nat} {p1 : Int64} {p5 : Int32} {w : jWd} {r : Int64} {rec : Int64 → Int32 → Option Int64} 
    (hrec : ∀ (x3 : Int64) (x6 : Int32) , rec x3 x6 = some r → J MX12_said 3 w 11 [(0, .ref 205), (1, .long p1), (3, .long x3), (5, .int p5), (6, .int x6)] [] (some (.long r)) w) : ∀ (x3 : Int64) (x6 : Int32) , bX12_said_11 n p1 p5 w rec x3 x6 = some r → J MX12_said 3 w 11 [(0, .ref 205), (1, .long p1), (3, .long x3), (5, .int p5), (6, .int x6)] [] (some (.long r)) w := by
  intro x3 x6 h
  unfold bX12_said_11 at h
  refine jr_iload dX12_said_11 4 rfl ?_
  refine jr_iload dX12_said_13 3 rfl ?_
  refine jr_icmp_ge (tgt := 107) (nxt := 18) dX12_said_15 (by decide) rfl (fun hc => ?_) (fun hc => ?_)
  · replace h := drvT hc h
    refine jr_lload_n dX12_said_107 rfl 2 rfl ?_
    obtain rfl := drvS1 h
    exact jr_lret rfl dX12_said_108
  · replace h := drvE hc h
    refine jr_lload_n dX12_said_18 rfl 1 rfl ?_
    refine jr_iload dX12_said_19 4 rfl ?_
    refine j_callSv lk_X12_73 wST_X12_wordAt (tX12_wordAt  (a0 := p1) (a1 := x6) (w := w)) (by omega) rfl rfl (Nat.le_of_ble_eq_true rfl) dX12_said_21 ?_
    refine j_nmi (fun x7_3 e_4 => ?_)
    replace h := drvL e_4 h
    refine jr_istore (lv' := [(7, .int x7_3), (0, .ref 205), (1, .long p1), (3, .long x3), (5, .int p5), (6, .int x6)]) dX12_said_24 (by decide) rfl ?_
    refine jr_iconst (v := (0 : Int32)) dX12_said_26 (by decide) ?_
    refine jr_istore (lv' := [(8, .int (0 : Int32)), (7, .int x7_3), (0, .ref 205), (1, .long p1), (3, .long x3), (5, .int p5), (6, .int x6)]) dX12_said_27 (by decide) rfl ?_
    refine jr_iconst (v := (0 : Int32)) dX12_said_29 (by decide) ?_
    refine jr_istore (lv' := [(9, .int (0 : Int32)), (8, .int (0 : Int32)), (7, .int x7_3), (0, .ref 205), (1, .long p1), (3, .long x3), (5, .int p5), (6, .int x6)]) dX12_said_30 (by decide) rfl ?_
    refine jr_sub [3, 4, 5, 6, 7, 2, 1, 0] rfl ?_
    refine hlX12_said_32  ?_ _ _ _ _ h
    · intro z7_13 h
      try dsimp only at h
      refine jr_lload_n dX12_said_86 rfl 2 rfl ?_
      refine jr_iload dX12_said_87 5 rfl ?_
      refine jr_i2l dX12_said_89 ?_
      refine jr_bipush (v := (56 : Int32)) dX12_said_90 (by decide) ?_
      refine jr_bipush (v := (8 : Int32)) dX12_said_92 (by decide) ?_
      refine jr_iload dX12_said_94 4 rfl ?_
      refine jr_imul dX12_said_96 ?_
      refine jr_isub dX12_said_97 ?_
      refine jr_lshl dX12_said_98 ?_
      refine jr_lor dX12_said_99 ?_
      refine j_nml (fun x3_14 e_15 => ?_)
      replace h := drvL e_15 h
      refine jr_lstore_n (lv' := [(3, .long x3_14), (0, .ref 205), (1, .long p1), (5, .int p5), (6, .int x6), (7, .int z7_13)]) dX12_said_100 rfl (by decide) rfl ?_
      refine jr_iincN (c := (1 : Int32)) (lv' := fun (x6_16 : Int32) => [(6, .int x6_16), (3, .long x3_14), (0, .ref 205), (1, .long p1), (5, .int p5), (7, .int z7_13)]) dX12_said_101 (by decide) 4 rfl (by decide) (fun _ => rfl) (fun x6_16 e_17 => ?_)
      replace h := drvL e_17 h
      refine jr_goto (tgt := 11) dX12_said_104 (by decide) ?_
      refine jr_sub [2, 3, 1, 4, 0] rfl ?_
      exact hrec _ _ h
theorem hlX12_said_11 {n : Nat} {p1 : Int64} {p5 : Int32} {w : jWd} {r : Int64}  : ∀ (c : Nat) (x3 : Int64) (x6 : Int32) , lX12_said_11 n p1 p5 w c x3 x6 = some r → J MX12_said 3 w 11 [(0, .ref 205), (1, .long p1), (3, .long x3), (5, .int p5), (6, .int x6)] [] (some (.long r)) w := by
  intro c
  induction c with
  | zero => intro x3 x6 h; cases h
  | succ c ih => intro x3 x6 h; exact hbX12_said_11 (n := n) ih _ _ h
set_option maxHeartbeats 4000000 in
set_option maxRecDepth 100000 in
theorem tX12_said {n : Nat} {a0 : Int64} {w : jWd} {r : Int64}  (h : fX12_said n a0 w = some r) : JM yX12_said MX12_said 3 [.ref 205, .long a0] w (some (.long r)) w := by
  refine jm_of pl_X12 rfl (Nat.le_of_ble_eq_true rfl) ?_
  show J MX12_said 3 w 0 [(0, .ref 205), (1, .long a0)] [] (some (.long r)) w
  unfold fX12_said at h
  refine jr_lconst (v := (0 : Int64)) dX12_said_0 rfl ?_
  refine jr_lstore_n (lv' := [(3, .long (0 : Int64)), (0, .ref 205), (1, .long a0)]) dX12_said_1 rfl (by decide) rfl ?_
  refine jr_lload_n dX12_said_2 rfl 2 rfl ?_
  obtain ⟨r_2, hq_1, h⟩ := drvB h
  refine j_callSv lk_X12_77 wST_X12_lengthOf (tX12_lengthOf  hq_1) (by omega) rfl rfl (Nat.le_of_ble_eq_true rfl) dX12_said_3 ?_
  refine jr_istore (lv' := [(5, .int r_2), (3, .long (0 : Int64)), (0, .ref 205), (1, .long a0)]) dX12_said_6 (by decide) rfl ?_
  refine jr_iconst (v := (0 : Int32)) dX12_said_8 (by decide) ?_
  refine jr_istore (lv' := [(6, .int (0 : Int32)), (5, .int r_2), (3, .long (0 : Int64)), (0, .ref 205), (1, .long a0)]) dX12_said_9 (by decide) rfl ?_
  refine jr_sub [3, 4, 2, 1, 0] rfl ?_
  refine hlX12_said_11   _ _ _ h
set_option maxHeartbeats 4000000 in
set_option maxRecDepth 100000 in
theorem tX12_say {n : Nat} {a0 : Int32} {w : jWd} {r : Int32} {w' : jWd}  (h : fX12_say n a0 w = some (r, w')) : JM yX12_say MX12_say 7 [.ref 205, .int a0] w (some (.int r)) w' := by
  refine jm_of pl_X12 rfl (Nat.le_of_ble_eq_true rfl) ?_
  show J MX12_say 7 w 0 [(0, .ref 205), (1, .int a0)] [] (some (.int r)) w'
  unfold fX12_say at h
  refine jr_aload_n dX12_say_0 rfl 0 rfl ?_
  refine jr_iconst (v := (0 : Int32)) dX12_say_1 (by decide) ?_
  refine pf_X12_1 rfl (rfl : kd 205 = 11) dX12_say_2 ?_
  refine j_nmw (fun w_1 e_2 => ?_)
  replace h := drvL e_2 h
  refine jr_iload_n dX12_say_5 rfl 1 rfl ?_
  refine jr_i2l dX12_say_6 ?_
  refine jr_lconst (v := (0 : Int64)) dX12_say_7 rfl ?_
  refine jr_aload_n dX12_say_8 rfl 0 rfl ?_
  refine gf_X12_17 (r := 207) rfl (rfl : kd 205 = 11) rfl dX12_say_9 ?_
  refine jr_sipush (v := (162 : Int32)) dX12_say_12 (by decide) ?_
  refine jr_ialdL (k := 162) (rfl : kd 207 = 13) (vp_lit (by decide) (by decide)) (by decide) dX12_say_15 ?_
  refine jr_iconst (v := (1 : Int32)) dX12_say_16 (by decide) ?_
  refine jr_isub dX12_say_17 ?_
  refine jr_i2l dX12_say_18 ?_
  refine j_callSv lk_X12_81 wST_X12_within (tX12_within  (a0 := ((a0).toInt64)) (a1 := (0 : Int64)) (a2 := ((((wI w_1 207 162) - (1 : Int32))).toInt64)) (w := w_1)) (by omega) rfl rfl (Nat.le_of_ble_eq_true rfl) dX12_say_19 ?_
  refine jr_if_ne (tgt := 32) (nxt := 25) dX12_say_22 (by decide) rfl (fun hc => ?_) (fun hc => ?_)
  · replace h := drvE hc h
    refine jr_aload_n dX12_say_32 rfl 0 rfl ?_
    refine gf_X12_17 (r := 207) rfl (rfl : kd 205 = 11) rfl dX12_say_33 ?_
    refine jr_sipush (v := (223 : Int32)) dX12_say_36 (by decide) ?_
    refine jr_ialdL (k := 223) (rfl : kd 207 = 13) (vp_lit (by decide) (by decide)) (by decide) dX12_say_39 ?_
    obtain ⟨j52_3, ej52_3, h⟩ := drvF h
    have hj52_3 : ∀ (_ : Unit), j52_3 = some (r, w') → J MX12_say 7 w_1 52 [(0, .ref 205), (1, .int a0)] [] (some (.int r)) w' := by
      intro _ h
      rw [ej52_3] at h
      try dsimp only at h
      refine jr_aload_n dX12_say_52 rfl 0 rfl ?_
      obtain ⟨w_5, hq_4, h⟩ := drvB h
      refine j_callVn lk_X12_269 wIM_X12_smooths wSE_X12_smooths (rfl : kd 205 = 11) (by decide) rfl (tX12_smooths  hq_4) (by omega) rfl rfl (Nat.le_of_ble_eq_true rfl) dX12_say_53 ?_
      refine jr_aload_n dX12_say_56 rfl 0 rfl ?_
      refine jr_iload_n dX12_say_57 rfl 1 rfl ?_
      obtain ⟨r_8, w_7, hq_6, h⟩ := drvB2 h
      refine j_callVv lk_X12_272 wIM_X12_whoseIs wSE_X12_whoseIs (rfl : kd 205 = 11) (by decide) rfl (tX12_whoseIs  hq_6) (by omega) rfl rfl (Nat.le_of_ble_eq_true rfl) dX12_say_58 ?_
      refine jr_istore_n (lv' := [(2, .int r_8), (0, .ref 205), (1, .int a0)]) dX12_say_61 rfl (by decide) rfl ?_
      refine jr_iload_n dX12_say_62 rfl 0 rfl ?_
      refine jr_iconst (v := (5 : Int32)) dX12_say_63 (by decide) ?_
      refine jr_icmp_ne (tgt := 100) (nxt := 67) dX12_say_64 (by decide) rfl (fun hc => ?_) (fun hc => ?_)
      · replace h := drvE hc h
        refine jr_iload_n dX12_say_100 rfl 0 rfl ?_
        refine jr_iconst (v := (2 : Int32)) dX12_say_101 (by decide) ?_
        refine jr_icmp_ge (tgt := 109) (nxt := 105) dX12_say_102 (by decide) rfl (fun hc => ?_) (fun hc => ?_)
        · replace h := drvT hc h
          refine jr_iload_n dX12_say_109 rfl 0 rfl ?_
          obtain ⟨rfl, rfl⟩ := drvS2 h
          exact jr_iret rfl dX12_say_110
        · replace h := drvE hc h
          refine jr_iconst (v := (1 : Int32)) dX12_say_105 (by decide) ?_
          refine jr_goto (tgt := 110) dX12_say_106 (by decide) ?_
          obtain ⟨rfl, rfl⟩ := drvS2 h
          exact jr_iret rfl dX12_say_110
      · replace h := drvT hc h
        refine jr_aload_n dX12_say_67 rfl 1 rfl ?_
        refine jr_aload_n dX12_say_68 rfl 1 rfl ?_
        refine gf_X12_20 (r := 208) rfl (rfl : kd 205 = 11) rfl dX12_say_69 ?_
        refine jr_sipush (v := (480 : Int32)) dX12_say_72 (by decide) ?_
        refine jr_iload_n dX12_say_75 rfl 2 rfl ?_
        refine jr_iadd dX12_say_76 ?_
        obtain ⟨hg_9, h⟩ := drvG h
        refine jr_lald (rfl : kd 208 = 14) hg_9 dX12_say_77 ?_
        refine jr_iconst (v := (0 : Int32)) dX12_say_78 (by decide) ?_
        obtain ⟨r_12, w_11, hq_10, h⟩ := drvB2 h
        refine j_callVv lk_X12_275 wIM_X12_mostOfSongs wSE_X12_mostOfSongs (rfl : kd 205 = 11) (by decide) rfl (tX12_mostOfSongs  hq_10) (by omega) rfl rfl (Nat.le_of_ble_eq_true rfl) dX12_say_79 ?_
        refine jr_aload_n dX12_say_82 rfl 1 rfl ?_
        refine gf_X12_17 (r := 207) rfl (rfl : kd 205 = 11) rfl dX12_say_83 ?_
        refine jr_sipush (v := (248 : Int32)) dX12_say_86 (by decide) ?_
        refine jr_ialdL (k := 248) (rfl : kd 207 = 13) (vp_lit (by decide) (by decide)) (by decide) dX12_say_89 ?_
        refine jr_icmp_lt (tgt := 97) (nxt := 93) dX12_say_90 (by decide) rfl (fun hc => ?_) (fun hc => ?_)
        · replace h := drvT hc h
          refine jr_bipush (v := (6 : Int32)) dX12_say_97 (by decide) ?_
          obtain ⟨rfl, rfl⟩ := drvS2 h
          exact jr_iret rfl dX12_say_99
        · replace h := drvE hc h
          refine jr_iconst (v := (5 : Int32)) dX12_say_93 (by decide) ?_
          refine jr_goto (tgt := 99) dX12_say_94 (by decide) ?_
          obtain ⟨rfl, rfl⟩ := drvS2 h
          exact jr_iret rfl dX12_say_99
    refine jr_if_ne (tgt := 52) (nxt := 43) dX12_say_40 (by decide) rfl (fun hc => ?_) (fun hc => ?_)
    · replace h := drvE hc h
      refine jr_sub [0, 1] rfl ?_
      exact (hj52_3 ()) h
    · replace h := drvT hc h
      refine jr_aload_n dX12_say_43 rfl 0 rfl ?_
      obtain ⟨r_14, hq_13, h⟩ := drvB h
      refine j_callVv lk_X12_364 wIM_X12_isAnyEarly wSE_X12_isAnyEarly (rfl : kd 205 = 11) (by decide) rfl (tX12_isAnyEarly  hq_13) (by omega) rfl rfl (Nat.le_of_ble_eq_true rfl) dX12_say_44 ?_
      refine jr_if_ne (tgt := 52) (nxt := 50) dX12_say_47 (by decide) rfl (fun hc => ?_) (fun hc => ?_)
      · replace h := drvE hc h
        refine jr_sub [0, 1] rfl ?_
        exact (hj52_3 ()) h
      · replace h := drvT hc h
        refine jr_iconst (v := (0 : Int32)) dX12_say_50 (by decide) ?_
        obtain ⟨rfl, rfl⟩ := drvS2 h
        exact jr_iret rfl dX12_say_51
  · replace h := drvT hc h
    refine jr_aload_n dX12_say_25 rfl 0 rfl ?_
    refine jr_bipush (v := (-2 : Int32)) dX12_say_26 (by decide) ?_
    obtain ⟨r_17, w_16, hq_15, h⟩ := drvB2 h
    refine j_callVv lk_X12_85 wIM_X12_no wSE_X12_no (rfl : kd 205 = 11) (by decide) rfl (tX12_no  hq_15) (by omega) rfl rfl (Nat.le_of_ble_eq_true rfl) dX12_say_28 ?_
    obtain ⟨rfl, rfl⟩ := drvS2 h
    exact jr_iret rfl dX12_say_31
set_option maxHeartbeats 4000000 in
set_option maxRecDepth 100000 in
theorem tX12_says {a0 : Int32} {a1 : Int32} {a2 : Int32} {w : jWd} {r : Int32} {w' : jWd}  (h : fX12_says a0 a1 a2 w = some (r, w')) : JM yX12_says MX12_says 2 [.ref 205, .int a0, .int a1, .int a2] w (some (.int r)) w' := by
  refine jm_of pl_X12 rfl (Nat.le_of_ble_eq_true rfl) ?_
  show J MX12_says 2 w 0 [(0, .ref 205), (1, .int a0), (2, .int a1), (3, .int a2)] [] (some (.int r)) w'
  unfold fX12_says at h
  refine jr_aload_n dX12_says_0 rfl 0 rfl ?_
  refine jr_iconst (v := (0 : Int32)) dX12_says_1 (by decide) ?_
  refine pf_X12_1 rfl (rfl : kd 205 = 11) dX12_says_2 ?_
  refine j_nmw (fun w_1 e_2 => ?_)
  replace h := drvL e_2 h
  refine jr_iload_n dX12_says_5 rfl 1 rfl ?_
  refine jr_i2l dX12_says_6 ?_
  refine jr_lconst (v := (0 : Int64)) dX12_says_7 rfl ?_
  refine jr_aload_n dX12_says_8 rfl 0 rfl ?_
  refine gf_X12_17 (r := 207) rfl (rfl : kd 205 = 11) rfl dX12_says_9 ?_
  refine jr_sipush (v := (987 : Int32)) dX12_says_12 (by decide) ?_
  refine jr_ialdL (k := 987) (rfl : kd 207 = 13) (vp_lit (by decide) (by decide)) (by decide) dX12_says_15 ?_
  refine jr_iconst (v := (1 : Int32)) dX12_says_16 (by decide) ?_
  refine jr_isub dX12_says_17 ?_
  refine jr_i2l dX12_says_18 ?_
  refine j_callSv lk_X12_81 wST_X12_within (tX12_within  (a0 := ((a0).toInt64)) (a1 := (0 : Int64)) (a2 := ((((wI w_1 207 987) - (1 : Int32))).toInt64)) (w := w_1)) (by omega) rfl rfl (Nat.le_of_ble_eq_true rfl) dX12_says_19 ?_
  obtain ⟨j37_3, ej37_3, h⟩ := drvF h
  have hj37_3 : ∀ (_ : Unit), j37_3 = some (r, w') → J MX12_says 2 w_1 37 [(0, .ref 205)] [] (some (.int r)) w' := by
    intro _ h
    rw [ej37_3] at h
    try dsimp only at h
    refine jr_aload_n dX12_says_37 rfl 0 rfl ?_
    refine jr_bipush (v := (-2 : Int32)) dX12_says_38 (by decide) ?_
    obtain ⟨r_6, w_5, hq_4, h⟩ := drvB2 h
    refine j_callVv lk_X12_85 wIM_X12_no wSE_X12_no (rfl : kd 205 = 11) (by decide) rfl (tX12_no  hq_4) (by omega) rfl rfl (Nat.le_of_ble_eq_true rfl) dX12_says_40 ?_
    obtain ⟨rfl, rfl⟩ := drvS2 h
    exact jr_iret rfl dX12_says_43
  refine jr_if_eq (tgt := 37) (nxt := 25) dX12_says_22 (by decide) rfl (fun hc => ?_) (fun hc => ?_)
  · replace h := drvT hc h
    refine jr_sub [0] rfl ?_
    exact (hj37_3 ()) h
  · replace h := drvE hc h
    refine jr_iload_n dX12_says_25 rfl 2 rfl ?_
    refine jr_i2l dX12_says_26 ?_
    refine jr_lconst (v := (0 : Int64)) dX12_says_27 rfl ?_
    refine jr_ldc2 (v := (15 : Int64)) wCC_X12_91 dX12_says_28 ?_
    refine j_callSv lk_X12_81 wST_X12_within (tX12_within  (a0 := ((a1).toInt64)) (a1 := (0 : Int64)) (a2 := (15 : Int64)) (w := w_1)) (by omega) rfl rfl (Nat.le_of_ble_eq_true rfl) dX12_says_31 ?_
    refine jr_if_ne (tgt := 44) (nxt := 37) dX12_says_34 (by decide) rfl (fun hc => ?_) (fun hc => ?_)
    · replace h := drvE hc h
      refine jr_iload_n dX12_says_44 rfl 3 rfl ?_
      refine jr_i2l dX12_says_45 ?_
      refine jr_lconst (v := (0 : Int64)) dX12_says_46 rfl ?_
      refine jr_ldc2 (v := (3 : Int64)) wCC_X12_335 dX12_says_47 ?_
      refine j_callSv lk_X12_81 wST_X12_within (tX12_within  (a0 := ((a2).toInt64)) (a1 := (0 : Int64)) (a2 := (3 : Int64)) (w := w_1)) (by omega) rfl rfl (Nat.le_of_ble_eq_true rfl) dX12_says_50 ?_
      refine jr_if_ne (tgt := 63) (nxt := 56) dX12_says_53 (by decide) rfl (fun hc => ?_) (fun hc => ?_)
      · replace h := drvE hc h
        refine jr_aload_n dX12_says_63 rfl 0 rfl ?_
        refine gf_X12_17 (r := 207) rfl (rfl : kd 205 = 11) rfl dX12_says_64 ?_
        refine jr_sipush (v := (996 : Int32)) dX12_says_67 (by decide) ?_
        refine jr_bipush (v := (16 : Int32)) dX12_says_70 (by decide) ?_
        refine jr_iload_n dX12_says_72 rfl 1 rfl ?_
        refine jr_imul dX12_says_73 ?_
        refine jr_iadd dX12_says_74 ?_
        refine jr_iload_n dX12_says_75 rfl 2 rfl ?_
        refine jr_iadd dX12_says_76 ?_
        obtain ⟨hg_7, h⟩ := drvG h
        refine jr_iald (rfl : kd 207 = 13) hg_7 dX12_says_77 ?_
        refine j_nmi (fun x4_8 e_9 => ?_)
        replace h := drvL e_9 h
        refine jr_istore (lv' := [(4, .int x4_8), (0, .ref 205), (1, .int a0), (2, .int a1), (3, .int a2)]) dX12_says_78 (by decide) rfl ?_
        refine jr_aload_n dX12_says_80 rfl 1 rfl ?_
        refine gf_X12_17 (r := 207) rfl (rfl : kd 205 = 11) rfl dX12_says_81 ?_
        refine jr_sipush (v := (996 : Int32)) dX12_says_84 (by decide) ?_
        refine jr_bipush (v := (16 : Int32)) dX12_says_87 (by decide) ?_
        refine jr_iload_n dX12_says_89 rfl 2 rfl ?_
        refine jr_imul dX12_says_90 ?_
        refine jr_iadd dX12_says_91 ?_
        refine jr_iload_n dX12_says_92 rfl 3 rfl ?_
        refine jr_iadd dX12_says_93 ?_
        refine jr_iload_n dX12_says_94 rfl 4 rfl ?_
        obtain ⟨hg_12, h⟩ := drvG h
        refine jr_iast (rfl : kd 207 = 13) hg_12 dX12_says_95 ?_
        refine j_nmw (fun w_10 e_11 => ?_)
        replace h := drvL e_11 h
        refine jr_iload dX12_says_96 0 rfl ?_
        obtain ⟨rfl, rfl⟩ := drvS2 h
        exact jr_iret rfl dX12_says_98
      · replace h := drvT hc h
        refine jr_aload_n dX12_says_56 rfl 0 rfl ?_
        refine jr_bipush (v := (-3 : Int32)) dX12_says_57 (by decide) ?_
        obtain ⟨r_15, w_14, hq_13, h⟩ := drvB2 h
        refine j_callVv lk_X12_85 wIM_X12_no wSE_X12_no (rfl : kd 205 = 11) (by decide) rfl (tX12_no  hq_13) (by omega) rfl rfl (Nat.le_of_ble_eq_true rfl) dX12_says_59 ?_
        obtain ⟨rfl, rfl⟩ := drvS2 h
        exact jr_iret rfl dX12_says_62
    · replace h := drvT hc h
      refine jr_sub [0] rfl ?_
      exact (hj37_3 ()) h
set_option maxHeartbeats 4000000 in
set_option maxRecDepth 100000 in
theorem tX12_share {n : Nat} {a0 : Int32} {a1 : Int32} {w : jWd} {r : Int32} {w' : jWd}  (h : fX12_share n a0 a1 w = some (r, w')) : JM yX12_share MX12_share 8 [.ref 205, .int a0, .int a1] w (some (.int r)) w' := by
  refine jm_of pl_X12 rfl (Nat.le_of_ble_eq_true rfl) ?_
  show J MX12_share 8 w 0 [(0, .ref 205), (1, .int a0), (2, .int a1)] [] (some (.int r)) w'
  unfold fX12_share at h
  refine jr_aload_n dX12_share_0 rfl 0 rfl ?_
  refine jr_iconst (v := (0 : Int32)) dX12_share_1 (by decide) ?_
  refine pf_X12_1 rfl (rfl : kd 205 = 11) dX12_share_2 ?_
  refine j_nmw (fun w_1 e_2 => ?_)
  replace h := drvL e_2 h
  refine jr_iload_n dX12_share_5 rfl 1 rfl ?_
  refine jr_i2l dX12_share_6 ?_
  refine jr_lconst (v := (0 : Int64)) dX12_share_7 rfl ?_
  refine jr_ldc2 (v := (5 : Int64)) wCC_X12_95 dX12_share_8 ?_
  refine j_callSv lk_X12_81 wST_X12_within (tX12_within  (a0 := ((a0).toInt64)) (a1 := (0 : Int64)) (a2 := (5 : Int64)) (w := w_1)) (by omega) rfl rfl (Nat.le_of_ble_eq_true rfl) dX12_share_11 ?_
  obtain ⟨j27_3, ej27_3, h⟩ := drvF h
  have hj27_3 : ∀ (_ : Unit), j27_3 = some (r, w') → J MX12_share 8 w_1 27 [(0, .ref 205)] [] (some (.int r)) w' := by
    intro _ h
    rw [ej27_3] at h
    try dsimp only at h
    refine jr_aload_n dX12_share_27 rfl 0 rfl ?_
    refine jr_bipush (v := (-2 : Int32)) dX12_share_28 (by decide) ?_
    obtain ⟨r_6, w_5, hq_4, h⟩ := drvB2 h
    refine j_callVv lk_X12_85 wIM_X12_no wSE_X12_no (rfl : kd 205 = 11) (by decide) rfl (tX12_no  hq_4) (by omega) rfl rfl (Nat.le_of_ble_eq_true rfl) dX12_share_30 ?_
    obtain ⟨rfl, rfl⟩ := drvS2 h
    exact jr_iret rfl dX12_share_33
  refine jr_if_eq (tgt := 27) (nxt := 17) dX12_share_14 (by decide) rfl (fun hc => ?_) (fun hc => ?_)
  · replace h := drvT hc h
    refine jr_sub [0] rfl ?_
    exact (hj27_3 ()) h
  · replace h := drvE hc h
    refine jr_iload_n dX12_share_17 rfl 2 rfl ?_
    refine jr_i2l dX12_share_18 ?_
    refine jr_lconst (v := (0 : Int64)) dX12_share_19 rfl ?_
    refine jr_lconst (v := (1 : Int64)) dX12_share_20 rfl ?_
    refine j_callSv lk_X12_81 wST_X12_within (tX12_within  (a0 := ((a1).toInt64)) (a1 := (0 : Int64)) (a2 := (1 : Int64)) (w := w_1)) (by omega) rfl rfl (Nat.le_of_ble_eq_true rfl) dX12_share_21 ?_
    refine jr_if_ne (tgt := 34) (nxt := 27) dX12_share_24 (by decide) rfl (fun hc => ?_) (fun hc => ?_)
    · replace h := drvE hc h
      refine jr_aload_n dX12_share_34 rfl 0 rfl ?_
      refine gf_X12_17 (r := 207) rfl (rfl : kd 205 = 11) rfl dX12_share_35 ?_
      refine jr_sipush (v := (162 : Int32)) dX12_share_38 (by decide) ?_
      refine jr_ialdL (k := 162) (rfl : kd 207 = 13) (vp_lit (by decide) (by decide)) (by decide) dX12_share_41 ?_
      refine jr_if_ne (tgt := 52) (nxt := 45) dX12_share_42 (by decide) rfl (fun hc => ?_) (fun hc => ?_)
      · replace h := drvE hc h
        refine jr_aload_n dX12_share_52 rfl 0 rfl ?_
        obtain ⟨w_8, hq_7, h⟩ := drvB h
        refine j_callVn lk_X12_282 wIM_X12_counts wSE_X12_counts (rfl : kd 205 = 11) (by decide) rfl (tX12_counts  hq_7) (by omega) rfl rfl (Nat.le_of_ble_eq_true rfl) dX12_share_53 ?_
        refine jr_iload_n dX12_share_56 rfl 2 rfl ?_
        refine jr_if_ne (tgt := 69) (nxt := 60) dX12_share_57 (by decide) rfl (fun hc => ?_) (fun hc => ?_)
        · replace h := drvE hc h
          refine jr_sipush (v := (1000 : Int32)) dX12_share_69 (by decide) ?_
          refine jr_aload_n dX12_share_72 rfl 0 rfl ?_
          refine gf_X12_58 (r := 219) rfl (rfl : kd 205 = 11) rfl dX12_share_73 ?_
          refine jr_iload_n dX12_share_76 rfl 1 rfl ?_
          obtain ⟨hg_9, h⟩ := drvG h
          refine jr_iald (rfl : kd 219 = 13) hg_9 dX12_share_77 ?_
          refine jr_imul dX12_share_78 ?_
          refine jr_aload_n dX12_share_79 rfl 0 rfl ?_
          refine gf_X12_17 (r := 207) rfl (rfl : kd 205 = 11) rfl dX12_share_80 ?_
          refine jr_sipush (v := (162 : Int32)) dX12_share_83 (by decide) ?_
          refine jr_ialdL (k := 162) (rfl : kd 207 = 13) (vp_lit (by decide) (by decide)) (by decide) dX12_share_86 ?_
          obtain ⟨hz_10, h⟩ := drvZi h
          refine jr_idiv dX12_share_87 hz_10 ?_
          obtain ⟨rfl, rfl⟩ := drvS2 h
          exact jr_iret rfl dX12_share_88
        · replace h := drvT hc h
          refine jr_aload_n dX12_share_60 rfl 0 rfl ?_
          refine gf_X12_58 (r := 219) rfl (rfl : kd 205 = 11) rfl dX12_share_61 ?_
          refine jr_iload_n dX12_share_64 rfl 1 rfl ?_
          obtain ⟨hg_11, h⟩ := drvG h
          refine jr_iald (rfl : kd 219 = 13) hg_11 dX12_share_65 ?_
          refine jr_goto (tgt := 88) dX12_share_66 (by decide) ?_
          obtain ⟨rfl, rfl⟩ := drvS2 h
          exact jr_iret rfl dX12_share_88
      · replace h := drvT hc h
        refine jr_aload_n dX12_share_45 rfl 0 rfl ?_
        refine jr_bipush (v := (-5 : Int32)) dX12_share_46 (by decide) ?_
        obtain ⟨r_14, w_13, hq_12, h⟩ := drvB2 h
        refine j_callVv lk_X12_85 wIM_X12_no wSE_X12_no (rfl : kd 205 = 11) (by decide) rfl (tX12_no  hq_12) (by omega) rfl rfl (Nat.le_of_ble_eq_true rfl) dX12_share_48 ?_
        obtain ⟨rfl, rfl⟩ := drvS2 h
        exact jr_iret rfl dX12_share_51
    · replace h := drvT hc h
      refine jr_sub [0] rfl ?_
      exact (hj27_3 ()) h
set_option maxHeartbeats 4000000 in
set_option maxRecDepth 100000 in
theorem tX12_smoothed {n : Nat} {a0 : Int64} {a1 : Int32} {w : jWd} {r : Int64} {w' : jWd}  (h : fX12_smoothed n a0 a1 w = some (r, w')) : JM yX12_smoothed MX12_smoothed 5 [.ref 205, .long a0, .int a1] w (some (.long r)) w' := by
  refine jm_of pl_X12 rfl (Nat.le_of_ble_eq_true rfl) ?_
  show J MX12_smoothed 5 w 0 [(0, .ref 205), (1, .long a0), (3, .int a1)] [] (some (.long r)) w'
  unfold fX12_smoothed at h
  refine jr_aload_n dX12_smoothed_0 rfl 0 rfl ?_
  refine jr_iconst (v := (0 : Int32)) dX12_smoothed_1 (by decide) ?_
  refine pf_X12_1 rfl (rfl : kd 205 = 11) dX12_smoothed_2 ?_
  refine j_nmw (fun w_1 e_2 => ?_)
  replace h := drvL e_2 h
  refine jr_lload_n dX12_smoothed_5 rfl 1 rfl ?_
  obtain ⟨r_4, hq_3, h⟩ := drvB h
  refine j_callSv lk_X12_77 wST_X12_lengthOf (tX12_lengthOf  hq_3) (by omega) rfl rfl (Nat.le_of_ble_eq_true rfl) dX12_smoothed_6 ?_
  obtain ⟨j24_5, ej24_5, h⟩ := drvF h
  have hj24_5 : ∀ (_ : Unit), j24_5 = some (r, w') → J MX12_smoothed 5 w_1 24 [(0, .ref 205)] [] (some (.long r)) w' := by
    intro _ h
    rw [ej24_5] at h
    try dsimp only at h
    refine jr_aload_n dX12_smoothed_24 rfl 0 rfl ?_
    refine jr_bipush (v := (-3 : Int32)) dX12_smoothed_25 (by decide) ?_
    obtain ⟨r_8, w_7, hq_6, h⟩ := drvB2 h
    refine j_callVv lk_X12_85 wIM_X12_no wSE_X12_no (rfl : kd 205 = 11) (by decide) rfl (tX12_no  hq_6) (by omega) rfl rfl (Nat.le_of_ble_eq_true rfl) dX12_smoothed_27 ?_
    refine jr_i2l dX12_smoothed_30 ?_
    obtain ⟨rfl, rfl⟩ := drvS2 h
    exact jr_lret rfl dX12_smoothed_31
  refine jr_if_eq (tgt := 24) (nxt := 12) dX12_smoothed_9 (by decide) rfl (fun hc => ?_) (fun hc => ?_)
  · replace h := drvT hc h
    refine jr_sub [0] rfl ?_
    exact (hj24_5 ()) h
  · replace h := drvE hc h
    refine jr_iload_n dX12_smoothed_12 rfl 2 rfl ?_
    refine jr_i2l dX12_smoothed_13 ?_
    refine jr_lconst (v := (0 : Int64)) dX12_smoothed_14 rfl ?_
    refine jr_ldc2 (v := (9 : Int64)) wCC_X12_89 dX12_smoothed_15 ?_
    refine j_callSv lk_X12_81 wST_X12_within (tX12_within  (a0 := ((a1).toInt64)) (a1 := (0 : Int64)) (a2 := (9 : Int64)) (w := w_1)) (by omega) rfl rfl (Nat.le_of_ble_eq_true rfl) dX12_smoothed_18 ?_
    refine jr_if_ne (tgt := 32) (nxt := 24) dX12_smoothed_21 (by decide) rfl (fun hc => ?_) (fun hc => ?_)
    · replace h := drvE hc h
      refine jr_aload_n dX12_smoothed_32 rfl 0 rfl ?_
      refine jr_lload_n dX12_smoothed_33 rfl 1 rfl ?_
      refine jr_iload_n dX12_smoothed_34 rfl 2 rfl ?_
      obtain ⟨r_11, w_10, hq_9, h⟩ := drvB2 h
      refine j_callVv lk_X12_236 wIM_X12_smooth wSE_X12_smooth (rfl : kd 205 = 11) (by decide) rfl (tX12_smooth  hq_9) (by omega) rfl rfl (Nat.le_of_ble_eq_true rfl) dX12_smoothed_35 ?_
      obtain ⟨rfl, rfl⟩ := drvS2 h
      exact jr_lret rfl dX12_smoothed_38
    · replace h := drvT hc h
      refine jr_sub [0] rfl ?_
      exact (hj24_5 ()) h
set_option maxHeartbeats 4000000 in
set_option maxRecDepth 100000 in
theorem tX12_span {n : Nat} {a0 : Int32} {w : jWd} {r : Int32} {w' : jWd}  (h : fX12_span n a0 w = some (r, w')) : JM yX12_span MX12_span 8 [.ref 205, .int a0] w (some (.int r)) w' := by
  refine jm_of pl_X12 rfl (Nat.le_of_ble_eq_true rfl) ?_
  show J MX12_span 8 w 0 [(0, .ref 205), (1, .int a0)] [] (some (.int r)) w'
  unfold fX12_span at h
  refine jr_aload_n dX12_span_0 rfl 0 rfl ?_
  refine jr_iconst (v := (0 : Int32)) dX12_span_1 (by decide) ?_
  refine pf_X12_1 rfl (rfl : kd 205 = 11) dX12_span_2 ?_
  refine j_nmw (fun w_1 e_2 => ?_)
  replace h := drvL e_2 h
  refine jr_iload_n dX12_span_5 rfl 1 rfl ?_
  refine jr_i2l dX12_span_6 ?_
  refine jr_lconst (v := (0 : Int64)) dX12_span_7 rfl ?_
  refine jr_lconst (v := (1 : Int64)) dX12_span_8 rfl ?_
  refine j_callSv lk_X12_81 wST_X12_within (tX12_within  (a0 := ((a0).toInt64)) (a1 := (0 : Int64)) (a2 := (1 : Int64)) (w := w_1)) (by omega) rfl rfl (Nat.le_of_ble_eq_true rfl) dX12_span_9 ?_
  refine jr_if_ne (tgt := 22) (nxt := 15) dX12_span_12 (by decide) rfl (fun hc => ?_) (fun hc => ?_)
  · replace h := drvE hc h
    refine jr_aload_n dX12_span_22 rfl 0 rfl ?_
    refine gf_X12_17 (r := 207) rfl (rfl : kd 205 = 11) rfl dX12_span_23 ?_
    refine jr_sipush (v := (162 : Int32)) dX12_span_26 (by decide) ?_
    refine jr_ialdL (k := 162) (rfl : kd 207 = 13) (vp_lit (by decide) (by decide)) (by decide) dX12_span_29 ?_
    refine jr_if_ne (tgt := 40) (nxt := 33) dX12_span_30 (by decide) rfl (fun hc => ?_) (fun hc => ?_)
    · replace h := drvE hc h
      refine jr_aload_n dX12_span_40 rfl 0 rfl ?_
      obtain ⟨w_4, hq_3, h⟩ := drvB h
      refine j_callVn lk_X12_282 wIM_X12_counts wSE_X12_counts (rfl : kd 205 = 11) (by decide) rfl (tX12_counts  hq_3) (by omega) rfl rfl (Nat.le_of_ble_eq_true rfl) dX12_span_41 ?_
      refine jr_sipush (v := (1000 : Int32)) dX12_span_44 (by decide) ?_
      refine jr_aload_n dX12_span_47 rfl 0 rfl ?_
      refine gf_X12_58 (r := 219) rfl (rfl : kd 205 = 11) rfl dX12_span_48 ?_
      refine jr_iconst (v := (0 : Int32)) dX12_span_51 (by decide) ?_
      refine jr_ialdL (k := 0) (rfl : kd 219 = 13) (vp_lit (by decide) (by decide)) (by decide) dX12_span_52 ?_
      refine jr_aload_n dX12_span_53 rfl 0 rfl ?_
      refine gf_X12_58 (r := 219) rfl (rfl : kd 205 = 11) rfl dX12_span_54 ?_
      refine jr_iconst (v := (1 : Int32)) dX12_span_57 (by decide) ?_
      refine jr_ialdL (k := 1) (rfl : kd 219 = 13) (vp_lit (by decide) (by decide)) (by decide) dX12_span_58 ?_
      refine jr_iadd dX12_span_59 ?_
      refine jr_aload_n dX12_span_60 rfl 0 rfl ?_
      refine gf_X12_58 (r := 219) rfl (rfl : kd 205 = 11) rfl dX12_span_61 ?_
      refine jr_iconst (v := (2 : Int32)) dX12_span_64 (by decide) ?_
      refine jr_ialdL (k := 2) (rfl : kd 219 = 13) (vp_lit (by decide) (by decide)) (by decide) dX12_span_65 ?_
      refine jr_iadd dX12_span_66 ?_
      refine jr_iload_n dX12_span_67 rfl 1 rfl ?_
      refine jr_iconst (v := (1 : Int32)) dX12_span_68 (by decide) ?_
      obtain ⟨j82_6, ej82_6, h⟩ := drvF h
      have hj82_6 : ∀ (s_5 : Int32), j82_6 s_5 = some (r, w') → J MX12_span 8 w_4 82 [(0, .ref 205)] [.int s_5, .int (((wI w_4 219 0) + (wI w_4 219 1)) + (wI w_4 219 2)), .int (1000 : Int32)] (some (.int r)) w' := by
        intro s_5 h
        rw [ej82_6] at h
        try dsimp only at h
        refine jr_iadd dX12_span_82 ?_
        refine jr_imul dX12_span_83 ?_
        refine jr_aload_n dX12_span_84 rfl 0 rfl ?_
        refine gf_X12_17 (r := 207) rfl (rfl : kd 205 = 11) rfl dX12_span_85 ?_
        refine jr_sipush (v := (162 : Int32)) dX12_span_88 (by decide) ?_
        refine jr_ialdL (k := 162) (rfl : kd 207 = 13) (vp_lit (by decide) (by decide)) (by decide) dX12_span_91 ?_
        obtain ⟨hz_7, h⟩ := drvZi h
        refine jr_idiv dX12_span_92 hz_7 ?_
        obtain ⟨rfl, rfl⟩ := drvS2 h
        exact jr_iret rfl dX12_span_93
      refine jr_icmp_ne (tgt := 81) (nxt := 72) dX12_span_69 (by decide) rfl (fun hc => ?_) (fun hc => ?_)
      · replace h := drvE hc h
        refine jr_iconst (v := (0 : Int32)) dX12_span_81 (by decide) ?_
        refine jr_sub [0] rfl ?_
        exact hj82_6 _ h
      · replace h := drvT hc h
        refine jr_aload_n dX12_span_72 rfl 0 rfl ?_
        refine gf_X12_58 (r := 219) rfl (rfl : kd 205 = 11) rfl dX12_span_73 ?_
        refine jr_iconst (v := (4 : Int32)) dX12_span_76 (by decide) ?_
        refine jr_ialdL (k := 4) (rfl : kd 219 = 13) (vp_lit (by decide) (by decide)) (by decide) dX12_span_77 ?_
        refine jr_goto (tgt := 82) dX12_span_78 (by decide) ?_
        refine jr_sub [0] rfl ?_
        exact hj82_6 _ h
    · replace h := drvT hc h
      refine jr_aload_n dX12_span_33 rfl 0 rfl ?_
      refine jr_bipush (v := (-5 : Int32)) dX12_span_34 (by decide) ?_
      obtain ⟨r_10, w_9, hq_8, h⟩ := drvB2 h
      refine j_callVv lk_X12_85 wIM_X12_no wSE_X12_no (rfl : kd 205 = 11) (by decide) rfl (tX12_no  hq_8) (by omega) rfl rfl (Nat.le_of_ble_eq_true rfl) dX12_span_36 ?_
      obtain ⟨rfl, rfl⟩ := drvS2 h
      exact jr_iret rfl dX12_span_39
  · replace h := drvT hc h
    refine jr_aload_n dX12_span_15 rfl 0 rfl ?_
    refine jr_bipush (v := (-2 : Int32)) dX12_span_16 (by decide) ?_
    obtain ⟨r_13, w_12, hq_11, h⟩ := drvB2 h
    refine j_callVv lk_X12_85 wIM_X12_no wSE_X12_no (rfl : kd 205 = 11) (by decide) rfl (tX12_no  hq_11) (by omega) rfl rfl (Nat.le_of_ble_eq_true rfl) dX12_span_18 ?_
    obtain ⟨rfl, rfl⟩ := drvS2 h
    exact jr_iret rfl dX12_span_21
set_option maxHeartbeats 4000000 in
set_option maxRecDepth 100000 in
theorem tX12_status {a0 : Int32} {w : jWd} {r : Int32} {w' : jWd}  (h : fX12_status a0 w = some (r, w')) : JM yX12_status MX12_status 2 [.ref 205, .int a0] w (some (.int r)) w' := by
  refine jm_of pl_X12 rfl (Nat.le_of_ble_eq_true rfl) ?_
  show J MX12_status 2 w 0 [(0, .ref 205), (1, .int a0)] [] (some (.int r)) w'
  unfold fX12_status at h
  refine jr_aload_n dX12_status_0 rfl 0 rfl ?_
  refine jr_iconst (v := (0 : Int32)) dX12_status_1 (by decide) ?_
  refine pf_X12_1 rfl (rfl : kd 205 = 11) dX12_status_2 ?_
  refine j_nmw (fun w_1 e_2 => ?_)
  replace h := drvL e_2 h
  refine jr_iload_n dX12_status_5 rfl 1 rfl ?_
  refine jr_i2l dX12_status_6 ?_
  refine jr_lconst (v := (1 : Int64)) dX12_status_7 rfl ?_
  refine jr_ldc2 (v := (7 : Int64)) wCC_X12_371 dX12_status_8 ?_
  refine j_callSv lk_X12_81 wST_X12_within (tX12_within  (a0 := ((a0).toInt64)) (a1 := (1 : Int64)) (a2 := (7 : Int64)) (w := w_1)) (by omega) rfl rfl (Nat.le_of_ble_eq_true rfl) dX12_status_11 ?_
  refine jr_if_eq (tgt := 26) (nxt := 17) dX12_status_14 (by decide) rfl (fun hc => ?_) (fun hc => ?_)
  · replace h := drvT hc h
    refine jr_iconst (v := (-1 : Int32)) dX12_status_26 (by decide) ?_
    obtain ⟨rfl, rfl⟩ := drvS2 h
    exact jr_iret rfl dX12_status_27
  · replace h := drvE hc h
    refine jr_aload_n dX12_status_17 rfl 0 rfl ?_
    refine gf_X12_7 (r := 206) rfl (rfl : kd 205 = 11) rfl dX12_status_18 ?_
    refine jr_iload_n dX12_status_21 rfl 1 rfl ?_
    obtain ⟨hg_3, h⟩ := drvG h
    refine jr_iald (rfl : kd 206 = 13) hg_3 dX12_status_22 ?_
    refine jr_goto (tgt := 27) dX12_status_23 (by decide) ?_
    obtain ⟨rfl, rfl⟩ := drvS2 h
    exact jr_iret rfl dX12_status_27
set_option maxHeartbeats 4000000 in
set_option maxRecDepth 100000 in
theorem hbX12_text_84 {n : Nat} {p1 : Int32} {k106 : jWd → (Option (Int32 × jWd))} {r : Int32} {w' : jWd} {rec : Int32 → jWd → Option (Int32 × jWd)} (hk106 : ∀ (w9 : jWd), k106 w9 = some (r, w') → J MX12_text 51 w9 106 [(0, .ref 205), (1, .int p1)] [] (some (.int r)) w')
    (hrec : ∀ (x3 : Int32) (w : jWd) , rec x3 w = some (r, w') → J MX12_text 51 w 84 [(0, .ref 205), (1, .int p1), (3, .int x3)] [] (some (.int r)) w') : ∀ (x3 : Int32) (w : jWd) , bX12_text_84 n p1 k106 rec x3 w = some (r, w') → J MX12_text 51 w 84 [(0, .ref 205), (1, .int p1), (3, .int x3)] [] (some (.int r)) w' := by
  intro x3 w h
  unfold bX12_text_84 at h
  refine jr_iload_n dX12_text_84 rfl 2 rfl ?_
  refine jr_bipush (v := (29 : Int32)) dX12_text_85 (by decide) ?_
  refine jr_icmp_ge (tgt := 106) (nxt := 90) dX12_text_87 (by decide) rfl (fun hc => ?_) (fun hc => ?_)
  · replace h := drvT hc h
    refine jr_sub [0, 1] rfl ?_
    exact hk106 _ h
  · replace h := drvE hc h
    refine jr_aload_n dX12_text_90 rfl 0 rfl ?_
    refine gf_X12_34 (r := 212) rfl (rfl : kd 205 = 11) rfl dX12_text_91 ?_
    refine jr_bipush (v := (87 : Int32)) dX12_text_94 (by decide) ?_
    refine jr_iload_n dX12_text_96 rfl 2 rfl ?_
    refine jr_iadd dX12_text_97 ?_
    refine jr_iconst (v := (0 : Int32)) dX12_text_98 (by decide) ?_
    obtain ⟨hg_19, h⟩ := drvG h
    refine jr_iast (rfl : kd 212 = 13) hg_19 dX12_text_99 ?_
    refine j_nmw (fun w_17 e_18 => ?_)
    replace h := drvL e_18 h
    refine jr_iincN (c := (1 : Int32)) (lv' := fun (x3_20 : Int32) => [(3, .int x3_20), (0, .ref 205), (1, .int p1)]) dX12_text_100 (by decide) 2 rfl (by decide) (fun _ => rfl) (fun x3_20 e_21 => ?_)
    replace h := drvL e_21 h
    refine jr_goto (tgt := 84) dX12_text_103 (by decide) ?_
    refine jr_sub [1, 2, 0] rfl ?_
    exact hrec _ _ h
theorem hlX12_text_84 {n : Nat} {p1 : Int32} {k106 : jWd → (Option (Int32 × jWd))} {r : Int32} {w' : jWd} (hk106 : ∀ (w9 : jWd), k106 w9 = some (r, w') → J MX12_text 51 w9 106 [(0, .ref 205), (1, .int p1)] [] (some (.int r)) w') : ∀ (c : Nat) (x3 : Int32) (w : jWd) , lX12_text_84 n p1 k106 c x3 w = some (r, w') → J MX12_text 51 w 84 [(0, .ref 205), (1, .int p1), (3, .int x3)] [] (some (.int r)) w' := by
  intro c
  induction c with
  | zero => intro x3 w h; cases h
  | succ c ih => intro x3 w h; exact hbX12_text_84 (n := n) hk106 ih _ _ h
set_option maxHeartbeats 4000000 in
set_option maxRecDepth 100000 in
theorem hbX12_text_110 {n : Nat} {p1 : Int32} {k144 : jWd → (Option (Int32 × jWd))} {r : Int32} {w' : jWd} {rec : jWd → Option (Int32 × jWd)} (hk144 : ∀ (w9 : jWd), k144 w9 = some (r, w') → J MX12_text 51 w9 144 [(0, .ref 205), (1, .int p1)] [] (some (.int r)) w')
    (hrec : ∀ (w : jWd) , rec w = some (r, w') → J MX12_text 51 w 110 [(0, .ref 205), (1, .int p1)] [] (some (.int r)) w') : ∀ (w : jWd) , bX12_text_110 n p1 k144 rec w = some (r, w') → J MX12_text 51 w 110 [(0, .ref 205), (1, .int p1)] [] (some (.int r)) w' := by
  intro w h
  unfold bX12_text_110 at h
  refine jr_aload_n dX12_text_110 rfl 0 rfl ?_
  refine gf_X12_158 rfl (rfl : kd 205 = 11) dX12_text_111 ?_
  refine jr_if_ne (tgt := 144) (nxt := 117) dX12_text_114 (by decide) rfl (fun hc => ?_) (fun hc => ?_)
  · replace h := drvE hc h
    refine jr_sub [0, 1] rfl ?_
    exact hk144 _ h
  · replace h := drvT hc h
    refine jr_aload_n dX12_text_117 rfl 0 rfl ?_
    refine gf_X12_142 rfl (rfl : kd 205 = 11) dX12_text_118 ?_
    refine jr_bipush (v := (18 : Int32)) dX12_text_121 (by decide) ?_
    refine jr_icmp_eq (tgt := 144) (nxt := 126) dX12_text_123 (by decide) rfl (fun hc => ?_) (fun hc => ?_)
    · replace h := drvT hc h
      refine jr_sub [0, 1] rfl ?_
      exact hk144 _ h
    · replace h := drvE hc h
      refine jr_iload_n dX12_text_126 rfl 1 rfl ?_
      refine jr_if_ne (tgt := 137) (nxt := 130) dX12_text_127 (by decide) rfl (fun hc => ?_) (fun hc => ?_)
      · replace h := drvE hc h
        refine jr_aload_n dX12_text_137 rfl 0 rfl ?_
        obtain ⟨w_26, hq_25, h⟩ := drvB h
        refine j_callVn lk_X12_214 wIM_X12_readWay wSE_X12_readWay (rfl : kd 205 = 11) (by decide) rfl (tX12_readWay  hq_25) (by omega) rfl rfl (Nat.le_of_ble_eq_true rfl) dX12_text_138 ?_
        refine jr_goto (tgt := 110) dX12_text_141 (by decide) ?_
        refine jr_sub [0, 1] rfl ?_
        exact hrec _ h
      · replace h := drvT hc h
        refine jr_aload_n dX12_text_130 rfl 0 rfl ?_
        obtain ⟨w_28, hq_27, h⟩ := drvB h
        refine j_callVn lk_X12_211 wIM_X12_readRule wSE_X12_readRule (rfl : kd 205 = 11) (by decide) rfl (tX12_readRule  hq_27) (by omega) rfl rfl (Nat.le_of_ble_eq_true rfl) dX12_text_131 ?_
        refine jr_goto (tgt := 110) dX12_text_134 (by decide) ?_
        refine jr_sub [0, 1] rfl ?_
        exact hrec _ h
theorem hlX12_text_110 {n : Nat} {p1 : Int32} {k144 : jWd → (Option (Int32 × jWd))} {r : Int32} {w' : jWd} (hk144 : ∀ (w9 : jWd), k144 w9 = some (r, w') → J MX12_text 51 w9 144 [(0, .ref 205), (1, .int p1)] [] (some (.int r)) w') : ∀ (c : Nat) (w : jWd) , lX12_text_110 n p1 k144 c w = some (r, w') → J MX12_text 51 w 110 [(0, .ref 205), (1, .int p1)] [] (some (.int r)) w' := by
  intro c
  induction c with
  | zero => intro w h; cases h
  | succ c ih => intro w h; exact hbX12_text_110 (n := n) hk144 ih _ h
set_option maxHeartbeats 4000000 in
set_option maxRecDepth 100000 in
theorem hbX12_text_236 {n : Nat} {p1 : Int32} {k263 : jWd → (Option (Int32 × jWd))} {r : Int32} {w' : jWd} {rec : Int32 → jWd → Option (Int32 × jWd)} (hk263 : ∀ (w9 : jWd), k263 w9 = some (r, w') → J MX12_text 51 w9 263 [(0, .ref 205), (1, .int p1)] [] (some (.int r)) w')
    (hrec : ∀ (x3 : Int32) (w : jWd) , rec x3 w = some (r, w') → J MX12_text 51 w 236 [(0, .ref 205), (1, .int p1), (3, .int x3)] [] (some (.int r)) w') : ∀ (x3 : Int32) (w : jWd) , bX12_text_236 n p1 k263 rec x3 w = some (r, w') → J MX12_text 51 w 236 [(0, .ref 205), (1, .int p1), (3, .int x3)] [] (some (.int r)) w' := by
  intro x3 w h
  unfold bX12_text_236 at h
  refine jr_iload_n dX12_text_236 rfl 2 rfl ?_
  refine jr_bipush (v := (29 : Int32)) dX12_text_237 (by decide) ?_
  refine jr_icmp_ge (tgt := 263) (nxt := 242) dX12_text_239 (by decide) rfl (fun hc => ?_) (fun hc => ?_)
  · replace h := drvT hc h
    refine jr_sub [0, 1] rfl ?_
    exact hk263 _ h
  · replace h := drvE hc h
    refine jr_aload_n dX12_text_242 rfl 0 rfl ?_
    refine gf_X12_34 (r := 212) rfl (rfl : kd 205 = 11) rfl dX12_text_243 ?_
    refine jr_iload_n dX12_text_246 rfl 2 rfl ?_
    refine jr_aload_n dX12_text_247 rfl 0 rfl ?_
    refine gf_X12_34 (r := 212) rfl (rfl : kd 205 = 11) rfl dX12_text_248 ?_
    refine jr_bipush (v := (87 : Int32)) dX12_text_251 (by decide) ?_
    refine jr_iload_n dX12_text_253 rfl 2 rfl ?_
    refine jr_iadd dX12_text_254 ?_
    obtain ⟨hg_38, h⟩ := drvG h
    refine jr_iald (rfl : kd 212 = 13) hg_38 dX12_text_255 ?_
    obtain ⟨hg_41, h⟩ := drvG h
    refine jr_iast (rfl : kd 212 = 13) hg_41 dX12_text_256 ?_
    refine j_nmw (fun w_39 e_40 => ?_)
    replace h := drvL e_40 h
    refine jr_iincN (c := (1 : Int32)) (lv' := fun (x3_42 : Int32) => [(3, .int x3_42), (0, .ref 205), (1, .int p1)]) dX12_text_257 (by decide) 2 rfl (by decide) (fun _ => rfl) (fun x3_42 e_43 => ?_)
    replace h := drvL e_43 h
    refine jr_goto (tgt := 236) dX12_text_260 (by decide) ?_
    refine jr_sub [1, 2, 0] rfl ?_
    exact hrec _ _ h
theorem hlX12_text_236 {n : Nat} {p1 : Int32} {k263 : jWd → (Option (Int32 × jWd))} {r : Int32} {w' : jWd} (hk263 : ∀ (w9 : jWd), k263 w9 = some (r, w') → J MX12_text 51 w9 263 [(0, .ref 205), (1, .int p1)] [] (some (.int r)) w') : ∀ (c : Nat) (x3 : Int32) (w : jWd) , lX12_text_236 n p1 k263 c x3 w = some (r, w') → J MX12_text 51 w 236 [(0, .ref 205), (1, .int p1), (3, .int x3)] [] (some (.int r)) w' := by
  intro c
  induction c with
  | zero => intro x3 w h; cases h
  | succ c ih => intro x3 w h; exact hbX12_text_236 (n := n) hk263 ih _ _ h
set_option maxHeartbeats 4000000 in
set_option maxRecDepth 100000 in
theorem hbX12_text_202 {n : Nat} {p1 : Int32} {k231 : jWd → (Option (Int32 × jWd))} {r : Int32} {w' : jWd} {rec : Int32 → jWd → Option (Int32 × jWd)} (hk231 : ∀ (w9 : jWd), k231 w9 = some (r, w') → J MX12_text 51 w9 231 [(0, .ref 205), (1, .int p1)] [] (some (.int r)) w')
    (hrec : ∀ (x3 : Int32) (w : jWd) , rec x3 w = some (r, w') → J MX12_text 51 w 202 [(0, .ref 205), (1, .int p1), (3, .int x3)] [] (some (.int r)) w') : ∀ (x3 : Int32) (w : jWd) , bX12_text_202 n p1 k231 rec x3 w = some (r, w') → J MX12_text 51 w 202 [(0, .ref 205), (1, .int p1), (3, .int x3)] [] (some (.int r)) w' := by
  intro x3 w h
  unfold bX12_text_202 at h
  refine jr_iload_n dX12_text_202 rfl 2 rfl ?_
  refine jr_sipush (v := (645 : Int32)) dX12_text_203 (by decide) ?_
  refine jr_icmp_ge (tgt := 231) (nxt := 209) dX12_text_206 (by decide) rfl (fun hc => ?_) (fun hc => ?_)
  · replace h := drvT hc h
    refine jr_sub [0, 1] rfl ?_
    exact hk231 _ h
  · replace h := drvE hc h
    refine jr_aload_n dX12_text_209 rfl 0 rfl ?_
    refine gf_X12_31 (r := 211) rfl (rfl : kd 205 = 11) rfl dX12_text_210 ?_
    refine jr_iload_n dX12_text_213 rfl 2 rfl ?_
    refine jr_aload_n dX12_text_214 rfl 0 rfl ?_
    refine gf_X12_31 (r := 211) rfl (rfl : kd 205 = 11) rfl dX12_text_215 ?_
    refine jr_sipush (v := (1935 : Int32)) dX12_text_218 (by decide) ?_
    refine jr_iload_n dX12_text_221 rfl 2 rfl ?_
    refine jr_iadd dX12_text_222 ?_
    obtain ⟨hg_45, h⟩ := drvG h
    refine jr_iald (rfl : kd 211 = 13) hg_45 dX12_text_223 ?_
    obtain ⟨hg_48, h⟩ := drvG h
    refine jr_iast (rfl : kd 211 = 13) hg_48 dX12_text_224 ?_
    refine j_nmw (fun w_46 e_47 => ?_)
    replace h := drvL e_47 h
    refine jr_iincN (c := (1 : Int32)) (lv' := fun (x3_49 : Int32) => [(3, .int x3_49), (0, .ref 205), (1, .int p1)]) dX12_text_225 (by decide) 2 rfl (by decide) (fun _ => rfl) (fun x3_49 e_50 => ?_)
    replace h := drvL e_50 h
    refine jr_goto (tgt := 202) dX12_text_228 (by decide) ?_
    refine jr_sub [1, 2, 0] rfl ?_
    exact hrec _ _ h
theorem hlX12_text_202 {n : Nat} {p1 : Int32} {k231 : jWd → (Option (Int32 × jWd))} {r : Int32} {w' : jWd} (hk231 : ∀ (w9 : jWd), k231 w9 = some (r, w') → J MX12_text 51 w9 231 [(0, .ref 205), (1, .int p1)] [] (some (.int r)) w') : ∀ (c : Nat) (x3 : Int32) (w : jWd) , lX12_text_202 n p1 k231 c x3 w = some (r, w') → J MX12_text 51 w 202 [(0, .ref 205), (1, .int p1), (3, .int x3)] [] (some (.int r)) w' := by
  intro c
  induction c with
  | zero => intro x3 w h; cases h
  | succ c ih => intro x3 w h; exact hbX12_text_202 (n := n) hk231 ih _ _ h
set_option maxHeartbeats 4000000 in
set_option maxRecDepth 100000 in
theorem tX12_text {n : Nat} {a0 : Int32} {a1 : Int32} {w : jWd} {r : Int32} {w' : jWd}  (h : fX12_text n a0 a1 w = some (r, w')) : JM yX12_text MX12_text 51 [.ref 205, .int a0, .int a1] w (some (.int r)) w' := by
  refine jm_of pl_X12 rfl (Nat.le_of_ble_eq_true rfl) ?_
  show J MX12_text 51 w 0 [(0, .ref 205), (1, .int a0), (2, .int a1)] [] (some (.int r)) w'
  unfold fX12_text at h
  refine jr_aload_n dX12_text_0 rfl 0 rfl ?_
  refine jr_iconst (v := (0 : Int32)) dX12_text_1 (by decide) ?_
  refine pf_X12_1 rfl (rfl : kd 205 = 11) dX12_text_2 ?_
  refine j_nmw (fun w_1 e_2 => ?_)
  replace h := drvL e_2 h
  refine jr_iload_n dX12_text_5 rfl 1 rfl ?_
  refine jr_i2l dX12_text_6 ?_
  refine jr_lconst (v := (0 : Int64)) dX12_text_7 rfl ?_
  refine jr_lconst (v := (1 : Int64)) dX12_text_8 rfl ?_
  refine j_callSv lk_X12_81 wST_X12_within (tX12_within  (a0 := ((a0).toInt64)) (a1 := (0 : Int64)) (a2 := (1 : Int64)) (w := w_1)) (by omega) rfl rfl (Nat.le_of_ble_eq_true rfl) dX12_text_9 ?_
  refine jr_if_ne (tgt := 22) (nxt := 15) dX12_text_12 (by decide) rfl (fun hc => ?_) (fun hc => ?_)
  · replace h := drvE hc h
    refine jr_iload_n dX12_text_22 rfl 2 rfl ?_
    refine jr_i2l dX12_text_23 ?_
    refine jr_lconst (v := (0 : Int64)) dX12_text_24 rfl ?_
    refine jr_aload_n dX12_text_25 rfl 0 rfl ?_
    refine gf_X12_115 rfl (rfl : kd 205 = 11) dX12_text_26 ?_
    refine jr_i2l dX12_text_29 ?_
    refine j_callSv lk_X12_81 wST_X12_within (tX12_within  (a0 := ((a1).toInt64)) (a1 := (0 : Int64)) (a2 := (((wI w_1 205 9)).toInt64)) (w := w_1)) (by omega) rfl rfl (Nat.le_of_ble_eq_true rfl) dX12_text_30 ?_
    refine jr_if_ne (tgt := 43) (nxt := 36) dX12_text_33 (by decide) rfl (fun hc => ?_) (fun hc => ?_)
    · replace h := drvE hc h
      refine jr_aload_n dX12_text_43 rfl 0 rfl ?_
      refine jr_iload_n dX12_text_44 rfl 2 rfl ?_
      refine pf_X12_118 rfl (rfl : kd 205 = 11) dX12_text_45 ?_
      refine j_nmw (fun w_3 e_4 => ?_)
      replace h := drvL e_4 h
      refine jr_aload_n dX12_text_48 rfl 0 rfl ?_
      refine jr_iconst (v := (0 : Int32)) dX12_text_49 (by decide) ?_
      refine pf_X12_115 rfl (rfl : kd 205 = 11) dX12_text_50 ?_
      refine j_nmw (fun w_5 e_6 => ?_)
      replace h := drvL e_6 h
      refine jr_aload_n dX12_text_53 rfl 0 rfl ?_
      refine jr_iconst (v := (0 : Int32)) dX12_text_54 (by decide) ?_
      refine pf_X12_136 rfl (rfl : kd 205 = 11) dX12_text_55 ?_
      refine j_nmw (fun w_7 e_8 => ?_)
      replace h := drvL e_8 h
      refine jr_aload_n dX12_text_58 rfl 0 rfl ?_
      refine jr_iconst (v := (0 : Int32)) dX12_text_59 (by decide) ?_
      refine pf_X12_158 rfl (rfl : kd 205 = 11) dX12_text_60 ?_
      refine j_nmw (fun w_9 e_10 => ?_)
      replace h := drvL e_10 h
      refine jr_aload_n dX12_text_63 rfl 0 rfl ?_
      refine jr_iconst (v := (0 : Int32)) dX12_text_64 (by decide) ?_
      refine pf_X12_190 rfl (rfl : kd 205 = 11) dX12_text_65 ?_
      refine j_nmw (fun w_11 e_12 => ?_)
      replace h := drvL e_12 h
      refine jr_aload_n dX12_text_68 rfl 0 rfl ?_
      refine jr_iconst (v := (0 : Int32)) dX12_text_69 (by decide) ?_
      refine pf_X12_177 rfl (rfl : kd 205 = 11) dX12_text_70 ?_
      refine j_nmw (fun w_13 e_14 => ?_)
      replace h := drvL e_14 h
      refine jr_aload_n dX12_text_73 rfl 0 rfl ?_
      refine gf_X12_31 (r := 211) rfl (rfl : kd 205 = 11) rfl dX12_text_74 ?_
      refine jr_sipush (v := (1935 : Int32)) dX12_text_77 (by decide) ?_
      refine jr_iconst (v := (0 : Int32)) dX12_text_80 (by decide) ?_
      refine jr_iastL (k := 1935) (rfl : kd 211 = 13) (vp_lit (by decide) (by decide)) (by decide) dX12_text_81 ?_
      refine j_nmw (fun w_15 e_16 => ?_)
      replace h := drvL e_16 h
      refine jr_iconst (v := (0 : Int32)) dX12_text_82 (by decide) ?_
      refine jr_istore_n (lv' := [(3, .int (0 : Int32)), (0, .ref 205), (1, .int a0), (2, .int a1)]) dX12_text_83 rfl (by decide) rfl ?_
      refine jr_sub [1, 2, 0] rfl ?_
      refine hlX12_text_84  ?_ _ _ _ h
      · intro w_22 h
        try dsimp only at h
        refine jr_aload_n dX12_text_106 rfl 0 rfl ?_
        obtain ⟨w_24, hq_23, h⟩ := drvB h
        refine j_callVn lk_X12_167 wIM_X12_next wSE_X12_next (rfl : kd 205 = 11) (by decide) rfl (tX12_next  hq_23) (by omega) rfl rfl (Nat.le_of_ble_eq_true rfl) dX12_text_107 ?_
        refine jr_sub [0, 1] rfl ?_
        refine hlX12_text_110  ?_ _ _ h
        · intro w_29 h
          try dsimp only at h
          refine jr_aload_n dX12_text_144 rfl 0 rfl ?_
          refine jr_aload_n dX12_text_145 rfl 0 rfl ?_
          refine gf_X12_158 rfl (rfl : kd 205 = 11) dX12_text_146 ?_
          refine pf_X12_217 rfl (rfl : kd 205 = 11) dX12_text_149 ?_
          refine j_nmw (fun w_30 e_31 => ?_)
          replace h := drvL e_31 h
          refine jr_aload_n dX12_text_152 rfl 0 rfl ?_
          refine jr_aload_n dX12_text_153 rfl 0 rfl ?_
          refine gf_X12_158 rfl (rfl : kd 205 = 11) dX12_text_154 ?_
          obtain ⟨j168_33, ej168_33, h⟩ := drvF h
          have hj168_33 : ∀ (s_32 : Int32), j168_33 s_32 = some (r, w') → J MX12_text 51 w_30 168 [(0, .ref 205), (1, .int a0)] [.int s_32, .ref 205] (some (.int r)) w' := by
            intro s_32 h
            rw [ej168_33] at h
            try dsimp only at h
            refine pf_X12_40 rfl (rfl : kd 205 = 11) dX12_text_168 ?_
            refine j_nmw (fun w_34 e_35 => ?_)
            replace h := drvL e_35 h
            refine jr_aload_n dX12_text_171 rfl 0 rfl ?_
            refine gf_X12_158 rfl (rfl : kd 205 = 11) dX12_text_172 ?_
            refine jr_if_eq (tgt := 196) (nxt := 178) dX12_text_175 (by decide) rfl (fun hc => ?_) (fun hc => ?_)
            · replace h := drvT hc h
              refine jr_iload_n dX12_text_196 rfl 1 rfl ?_
              obtain ⟨j263_37, ej263_37, h⟩ := drvF h
              have hj263_37 : ∀ (w_36 : jWd), j263_37 w_36 = some (r, w') → J MX12_text 51 w_36 263 [(0, .ref 205), (1, .int a0)] [] (some (.int r)) w' := by
                intro w_36 h
                rw [ej263_37] at h
                try dsimp only at h
                refine jr_iload_n dX12_text_263 rfl 1 rfl ?_
                refine jr_if_ne (tgt := 276) (nxt := 267) dX12_text_264 (by decide) rfl (fun hc => ?_) (fun hc => ?_)
                · replace h := drvE hc h
                  refine jr_aload_n dX12_text_276 rfl 0 rfl ?_
                  refine gf_X12_34 (r := 212) rfl (rfl : kd 205 = 11) rfl dX12_text_277 ?_
                  refine jr_iconst (v := (0 : Int32)) dX12_text_280 (by decide) ?_
                  refine jr_ialdL (k := 0) (rfl : kd 212 = 13) (vp_lit (by decide) (by decide)) (by decide) dX12_text_281 ?_
                  obtain ⟨rfl, rfl⟩ := drvS2 h
                  exact jr_iret rfl dX12_text_282
                · replace h := drvT hc h
                  refine jr_aload_n dX12_text_267 rfl 0 rfl ?_
                  refine gf_X12_31 (r := 211) rfl (rfl : kd 205 = 11) rfl dX12_text_268 ?_
                  refine jr_iconst (v := (0 : Int32)) dX12_text_271 (by decide) ?_
                  refine jr_ialdL (k := 0) (rfl : kd 211 = 13) (vp_lit (by decide) (by decide)) (by decide) dX12_text_272 ?_
                  refine jr_goto (tgt := 282) dX12_text_273 (by decide) ?_
                  obtain ⟨rfl, rfl⟩ := drvS2 h
                  exact jr_iret rfl dX12_text_282
              refine jr_if_ne (tgt := 234) (nxt := 200) dX12_text_197 (by decide) rfl (fun hc => ?_) (fun hc => ?_)
              · replace h := drvE hc h
                refine jr_iconst (v := (0 : Int32)) dX12_text_234 (by decide) ?_
                refine jr_istore_n (lv' := [(3, .int (0 : Int32)), (0, .ref 205), (1, .int a0)]) dX12_text_235 rfl (by decide) rfl ?_
                refine jr_sub [1, 2, 0] rfl ?_
                refine hlX12_text_236  ?_ _ _ _ h
                · intro w_44 h
                  try dsimp only at h
                  refine jr_sub [0, 1] rfl ?_
                  exact hj263_37 _ h
              · replace h := drvT hc h
                refine jr_iconst (v := (0 : Int32)) dX12_text_200 (by decide) ?_
                refine jr_istore_n (lv' := [(3, .int (0 : Int32)), (0, .ref 205), (1, .int a0)]) dX12_text_201 rfl (by decide) rfl ?_
                refine jr_sub [1, 2, 0] rfl ?_
                refine hlX12_text_202  ?_ _ _ _ h
                · intro w_51 h
                  try dsimp only at h
                  refine jr_goto (tgt := 263) dX12_text_231 (by decide) ?_
                  refine jr_sub [0, 1] rfl ?_
                  exact hj263_37 _ h
            · replace h := drvE hc h
              refine jr_aload_n dX12_text_178 rfl 0 rfl ?_
              refine gf_X12_7 (r := 206) rfl (rfl : kd 205 = 11) rfl dX12_text_179 ?_
              refine jr_iconst (v := (1 : Int32)) dX12_text_182 (by decide) ?_
              refine jr_dup2_11 dX12_text_183 rfl rfl ?_
              refine jr_ialdL (k := 1) (rfl : kd 206 = 13) (vp_lit (by decide) (by decide)) (by decide) dX12_text_184 ?_
              refine jr_iconst (v := (1 : Int32)) dX12_text_185 (by decide) ?_
              refine jr_iadd dX12_text_186 ?_
              refine jr_iastL (k := 1) (rfl : kd 206 = 13) (vp_lit (by decide) (by decide)) (by decide) dX12_text_187 ?_
              refine j_nmw (fun w_52 e_53 => ?_)
              replace h := drvL e_53 h
              refine jr_bipush (v := (-10 : Int32)) dX12_text_188 (by decide) ?_
              refine jr_aload_n dX12_text_190 rfl 0 rfl ?_
              refine gf_X12_158 rfl (rfl : kd 205 = 11) dX12_text_191 ?_
              refine jr_isub dX12_text_194 ?_
              obtain ⟨rfl, rfl⟩ := drvS2 h
              exact jr_iret rfl dX12_text_195
          refine jr_if_ne (tgt := 164) (nxt := 160) dX12_text_157 (by decide) rfl (fun hc => ?_) (fun hc => ?_)
          · replace h := drvE hc h
            refine jr_aload_n dX12_text_164 rfl 0 rfl ?_
            refine gf_X12_161 rfl (rfl : kd 205 = 11) dX12_text_165 ?_
            refine jr_sub [0, 1] rfl ?_
            exact hj168_33 _ h
          · replace h := drvT hc h
            refine jr_iconst (v := (-1 : Int32)) dX12_text_160 (by decide) ?_
            refine jr_goto (tgt := 168) dX12_text_161 (by decide) ?_
            refine jr_sub [0, 1] rfl ?_
            exact hj168_33 _ h
    · replace h := drvT hc h
      refine jr_aload_n dX12_text_36 rfl 0 rfl ?_
      refine jr_bipush (v := (-3 : Int32)) dX12_text_37 (by decide) ?_
      obtain ⟨r_56, w_55, hq_54, h⟩ := drvB2 h
      refine j_callVv lk_X12_85 wIM_X12_no wSE_X12_no (rfl : kd 205 = 11) (by decide) rfl (tX12_no  hq_54) (by omega) rfl rfl (Nat.le_of_ble_eq_true rfl) dX12_text_39 ?_
      obtain ⟨rfl, rfl⟩ := drvS2 h
      exact jr_iret rfl dX12_text_42
  · replace h := drvT hc h
    refine jr_aload_n dX12_text_15 rfl 0 rfl ?_
    refine jr_bipush (v := (-2 : Int32)) dX12_text_16 (by decide) ?_
    obtain ⟨r_59, w_58, hq_57, h⟩ := drvB2 h
    refine j_callVv lk_X12_85 wIM_X12_no wSE_X12_no (rfl : kd 205 = 11) (by decide) rfl (tX12_no  hq_57) (by omega) rfl rfl (Nat.le_of_ble_eq_true rfl) dX12_text_18 ?_
    obtain ⟨rfl, rfl⟩ := drvS2 h
    exact jr_iret rfl dX12_text_21
set_option maxHeartbeats 4000000 in
set_option maxRecDepth 100000 in
theorem hbX12_told_91 {n : Nat} {p1 : Int32} {p2 : Int32} {p3 : Int32} {k187 : Int32 → jWd → (Option (Int32 × jWd))} {r : Int32} {w' : jWd} {rec : Int32 → Int32 → jWd → Option (Int32 × jWd)} (hk187 : ∀ (z5 : Int32) (w9 : jWd), k187 z5 w9 = some (r, w') → J MX12_told 5 w9 187 [(0, .ref 205), (1, .int p1), (2, .int p2), (3, .int p3), (5, .int z5)] [] (some (.int r)) w')
    (hrec : ∀ (x5 : Int32) (x6 : Int32) (w : jWd) , rec x5 x6 w = some (r, w') → J MX12_told 5 w 91 [(0, .ref 205), (1, .int p1), (2, .int p2), (3, .int p3), (5, .int x5), (6, .int x6)] [] (some (.int r)) w') : ∀ (x5 : Int32) (x6 : Int32) (w : jWd) , bX12_told_91 n p1 p2 p3 k187 rec x5 x6 w = some (r, w') → J MX12_told 5 w 91 [(0, .ref 205), (1, .int p1), (2, .int p2), (3, .int p3), (5, .int x5), (6, .int x6)] [] (some (.int r)) w' := by
  intro x5 x6 w h
  unfold bX12_told_91 at h
  refine jr_iload dX12_told_91 5 rfl ?_
  refine jr_aload_n dX12_told_93 rfl 0 rfl ?_
  refine gf_X12_17 (r := 207) rfl (rfl : kd 205 = 11) rfl dX12_told_94 ?_
  refine jr_bipush (v := (121 : Int32)) dX12_told_97 (by decide) ?_
  refine jr_iload_n dX12_told_99 rfl 1 rfl ?_
  refine jr_iadd dX12_told_100 ?_
  obtain ⟨hg_9, h⟩ := drvG h
  refine jr_iald (rfl : kd 207 = 13) hg_9 dX12_told_101 ?_
  refine jr_icmp_ge (tgt := 187) (nxt := 105) dX12_told_102 (by decide) rfl (fun hc => ?_) (fun hc => ?_)
  · replace h := drvT hc h
    refine jr_sub [0, 1, 2, 3, 4] rfl ?_
    exact hk187 _ _ h
  · replace h := drvE hc h
    refine jr_aload_n dX12_told_105 rfl 0 rfl ?_
    obtain ⟨r_12, w_11, hq_10, h⟩ := drvB2 h
    refine j_callVv lk_X12_244 wIM_X12_draw wSE_X12_draw (rfl : kd 205 = 11) (by decide) rfl (tX12_draw  hq_10) (by omega) rfl rfl (Nat.le_of_ble_eq_true rfl) dX12_told_106 ?_
    refine jr_aload_n dX12_told_109 rfl 0 rfl ?_
    refine gf_X12_34 (r := 212) rfl (rfl : kd 205 = 11) rfl dX12_told_110 ?_
    refine jr_iconst (v := (1 : Int32)) dX12_told_113 (by decide) ?_
    refine jr_ialdL (k := 1) (rfl : kd 212 = 13) (vp_lit (by decide) (by decide)) (by decide) dX12_told_114 ?_
    refine jr_icmp_ge (tgt := 121) (nxt := 118) dX12_told_115 (by decide) rfl (fun hc => ?_) (fun hc => ?_)
    · replace h := drvT hc h
      refine jr_aload_n dX12_told_121 rfl 0 rfl ?_
      refine jr_aload_n dX12_told_122 rfl 0 rfl ?_
      refine gf_X12_20 (r := 208) rfl (rfl : kd 205 = 11) rfl dX12_told_123 ?_
      refine jr_bipush (v := (12 : Int32)) dX12_told_126 (by decide) ?_
      refine jr_iload_n dX12_told_128 rfl 1 rfl ?_
      refine jr_imul dX12_told_129 ?_
      refine jr_iload dX12_told_130 5 rfl ?_
      refine jr_iadd dX12_told_132 ?_
      obtain ⟨hg_13, h⟩ := drvG h
      refine jr_lald (rfl : kd 208 = 14) hg_13 dX12_told_133 ?_
      obtain ⟨r_15, hq_14, h⟩ := drvB h
      refine j_callVv lk_X12_247 wIM_X12_said wSE_X12_said (rfl : kd 205 = 11) (by decide) rfl (tX12_said  hq_14) (by omega) rfl rfl (Nat.le_of_ble_eq_true rfl) dX12_told_134 ?_
      refine jr_lstore (lv' := [(7, .long r_15), (0, .ref 205), (1, .int p1), (2, .int p2), (3, .int p3), (5, .int x5), (6, .int x6)]) dX12_told_137 (by decide) rfl ?_
      refine jr_aload_n dX12_told_139 rfl 1 rfl ?_
      refine gf_X12_52 (r := 217) rfl (rfl : kd 205 = 11) rfl dX12_told_140 ?_
      refine jr_iload dX12_told_143 5 rfl ?_
      refine jr_aload_n dX12_told_145 rfl 1 rfl ?_
      obtain ⟨r_18, w_17, hq_16, h⟩ := drvB2 h
      refine j_callVv lk_X12_244 wIM_X12_draw wSE_X12_draw (rfl : kd 205 = 11) (by decide) rfl (tX12_draw  hq_16) (by omega) rfl rfl (Nat.le_of_ble_eq_true rfl) dX12_told_146 ?_
      refine jr_aload_n dX12_told_149 rfl 1 rfl ?_
      refine gf_X12_34 (r := 212) rfl (rfl : kd 205 = 11) rfl dX12_told_150 ?_
      refine jr_iconst (v := (3 : Int32)) dX12_told_153 (by decide) ?_
      refine jr_ialdL (k := 3) (rfl : kd 212 = 13) (vp_lit (by decide) (by decide)) (by decide) dX12_told_154 ?_
      obtain ⟨j177_21, ej177_21, h⟩ := drvF h
      have hj177_21 : ∀ (s_19 : Int64) (w_20 : jWd), j177_21 s_19 w_20 = some (r, w') → J MX12_told 5 w_20 177 [(0, .ref 205), (1, .int p1), (2, .int p2), (3, .int p3), (5, .int x5), (6, .int x6)] [.long s_19, .int x5, .ref 217] (some (.int r)) w' := by
        intro s_19 w_20 h
        rw [ej177_21] at h
        try dsimp only at h
        obtain ⟨hg_24, h⟩ := drvG h
        refine jr_last (rfl : kd 217 = 14) hg_24 dX12_told_177 ?_
        refine j_nmw (fun w_22 e_23 => ?_)
        replace h := drvL e_23 h
        refine jr_iincN (c := (1 : Int32)) (lv' := fun (x5_25 : Int32) => [(5, .int x5_25), (0, .ref 205), (1, .int p1), (2, .int p2), (3, .int p3), (6, .int x6)]) dX12_told_178 (by decide) 4 rfl (by decide) (fun _ => rfl) (fun x5_25 e_26 => ?_)
        replace h := drvL e_26 h
        refine jr_iincN (c := (1 : Int32)) (lv' := fun (x6_27 : Int32) => [(6, .int x6_27), (5, .int x5_25), (0, .ref 205), (1, .int p1), (2, .int p2), (3, .int p3)]) dX12_told_181 (by decide) 5 rfl (by decide) (fun _ => rfl) (fun x6_27 e_28 => ?_)
        replace h := drvL e_28 h
        refine jr_goto (tgt := 91) dX12_told_184 (by decide) ?_
        refine jr_sub [2, 3, 4, 5, 1, 0] rfl ?_
        exact hrec _ _ _ h
      refine jr_icmp_ge (tgt := 175) (nxt := 158) dX12_told_155 (by decide) rfl (fun hc => ?_) (fun hc => ?_)
      · replace h := drvT hc h
        refine jr_lload dX12_told_175 0 rfl ?_
        refine jr_sub [1, 2, 3, 4, 5, 6] rfl ?_
        exact hj177_21 _ _ h
      · replace h := drvE hc h
        refine jr_aload_n dX12_told_158 rfl 1 rfl ?_
        refine jr_lload dX12_told_159 0 rfl ?_
        refine jr_aload_n dX12_told_161 rfl 1 rfl ?_
        refine gf_X12_17 (r := 207) rfl (rfl : kd 205 = 11) rfl dX12_told_162 ?_
        refine jr_iconst (v := (1 : Int32)) dX12_told_165 (by decide) ?_
        refine jr_iload_n dX12_told_166 rfl 2 rfl ?_
        refine jr_iadd dX12_told_167 ?_
        obtain ⟨hg_29, h⟩ := drvG h
        refine jr_iald (rfl : kd 207 = 13) hg_29 dX12_told_168 ?_
        obtain ⟨r_32, w_31, hq_30, h⟩ := drvB2 h
        refine j_callVv lk_X12_236 wIM_X12_smooth wSE_X12_smooth (rfl : kd 205 = 11) (by decide) rfl (tX12_smooth  hq_30) (by omega) rfl rfl (Nat.le_of_ble_eq_true rfl) dX12_told_169 ?_
        refine jr_goto (tgt := 177) dX12_told_172 (by decide) ?_
        refine jr_sub [1, 2, 3, 4, 5, 6] rfl ?_
        exact hj177_21 _ _ h
    · replace h := drvE hc h
      refine jr_goto (tgt := 181) dX12_told_118 (by decide) ?_
      refine jr_iincN (c := (1 : Int32)) (lv' := fun (x6_33 : Int32) => [(6, .int x6_33), (0, .ref 205), (1, .int p1), (2, .int p2), (3, .int p3), (5, .int x5)]) dX12_told_181 (by decide) 5 rfl (by decide) (fun _ => rfl) (fun x6_33 e_34 => ?_)
      replace h := drvL e_34 h
      refine jr_goto (tgt := 91) dX12_told_184 (by decide) ?_
      refine jr_sub [1, 2, 3, 4, 5, 0] rfl ?_
      exact hrec _ _ _ h
theorem hlX12_told_91 {n : Nat} {p1 : Int32} {p2 : Int32} {p3 : Int32} {k187 : Int32 → jWd → (Option (Int32 × jWd))} {r : Int32} {w' : jWd} (hk187 : ∀ (z5 : Int32) (w9 : jWd), k187 z5 w9 = some (r, w') → J MX12_told 5 w9 187 [(0, .ref 205), (1, .int p1), (2, .int p2), (3, .int p3), (5, .int z5)] [] (some (.int r)) w') : ∀ (c : Nat) (x5 : Int32) (x6 : Int32) (w : jWd) , lX12_told_91 n p1 p2 p3 k187 c x5 x6 w = some (r, w') → J MX12_told 5 w 91 [(0, .ref 205), (1, .int p1), (2, .int p2), (3, .int p3), (5, .int x5), (6, .int x6)] [] (some (.int r)) w' := by
  intro c
  induction c with
  | zero => intro x5 x6 w h; cases h
  | succ c ih => intro x5 x6 w h; exact hbX12_told_91 (n := n) hk187 ih _ _ _ h
set_option maxHeartbeats 4000000 in
set_option maxRecDepth 100000 in
theorem hbX12_told_202 {n : Nat} {p1 : Int32} {p2 : Int32} {p3 : Int32} {p5 : Int32} {k269 : jWd → (Option (Int32 × jWd))} {r : Int32} {w' : jWd} {rec : Int32 → jWd → Option (Int32 × jWd)} (hk269 : ∀ (w9 : jWd), k269 w9 = some (r, w') → J MX12_told 5 w9 269 [(0, .ref 205), (1, .int p1), (2, .int p2), (3, .int p3), (5, .int p5)] [] (some (.int r)) w')
    (hrec : ∀ (x6 : Int32) (w : jWd) , rec x6 w = some (r, w') → J MX12_told 5 w 202 [(0, .ref 205), (1, .int p1), (2, .int p2), (3, .int p3), (5, .int p5), (6, .int x6)] [] (some (.int r)) w') : ∀ (x6 : Int32) (w : jWd) , bX12_told_202 n p1 p2 p3 p5 k269 rec x6 w = some (r, w') → J MX12_told 5 w 202 [(0, .ref 205), (1, .int p1), (2, .int p2), (3, .int p3), (5, .int p5), (6, .int x6)] [] (some (.int r)) w' := by
  intro x6 w h
  unfold bX12_told_202 at h
  refine jr_iload dX12_told_202 5 rfl ?_
  refine jr_iconst (v := (1 : Int32)) dX12_told_204 (by decide) ?_
  refine jr_iadd dX12_told_205 ?_
  refine jr_iload dX12_told_206 4 rfl ?_
  refine jr_icmp_ge (tgt := 269) (nxt := 211) dX12_told_208 (by decide) rfl (fun hc => ?_) (fun hc => ?_)
  · replace h := drvT hc h
    refine jr_sub [0, 1, 2, 3, 4] rfl ?_
    exact hk269 _ h
  · replace h := drvE hc h
    refine jr_aload_n dX12_told_211 rfl 0 rfl ?_
    obtain ⟨r_39, w_38, hq_37, h⟩ := drvB2 h
    refine j_callVv lk_X12_244 wIM_X12_draw wSE_X12_draw (rfl : kd 205 = 11) (by decide) rfl (tX12_draw  hq_37) (by omega) rfl rfl (Nat.le_of_ble_eq_true rfl) dX12_told_212 ?_
    refine jr_aload_n dX12_told_215 rfl 0 rfl ?_
    refine gf_X12_34 (r := 212) rfl (rfl : kd 205 = 11) rfl dX12_told_216 ?_
    refine jr_iconst (v := (2 : Int32)) dX12_told_219 (by decide) ?_
    refine jr_ialdL (k := 2) (rfl : kd 212 = 13) (vp_lit (by decide) (by decide)) (by decide) dX12_told_220 ?_
    refine jr_icmp_lt (tgt := 227) (nxt := 224) dX12_told_221 (by decide) rfl (fun hc => ?_) (fun hc => ?_)
    · replace h := drvT hc h
      refine jr_aload_n dX12_told_227 rfl 0 rfl ?_
      refine gf_X12_52 (r := 217) rfl (rfl : kd 205 = 11) rfl dX12_told_228 ?_
      refine jr_iload dX12_told_231 5 rfl ?_
      obtain ⟨hg_40, h⟩ := drvG h
      refine jr_lald (rfl : kd 217 = 14) hg_40 dX12_told_233 ?_
      refine j_nml (fun x7_41 e_42 => ?_)
      replace h := drvL e_42 h
      refine jr_lstore (lv' := [(7, .long x7_41), (0, .ref 205), (1, .int p1), (2, .int p2), (3, .int p3), (5, .int p5), (6, .int x6)]) dX12_told_234 (by decide) rfl ?_
      refine jr_aload_n dX12_told_236 rfl 1 rfl ?_
      refine gf_X12_52 (r := 217) rfl (rfl : kd 205 = 11) rfl dX12_told_237 ?_
      refine jr_iload dX12_told_240 6 rfl ?_
      refine jr_aload_n dX12_told_242 rfl 1 rfl ?_
      refine gf_X12_52 (r := 217) rfl (rfl : kd 205 = 11) rfl dX12_told_243 ?_
      refine jr_iload dX12_told_246 6 rfl ?_
      refine jr_iconst (v := (1 : Int32)) dX12_told_248 (by decide) ?_
      refine jr_iadd dX12_told_249 ?_
      obtain ⟨hg_43, h⟩ := drvG h
      refine jr_lald (rfl : kd 217 = 14) hg_43 dX12_told_250 ?_
      obtain ⟨hg_46, h⟩ := drvG h
      refine jr_last (rfl : kd 217 = 14) hg_46 dX12_told_251 ?_
      refine j_nmw (fun w_44 e_45 => ?_)
      replace h := drvL e_45 h
      refine jr_aload_n dX12_told_252 rfl 1 rfl ?_
      refine gf_X12_52 (r := 217) rfl (rfl : kd 205 = 11) rfl dX12_told_253 ?_
      refine jr_iload dX12_told_256 6 rfl ?_
      refine jr_iconst (v := (1 : Int32)) dX12_told_258 (by decide) ?_
      refine jr_iadd dX12_told_259 ?_
      refine jr_lload dX12_told_260 0 rfl ?_
      obtain ⟨hg_49, h⟩ := drvG h
      refine jr_last (rfl : kd 217 = 14) hg_49 dX12_told_262 ?_
      refine j_nmw (fun w_47 e_48 => ?_)
      replace h := drvL e_48 h
      refine jr_iincN (c := (1 : Int32)) (lv' := fun (x6_50 : Int32) => [(6, .int x6_50), (7, .long x7_41), (0, .ref 205), (1, .int p1), (2, .int p2), (3, .int p3), (5, .int p5)]) dX12_told_263 (by decide) 6 rfl (by decide) (fun _ => rfl) (fun x6_50 e_51 => ?_)
      replace h := drvL e_51 h
      refine jr_goto (tgt := 202) dX12_told_266 (by decide) ?_
      refine jr_sub [2, 3, 4, 5, 6, 0] rfl ?_
      exact hrec _ _ h
    · replace h := drvE hc h
      refine jr_goto (tgt := 263) dX12_told_224 (by decide) ?_
      refine jr_iincN (c := (1 : Int32)) (lv' := fun (x6_52 : Int32) => [(6, .int x6_52), (0, .ref 205), (1, .int p1), (2, .int p2), (3, .int p3), (5, .int p5)]) dX12_told_263 (by decide) 5 rfl (by decide) (fun _ => rfl) (fun x6_52 e_53 => ?_)
      replace h := drvL e_53 h
      refine jr_goto (tgt := 202) dX12_told_266 (by decide) ?_
      refine jr_sub [1, 2, 3, 4, 5, 0] rfl ?_
      exact hrec _ _ h
theorem hlX12_told_202 {n : Nat} {p1 : Int32} {p2 : Int32} {p3 : Int32} {p5 : Int32} {k269 : jWd → (Option (Int32 × jWd))} {r : Int32} {w' : jWd} (hk269 : ∀ (w9 : jWd), k269 w9 = some (r, w') → J MX12_told 5 w9 269 [(0, .ref 205), (1, .int p1), (2, .int p2), (3, .int p3), (5, .int p5)] [] (some (.int r)) w') : ∀ (c : Nat) (x6 : Int32) (w : jWd) , lX12_told_202 n p1 p2 p3 p5 k269 c x6 w = some (r, w') → J MX12_told 5 w 202 [(0, .ref 205), (1, .int p1), (2, .int p2), (3, .int p3), (5, .int p5), (6, .int x6)] [] (some (.int r)) w' := by
  intro c
  induction c with
  | zero => intro x6 w h; cases h
  | succ c ih => intro x6 w h; exact hbX12_told_202 (n := n) hk269 ih _ _ h
set_option maxHeartbeats 4000000 in
set_option maxRecDepth 100000 in
theorem hbX12_told_288 {n : Nat} {p5 : Int32} {p6 : Int32} {k321 : jWd → (Option (Int32 × jWd))} {r : Int32} {w' : jWd} {rec : Int32 → jWd → Option (Int32 × jWd)} (hk321 : ∀ (w9 : jWd), k321 w9 = some (r, w') → J MX12_told 5 w9 321 [(0, .ref 205), (5, .int p5), (6, .int p6)] [] (some (.int r)) w')
    (hrec : ∀ (x7 : Int32) (w : jWd) , rec x7 w = some (r, w') → J MX12_told 5 w 288 [(0, .ref 205), (5, .int p5), (6, .int p6), (7, .int x7)] [] (some (.int r)) w') : ∀ (x7 : Int32) (w : jWd) , bX12_told_288 n p5 p6 k321 rec x7 w = some (r, w') → J MX12_told 5 w 288 [(0, .ref 205), (5, .int p5), (6, .int p6), (7, .int x7)] [] (some (.int r)) w' := by
  intro x7 w h
  unfold bX12_told_288 at h
  refine jr_iload dX12_told_288 3 rfl ?_
  refine jr_iload dX12_told_290 1 rfl ?_
  refine jr_icmp_ge (tgt := 321) (nxt := 295) dX12_told_292 (by decide) rfl (fun hc => ?_) (fun hc => ?_)
  · replace h := drvT hc h
    refine jr_sub [0, 1, 2] rfl ?_
    exact hk321 _ h
  · replace h := drvE hc h
    refine jr_aload_n dX12_told_295 rfl 0 rfl ?_
    refine gf_X12_20 (r := 208) rfl (rfl : kd 205 = 11) rfl dX12_told_296 ?_
    refine jr_bipush (v := (12 : Int32)) dX12_told_299 (by decide) ?_
    refine jr_iload dX12_told_301 2 rfl ?_
    refine jr_imul dX12_told_303 ?_
    refine jr_iload dX12_told_304 3 rfl ?_
    refine jr_iadd dX12_told_306 ?_
    refine jr_aload_n dX12_told_307 rfl 0 rfl ?_
    refine gf_X12_52 (r := 217) rfl (rfl : kd 205 = 11) rfl dX12_told_308 ?_
    refine jr_iload dX12_told_311 3 rfl ?_
    obtain ⟨hg_59, h⟩ := drvG h
    refine jr_lald (rfl : kd 217 = 14) hg_59 dX12_told_313 ?_
    obtain ⟨hg_62, h⟩ := drvG h
    refine jr_last (rfl : kd 208 = 14) hg_62 dX12_told_314 ?_
    refine j_nmw (fun w_60 e_61 => ?_)
    replace h := drvL e_61 h
    refine jr_iincN (c := (1 : Int32)) (lv' := fun (x7_63 : Int32) => [(7, .int x7_63), (0, .ref 205), (5, .int p5), (6, .int p6)]) dX12_told_315 (by decide) 3 rfl (by decide) (fun _ => rfl) (fun x7_63 e_64 => ?_)
    replace h := drvL e_64 h
    refine jr_goto (tgt := 288) dX12_told_318 (by decide) ?_
    refine jr_sub [1, 2, 3, 0] rfl ?_
    exact hrec _ _ h
theorem hlX12_told_288 {n : Nat} {p5 : Int32} {p6 : Int32} {k321 : jWd → (Option (Int32 × jWd))} {r : Int32} {w' : jWd} (hk321 : ∀ (w9 : jWd), k321 w9 = some (r, w') → J MX12_told 5 w9 321 [(0, .ref 205), (5, .int p5), (6, .int p6)] [] (some (.int r)) w') : ∀ (c : Nat) (x7 : Int32) (w : jWd) , lX12_told_288 n p5 p6 k321 c x7 w = some (r, w') → J MX12_told 5 w 288 [(0, .ref 205), (5, .int p5), (6, .int p6), (7, .int x7)] [] (some (.int r)) w' := by
  intro c
  induction c with
  | zero => intro x7 w h; cases h
  | succ c ih => intro x7 w h; exact hbX12_told_288 (n := n) hk321 ih _ _ h
set_option maxHeartbeats 4000000 in
set_option maxRecDepth 100000 in
theorem tX12_told {n : Nat} {a0 : Int32} {a1 : Int32} {a2 : Int32} {a3 : Int32} {w : jWd} {r : Int32} {w' : jWd}  (h : fX12_told n a0 a1 a2 a3 w = some (r, w')) : JM yX12_told MX12_told 5 [.ref 205, .int a0, .int a1, .int a2, .int a3] w (some (.int r)) w' := by
  refine jm_of pl_X12 rfl (Nat.le_of_ble_eq_true rfl) ?_
  show J MX12_told 5 w 0 [(0, .ref 205), (1, .int a0), (2, .int a1), (3, .int a2), (4, .int a3)] [] (some (.int r)) w'
  unfold fX12_told at h
  refine jr_aload_n dX12_told_0 rfl 0 rfl ?_
  refine jr_iconst (v := (0 : Int32)) dX12_told_1 (by decide) ?_
  refine pf_X12_1 rfl (rfl : kd 205 = 11) dX12_told_2 ?_
  refine j_nmw (fun w_1 e_2 => ?_)
  replace h := drvL e_2 h
  refine jr_iload_n dX12_told_5 rfl 1 rfl ?_
  refine jr_i2l dX12_told_6 ?_
  refine jr_lconst (v := (0 : Int64)) dX12_told_7 rfl ?_
  refine jr_aload_n dX12_told_8 rfl 0 rfl ?_
  refine gf_X12_17 (r := 207) rfl (rfl : kd 205 = 11) rfl dX12_told_9 ?_
  refine jr_iconst (v := (0 : Int32)) dX12_told_12 (by decide) ?_
  refine jr_ialdL (k := 0) (rfl : kd 207 = 13) (vp_lit (by decide) (by decide)) (by decide) dX12_told_13 ?_
  refine jr_iconst (v := (1 : Int32)) dX12_told_14 (by decide) ?_
  refine jr_isub dX12_told_15 ?_
  refine jr_i2l dX12_told_16 ?_
  refine j_callSv lk_X12_81 wST_X12_within (tX12_within  (a0 := ((a0).toInt64)) (a1 := (0 : Int64)) (a2 := ((((wI w_1 207 0) - (1 : Int32))).toInt64)) (w := w_1)) (by omega) rfl rfl (Nat.le_of_ble_eq_true rfl) dX12_told_17 ?_
  refine jr_if_ne (tgt := 30) (nxt := 23) dX12_told_20 (by decide) rfl (fun hc => ?_) (fun hc => ?_)
  · replace h := drvE hc h
    refine jr_iload_n dX12_told_30 rfl 2 rfl ?_
    refine jr_i2l dX12_told_31 ?_
    refine jr_lconst (v := (0 : Int64)) dX12_told_32 rfl ?_
    refine jr_ldc2 (v := (15 : Int64)) wCC_X12_91 dX12_told_33 ?_
    refine j_callSv lk_X12_81 wST_X12_within (tX12_within  (a0 := ((a1).toInt64)) (a1 := (0 : Int64)) (a2 := (15 : Int64)) (w := w_1)) (by omega) rfl rfl (Nat.le_of_ble_eq_true rfl) dX12_told_36 ?_
    obtain ⟨j54_3, ej54_3, h⟩ := drvF h
    have hj54_3 : ∀ (_ : Unit), j54_3 = some (r, w') → J MX12_told 5 w_1 54 [(0, .ref 205)] [] (some (.int r)) w' := by
      intro _ h
      rw [ej54_3] at h
      try dsimp only at h
      refine jr_aload_n dX12_told_54 rfl 0 rfl ?_
      refine jr_bipush (v := (-3 : Int32)) dX12_told_55 (by decide) ?_
      obtain ⟨r_6, w_5, hq_4, h⟩ := drvB2 h
      refine j_callVv lk_X12_85 wIM_X12_no wSE_X12_no (rfl : kd 205 = 11) (by decide) rfl (tX12_no  hq_4) (by omega) rfl rfl (Nat.le_of_ble_eq_true rfl) dX12_told_57 ?_
      obtain ⟨rfl, rfl⟩ := drvS2 h
      exact jr_iret rfl dX12_told_60
    refine jr_if_eq (tgt := 54) (nxt := 42) dX12_told_39 (by decide) rfl (fun hc => ?_) (fun hc => ?_)
    · replace h := drvT hc h
      refine jr_sub [0] rfl ?_
      exact (hj54_3 ()) h
    · replace h := drvE hc h
      refine jr_iload_n dX12_told_42 rfl 3 rfl ?_
      refine jr_i2l dX12_told_43 ?_
      refine jr_lconst (v := (0 : Int64)) dX12_told_44 rfl ?_
      refine jr_ldc2 (v := (9999 : Int64)) wCC_X12_93 dX12_told_45 ?_
      refine j_callSv lk_X12_81 wST_X12_within (tX12_within  (a0 := ((a2).toInt64)) (a1 := (0 : Int64)) (a2 := (9999 : Int64)) (w := w_1)) (by omega) rfl rfl (Nat.le_of_ble_eq_true rfl) dX12_told_48 ?_
      refine jr_if_ne (tgt := 61) (nxt := 54) dX12_told_51 (by decide) rfl (fun hc => ?_) (fun hc => ?_)
      · replace h := drvE hc h
        refine jr_aload_n dX12_told_61 rfl 0 rfl ?_
        refine gf_X12_17 (r := 207) rfl (rfl : kd 205 = 11) rfl dX12_told_62 ?_
        refine jr_iconst (v := (0 : Int32)) dX12_told_65 (by decide) ?_
        refine jr_ialdL (k := 0) (rfl : kd 207 = 13) (vp_lit (by decide) (by decide)) (by decide) dX12_told_66 ?_
        refine jr_bipush (v := (40 : Int32)) dX12_told_67 (by decide) ?_
        refine jr_icmp_ne (tgt := 79) (nxt := 72) dX12_told_69 (by decide) rfl (fun hc => ?_) (fun hc => ?_)
        · replace h := drvE hc h
          refine jr_aload_n dX12_told_79 rfl 0 rfl ?_
          refine jr_iload dX12_told_80 4 rfl ?_
          refine pf_X12_241 rfl (rfl : kd 205 = 11) dX12_told_82 ?_
          refine j_nmw (fun w_7 e_8 => ?_)
          replace h := drvL e_8 h
          refine jr_iconst (v := (0 : Int32)) dX12_told_85 (by decide) ?_
          refine jr_istore (lv' := [(5, .int (0 : Int32)), (0, .ref 205), (1, .int a0), (2, .int a1), (3, .int a2), (4, .int a3)]) dX12_told_86 (by decide) rfl ?_
          refine jr_iconst (v := (0 : Int32)) dX12_told_88 (by decide) ?_
          refine jr_istore (lv' := [(6, .int (0 : Int32)), (5, .int (0 : Int32)), (0, .ref 205), (1, .int a0), (2, .int a1), (3, .int a2), (4, .int a3)]) dX12_told_89 (by decide) rfl ?_
          refine jr_sub [2, 3, 4, 5, 1, 0] rfl ?_
          refine hlX12_told_91  ?_ _ _ _ _ h
          · intro z5_36 w_35 h
            try dsimp only at h
            refine jr_iload dX12_told_187 4 rfl ?_
            refine jr_if_ne (tgt := 199) (nxt := 192) dX12_told_189 (by decide) rfl (fun hc => ?_) (fun hc => ?_)
            · replace h := drvE hc h
              refine jr_iconst (v := (0 : Int32)) dX12_told_199 (by decide) ?_
              refine jr_istore (lv' := [(6, .int (0 : Int32)), (0, .ref 205), (1, .int a0), (2, .int a1), (3, .int a2), (5, .int z5_36)]) dX12_told_200 (by decide) rfl ?_
              refine jr_sub [1, 2, 3, 4, 5, 0] rfl ?_
              refine hlX12_told_202  ?_ _ _ _ h
              · intro w_54 h
                try dsimp only at h
                refine jr_aload_n dX12_told_269 rfl 0 rfl ?_
                refine jr_aload_n dX12_told_270 rfl 0 rfl ?_
                refine gf_X12_17 (r := 207) rfl (rfl : kd 205 = 11) rfl dX12_told_271 ?_
                refine jr_iconst (v := (1 : Int32)) dX12_told_274 (by decide) ?_
                refine jr_iload_n dX12_told_275 rfl 1 rfl ?_
                refine jr_iadd dX12_told_276 ?_
                obtain ⟨hg_55, h⟩ := drvG h
                refine jr_iald (rfl : kd 207 = 13) hg_55 dX12_told_277 ?_
                refine jr_iload_n dX12_told_278 rfl 2 rfl ?_
                refine jr_iload_n dX12_told_279 rfl 3 rfl ?_
                obtain ⟨r_58, w_57, hq_56, h⟩ := drvB2 h
                refine j_callVv lk_X12_97 wIM_X12_opens wSE_X12_opens (rfl : kd 205 = 11) (by decide) rfl (tX12_opens  hq_56) (by omega) rfl rfl (Nat.le_of_ble_eq_true rfl) dX12_told_280 ?_
                refine jr_istore (lv' := [(6, .int r_58), (0, .ref 205), (1, .int a0), (2, .int a1), (3, .int a2), (5, .int z5_36)]) dX12_told_283 (by decide) rfl ?_
                refine jr_iconst (v := (0 : Int32)) dX12_told_285 (by decide) ?_
                refine jr_istore (lv' := [(7, .int (0 : Int32)), (6, .int r_58), (0, .ref 205), (1, .int a0), (2, .int a1), (3, .int a2), (5, .int z5_36)]) dX12_told_286 (by decide) rfl ?_
                refine jr_sub [2, 6, 1, 0] rfl ?_
                refine hlX12_told_288  ?_ _ _ _ h
                · intro w_65 h
                  try dsimp only at h
                  refine jr_aload_n dX12_told_321 rfl 0 rfl ?_
                  refine gf_X12_17 (r := 207) rfl (rfl : kd 205 = 11) rfl dX12_told_322 ?_
                  refine jr_bipush (v := (121 : Int32)) dX12_told_325 (by decide) ?_
                  refine jr_iload dX12_told_327 2 rfl ?_
                  refine jr_iadd dX12_told_329 ?_
                  refine jr_iload dX12_told_330 1 rfl ?_
                  obtain ⟨hg_68, h⟩ := drvG h
                  refine jr_iast (rfl : kd 207 = 13) hg_68 dX12_told_332 ?_
                  refine j_nmw (fun w_66 e_67 => ?_)
                  replace h := drvL e_67 h
                  refine jr_iload dX12_told_333 2 rfl ?_
                  obtain ⟨rfl, rfl⟩ := drvS2 h
                  exact jr_iret rfl dX12_told_335
            · replace h := drvT hc h
              refine jr_aload_n dX12_told_192 rfl 0 rfl ?_
              refine jr_bipush (v := (-5 : Int32)) dX12_told_193 (by decide) ?_
              obtain ⟨r_71, w_70, hq_69, h⟩ := drvB2 h
              refine j_callVv lk_X12_85 wIM_X12_no wSE_X12_no (rfl : kd 205 = 11) (by decide) rfl (tX12_no  hq_69) (by omega) rfl rfl (Nat.le_of_ble_eq_true rfl) dX12_told_195 ?_
              obtain ⟨rfl, rfl⟩ := drvS2 h
              exact jr_iret rfl dX12_told_198
        · replace h := drvT hc h
          refine jr_aload_n dX12_told_72 rfl 0 rfl ?_
          refine jr_bipush (v := (-4 : Int32)) dX12_told_73 (by decide) ?_
          obtain ⟨r_74, w_73, hq_72, h⟩ := drvB2 h
          refine j_callVv lk_X12_85 wIM_X12_no wSE_X12_no (rfl : kd 205 = 11) (by decide) rfl (tX12_no  hq_72) (by omega) rfl rfl (Nat.le_of_ble_eq_true rfl) dX12_told_75 ?_
          obtain ⟨rfl, rfl⟩ := drvS2 h
          exact jr_iret rfl dX12_told_78
      · replace h := drvT hc h
        refine jr_sub [0] rfl ?_
        exact (hj54_3 ()) h
  · replace h := drvT hc h
    refine jr_aload_n dX12_told_23 rfl 0 rfl ?_
    refine jr_bipush (v := (-2 : Int32)) dX12_told_24 (by decide) ?_
    obtain ⟨r_77, w_76, hq_75, h⟩ := drvB2 h
    refine j_callVv lk_X12_85 wIM_X12_no wSE_X12_no (rfl : kd 205 = 11) (by decide) rfl (tX12_no  hq_75) (by omega) rfl rfl (Nat.le_of_ble_eq_true rfl) dX12_told_26 ?_
    obtain ⟨rfl, rfl⟩ := drvS2 h
    exact jr_iret rfl dX12_told_29
set_option maxHeartbeats 4000000 in
set_option maxRecDepth 100000 in
theorem tX12_version {n : Nat} {a0 : Int64} {a1 : Int64} {a2 : Int32} {a3 : Int32} {w : jWd} {r : Int32} {w' : jWd}  (h : fX12_version n a0 a1 a2 a3 w = some (r, w')) : JM yX12_version MX12_version 4 [.ref 205, .long a0, .long a1, .int a2, .int a3] w (some (.int r)) w' := by
  refine jm_of pl_X12 rfl (Nat.le_of_ble_eq_true rfl) ?_
  show J MX12_version 4 w 0 [(0, .ref 205), (1, .long a0), (3, .long a1), (5, .int a2), (6, .int a3)] [] (some (.int r)) w'
  unfold fX12_version at h
  refine jr_aload_n dX12_version_0 rfl 0 rfl ?_
  refine jr_iconst (v := (0 : Int32)) dX12_version_1 (by decide) ?_
  refine pf_X12_1 rfl (rfl : kd 205 = 11) dX12_version_2 ?_
  refine j_nmw (fun w_1 e_2 => ?_)
  replace h := drvL e_2 h
  refine jr_lload_n dX12_version_5 rfl 1 rfl ?_
  obtain ⟨r_4, hq_3, h⟩ := drvB h
  refine j_callSv lk_X12_77 wST_X12_lengthOf (tX12_lengthOf  hq_3) (by omega) rfl rfl (Nat.le_of_ble_eq_true rfl) dX12_version_6 ?_
  obtain ⟨j45_5, ej45_5, h⟩ := drvF h
  have hj45_5 : ∀ (_ : Unit), j45_5 = some (r, w') → J MX12_version 4 w_1 45 [(0, .ref 205)] [] (some (.int r)) w' := by
    intro _ h
    rw [ej45_5] at h
    try dsimp only at h
    refine jr_aload_n dX12_version_45 rfl 0 rfl ?_
    refine jr_bipush (v := (-3 : Int32)) dX12_version_46 (by decide) ?_
    obtain ⟨r_8, w_7, hq_6, h⟩ := drvB2 h
    refine j_callVv lk_X12_85 wIM_X12_no wSE_X12_no (rfl : kd 205 = 11) (by decide) rfl (tX12_no  hq_6) (by omega) rfl rfl (Nat.le_of_ble_eq_true rfl) dX12_version_48 ?_
    obtain ⟨rfl, rfl⟩ := drvS2 h
    exact jr_iret rfl dX12_version_51
  refine jr_if_eq (tgt := 45) (nxt := 12) dX12_version_9 (by decide) rfl (fun hc => ?_) (fun hc => ?_)
  · replace h := drvT hc h
    refine jr_sub [0] rfl ?_
    exact (hj45_5 ()) h
  · replace h := drvE hc h
    refine jr_lload_n dX12_version_12 rfl 2 rfl ?_
    obtain ⟨r_10, hq_9, h⟩ := drvB h
    refine j_callSv lk_X12_77 wST_X12_lengthOf (tX12_lengthOf  hq_9) (by omega) rfl rfl (Nat.le_of_ble_eq_true rfl) dX12_version_13 ?_
    refine jr_if_eq (tgt := 45) (nxt := 19) dX12_version_16 (by decide) rfl (fun hc => ?_) (fun hc => ?_)
    · replace h := drvT hc h
      refine jr_sub [0] rfl ?_
      exact (hj45_5 ()) h
    · replace h := drvE hc h
      refine jr_iload dX12_version_19 3 rfl ?_
      refine jr_i2l dX12_version_21 ?_
      refine jr_lconst (v := (0 : Int64)) dX12_version_22 rfl ?_
      refine jr_ldc2 (v := (9999 : Int64)) wCC_X12_93 dX12_version_23 ?_
      refine j_callSv lk_X12_81 wST_X12_within (tX12_within  (a0 := ((a2).toInt64)) (a1 := (0 : Int64)) (a2 := (9999 : Int64)) (w := w_1)) (by omega) rfl rfl (Nat.le_of_ble_eq_true rfl) dX12_version_26 ?_
      refine jr_if_eq (tgt := 45) (nxt := 32) dX12_version_29 (by decide) rfl (fun hc => ?_) (fun hc => ?_)
      · replace h := drvT hc h
        refine jr_sub [0] rfl ?_
        exact (hj45_5 ()) h
      · replace h := drvE hc h
        refine jr_iload dX12_version_32 4 rfl ?_
        refine jr_i2l dX12_version_34 ?_
        refine jr_lconst (v := (0 : Int64)) dX12_version_35 rfl ?_
        refine jr_ldc2 (v := (9 : Int64)) wCC_X12_89 dX12_version_36 ?_
        refine j_callSv lk_X12_81 wST_X12_within (tX12_within  (a0 := ((a3).toInt64)) (a1 := (0 : Int64)) (a2 := (9 : Int64)) (w := w_1)) (by omega) rfl rfl (Nat.le_of_ble_eq_true rfl) dX12_version_39 ?_
        refine jr_if_ne (tgt := 52) (nxt := 45) dX12_version_42 (by decide) rfl (fun hc => ?_) (fun hc => ?_)
        · replace h := drvE hc h
          refine jr_aload_n dX12_version_52 rfl 0 rfl ?_
          refine gf_X12_17 (r := 207) rfl (rfl : kd 205 = 11) rfl dX12_version_53 ?_
          refine jr_sipush (v := (506 : Int32)) dX12_version_56 (by decide) ?_
          refine jr_ialdL (k := 506) (rfl : kd 207 = 13) (vp_lit (by decide) (by decide)) (by decide) dX12_version_59 ?_
          refine j_nmi (fun x7_11 e_12 => ?_)
          replace h := drvL e_12 h
          refine jr_istore (lv' := [(7, .int x7_11), (0, .ref 205), (1, .long a0), (3, .long a1), (5, .int a2), (6, .int a3)]) dX12_version_60 (by decide) rfl ?_
          refine jr_iload dX12_version_62 0 rfl ?_
          refine jr_bipush (v := (20 : Int32)) dX12_version_64 (by decide) ?_
          refine jr_icmp_ne (tgt := 76) (nxt := 69) dX12_version_66 (by decide) rfl (fun hc => ?_) (fun hc => ?_)
          · replace h := drvE hc h
            refine jr_aload_n dX12_version_76 rfl 1 rfl ?_
            refine gf_X12_20 (r := 208) rfl (rfl : kd 205 = 11) rfl dX12_version_77 ?_
            refine jr_sipush (v := (684 : Int32)) dX12_version_80 (by decide) ?_
            refine jr_iload dX12_version_83 0 rfl ?_
            refine jr_iadd dX12_version_85 ?_
            refine jr_lload_n dX12_version_86 rfl 2 rfl ?_
            obtain ⟨r_14, hq_13, h⟩ := drvB h
            refine j_callSv lk_X12_101 wST_X12_plain (tX12_plain  hq_13) (by omega) rfl rfl (Nat.le_of_ble_eq_true rfl) dX12_version_87 ?_
            obtain ⟨hg_17, h⟩ := drvG h
            refine jr_last (rfl : kd 208 = 14) hg_17 dX12_version_90 ?_
            refine j_nmw (fun w_15 e_16 => ?_)
            replace h := drvL e_16 h
            refine jr_aload_n dX12_version_91 rfl 1 rfl ?_
            refine gf_X12_20 (r := 208) rfl (rfl : kd 205 = 11) rfl dX12_version_92 ?_
            refine jr_sipush (v := (704 : Int32)) dX12_version_95 (by decide) ?_
            refine jr_iload dX12_version_98 0 rfl ?_
            refine jr_iadd dX12_version_100 ?_
            refine jr_lload_n dX12_version_101 rfl 3 rfl ?_
            obtain ⟨r_19, hq_18, h⟩ := drvB h
            refine j_callSv lk_X12_101 wST_X12_plain (tX12_plain  hq_18) (by omega) rfl rfl (Nat.le_of_ble_eq_true rfl) dX12_version_102 ?_
            obtain ⟨hg_22, h⟩ := drvG h
            refine jr_last (rfl : kd 208 = 14) hg_22 dX12_version_105 ?_
            refine j_nmw (fun w_20 e_21 => ?_)
            replace h := drvL e_21 h
            refine jr_aload_n dX12_version_106 rfl 1 rfl ?_
            refine gf_X12_17 (r := 207) rfl (rfl : kd 205 = 11) rfl dX12_version_107 ?_
            refine jr_sipush (v := (507 : Int32)) dX12_version_110 (by decide) ?_
            refine jr_iload dX12_version_113 0 rfl ?_
            refine jr_iadd dX12_version_115 ?_
            refine jr_iload dX12_version_116 4 rfl ?_
            obtain ⟨hg_25, h⟩ := drvG h
            refine jr_iast (rfl : kd 207 = 13) hg_25 dX12_version_118 ?_
            refine j_nmw (fun w_23 e_24 => ?_)
            replace h := drvL e_24 h
            refine jr_aload_n dX12_version_119 rfl 1 rfl ?_
            refine gf_X12_17 (r := 207) rfl (rfl : kd 205 = 11) rfl dX12_version_120 ?_
            refine jr_sipush (v := (527 : Int32)) dX12_version_123 (by decide) ?_
            refine jr_iload dX12_version_126 0 rfl ?_
            refine jr_iadd dX12_version_128 ?_
            refine jr_iload dX12_version_129 5 rfl ?_
            obtain ⟨hg_28, h⟩ := drvG h
            refine jr_iast (rfl : kd 207 = 13) hg_28 dX12_version_131 ?_
            refine j_nmw (fun w_26 e_27 => ?_)
            replace h := drvL e_27 h
            refine jr_aload_n dX12_version_132 rfl 1 rfl ?_
            refine gf_X12_17 (r := 207) rfl (rfl : kd 205 = 11) rfl dX12_version_133 ?_
            refine jr_sipush (v := (506 : Int32)) dX12_version_136 (by decide) ?_
            refine jr_dup2_11 dX12_version_139 rfl rfl ?_
            refine jr_ialdL (k := 506) (rfl : kd 207 = 13) (vp_lit (by decide) (by decide)) (by decide) dX12_version_140 ?_
            refine jr_iconst (v := (1 : Int32)) dX12_version_141 (by decide) ?_
            refine jr_iadd dX12_version_142 ?_
            refine jr_iastL (k := 506) (rfl : kd 207 = 13) (vp_lit (by decide) (by decide)) (by decide) dX12_version_143 ?_
            refine j_nmw (fun w_29 e_30 => ?_)
            replace h := drvL e_30 h
            refine jr_iload dX12_version_144 0 rfl ?_
            obtain ⟨rfl, rfl⟩ := drvS2 h
            exact jr_iret rfl dX12_version_146
          · replace h := drvT hc h
            refine jr_aload_n dX12_version_69 rfl 1 rfl ?_
            refine jr_bipush (v := (-4 : Int32)) dX12_version_70 (by decide) ?_
            obtain ⟨r_33, w_32, hq_31, h⟩ := drvB2 h
            refine j_callVv lk_X12_85 wIM_X12_no wSE_X12_no (rfl : kd 205 = 11) (by decide) rfl (tX12_no  hq_31) (by omega) rfl rfl (Nat.le_of_ble_eq_true rfl) dX12_version_72 ?_
            obtain ⟨rfl, rfl⟩ := drvS2 h
            exact jr_iret rfl dX12_version_75
        · replace h := drvT hc h
          refine jr_sub [0] rfl ?_
          exact (hj45_5 ()) h
set_option maxHeartbeats 4000000 in
set_option maxRecDepth 100000 in
theorem hbX12_which_58 {n : Nat} {p1 : Int32} {p2 : Int64} {p4 : Int64} {k103 : (Option (Int32 × jWd))} {w : jWd} {r : Int32} {w' : jWd} {rec : Int32 → Option (Int32 × jWd)} (hk103 : ∀ (_ : Unit), k103 = some (r, w') → J MX12_which 5 w 103 [(0, .ref 205), (1, .int p1), (2, .long p2), (4, .long p4)] [] (some (.int r)) w')
    (hrec : ∀ (x6 : Int32) , rec x6 = some (r, w') → J MX12_which 5 w 58 [(0, .ref 205), (1, .int p1), (2, .long p2), (4, .long p4), (6, .int x6)] [] (some (.int r)) w') : ∀ (x6 : Int32) , bX12_which_58 n p1 p2 p4 k103 w rec x6 = some (r, w') → J MX12_which 5 w 58 [(0, .ref 205), (1, .int p1), (2, .long p2), (4, .long p4), (6, .int x6)] [] (some (.int r)) w' := by
  intro x6 h
  unfold bX12_which_58 at h
  refine jr_iload dX12_which_58 4 rfl ?_
  refine jr_lload_n dX12_which_60 rfl 2 rfl ?_
  obtain ⟨r_10, hq_9, h⟩ := drvB h
  refine j_callSv lk_X12_77 wST_X12_lengthOf (tX12_lengthOf  hq_9) (by omega) rfl rfl (Nat.le_of_ble_eq_true rfl) dX12_which_61 ?_
  refine jr_icmp_ge (tgt := 103) (nxt := 67) dX12_which_64 (by decide) rfl (fun hc => ?_) (fun hc => ?_)
  · replace h := drvT hc h
    refine jr_sub [0, 1, 2, 3] rfl ?_
    exact (hk103 ()) h
  · replace h := drvE hc h
    refine jr_aload_n dX12_which_67 rfl 0 rfl ?_
    refine gf_X12_17 (r := 207) rfl (rfl : kd 205 = 11) rfl dX12_which_68 ?_
    refine jr_sipush (v := (250 : Int32)) dX12_which_71 (by decide) ?_
    refine jr_lload_n dX12_which_74 rfl 2 rfl ?_
    refine jr_iload dX12_which_75 4 rfl ?_
    refine j_callSv lk_X12_73 wST_X12_wordAt (tX12_wordAt  (a0 := p2) (a1 := x6) (w := w)) (by omega) rfl rfl (Nat.le_of_ble_eq_true rfl) dX12_which_77 ?_
    refine jr_iadd dX12_which_80 ?_
    obtain ⟨hg_11, h⟩ := drvG h
    refine jr_iald (rfl : kd 207 = 13) hg_11 dX12_which_81 ?_
    refine jr_aload_n dX12_which_82 rfl 0 rfl ?_
    refine gf_X12_17 (r := 207) rfl (rfl : kd 205 = 11) rfl dX12_which_83 ?_
    refine jr_sipush (v := (507 : Int32)) dX12_which_86 (by decide) ?_
    refine jr_iload_n dX12_which_89 rfl 1 rfl ?_
    refine jr_iadd dX12_which_90 ?_
    obtain ⟨hg_12, h⟩ := drvG h
    refine jr_iald (rfl : kd 207 = 13) hg_12 dX12_which_91 ?_
    refine jr_icmp_le (tgt := 97) (nxt := 95) dX12_which_92 (by decide) rfl (fun hc => ?_) (fun hc => ?_)
    · replace h := drvT hc h
      refine jr_iincN (c := (1 : Int32)) (lv' := fun (x6_13 : Int32) => [(6, .int x6_13), (0, .ref 205), (1, .int p1), (2, .long p2), (4, .long p4)]) dX12_which_97 (by decide) 4 rfl (by decide) (fun _ => rfl) (fun x6_13 e_14 => ?_)
      replace h := drvL e_14 h
      refine jr_goto (tgt := 58) dX12_which_100 (by decide) ?_
      refine jr_sub [1, 2, 3, 4, 0] rfl ?_
      exact hrec _ h
    · replace h := drvE hc h
      refine jr_iconst (v := (1 : Int32)) dX12_which_95 (by decide) ?_
      obtain ⟨rfl, rfl⟩ := drvS2 h
      exact jr_iret rfl dX12_which_96
theorem hlX12_which_58 {n : Nat} {p1 : Int32} {p2 : Int64} {p4 : Int64} {k103 : (Option (Int32 × jWd))} {w : jWd} {r : Int32} {w' : jWd} (hk103 : ∀ (_ : Unit), k103 = some (r, w') → J MX12_which 5 w 103 [(0, .ref 205), (1, .int p1), (2, .long p2), (4, .long p4)] [] (some (.int r)) w') : ∀ (c : Nat) (x6 : Int32) , lX12_which_58 n p1 p2 p4 k103 w c x6 = some (r, w') → J MX12_which 5 w 58 [(0, .ref 205), (1, .int p1), (2, .long p2), (4, .long p4), (6, .int x6)] [] (some (.int r)) w' := by
  intro c
  induction c with
  | zero => intro x6 h; cases h
  | succ c ih => intro x6 h; exact hbX12_which_58 (n := n) hk103 ih _ h
set_option maxHeartbeats 4000000 in
set_option maxRecDepth 100000 in
theorem tX12_which {n : Nat} {a0 : Int32} {w : jWd} {r : Int32} {w' : jWd}  (h : fX12_which n a0 w = some (r, w')) : JM yX12_which MX12_which 5 [.ref 205, .int a0] w (some (.int r)) w' := by
  refine jm_of pl_X12 rfl (Nat.le_of_ble_eq_true rfl) ?_
  show J MX12_which 5 w 0 [(0, .ref 205), (1, .int a0)] [] (some (.int r)) w'
  unfold fX12_which at h
  refine jr_aload_n dX12_which_0 rfl 0 rfl ?_
  refine jr_iconst (v := (0 : Int32)) dX12_which_1 (by decide) ?_
  refine pf_X12_1 rfl (rfl : kd 205 = 11) dX12_which_2 ?_
  refine j_nmw (fun w_1 e_2 => ?_)
  replace h := drvL e_2 h
  refine jr_iload_n dX12_which_5 rfl 1 rfl ?_
  refine jr_i2l dX12_which_6 ?_
  refine jr_lconst (v := (0 : Int64)) dX12_which_7 rfl ?_
  refine jr_aload_n dX12_which_8 rfl 0 rfl ?_
  refine gf_X12_17 (r := 207) rfl (rfl : kd 205 = 11) rfl dX12_which_9 ?_
  refine jr_sipush (v := (506 : Int32)) dX12_which_12 (by decide) ?_
  refine jr_ialdL (k := 506) (rfl : kd 207 = 13) (vp_lit (by decide) (by decide)) (by decide) dX12_which_15 ?_
  refine jr_iconst (v := (1 : Int32)) dX12_which_16 (by decide) ?_
  refine jr_isub dX12_which_17 ?_
  refine jr_i2l dX12_which_18 ?_
  refine j_callSv lk_X12_81 wST_X12_within (tX12_within  (a0 := ((a0).toInt64)) (a1 := (0 : Int64)) (a2 := ((((wI w_1 207 506) - (1 : Int32))).toInt64)) (w := w_1)) (by omega) rfl rfl (Nat.le_of_ble_eq_true rfl) dX12_which_19 ?_
  refine jr_if_ne (tgt := 32) (nxt := 25) dX12_which_22 (by decide) rfl (fun hc => ?_) (fun hc => ?_)
  · replace h := drvE hc h
    refine jr_aload_n dX12_which_32 rfl 0 rfl ?_
    refine gf_X12_20 (r := 208) rfl (rfl : kd 205 = 11) rfl dX12_which_33 ?_
    refine jr_sipush (v := (684 : Int32)) dX12_which_36 (by decide) ?_
    refine jr_iload_n dX12_which_39 rfl 1 rfl ?_
    refine jr_iadd dX12_which_40 ?_
    obtain ⟨hg_3, h⟩ := drvG h
    refine jr_lald (rfl : kd 208 = 14) hg_3 dX12_which_41 ?_
    refine j_nml (fun x2_4 e_5 => ?_)
    replace h := drvL e_5 h
    refine jr_lstore_n (lv' := [(2, .long x2_4), (0, .ref 205), (1, .int a0)]) dX12_which_42 rfl (by decide) rfl ?_
    refine jr_aload_n dX12_which_43 rfl 1 rfl ?_
    refine gf_X12_20 (r := 208) rfl (rfl : kd 205 = 11) rfl dX12_which_44 ?_
    refine jr_sipush (v := (704 : Int32)) dX12_which_47 (by decide) ?_
    refine jr_iload_n dX12_which_50 rfl 2 rfl ?_
    refine jr_iadd dX12_which_51 ?_
    obtain ⟨hg_6, h⟩ := drvG h
    refine jr_lald (rfl : kd 208 = 14) hg_6 dX12_which_52 ?_
    refine j_nml (fun x4_7 e_8 => ?_)
    replace h := drvL e_8 h
    refine jr_lstore (lv' := [(4, .long x4_7), (2, .long x2_4), (0, .ref 205), (1, .int a0)]) dX12_which_53 (by decide) rfl ?_
    refine jr_iconst (v := (0 : Int32)) dX12_which_55 (by decide) ?_
    refine jr_istore (lv' := [(6, .int (0 : Int32)), (4, .long x4_7), (2, .long x2_4), (0, .ref 205), (1, .int a0)]) dX12_which_56 (by decide) rfl ?_
    refine jr_sub [3, 4, 2, 1, 0] rfl ?_
    refine hlX12_which_58  ?_ _ _ h
    · intro _ h
      try dsimp only at h
      refine jr_aload_n dX12_which_103 rfl 0 rfl ?_
      refine jr_lload_n dX12_which_104 rfl 2 rfl ?_
      refine jr_aload_n dX12_which_105 rfl 0 rfl ?_
      refine gf_X12_17 (r := 207) rfl (rfl : kd 205 = 11) rfl dX12_which_106 ?_
      refine jr_sipush (v := (527 : Int32)) dX12_which_109 (by decide) ?_
      refine jr_iload_n dX12_which_112 rfl 1 rfl ?_
      refine jr_iadd dX12_which_113 ?_
      obtain ⟨hg_15, h⟩ := drvG h
      refine jr_iald (rfl : kd 207 = 13) hg_15 dX12_which_114 ?_
      obtain ⟨r_18, w_17, hq_16, h⟩ := drvB2 h
      refine j_callVv lk_X12_236 wIM_X12_smooth wSE_X12_smooth (rfl : kd 205 = 11) (by decide) rfl (tX12_smooth  hq_16) (by omega) rfl rfl (Nat.le_of_ble_eq_true rfl) dX12_which_115 ?_
      refine jr_lload dX12_which_118 3 rfl ?_
      refine jr_lcmp dX12_which_120 ?_
      refine jr_if_ne (tgt := 126) (nxt := 124) dX12_which_121 (by decide) rfl (fun hc => ?_) (fun hc => ?_)
      · replace h := drvE hc h
        refine jr_aload_n dX12_which_126 rfl 0 rfl ?_
        refine jr_lload dX12_which_127 3 rfl ?_
        refine jr_aload_n dX12_which_129 rfl 0 rfl ?_
        refine gf_X12_17 (r := 207) rfl (rfl : kd 205 = 11) rfl dX12_which_130 ?_
        refine jr_sipush (v := (527 : Int32)) dX12_which_133 (by decide) ?_
        refine jr_iload_n dX12_which_136 rfl 1 rfl ?_
        refine jr_iadd dX12_which_137 ?_
        obtain ⟨hg_19, h⟩ := drvG h
        refine jr_iald (rfl : kd 207 = 13) hg_19 dX12_which_138 ?_
        obtain ⟨r_22, w_21, hq_20, h⟩ := drvB2 h
        refine j_callVv lk_X12_236 wIM_X12_smooth wSE_X12_smooth (rfl : kd 205 = 11) (by decide) rfl (tX12_smooth  hq_20) (by omega) rfl rfl (Nat.le_of_ble_eq_true rfl) dX12_which_139 ?_
        refine jr_lload_n dX12_which_142 rfl 2 rfl ?_
        refine jr_lcmp dX12_which_143 ?_
        refine jr_if_ne (tgt := 151) (nxt := 147) dX12_which_144 (by decide) rfl (fun hc => ?_) (fun hc => ?_)
        · replace h := drvE hc h
          refine jr_iconst (v := (2 : Int32)) dX12_which_151 (by decide) ?_
          obtain ⟨rfl, rfl⟩ := drvS2 h
          exact jr_iret rfl dX12_which_152
        · replace h := drvT hc h
          refine jr_iconst (v := (1 : Int32)) dX12_which_147 (by decide) ?_
          refine jr_goto (tgt := 152) dX12_which_148 (by decide) ?_
          obtain ⟨rfl, rfl⟩ := drvS2 h
          exact jr_iret rfl dX12_which_152
      · replace h := drvT hc h
        refine jr_iconst (v := (0 : Int32)) dX12_which_124 (by decide) ?_
        obtain ⟨rfl, rfl⟩ := drvS2 h
        exact jr_iret rfl dX12_which_125
  · replace h := drvT hc h
    refine jr_aload_n dX12_which_25 rfl 0 rfl ?_
    refine jr_bipush (v := (-2 : Int32)) dX12_which_26 (by decide) ?_
    obtain ⟨r_25, w_24, hq_23, h⟩ := drvB2 h
    refine j_callVv lk_X12_85 wIM_X12_no wSE_X12_no (rfl : kd 205 = 11) (by decide) rfl (tX12_no  hq_23) (by omega) rfl rfl (Nat.le_of_ble_eq_true rfl) dX12_which_28 ?_
    obtain ⟨rfl, rfl⟩ := drvS2 h
    exact jr_iret rfl dX12_which_31
set_option maxHeartbeats 4000000 in
set_option maxRecDepth 100000 in
theorem tX12_whose {n : Nat} {a0 : Int32} {a1 : Int32} {w : jWd} {r : Int32} {w' : jWd}  (h : fX12_whose n a0 a1 w = some (r, w')) : JM yX12_whose MX12_whose 7 [.ref 205, .int a0, .int a1] w (some (.int r)) w' := by
  refine jm_of pl_X12 rfl (Nat.le_of_ble_eq_true rfl) ?_
  show J MX12_whose 7 w 0 [(0, .ref 205), (1, .int a0), (2, .int a1)] [] (some (.int r)) w'
  unfold fX12_whose at h
  refine jr_aload_n dX12_whose_0 rfl 0 rfl ?_
  refine jr_iconst (v := (0 : Int32)) dX12_whose_1 (by decide) ?_
  refine pf_X12_1 rfl (rfl : kd 205 = 11) dX12_whose_2 ?_
  refine j_nmw (fun w_1 e_2 => ?_)
  replace h := drvL e_2 h
  refine jr_iload_n dX12_whose_5 rfl 1 rfl ?_
  refine jr_i2l dX12_whose_6 ?_
  refine jr_lconst (v := (0 : Int64)) dX12_whose_7 rfl ?_
  refine jr_aload_n dX12_whose_8 rfl 0 rfl ?_
  refine gf_X12_17 (r := 207) rfl (rfl : kd 205 = 11) rfl dX12_whose_9 ?_
  refine jr_sipush (v := (162 : Int32)) dX12_whose_12 (by decide) ?_
  refine jr_ialdL (k := 162) (rfl : kd 207 = 13) (vp_lit (by decide) (by decide)) (by decide) dX12_whose_15 ?_
  refine jr_iconst (v := (1 : Int32)) dX12_whose_16 (by decide) ?_
  refine jr_isub dX12_whose_17 ?_
  refine jr_i2l dX12_whose_18 ?_
  refine j_callSv lk_X12_81 wST_X12_within (tX12_within  (a0 := ((a0).toInt64)) (a1 := (0 : Int64)) (a2 := ((((wI w_1 207 162) - (1 : Int32))).toInt64)) (w := w_1)) (by omega) rfl rfl (Nat.le_of_ble_eq_true rfl) dX12_whose_19 ?_
  obtain ⟨j35_3, ej35_3, h⟩ := drvF h
  have hj35_3 : ∀ (_ : Unit), j35_3 = some (r, w') → J MX12_whose 7 w_1 35 [(0, .ref 205)] [] (some (.int r)) w' := by
    intro _ h
    rw [ej35_3] at h
    try dsimp only at h
    refine jr_aload_n dX12_whose_35 rfl 0 rfl ?_
    refine jr_bipush (v := (-2 : Int32)) dX12_whose_36 (by decide) ?_
    obtain ⟨r_6, w_5, hq_4, h⟩ := drvB2 h
    refine j_callVv lk_X12_85 wIM_X12_no wSE_X12_no (rfl : kd 205 = 11) (by decide) rfl (tX12_no  hq_4) (by omega) rfl rfl (Nat.le_of_ble_eq_true rfl) dX12_whose_38 ?_
    obtain ⟨rfl, rfl⟩ := drvS2 h
    exact jr_iret rfl dX12_whose_41
  refine jr_if_eq (tgt := 35) (nxt := 25) dX12_whose_22 (by decide) rfl (fun hc => ?_) (fun hc => ?_)
  · replace h := drvT hc h
    refine jr_sub [0] rfl ?_
    exact (hj35_3 ()) h
  · replace h := drvE hc h
    refine jr_iload_n dX12_whose_25 rfl 2 rfl ?_
    refine jr_i2l dX12_whose_26 ?_
    refine jr_lconst (v := (0 : Int64)) dX12_whose_27 rfl ?_
    refine jr_lconst (v := (1 : Int64)) dX12_whose_28 rfl ?_
    refine j_callSv lk_X12_81 wST_X12_within (tX12_within  (a0 := ((a1).toInt64)) (a1 := (0 : Int64)) (a2 := (1 : Int64)) (w := w_1)) (by omega) rfl rfl (Nat.le_of_ble_eq_true rfl) dX12_whose_29 ?_
    refine jr_if_ne (tgt := 42) (nxt := 35) dX12_whose_32 (by decide) rfl (fun hc => ?_) (fun hc => ?_)
    · replace h := drvE hc h
      refine jr_aload_n dX12_whose_42 rfl 0 rfl ?_
      obtain ⟨w_8, hq_7, h⟩ := drvB h
      refine j_callVn lk_X12_269 wIM_X12_smooths wSE_X12_smooths (rfl : kd 205 = 11) (by decide) rfl (tX12_smooths  hq_7) (by omega) rfl rfl (Nat.le_of_ble_eq_true rfl) dX12_whose_43 ?_
      refine jr_aload_n dX12_whose_46 rfl 0 rfl ?_
      refine jr_iload_n dX12_whose_47 rfl 1 rfl ?_
      obtain ⟨r_11, w_10, hq_9, h⟩ := drvB2 h
      refine j_callVv lk_X12_272 wIM_X12_whoseIs wSE_X12_whoseIs (rfl : kd 205 = 11) (by decide) rfl (tX12_whoseIs  hq_9) (by omega) rfl rfl (Nat.le_of_ble_eq_true rfl) dX12_whose_48 ?_
      refine jr_istore_n (lv' := [(3, .int r_11), (0, .ref 205), (1, .int a0), (2, .int a1)]) dX12_whose_51 rfl (by decide) rfl ?_
      refine jr_iload_n dX12_whose_52 rfl 3 rfl ?_
      refine jr_if_ne (tgt := 60) (nxt := 56) dX12_whose_53 (by decide) rfl (fun hc => ?_) (fun hc => ?_)
      · replace h := drvE hc h
        refine jr_aload_n dX12_whose_60 rfl 1 rfl ?_
        refine gf_X12_266 rfl (rfl : kd 205 = 11) dX12_whose_61 ?_
        obtain ⟨rfl, rfl⟩ := drvS2 h
        exact jr_iret rfl dX12_whose_64
      · replace h := drvT hc h
        refine jr_iload_n dX12_whose_56 rfl 0 rfl ?_
        refine jr_goto (tgt := 64) dX12_whose_57 (by decide) ?_
        obtain ⟨rfl, rfl⟩ := drvS2 h
        exact jr_iret rfl dX12_whose_64
    · replace h := drvT hc h
      refine jr_sub [0] rfl ?_
      exact (hj35_3 ()) h
set_option maxHeartbeats 4000000 in
set_option maxRecDepth 100000 in
theorem tX12_words {a0 : Int32} {a1 : Int32} {a2 : Int32} {w : jWd} {r : Int64} {w' : jWd}  (h : fX12_words a0 a1 a2 w = some (r, w')) : JM yX12_words MX12_words 3 [.ref 205, .int a0, .int a1, .int a2] w (some (.long r)) w' := by
  refine jm_of pl_X12 rfl (Nat.le_of_ble_eq_true rfl) ?_
  show J MX12_words 3 w 0 [(0, .ref 205), (1, .int a0), (2, .int a1), (3, .int a2)] [] (some (.long r)) w'
  unfold fX12_words at h
  refine jr_aload_n dX12_words_0 rfl 0 rfl ?_
  refine jr_iconst (v := (0 : Int32)) dX12_words_1 (by decide) ?_
  refine pf_X12_1 rfl (rfl : kd 205 = 11) dX12_words_2 ?_
  refine j_nmw (fun w_1 e_2 => ?_)
  replace h := drvL e_2 h
  refine jr_aload_n dX12_words_5 rfl 0 rfl ?_
  refine jr_iload_n dX12_words_6 rfl 1 rfl ?_
  refine jr_iload_n dX12_words_7 rfl 2 rfl ?_
  refine jr_iload_n dX12_words_8 rfl 3 rfl ?_
  obtain ⟨r_4, hq_3, h⟩ := drvB h
  refine j_callVv lk_X12_107 wIM_X12_isLine wSE_X12_isLine (rfl : kd 205 = 11) (by decide) rfl (tX12_isLine  hq_3) (by omega) rfl rfl (Nat.le_of_ble_eq_true rfl) dX12_words_9 ?_
  refine jr_if_ne (tgt := 23) (nxt := 15) dX12_words_12 (by decide) rfl (fun hc => ?_) (fun hc => ?_)
  · replace h := drvE hc h
    refine jr_iload_n dX12_words_23 rfl 1 rfl ?_
    by_cases hs_5 : a0 = (0 : Int32)
    · replace h := drvT hs_5 h
      refine jr_tableK (tgt := 56) dX12_words_24 hs_5 (by decide) (by decide) rfl (by decide) ?_
      refine jr_aload_n dX12_words_56 rfl 0 rfl ?_
      refine gf_X12_20 (r := 208) rfl (rfl : kd 205 = 11) rfl dX12_words_57 ?_
      refine jr_bipush (v := (12 : Int32)) dX12_words_60 (by decide) ?_
      refine jr_iload_n dX12_words_62 rfl 2 rfl ?_
      refine jr_imul dX12_words_63 ?_
      refine jr_iload_n dX12_words_64 rfl 3 rfl ?_
      refine jr_iadd dX12_words_65 ?_
      obtain ⟨hg_6, h⟩ := drvG h
      refine jr_lald (rfl : kd 208 = 14) hg_6 dX12_words_66 ?_
      obtain ⟨rfl, rfl⟩ := drvS2 h
      exact jr_lret rfl dX12_words_67
    replace h := drvE hs_5 h
    by_cases hs_7 : a0 = (1 : Int32)
    · replace h := drvT hs_7 h
      refine jr_tableK (tgt := 68) dX12_words_24 hs_7 (by decide) (by decide) rfl (by decide) ?_
      refine jr_aload_n dX12_words_68 rfl 0 rfl ?_
      refine gf_X12_20 (r := 208) rfl (rfl : kd 205 = 11) rfl dX12_words_69 ?_
      refine jr_sipush (v := (540 : Int32)) dX12_words_72 (by decide) ?_
      refine jr_bipush (v := (12 : Int32)) dX12_words_75 (by decide) ?_
      refine jr_iload_n dX12_words_77 rfl 2 rfl ?_
      refine jr_imul dX12_words_78 ?_
      refine jr_iadd dX12_words_79 ?_
      refine jr_iload_n dX12_words_80 rfl 3 rfl ?_
      refine jr_iadd dX12_words_81 ?_
      obtain ⟨hg_8, h⟩ := drvG h
      refine jr_lald (rfl : kd 208 = 14) hg_8 dX12_words_82 ?_
      obtain ⟨rfl, rfl⟩ := drvS2 h
      exact jr_lret rfl dX12_words_83
    replace h := drvE hs_7 h
    by_cases hs_9 : a0 = (2 : Int32)
    · replace h := drvT hs_9 h
      refine jr_tableK (tgt := 84) dX12_words_24 hs_9 (by decide) (by decide) rfl (by decide) ?_
      refine jr_aload_n dX12_words_84 rfl 0 rfl ?_
      refine gf_X12_20 (r := 208) rfl (rfl : kd 205 = 11) rfl dX12_words_85 ?_
      refine jr_sipush (v := (480 : Int32)) dX12_words_88 (by decide) ?_
      refine jr_iload_n dX12_words_91 rfl 3 rfl ?_
      refine jr_iadd dX12_words_92 ?_
      obtain ⟨hg_10, h⟩ := drvG h
      refine jr_lald (rfl : kd 208 = 14) hg_10 dX12_words_93 ?_
      obtain ⟨rfl, rfl⟩ := drvS2 h
      exact jr_lret rfl dX12_words_94
    replace h := drvE hs_9 h
    by_cases hs_11 : a0 = (3 : Int32)
    · replace h := drvT hs_11 h
      refine jr_tableK (tgt := 95) dX12_words_24 hs_11 (by decide) (by decide) rfl (by decide) ?_
      refine jr_aload_n dX12_words_95 rfl 0 rfl ?_
      refine gf_X12_20 (r := 208) rfl (rfl : kd 205 = 11) rfl dX12_words_96 ?_
      refine jr_sipush (v := (684 : Int32)) dX12_words_99 (by decide) ?_
      refine jr_iload_n dX12_words_102 rfl 2 rfl ?_
      refine jr_iadd dX12_words_103 ?_
      obtain ⟨hg_12, h⟩ := drvG h
      refine jr_lald (rfl : kd 208 = 14) hg_12 dX12_words_104 ?_
      obtain ⟨rfl, rfl⟩ := drvS2 h
      exact jr_lret rfl dX12_words_105
    replace h := drvE hs_11 h
    refine jr_tableOut (tgt := 106) dX12_words_24 (by have a0 := lv_neT hs_5 (show (0 : Int32).toInt = 0 from rfl); have a1 := lv_neT hs_7 (show (1 : Int32).toInt = 1 from rfl); have a2 := lv_neT hs_9 (show (2 : Int32).toInt = 2 from rfl); have a3 := lv_neT hs_11 (show (3 : Int32).toInt = 3 from rfl); omega) (by decide) ?_
    refine jr_aload_n dX12_words_106 rfl 0 rfl ?_
    refine gf_X12_20 (r := 208) rfl (rfl : kd 205 = 11) rfl dX12_words_107 ?_
    refine jr_sipush (v := (704 : Int32)) dX12_words_110 (by decide) ?_
    refine jr_iload_n dX12_words_113 rfl 2 rfl ?_
    refine jr_iadd dX12_words_114 ?_
    obtain ⟨hg_13, h⟩ := drvG h
    refine jr_lald (rfl : kd 208 = 14) hg_13 dX12_words_115 ?_
    obtain ⟨rfl, rfl⟩ := drvS2 h
    exact jr_lret rfl dX12_words_116
  · replace h := drvT hc h
    refine jr_aload_n dX12_words_15 rfl 0 rfl ?_
    refine jr_bipush (v := (-2 : Int32)) dX12_words_16 (by decide) ?_
    obtain ⟨r_16, w_15, hq_14, h⟩ := drvB2 h
    refine j_callVv lk_X12_85 wIM_X12_no wSE_X12_no (rfl : kd 205 = 11) (by decide) rfl (tX12_no  hq_14) (by omega) rfl rfl (Nat.le_of_ble_eq_true rfl) dX12_words_18 ?_
    refine jr_i2l dX12_words_21 ?_
    obtain ⟨rfl, rfl⟩ := drvS2 h
    exact jr_lret rfl dX12_words_22
set_option maxHeartbeats 4000000 in
set_option maxRecDepth 100000 in
theorem hbX12_world_64 {n : Nat} {k99 : jWd → (Option (Int32 × jWd))} {r : Int32} {w' : jWd} {rec : Int32 → jWd → Option (Int32 × jWd)} (hk99 : ∀ (w9 : jWd), k99 w9 = some (r, w') → J MX12_world 2 w9 99 [(0, .ref 205)] [] (some (.int r)) w')
    (hrec : ∀ (x2 : Int32) (w : jWd) , rec x2 w = some (r, w') → J MX12_world 2 w 64 [(0, .ref 205), (2, .int x2)] [] (some (.int r)) w') : ∀ (x2 : Int32) (w : jWd) , bX12_world_64 n k99 rec x2 w = some (r, w') → J MX12_world 2 w 64 [(0, .ref 205), (2, .int x2)] [] (some (.int r)) w' := by
  intro x2 w h
  unfold bX12_world_64 at h
  refine jr_iload_n dX12_world_64 rfl 1 rfl ?_
  refine jr_bipush (v := (16 : Int32)) dX12_world_65 (by decide) ?_
  refine jr_icmp_ge (tgt := 99) (nxt := 70) dX12_world_67 (by decide) rfl (fun hc => ?_) (fun hc => ?_)
  · replace h := drvT hc h
    refine jr_sub [0] rfl ?_
    exact hk99 _ h
  · replace h := drvE hc h
    refine jr_aload_n dX12_world_70 rfl 0 rfl ?_
    refine gf_X12_17 (r := 207) rfl (rfl : kd 205 = 11) rfl dX12_world_71 ?_
    refine jr_sipush (v := (996 : Int32)) dX12_world_74 (by decide) ?_
    refine jr_bipush (v := (16 : Int32)) dX12_world_77 (by decide) ?_
    refine jr_aload_n dX12_world_79 rfl 0 rfl ?_
    refine gf_X12_17 (r := 207) rfl (rfl : kd 205 = 11) rfl dX12_world_80 ?_
    refine jr_sipush (v := (987 : Int32)) dX12_world_83 (by decide) ?_
    refine jr_ialdL (k := 987) (rfl : kd 207 = 13) (vp_lit (by decide) (by decide)) (by decide) dX12_world_86 ?_
    refine jr_imul dX12_world_87 ?_
    refine jr_iadd dX12_world_88 ?_
    refine jr_iload_n dX12_world_89 rfl 1 rfl ?_
    refine jr_iadd dX12_world_90 ?_
    refine jr_iconst (v := (0 : Int32)) dX12_world_91 (by decide) ?_
    obtain ⟨hg_8, h⟩ := drvG h
    refine jr_iast (rfl : kd 207 = 13) hg_8 dX12_world_92 ?_
    refine j_nmw (fun w_6 e_7 => ?_)
    replace h := drvL e_7 h
    refine jr_iincN (c := (1 : Int32)) (lv' := fun (x2_9 : Int32) => [(2, .int x2_9), (0, .ref 205)]) dX12_world_93 (by decide) 1 rfl (by decide) (fun _ => rfl) (fun x2_9 e_10 => ?_)
    replace h := drvL e_10 h
    refine jr_goto (tgt := 64) dX12_world_96 (by decide) ?_
    refine jr_sub [1, 0] rfl ?_
    exact hrec _ _ h
theorem hlX12_world_64 {n : Nat} {k99 : jWd → (Option (Int32 × jWd))} {r : Int32} {w' : jWd} (hk99 : ∀ (w9 : jWd), k99 w9 = some (r, w') → J MX12_world 2 w9 99 [(0, .ref 205)] [] (some (.int r)) w') : ∀ (c : Nat) (x2 : Int32) (w : jWd) , lX12_world_64 n k99 c x2 w = some (r, w') → J MX12_world 2 w 64 [(0, .ref 205), (2, .int x2)] [] (some (.int r)) w' := by
  intro c
  induction c with
  | zero => intro x2 w h; cases h
  | succ c ih => intro x2 w h; exact hbX12_world_64 (n := n) hk99 ih _ _ h
set_option maxHeartbeats 4000000 in
set_option maxRecDepth 100000 in
theorem tX12_world {n : Nat} {a0 : Int32} {w : jWd} {r : Int32} {w' : jWd}  (h : fX12_world n a0 w = some (r, w')) : JM yX12_world MX12_world 2 [.ref 205, .int a0] w (some (.int r)) w' := by
  refine jm_of pl_X12 rfl (Nat.le_of_ble_eq_true rfl) ?_
  show J MX12_world 2 w 0 [(0, .ref 205), (1, .int a0)] [] (some (.int r)) w'
  unfold fX12_world at h
  refine jr_aload_n dX12_world_0 rfl 0 rfl ?_
  refine jr_iconst (v := (0 : Int32)) dX12_world_1 (by decide) ?_
  refine pf_X12_1 rfl (rfl : kd 205 = 11) dX12_world_2 ?_
  refine j_nmw (fun w_1 e_2 => ?_)
  replace h := drvL e_2 h
  refine jr_iload_n dX12_world_5 rfl 1 rfl ?_
  refine jr_i2l dX12_world_6 ?_
  refine jr_lconst (v := (1 : Int64)) dX12_world_7 rfl ?_
  refine jr_ldc2 (v := (99 : Int64)) wCC_X12_339 dX12_world_8 ?_
  refine j_callSv lk_X12_81 wST_X12_within (tX12_within  (a0 := ((a0).toInt64)) (a1 := (1 : Int64)) (a2 := (99 : Int64)) (w := w_1)) (by omega) rfl rfl (Nat.le_of_ble_eq_true rfl) dX12_world_11 ?_
  refine jr_if_ne (tgt := 24) (nxt := 17) dX12_world_14 (by decide) rfl (fun hc => ?_) (fun hc => ?_)
  · replace h := drvE hc h
    refine jr_aload_n dX12_world_24 rfl 0 rfl ?_
    refine gf_X12_17 (r := 207) rfl (rfl : kd 205 = 11) rfl dX12_world_25 ?_
    refine jr_sipush (v := (987 : Int32)) dX12_world_28 (by decide) ?_
    refine jr_ialdL (k := 987) (rfl : kd 207 = 13) (vp_lit (by decide) (by decide)) (by decide) dX12_world_31 ?_
    refine jr_bipush (v := (8 : Int32)) dX12_world_32 (by decide) ?_
    refine jr_icmp_ne (tgt := 44) (nxt := 37) dX12_world_34 (by decide) rfl (fun hc => ?_) (fun hc => ?_)
    · replace h := drvE hc h
      refine jr_aload_n dX12_world_44 rfl 0 rfl ?_
      refine gf_X12_17 (r := 207) rfl (rfl : kd 205 = 11) rfl dX12_world_45 ?_
      refine jr_sipush (v := (988 : Int32)) dX12_world_48 (by decide) ?_
      refine jr_aload_n dX12_world_51 rfl 0 rfl ?_
      refine gf_X12_17 (r := 207) rfl (rfl : kd 205 = 11) rfl dX12_world_52 ?_
      refine jr_sipush (v := (987 : Int32)) dX12_world_55 (by decide) ?_
      refine jr_ialdL (k := 987) (rfl : kd 207 = 13) (vp_lit (by decide) (by decide)) (by decide) dX12_world_58 ?_
      refine jr_iadd dX12_world_59 ?_
      refine jr_iload_n dX12_world_60 rfl 1 rfl ?_
      obtain ⟨hg_5, h⟩ := drvG h
      refine jr_iast (rfl : kd 207 = 13) hg_5 dX12_world_61 ?_
      refine j_nmw (fun w_3 e_4 => ?_)
      replace h := drvL e_4 h
      refine jr_iconst (v := (0 : Int32)) dX12_world_62 (by decide) ?_
      refine jr_istore_n (lv' := [(2, .int (0 : Int32)), (0, .ref 205), (1, .int a0)]) dX12_world_63 rfl (by decide) rfl ?_
      refine jr_sub [1, 0] rfl ?_
      refine hlX12_world_64  ?_ _ _ _ h
      · intro w_11 h
        try dsimp only at h
        refine jr_aload_n dX12_world_99 rfl 0 rfl ?_
        refine gf_X12_17 (r := 207) rfl (rfl : kd 205 = 11) rfl dX12_world_100 ?_
        refine jr_sipush (v := (987 : Int32)) dX12_world_103 (by decide) ?_
        refine jr_dup2_11 dX12_world_106 rfl rfl ?_
        refine jr_ialdL (k := 987) (rfl : kd 207 = 13) (vp_lit (by decide) (by decide)) (by decide) dX12_world_107 ?_
        refine jr_iconst (v := (1 : Int32)) dX12_world_108 (by decide) ?_
        refine jr_iadd dX12_world_109 ?_
        refine jr_iastL (k := 987) (rfl : kd 207 = 13) (vp_lit (by decide) (by decide)) (by decide) dX12_world_110 ?_
        refine j_nmw (fun w_12 e_13 => ?_)
        replace h := drvL e_13 h
        refine jr_aload_n dX12_world_111 rfl 0 rfl ?_
        refine gf_X12_17 (r := 207) rfl (rfl : kd 205 = 11) rfl dX12_world_112 ?_
        refine jr_sipush (v := (987 : Int32)) dX12_world_115 (by decide) ?_
        refine jr_ialdL (k := 987) (rfl : kd 207 = 13) (vp_lit (by decide) (by decide)) (by decide) dX12_world_118 ?_
        refine jr_iconst (v := (1 : Int32)) dX12_world_119 (by decide) ?_
        refine jr_isub dX12_world_120 ?_
        obtain ⟨rfl, rfl⟩ := drvS2 h
        exact jr_iret rfl dX12_world_121
    · replace h := drvT hc h
      refine jr_aload_n dX12_world_37 rfl 0 rfl ?_
      refine jr_bipush (v := (-4 : Int32)) dX12_world_38 (by decide) ?_
      obtain ⟨r_16, w_15, hq_14, h⟩ := drvB2 h
      refine j_callVv lk_X12_85 wIM_X12_no wSE_X12_no (rfl : kd 205 = 11) (by decide) rfl (tX12_no  hq_14) (by omega) rfl rfl (Nat.le_of_ble_eq_true rfl) dX12_world_40 ?_
      obtain ⟨rfl, rfl⟩ := drvS2 h
      exact jr_iret rfl dX12_world_43
  · replace h := drvT hc h
    refine jr_aload_n dX12_world_17 rfl 0 rfl ?_
    refine jr_bipush (v := (-3 : Int32)) dX12_world_18 (by decide) ?_
    obtain ⟨r_19, w_18, hq_17, h⟩ := drvB2 h
    refine j_callVv lk_X12_85 wIM_X12_no wSE_X12_no (rfl : kd 205 = 11) (by decide) rfl (tX12_no  hq_17) (by omega) rfl rfl (Nat.le_of_ble_eq_true rfl) dX12_world_20 ?_
    obtain ⟨rfl, rfl⟩ := drvS2 h
    exact jr_iret rfl dX12_world_23
set_option maxHeartbeats 4000000 in
set_option maxRecDepth 100000 in
theorem tX12_write {a0 : Int32} {a1 : Int32} {a2 : Int64} {w : jWd} {r : Int64} {w' : jWd}  (h : fX12_write a0 a1 a2 w = some (r, w')) : JM yX12_write MX12_write 2 [.ref 205, .int a0, .int a1, .long a2] w (some (.long r)) w' := by
  refine jm_of pl_X12 rfl (Nat.le_of_ble_eq_true rfl) ?_
  show J MX12_write 2 w 0 [(0, .ref 205), (1, .int a0), (2, .int a1), (3, .long a2)] [] (some (.long r)) w'
  unfold fX12_write at h
  refine jr_aload_n dX12_write_0 rfl 0 rfl ?_
  refine jr_iconst (v := (0 : Int32)) dX12_write_1 (by decide) ?_
  refine pf_X12_1 rfl (rfl : kd 205 = 11) dX12_write_2 ?_
  refine j_nmw (fun w_1 e_2 => ?_)
  replace h := drvL e_2 h
  refine jr_iload_n dX12_write_5 rfl 1 rfl ?_
  refine jr_i2l dX12_write_6 ?_
  refine jr_lconst (v := (0 : Int64)) dX12_write_7 rfl ?_
  refine jr_ldc2 (v := (3 : Int64)) wCC_X12_335 dX12_write_8 ?_
  refine j_callSv lk_X12_81 wST_X12_within (tX12_within  (a0 := ((a0).toInt64)) (a1 := (0 : Int64)) (a2 := (3 : Int64)) (w := w_1)) (by omega) rfl rfl (Nat.le_of_ble_eq_true rfl) dX12_write_11 ?_
  refine jr_if_ne (tgt := 25) (nxt := 17) dX12_write_14 (by decide) rfl (fun hc => ?_) (fun hc => ?_)
  · replace h := drvE hc h
    refine jr_aload_n dX12_write_25 rfl 0 rfl ?_
    refine gf_X12_64 (r := 221) rfl (rfl : kd 205 = 11) rfl dX12_write_26 ?_
    refine jr_iload_n dX12_write_29 rfl 1 rfl ?_
    obtain ⟨hg_3, h⟩ := drvG h
    refine jr_iald (rfl : kd 221 = 13) hg_3 dX12_write_30 ?_
    refine jr_iconst (v := (-1 : Int32)) dX12_write_31 (by decide) ?_
    refine jr_icmp_ne (tgt := 43) (nxt := 35) dX12_write_32 (by decide) rfl (fun hc => ?_) (fun hc => ?_)
    · replace h := drvE hc h
      refine jr_iload_n dX12_write_43 rfl 2 rfl ?_
      refine jr_i2l dX12_write_44 ?_
      refine jr_lconst (v := (0 : Int64)) dX12_write_45 rfl ?_
      refine jr_aload_n dX12_write_46 rfl 0 rfl ?_
      refine gf_X12_67 (r := 222) rfl (rfl : kd 205 = 11) rfl dX12_write_47 ?_
      refine jr_iload_n dX12_write_50 rfl 1 rfl ?_
      obtain ⟨hg_4, h⟩ := drvG h
      refine jr_iald (rfl : kd 222 = 13) hg_4 dX12_write_51 ?_
      refine jr_iconst (v := (1 : Int32)) dX12_write_52 (by decide) ?_
      refine jr_isub dX12_write_53 ?_
      refine jr_i2l dX12_write_54 ?_
      refine j_callSv lk_X12_81 wST_X12_within (tX12_within  (a0 := ((a1).toInt64)) (a1 := (0 : Int64)) (a2 := ((((wI w_1 222 (a0).toNatClampNeg) - (1 : Int32))).toInt64)) (w := w_1)) (by omega) rfl rfl (Nat.le_of_ble_eq_true rfl) dX12_write_55 ?_
      refine jr_if_ne (tgt := 69) (nxt := 61) dX12_write_58 (by decide) rfl (fun hc => ?_) (fun hc => ?_)
      · replace h := drvE hc h
        refine jr_aload_n dX12_write_69 rfl 0 rfl ?_
        refine gf_X12_70 (r := 223) rfl (rfl : kd 205 = 11) rfl dX12_write_70 ?_
        refine jr_bipush (v := (60 : Int32)) dX12_write_73 (by decide) ?_
        refine jr_iload_n dX12_write_75 rfl 1 rfl ?_
        refine jr_imul dX12_write_76 ?_
        refine jr_iload_n dX12_write_77 rfl 2 rfl ?_
        refine jr_iadd dX12_write_78 ?_
        refine jr_lload_n dX12_write_79 rfl 3 rfl ?_
        refine jr_aload_n dX12_write_80 rfl 0 rfl ?_
        refine gf_X12_64 (r := 221) rfl (rfl : kd 205 = 11) rfl dX12_write_81 ?_
        refine jr_iload_n dX12_write_84 rfl 1 rfl ?_
        obtain ⟨hg_5, h⟩ := drvG h
        refine jr_iald (rfl : kd 221 = 13) hg_5 dX12_write_85 ?_
        refine j_callSv lk_X12_361 wST_X12_cut (tX12_cut  (a0 := a2) (a1 := (wI w_1 221 (a0).toNatClampNeg)) (w := w_1)) (by omega) rfl rfl (Nat.le_of_ble_eq_true rfl) dX12_write_86 ?_
        obtain ⟨hg_8, h⟩ := drvG h
        refine jr_last (rfl : kd 223 = 14) hg_8 dX12_write_89 ?_
        refine j_nmw (fun w_6 e_7 => ?_)
        replace h := drvL e_7 h
        refine jr_aload_n dX12_write_90 rfl 0 rfl ?_
        refine gf_X12_70 (r := 223) rfl (rfl : kd 205 = 11) rfl dX12_write_91 ?_
        refine jr_bipush (v := (60 : Int32)) dX12_write_94 (by decide) ?_
        refine jr_iload_n dX12_write_96 rfl 1 rfl ?_
        refine jr_imul dX12_write_97 ?_
        refine jr_iload_n dX12_write_98 rfl 2 rfl ?_
        refine jr_iadd dX12_write_99 ?_
        obtain ⟨hg_9, h⟩ := drvG h
        refine jr_lald (rfl : kd 223 = 14) hg_9 dX12_write_100 ?_
        obtain ⟨rfl, rfl⟩ := drvS2 h
        exact jr_lret rfl dX12_write_101
      · replace h := drvT hc h
        refine jr_aload_n dX12_write_61 rfl 0 rfl ?_
        refine jr_bipush (v := (-7 : Int32)) dX12_write_62 (by decide) ?_
        obtain ⟨r_12, w_11, hq_10, h⟩ := drvB2 h
        refine j_callVv lk_X12_85 wIM_X12_no wSE_X12_no (rfl : kd 205 = 11) (by decide) rfl (tX12_no  hq_10) (by omega) rfl rfl (Nat.le_of_ble_eq_true rfl) dX12_write_64 ?_
        refine jr_i2l dX12_write_67 ?_
        obtain ⟨rfl, rfl⟩ := drvS2 h
        exact jr_lret rfl dX12_write_68
    · replace h := drvT hc h
      refine jr_aload_n dX12_write_35 rfl 0 rfl ?_
      refine jr_bipush (v := (-6 : Int32)) dX12_write_36 (by decide) ?_
      obtain ⟨r_15, w_14, hq_13, h⟩ := drvB2 h
      refine j_callVv lk_X12_85 wIM_X12_no wSE_X12_no (rfl : kd 205 = 11) (by decide) rfl (tX12_no  hq_13) (by omega) rfl rfl (Nat.le_of_ble_eq_true rfl) dX12_write_38 ?_
      refine jr_i2l dX12_write_41 ?_
      obtain ⟨rfl, rfl⟩ := drvS2 h
      exact jr_lret rfl dX12_write_42
  · replace h := drvT hc h
    refine jr_aload_n dX12_write_17 rfl 0 rfl ?_
    refine jr_bipush (v := (-2 : Int32)) dX12_write_18 (by decide) ?_
    obtain ⟨r_18, w_17, hq_16, h⟩ := drvB2 h
    refine j_callVv lk_X12_85 wIM_X12_no wSE_X12_no (rfl : kd 205 = 11) (by decide) rfl (tX12_no  hq_16) (by omega) rfl rfl (Nat.le_of_ble_eq_true rfl) dX12_write_20 ?_
    refine jr_i2l dX12_write_23 ?_
    obtain ⟨rfl, rfl⟩ := drvS2 h
    exact jr_lret rfl dX12_write_24
set_option maxHeartbeats 4000000 in
set_option maxRecDepth 100000 in
theorem tX12_year {a0 : Int32} {a1 : Int32} {w : jWd} {r : Int32} {w' : jWd}  (h : fX12_year a0 a1 w = some (r, w')) : JM yX12_year MX12_year 2 [.ref 205, .int a0, .int a1] w (some (.int r)) w' := by
  refine jm_of pl_X12 rfl (Nat.le_of_ble_eq_true rfl) ?_
  show J MX12_year 2 w 0 [(0, .ref 205), (1, .int a0), (2, .int a1)] [] (some (.int r)) w'
  unfold fX12_year at h
  refine jr_aload_n dX12_year_0 rfl 0 rfl ?_
  refine jr_iconst (v := (0 : Int32)) dX12_year_1 (by decide) ?_
  refine pf_X12_1 rfl (rfl : kd 205 = 11) dX12_year_2 ?_
  refine j_nmw (fun w_1 e_2 => ?_)
  replace h := drvL e_2 h
  refine jr_iload_n dX12_year_5 rfl 1 rfl ?_
  refine jr_i2l dX12_year_6 ?_
  refine jr_lconst (v := (1 : Int64)) dX12_year_7 rfl ?_
  refine jr_ldc2 (v := (255 : Int64)) wCC_X12_311 dX12_year_8 ?_
  refine j_callSv lk_X12_81 wST_X12_within (tX12_within  (a0 := ((a0).toInt64)) (a1 := (1 : Int64)) (a2 := (255 : Int64)) (w := w_1)) (by omega) rfl rfl (Nat.le_of_ble_eq_true rfl) dX12_year_11 ?_
  refine jr_if_ne (tgt := 24) (nxt := 17) dX12_year_14 (by decide) rfl (fun hc => ?_) (fun hc => ?_)
  · replace h := drvE hc h
    refine jr_iload_n dX12_year_24 rfl 2 rfl ?_
    refine jr_i2l dX12_year_25 ?_
    refine jr_lconst (v := (0 : Int64)) dX12_year_26 rfl ?_
    refine jr_ldc2 (v := (9999 : Int64)) wCC_X12_93 dX12_year_27 ?_
    refine j_callSv lk_X12_81 wST_X12_within (tX12_within  (a0 := ((a1).toInt64)) (a1 := (0 : Int64)) (a2 := (9999 : Int64)) (w := w_1)) (by omega) rfl rfl (Nat.le_of_ble_eq_true rfl) dX12_year_30 ?_
    refine jr_if_ne (tgt := 43) (nxt := 36) dX12_year_33 (by decide) rfl (fun hc => ?_) (fun hc => ?_)
    · replace h := drvE hc h
      refine jr_aload_n dX12_year_43 rfl 0 rfl ?_
      refine gf_X12_17 (r := 207) rfl (rfl : kd 205 = 11) rfl dX12_year_44 ?_
      refine jr_sipush (v := (250 : Int32)) dX12_year_47 (by decide) ?_
      refine jr_iload_n dX12_year_50 rfl 1 rfl ?_
      refine jr_iadd dX12_year_51 ?_
      obtain ⟨hg_3, h⟩ := drvG h
      refine jr_iald (rfl : kd 207 = 13) hg_3 dX12_year_52 ?_
      refine j_nmi (fun x3_4 e_5 => ?_)
      replace h := drvL e_5 h
      refine jr_istore_n (lv' := [(3, .int x3_4), (0, .ref 205), (1, .int a0), (2, .int a1)]) dX12_year_53 rfl (by decide) rfl ?_
      refine jr_aload_n dX12_year_54 rfl 1 rfl ?_
      refine gf_X12_17 (r := 207) rfl (rfl : kd 205 = 11) rfl dX12_year_55 ?_
      refine jr_sipush (v := (250 : Int32)) dX12_year_58 (by decide) ?_
      refine jr_iload_n dX12_year_61 rfl 2 rfl ?_
      refine jr_iadd dX12_year_62 ?_
      refine jr_iload_n dX12_year_63 rfl 3 rfl ?_
      obtain ⟨hg_8, h⟩ := drvG h
      refine jr_iast (rfl : kd 207 = 13) hg_8 dX12_year_64 ?_
      refine j_nmw (fun w_6 e_7 => ?_)
      replace h := drvL e_7 h
      refine jr_iload_n dX12_year_65 rfl 0 rfl ?_
      obtain ⟨rfl, rfl⟩ := drvS2 h
      exact jr_iret rfl dX12_year_66
    · replace h := drvT hc h
      refine jr_aload_n dX12_year_36 rfl 0 rfl ?_
      refine jr_bipush (v := (-3 : Int32)) dX12_year_37 (by decide) ?_
      obtain ⟨r_11, w_10, hq_9, h⟩ := drvB2 h
      refine j_callVv lk_X12_85 wIM_X12_no wSE_X12_no (rfl : kd 205 = 11) (by decide) rfl (tX12_no  hq_9) (by omega) rfl rfl (Nat.le_of_ble_eq_true rfl) dX12_year_39 ?_
      obtain ⟨rfl, rfl⟩ := drvS2 h
      exact jr_iret rfl dX12_year_42
  · replace h := drvT hc h
    refine jr_aload_n dX12_year_17 rfl 0 rfl ?_
    refine jr_bipush (v := (-2 : Int32)) dX12_year_18 (by decide) ?_
    obtain ⟨r_14, w_13, hq_12, h⟩ := drvB2 h
    refine j_callVv lk_X12_85 wIM_X12_no wSE_X12_no (rfl : kd 205 = 11) (by decide) rfl (tX12_no  hq_12) (by omega) rfl rfl (Nat.le_of_ble_eq_true rfl) dX12_year_20 ?_
    obtain ⟨rfl, rfl⟩ := drvS2 h
    exact jr_iret rfl dX12_year_23
