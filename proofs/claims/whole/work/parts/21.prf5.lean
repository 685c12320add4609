/-! each function is what its method does (by program) -/
set_option maxHeartbeats 4000000 in
set_option maxRecDepth 100000 in
theorem tX12_count {a0 : Int32} {w : jWd} {r : Int32} {w' : jWd}  (h : fX12_count a0 w = some (r, w')) : JM yX12_count MX12_count 2 [.ref 205, .int a0] w (some (.int r)) w' := by
  refine jm_of pl_X12 rfl (Nat.le_of_ble_eq_true rfl) ?_
  show J MX12_count 2 w 0 [(0, .ref 205), (1, .int a0)] [] (some (.int r)) w'
  unfold fX12_count at h
  refine jr_aload_n dX12_count_0 rfl 0 rfl ?_
  refine jr_iconst (v := (0 : Int32)) dX12_count_1 (by decide) ?_
  refine pf_X12_1 rfl (rfl : kd 205 = 11) dX12_count_2 ?_
  refine j_nmw (fun w_1 e_2 => ?_)
  replace h := drvL e_2 h
  refine jr_iload_n dX12_count_5 rfl 1 rfl ?_
  refine jr_i2l dX12_count_6 ?_
  refine jr_ldc2 (v := (100 : Int64)) wCC_X12_105 dX12_count_7 ?_
  refine jr_bipush (v := (99 : Int32)) dX12_count_10 (by decide) ?_
  refine jr_aload_n dX12_count_12 rfl 0 rfl ?_
  refine gf_X12_17 (r := 207) rfl (rfl : kd 205 = 11) rfl dX12_count_13 ?_
  refine jr_iconst (v := (0 : Int32)) dX12_count_16 (by decide) ?_
  refine jr_ialdL (k := 0) (rfl : kd 207 = 13) (vp_lit (by decide) (by decide)) (by decide) dX12_count_17 ?_
  refine jr_iadd dX12_count_18 ?_
  refine jr_i2l dX12_count_19 ?_
  refine j_callSv lk_X12_81 wST_X12_within (tX12_within  (a0 := ((a0).toInt64)) (a1 := (100 : Int64)) (a2 := ((((99 : Int32) + (wI w_1 207 0))).toInt64)) (w := w_1)) (by omega) rfl rfl (Nat.le_of_ble_eq_true rfl) dX12_count_20 ?_
  refine jr_if_eq (tgt := 39) (nxt := 26) dX12_count_23 (by decide) rfl (fun hc => ?_) (fun hc => ?_)
  · replace h := drvT hc h
    refine jr_iload_n dX12_count_39 rfl 1 rfl ?_
    refine jr_i2l dX12_count_40 ?_
    refine jr_ldc2 (v := (200 : Int64)) wCC_X12_373 dX12_count_41 ?_
    refine jr_sipush (v := (199 : Int32)) dX12_count_44 (by decide) ?_
    refine jr_aload_n dX12_count_47 rfl 0 rfl ?_
    refine gf_X12_17 (r := 207) rfl (rfl : kd 205 = 11) rfl dX12_count_48 ?_
    refine jr_sipush (v := (223 : Int32)) dX12_count_51 (by decide) ?_
    refine jr_ialdL (k := 223) (rfl : kd 207 = 13) (vp_lit (by decide) (by decide)) (by decide) dX12_count_54 ?_
    refine jr_iadd dX12_count_55 ?_
    refine jr_i2l dX12_count_56 ?_
    refine j_callSv lk_X12_81 wST_X12_within (tX12_within  (a0 := ((a0).toInt64)) (a1 := (200 : Int64)) (a2 := ((((199 : Int32) + (wI w_1 207 223))).toInt64)) (w := w_1)) (by omega) rfl rfl (Nat.le_of_ble_eq_true rfl) dX12_count_57 ?_
    refine jr_if_eq (tgt := 78) (nxt := 63) dX12_count_60 (by decide) rfl (fun hc => ?_) (fun hc => ?_)
    · replace h := drvT hc h
      refine jr_iload_n dX12_count_78 rfl 1 rfl ?_
      by_cases hs_3 : a0 = (0 : Int32)
      · replace h := drvT hs_3 h
        refine jr_tableK (tgt := 144) dX12_count_79 hs_3 (by decide) (by decide) rfl (by decide) ?_
        refine jr_aload_n dX12_count_144 rfl 0 rfl ?_
        refine gf_X12_17 (r := 207) rfl (rfl : kd 205 = 11) rfl dX12_count_145 ?_
        refine jr_iconst (v := (0 : Int32)) dX12_count_148 (by decide) ?_
        refine jr_ialdL (k := 0) (rfl : kd 207 = 13) (vp_lit (by decide) (by decide)) (by decide) dX12_count_149 ?_
        obtain ⟨rfl, rfl⟩ := drvS2 h
        exact jr_iret rfl dX12_count_150
      replace h := drvE hs_3 h
      by_cases hs_4 : a0 = (1 : Int32)
      · replace h := drvT hs_4 h
        refine jr_tableK (tgt := 151) dX12_count_79 hs_4 (by decide) (by decide) rfl (by decide) ?_
        refine jr_aload_n dX12_count_151 rfl 0 rfl ?_
        refine gf_X12_17 (r := 207) rfl (rfl : kd 205 = 11) rfl dX12_count_152 ?_
        refine jr_sipush (v := (223 : Int32)) dX12_count_155 (by decide) ?_
        refine jr_ialdL (k := 223) (rfl : kd 207 = 13) (vp_lit (by decide) (by decide)) (by decide) dX12_count_158 ?_
        obtain ⟨rfl, rfl⟩ := drvS2 h
        exact jr_iret rfl dX12_count_159
      replace h := drvE hs_4 h
      by_cases hs_5 : a0 = (2 : Int32)
      · replace h := drvT hs_5 h
        refine jr_tableK (tgt := 160) dX12_count_79 hs_5 (by decide) (by decide) rfl (by decide) ?_
        refine jr_aload_n dX12_count_160 rfl 0 rfl ?_
        refine gf_X12_17 (r := 207) rfl (rfl : kd 205 = 11) rfl dX12_count_161 ?_
        refine jr_sipush (v := (162 : Int32)) dX12_count_164 (by decide) ?_
        refine jr_ialdL (k := 162) (rfl : kd 207 = 13) (vp_lit (by decide) (by decide)) (by decide) dX12_count_167 ?_
        obtain ⟨rfl, rfl⟩ := drvS2 h
        exact jr_iret rfl dX12_count_168
      replace h := drvE hs_5 h
      by_cases hs_6 : a0 = (3 : Int32)
      · replace h := drvT hs_6 h
        refine jr_tableK (tgt := 169) dX12_count_79 hs_6 (by decide) (by decide) rfl (by decide) ?_
        refine jr_aload_n dX12_count_169 rfl 0 rfl ?_
        refine gf_X12_17 (r := 207) rfl (rfl : kd 205 = 11) rfl dX12_count_170 ?_
        refine jr_sipush (v := (547 : Int32)) dX12_count_173 (by decide) ?_
        refine jr_ialdL (k := 547) (rfl : kd 207 = 13) (vp_lit (by decide) (by decide)) (by decide) dX12_count_176 ?_
        obtain ⟨rfl, rfl⟩ := drvS2 h
        exact jr_iret rfl dX12_count_177
      replace h := drvE hs_6 h
      by_cases hs_7 : a0 = (4 : Int32)
      · replace h := drvT hs_7 h
        refine jr_tableK (tgt := 178) dX12_count_79 hs_7 (by decide) (by decide) rfl (by decide) ?_
        refine jr_aload_n dX12_count_178 rfl 0 rfl ?_
        refine gf_X12_17 (r := 207) rfl (rfl : kd 205 = 11) rfl dX12_count_179 ?_
        refine jr_sipush (v := (506 : Int32)) dX12_count_182 (by decide) ?_
        refine jr_ialdL (k := 506) (rfl : kd 207 = 13) (vp_lit (by decide) (by decide)) (by decide) dX12_count_185 ?_
        obtain ⟨rfl, rfl⟩ := drvS2 h
        exact jr_iret rfl dX12_count_186
      replace h := drvE hs_7 h
      by_cases hs_8 : a0 = (5 : Int32)
      · replace h := drvT hs_8 h
        refine jr_tableK (tgt := 187) dX12_count_79 hs_8 (by decide) (by decide) rfl (by decide) ?_
        refine jr_aload_n dX12_count_187 rfl 0 rfl ?_
        refine gf_X12_17 (r := 207) rfl (rfl : kd 205 = 11) rfl dX12_count_188 ?_
        refine jr_sipush (v := (848 : Int32)) dX12_count_191 (by decide) ?_
        refine jr_ialdL (k := 848) (rfl : kd 207 = 13) (vp_lit (by decide) (by decide)) (by decide) dX12_count_194 ?_
        obtain ⟨rfl, rfl⟩ := drvS2 h
        exact jr_iret rfl dX12_count_195
      replace h := drvE hs_8 h
      by_cases hs_9 : a0 = (6 : Int32)
      · replace h := drvT hs_9 h
        refine jr_tableK (tgt := 196) dX12_count_79 hs_9 (by decide) (by decide) rfl (by decide) ?_
        refine jr_aload_n dX12_count_196 rfl 0 rfl ?_
        refine gf_X12_17 (r := 207) rfl (rfl : kd 205 = 11) rfl dX12_count_197 ?_
        refine jr_sipush (v := (889 : Int32)) dX12_count_200 (by decide) ?_
        refine jr_ialdL (k := 889) (rfl : kd 207 = 13) (vp_lit (by decide) (by decide)) (by decide) dX12_count_203 ?_
        obtain ⟨rfl, rfl⟩ := drvS2 h
        exact jr_iret rfl dX12_count_204
      replace h := drvE hs_9 h
      by_cases hs_10 : a0 = (7 : Int32)
      · replace h := drvT hs_10 h
        refine jr_tableK (tgt := 205) dX12_count_79 hs_10 (by decide) (by decide) rfl (by decide) ?_
        refine jr_aload_n dX12_count_205 rfl 0 rfl ?_
        refine gf_X12_17 (r := 207) rfl (rfl : kd 205 = 11) rfl dX12_count_206 ?_
        refine jr_sipush (v := (970 : Int32)) dX12_count_209 (by decide) ?_
        refine jr_ialdL (k := 970) (rfl : kd 207 = 13) (vp_lit (by decide) (by decide)) (by decide) dX12_count_212 ?_
        obtain ⟨rfl, rfl⟩ := drvS2 h
        exact jr_iret rfl dX12_count_213
      replace h := drvE hs_10 h
      by_cases hs_11 : a0 = (8 : Int32)
      · replace h := drvT hs_11 h
        refine jr_tableK (tgt := 214) dX12_count_79 hs_11 (by decide) (by decide) rfl (by decide) ?_
        refine jr_aload_n dX12_count_214 rfl 0 rfl ?_
        refine gf_X12_17 (r := 207) rfl (rfl : kd 205 = 11) rfl dX12_count_215 ?_
        refine jr_sipush (v := (987 : Int32)) dX12_count_218 (by decide) ?_
        refine jr_ialdL (k := 987) (rfl : kd 207 = 13) (vp_lit (by decide) (by decide)) (by decide) dX12_count_221 ?_
        obtain ⟨rfl, rfl⟩ := drvS2 h
        exact jr_iret rfl dX12_count_222
      replace h := drvE hs_11 h
      by_cases hs_12 : a0 = (9 : Int32)
      · replace h := drvT hs_12 h
        refine jr_tableK (tgt := 223) dX12_count_79 hs_12 (by decide) (by decide) rfl (by decide) ?_
        refine jr_aload_n dX12_count_223 rfl 0 rfl ?_
        refine gf_X12_31 (r := 211) rfl (rfl : kd 205 = 11) rfl dX12_count_224 ?_
        refine jr_iconst (v := (0 : Int32)) dX12_count_227 (by decide) ?_
        refine jr_ialdL (k := 0) (rfl : kd 211 = 13) (vp_lit (by decide) (by decide)) (by decide) dX12_count_228 ?_
        obtain ⟨rfl, rfl⟩ := drvS2 h
        exact jr_iret rfl dX12_count_229
      replace h := drvE hs_12 h
      by_cases hs_13 : a0 = (10 : Int32)
      · replace h := drvT hs_13 h
        refine jr_tableK (tgt := 230) dX12_count_79 hs_13 (by decide) (by decide) rfl (by decide) ?_
        refine jr_aload_n dX12_count_230 rfl 0 rfl ?_
        refine gf_X12_34 (r := 212) rfl (rfl : kd 205 = 11) rfl dX12_count_231 ?_
        refine jr_iconst (v := (0 : Int32)) dX12_count_234 (by decide) ?_
        refine jr_ialdL (k := 0) (rfl : kd 212 = 13) (vp_lit (by decide) (by decide)) (by decide) dX12_count_235 ?_
        obtain ⟨rfl, rfl⟩ := drvS2 h
        exact jr_iret rfl dX12_count_236
      replace h := drvE hs_13 h
      by_cases hs_14 : a0 = (11 : Int32)
      · replace h := drvT hs_14 h
        refine jr_tableK (tgt := 237) dX12_count_79 hs_14 (by decide) (by decide) rfl (by decide) ?_
        refine jr_aload_n dX12_count_237 rfl 0 rfl ?_
        refine gf_X12_115 rfl (rfl : kd 205 = 11) dX12_count_238 ?_
        obtain ⟨rfl, rfl⟩ := drvS2 h
        exact jr_iret rfl dX12_count_241
      replace h := drvE hs_14 h
      by_cases hs_15 : a0 = (12 : Int32)
      · replace h := drvT hs_15 h
        refine jr_tableK (tgt := 242) dX12_count_79 hs_15 (by decide) (by decide) rfl (by decide) ?_
        refine jr_aload_n dX12_count_242 rfl 0 rfl ?_
        refine gf_X12_17 (r := 207) rfl (rfl : kd 205 = 11) rfl dX12_count_243 ?_
        refine jr_sipush (v := (161 : Int32)) dX12_count_246 (by decide) ?_
        refine jr_ialdL (k := 161) (rfl : kd 207 = 13) (vp_lit (by decide) (by decide)) (by decide) dX12_count_249 ?_
        obtain ⟨rfl, rfl⟩ := drvS2 h
        exact jr_iret rfl dX12_count_250
      replace h := drvE hs_15 h
      refine jr_tableOut (tgt := 251) dX12_count_79 (by have a0 := lv_neT hs_3 (show (0 : Int32).toInt = 0 from rfl); have a1 := lv_neT hs_4 (show (1 : Int32).toInt = 1 from rfl); have a2 := lv_neT hs_5 (show (2 : Int32).toInt = 2 from rfl); have a3 := lv_neT hs_6 (show (3 : Int32).toInt = 3 from rfl); have a4 := lv_neT hs_7 (show (4 : Int32).toInt = 4 from rfl); have a5 := lv_neT hs_8 (show (5 : Int32).toInt = 5 from rfl); have a6 := lv_neT hs_9 (show (6 : Int32).toInt = 6 from rfl); have a7 := lv_neT hs_10 (show (7 : Int32).toInt = 7 from rfl); have a8 := lv_neT hs_11 (show (8 : Int32).toInt = 8 from rfl); have a9 := lv_neT hs_12 (show (9 : Int32).toInt = 9 from rfl); have a10 := lv_neT hs_13 (show (10 : Int32).toInt = 10 from rfl); have a11 := lv_neT hs_14 (show (11 : Int32).toInt = 11 from rfl); have a12 := lv_neT hs_15 (show (12 : Int32).toInt = 12 from rfl); omega) (by decide) ?_
      refine jr_iconst (v := (-1 : Int32)) dX12_count_251 (by decide) ?_
      obtain ⟨rfl, rfl⟩ := drvS2 h
      exact jr_iret rfl dX12_count_252
    · replace h := drvE hc h
      refine jr_aload_n dX12_count_63 rfl 0 rfl ?_
      refine gf_X12_17 (r := 207) rfl (rfl : kd 205 = 11) rfl dX12_count_64 ?_
      refine jr_sipush (v := (236 : Int32)) dX12_count_67 (by decide) ?_
      refine jr_iload_n dX12_count_70 rfl 1 rfl ?_
      refine jr_iadd dX12_count_71 ?_
      refine jr_sipush (v := (200 : Int32)) dX12_count_72 (by decide) ?_
      refine jr_isub dX12_count_75 ?_
      obtain ⟨hg_16, h⟩ := drvG h
      refine jr_iald (rfl : kd 207 = 13) hg_16 dX12_count_76 ?_
      obtain ⟨rfl, rfl⟩ := drvS2 h
      exact jr_iret rfl dX12_count_77
  · replace h := drvE hc h
    refine jr_aload_n dX12_count_26 rfl 0 rfl ?_
    refine gf_X12_17 (r := 207) rfl (rfl : kd 205 = 11) rfl dX12_count_27 ?_
    refine jr_bipush (v := (121 : Int32)) dX12_count_30 (by decide) ?_
    refine jr_iload_n dX12_count_32 rfl 1 rfl ?_
    refine jr_iadd dX12_count_33 ?_
    refine jr_bipush (v := (100 : Int32)) dX12_count_34 (by decide) ?_
    refine jr_isub dX12_count_36 ?_
    obtain ⟨hg_17, h⟩ := drvG h
    refine jr_iald (rfl : kd 207 = 13) hg_17 dX12_count_37 ?_
    obtain ⟨rfl, rfl⟩ := drvS2 h
    exact jr_iret rfl dX12_count_38
set_option maxHeartbeats 4000000 in
set_option maxRecDepth 100000 in
theorem hbX12_counts_6 {n : Nat} {k25 : jWd → (Option jWd)} {w' : jWd} {rec : Int32 → jWd → Option jWd} (hk25 : ∀ (w9 : jWd), k25 w9 = some w' → J MX12_counts 7 w9 25 [(0, .ref 205)] [] none w')
    (hrec : ∀ (x1 : Int32) (w : jWd) , rec x1 w = some w' → J MX12_counts 7 w 6 [(0, .ref 205), (1, .int x1)] [] none w') : ∀ (x1 : Int32) (w : jWd) , bX12_counts_6 n k25 rec x1 w = some w' → J MX12_counts 7 w 6 [(0, .ref 205), (1, .int x1)] [] none w' := by
  intro x1 w h
  unfold bX12_counts_6 at h
  refine jr_iload_n dX12_counts_6 rfl 1 rfl ?_
  refine jr_bipush (v := (6 : Int32)) dX12_counts_7 (by decide) ?_
  refine jr_icmp_ge (tgt := 25) (nxt := 12) dX12_counts_9 (by decide) rfl (fun hc => ?_) (fun hc => ?_)
  · replace h := drvT hc h
    refine jr_sub [0] rfl ?_
    exact hk25 _ h
  · replace h := drvE hc h
    refine jr_aload_n dX12_counts_12 rfl 0 rfl ?_
    refine gf_X12_58 (r := 219) rfl (rfl : kd 205 = 11) rfl dX12_counts_13 ?_
    refine jr_iload_n dX12_counts_16 rfl 1 rfl ?_
    refine jr_iconst (v := (0 : Int32)) dX12_counts_17 (by decide) ?_
    obtain ⟨hg_5, h⟩ := drvG h
    refine jr_iast (rfl : kd 219 = 13) hg_5 dX12_counts_18 ?_
    refine j_nmw (fun w_3 e_4 => ?_)
    replace h := drvL e_4 h
    refine jr_iincN (c := (1 : Int32)) (lv' := fun (x1_6 : Int32) => [(1, .int x1_6), (0, .ref 205)]) dX12_counts_19 (by decide) 1 rfl (by decide) (fun _ => rfl) (fun x1_6 e_7 => ?_)
    replace h := drvL e_7 h
    refine jr_goto (tgt := 6) dX12_counts_22 (by decide) ?_
    refine jr_sub [1, 0] rfl ?_
    exact hrec _ _ h
theorem hlX12_counts_6 {n : Nat} {k25 : jWd → (Option jWd)} {w' : jWd} (hk25 : ∀ (w9 : jWd), k25 w9 = some w' → J MX12_counts 7 w9 25 [(0, .ref 205)] [] none w') : ∀ (c : Nat) (x1 : Int32) (w : jWd) , lX12_counts_6 n k25 c x1 w = some w' → J MX12_counts 7 w 6 [(0, .ref 205), (1, .int x1)] [] none w' := by
  intro c
  induction c with
  | zero => intro x1 w h; cases h
  | succ c ih => intro x1 w h; exact hbX12_counts_6 (n := n) hk25 ih _ _ h
set_option maxHeartbeats 4000000 in
set_option maxRecDepth 100000 in
theorem hbX12_counts_27 {n : Nat} {w' : jWd} {rec : Int32 → jWd → Option jWd} 
    (hrec : ∀ (x1 : Int32) (w : jWd) , rec x1 w = some w' → J MX12_counts 7 w 27 [(0, .ref 205), (1, .int x1)] [] none w') : ∀ (x1 : Int32) (w : jWd) , bX12_counts_27 n rec x1 w = some w' → J MX12_counts 7 w 27 [(0, .ref 205), (1, .int x1)] [] none w' := by
  intro x1 w h
  unfold bX12_counts_27 at h
  refine jr_iload_n dX12_counts_27 rfl 1 rfl ?_
  refine jr_aload_n dX12_counts_28 rfl 0 rfl ?_
  refine gf_X12_17 (r := 207) rfl (rfl : kd 205 = 11) rfl dX12_counts_29 ?_
  refine jr_sipush (v := (162 : Int32)) dX12_counts_32 (by decide) ?_
  refine jr_ialdL (k := 162) (rfl : kd 207 = 13) (vp_lit (by decide) (by decide)) (by decide) dX12_counts_35 ?_
  refine jr_icmp_ge (tgt := 59) (nxt := 39) dX12_counts_36 (by decide) rfl (fun hc => ?_) (fun hc => ?_)
  · replace h := drvT hc h
    obtain rfl := drvS1 h
    exact jr_vret rfl dX12_counts_59
  · replace h := drvE hc h
    refine jr_aload_n dX12_counts_39 rfl 0 rfl ?_
    refine gf_X12_58 (r := 219) rfl (rfl : kd 205 = 11) rfl dX12_counts_40 ?_
    refine jr_aload_n dX12_counts_43 rfl 0 rfl ?_
    refine jr_iload_n dX12_counts_44 rfl 1 rfl ?_
    obtain ⟨r_11, w_10, hq_9, h⟩ := drvB2 h
    refine j_callVv lk_X12_272 wIM_X12_whoseIs wSE_X12_whoseIs (rfl : kd 205 = 11) (by decide) rfl (tX12_whoseIs  hq_9) (by omega) rfl rfl (Nat.le_of_ble_eq_true rfl) dX12_counts_45 ?_
    refine jr_dup2_11 dX12_counts_48 rfl rfl ?_
    obtain ⟨hg_12, h⟩ := drvG h
    refine jr_iald (rfl : kd 219 = 13) hg_12 dX12_counts_49 ?_
    refine jr_iconst (v := (1 : Int32)) dX12_counts_50 (by decide) ?_
    refine jr_iadd dX12_counts_51 ?_
    obtain ⟨hg_15, h⟩ := drvG h
    refine jr_iast (rfl : kd 219 = 13) hg_15 dX12_counts_52 ?_
    refine j_nmw (fun w_13 e_14 => ?_)
    replace h := drvL e_14 h
    refine jr_iincN (c := (1 : Int32)) (lv' := fun (x1_16 : Int32) => [(1, .int x1_16), (0, .ref 205)]) dX12_counts_53 (by decide) 1 rfl (by decide) (fun _ => rfl) (fun x1_16 e_17 => ?_)
    replace h := drvL e_17 h
    refine jr_goto (tgt := 27) dX12_counts_56 (by decide) ?_
    refine jr_sub [1, 0] rfl ?_
    exact hrec _ _ h
theorem hlX12_counts_27 {n : Nat} {w' : jWd}  : ∀ (c : Nat) (x1 : Int32) (w : jWd) , lX12_counts_27 n c x1 w = some w' → J MX12_counts 7 w 27 [(0, .ref 205), (1, .int x1)] [] none w' := by
  intro c
  induction c with
  | zero => intro x1 w h; cases h
  | succ c ih => intro x1 w h; exact hbX12_counts_27 (n := n) ih _ _ h
set_option maxHeartbeats 4000000 in
set_option maxRecDepth 100000 in
theorem tX12_counts {n : Nat} {w : jWd} {w' : jWd}  (h : fX12_counts n w = some w') : JM yX12_counts MX12_counts 7 [.ref 205] w none w' := by
  refine jm_of pl_X12 rfl (Nat.le_of_ble_eq_true rfl) ?_
  show J MX12_counts 7 w 0 [(0, .ref 205)] [] none w'
  unfold fX12_counts at h
  refine jr_aload_n dX12_counts_0 rfl 0 rfl ?_
  obtain ⟨w_2, hq_1, h⟩ := drvB h
  refine j_callVn lk_X12_269 wIM_X12_smooths wSE_X12_smooths (rfl : kd 205 = 11) (by decide) rfl (tX12_smooths  hq_1) (by omega) rfl rfl (Nat.le_of_ble_eq_true rfl) dX12_counts_1 ?_
  refine jr_iconst (v := (0 : Int32)) dX12_counts_4 (by decide) ?_
  refine jr_istore_n (lv' := [(1, .int (0 : Int32)), (0, .ref 205)]) dX12_counts_5 rfl (by decide) rfl ?_
  refine jr_sub [1, 0] rfl ?_
  refine hlX12_counts_6  ?_ _ _ _ h
  · intro w_8 h
    try dsimp only at h
    refine jr_iconst (v := (0 : Int32)) dX12_counts_25 (by decide) ?_
    refine jr_istore_n (lv' := [(1, .int (0 : Int32)), (0, .ref 205)]) dX12_counts_26 rfl (by decide) rfl ?_
    refine jr_sub [1, 0] rfl ?_
    refine hlX12_counts_27   _ _ _ h
set_option maxHeartbeats 4000000 in
set_option maxRecDepth 100000 in
theorem tX12_cut {a0 : Int64} {a1 : Int32} {w : jWd}  : JM yX12_cut MX12_cut 1 [.long a0, .int a1] w (some (.long (fX12_cut a0 a1))) w := by
  refine jm_of pl_X12 rfl (Nat.le_of_ble_eq_true rfl) ?_
  show J MX12_cut 1 w 0 [(0, .long a0), (2, .int a1)] [] (some (.long (fX12_cut a0 a1))) w
  generalize h : (fX12_cut a0 a1) = r
  unfold fX12_cut at h
  refine jr_iload_n dX12_cut_0 rfl 1 rfl ?_
  refine jr_if_ne (tgt := 11) (nxt := 4) dX12_cut_1 (by decide) rfl (fun hc => ?_) (fun hc => ?_)
  · replace h := drvE hc h
    refine jr_iload_n dX12_cut_11 rfl 1 rfl ?_
    refine jr_iconst (v := (1 : Int32)) dX12_cut_12 (by decide) ?_
    refine jr_icmp_ne (tgt := 23) (nxt := 16) dX12_cut_13 (by decide) rfl (fun hc => ?_) (fun hc => ?_)
    · replace h := drvE hc h
      refine jr_iload_n dX12_cut_23 rfl 1 rfl ?_
      refine jr_iconst (v := (2 : Int32)) dX12_cut_24 (by decide) ?_
      refine jr_icmp_ne (tgt := 34) (nxt := 28) dX12_cut_25 (by decide) rfl (fun hc => ?_) (fun hc => ?_)
      · replace h := drvE hc h
        refine jr_lload_n dX12_cut_34 rfl 0 rfl ?_
        subst h
        exact jr_lret rfl dX12_cut_35
      · replace h := drvT hc h
        refine jr_lload_n dX12_cut_28 rfl 0 rfl ?_
        refine jr_l2i dX12_cut_29 ?_
        refine jr_i2l dX12_cut_30 ?_
        refine jr_goto (tgt := 35) dX12_cut_31 (by decide) ?_
        subst h
        exact jr_lret rfl dX12_cut_35
    · replace h := drvT hc h
      refine jr_lload_n dX12_cut_16 rfl 0 rfl ?_
      refine jr_l2i dX12_cut_17 ?_
      refine jr_i2s dX12_cut_18 ?_
      refine jr_i2l dX12_cut_19 ?_
      refine jr_goto (tgt := 35) dX12_cut_20 (by decide) ?_
      subst h
      exact jr_lret rfl dX12_cut_35
  · replace h := drvT hc h
    refine jr_lload_n dX12_cut_4 rfl 0 rfl ?_
    refine jr_l2i dX12_cut_5 ?_
    refine jr_i2b dX12_cut_6 ?_
    refine jr_i2l dX12_cut_7 ?_
    refine jr_goto (tgt := 35) dX12_cut_8 (by decide) ?_
    subst h
    exact jr_lret rfl dX12_cut_35
set_option maxHeartbeats 4000000 in
set_option maxRecDepth 100000 in
theorem tX12_draw {w : jWd} {r : Int32} {w' : jWd}  (h : fX12_draw w = some (r, w')) : JM yX12_draw MX12_draw 1 [.ref 205] w (some (.int r)) w' := by
  refine jm_of pl_X12 rfl (Nat.le_of_ble_eq_true rfl) ?_
  show J MX12_draw 1 w 0 [(0, .ref 205)] [] (some (.int r)) w'
  unfold fX12_draw at h
  refine jr_aload_n dX12_draw_0 rfl 0 rfl ?_
  refine jr_ldc (v := (1103515245 : Int32)) wCC_X12_240 dX12_draw_1 ?_
  refine jr_aload_n dX12_draw_3 rfl 0 rfl ?_
  refine gf_X12_241 rfl (rfl : kd 205 = 11) dX12_draw_4 ?_
  refine jr_imul dX12_draw_7 ?_
  refine jr_sipush (v := (12345 : Int32)) dX12_draw_8 (by decide) ?_
  refine jr_iadd dX12_draw_11 ?_
  refine pf_X12_241 rfl (rfl : kd 205 = 11) dX12_draw_12 ?_
  refine j_nmw (fun w_1 e_2 => ?_)
  replace h := drvL e_2 h
  refine jr_aload_n dX12_draw_15 rfl 0 rfl ?_
  refine gf_X12_241 rfl (rfl : kd 205 = 11) dX12_draw_16 ?_
  refine jr_bipush (v := (16 : Int32)) dX12_draw_19 (by decide) ?_
  refine jr_iushr dX12_draw_21 ?_
  refine jr_bipush (v := (100 : Int32)) dX12_draw_22 (by decide) ?_
  refine jr_irem dX12_draw_24 (by decide) ?_
  obtain ⟨rfl, rfl⟩ := drvS2 h
  exact jr_iret rfl dX12_draw_25
set_option maxHeartbeats 4000000 in
set_option maxRecDepth 100000 in
theorem tX12_is {a0 : Int32} {w : jWd}  : JM yX12_is MX12_is 1 [.ref 205, .int a0] w (some (.int (fX12_is a0 w))) w := by
  refine jm_of pl_X12 rfl (Nat.le_of_ble_eq_true rfl) ?_
  show J MX12_is 1 w 0 [(0, .ref 205), (1, .int a0)] [] (some (.int (fX12_is a0 w))) w
  generalize h : (fX12_is a0 w) = r
  unfold fX12_is at h
  refine jr_aload_n dX12_is_0 rfl 0 rfl ?_
  refine gf_X12_158 rfl (rfl : kd 205 = 11) dX12_is_1 ?_
  refine jr_if_ne (tgt := 19) (nxt := 7) dX12_is_4 (by decide) rfl (fun hc => ?_) (fun hc => ?_)
  · replace h := drvE hc h
    refine jr_iconst (v := (0 : Int32)) dX12_is_19 (by decide) ?_
    subst h
    exact jr_zret (ty := .boolean) rfl rfl dX12_is_20
  · replace h := drvT hc h
    refine jr_aload_n dX12_is_7 rfl 0 rfl ?_
    refine gf_X12_142 rfl (rfl : kd 205 = 11) dX12_is_8 ?_
    refine jr_iload_n dX12_is_11 rfl 1 rfl ?_
    refine jr_icmp_ne (tgt := 19) (nxt := 15) dX12_is_12 (by decide) rfl (fun hc => ?_) (fun hc => ?_)
    · replace h := drvE hc h
      refine jr_iconst (v := (0 : Int32)) dX12_is_19 (by decide) ?_
      subst h
      exact jr_zret (ty := .boolean) rfl rfl dX12_is_20
    · replace h := drvT hc h
      refine jr_iconst (v := (1 : Int32)) dX12_is_15 (by decide) ?_
      refine jr_goto (tgt := 20) dX12_is_16 (by decide) ?_
      subst h
      exact jr_zret (ty := .boolean) rfl rfl dX12_is_20
set_option maxHeartbeats 4000000 in
set_option maxRecDepth 100000 in
theorem tX12_see {a0 : Int32} {w : jWd} {r : Int32}  (h : fX12_see a0 w = some r) : JM yX12_see MX12_see 1 [.ref 205, .int a0] w (some (.int r)) w := by
  refine jm_of pl_X12 rfl (Nat.le_of_ble_eq_true rfl) ?_
  show J MX12_see 1 w 0 [(0, .ref 205), (1, .int a0)] [] (some (.int r)) w
  unfold fX12_see at h
  refine jr_iload_n dX12_see_0 rfl 1 rfl ?_
  refine jr_aload_n dX12_see_1 rfl 0 rfl ?_
  refine gf_X12_118 rfl (rfl : kd 205 = 11) dX12_see_2 ?_
  refine jr_icmp_ge (tgt := 17) (nxt := 8) dX12_see_5 (by decide) rfl (fun hc => ?_) (fun hc => ?_)
  · replace h := drvT hc h
    refine jr_iconst (v := (-1 : Int32)) dX12_see_17 (by decide) ?_
    obtain rfl := drvS1 h
    exact jr_iret rfl dX12_see_18
  · replace h := drvE hc h
    refine jr_aload_n dX12_see_8 rfl 0 rfl ?_
    refine gf_X12_37 (r := 213) rfl (rfl : kd 205 = 11) rfl dX12_see_9 ?_
    refine jr_iload_n dX12_see_12 rfl 1 rfl ?_
    obtain ⟨hg_1, h⟩ := drvG h
    refine jr_iald (rfl : kd 213 = 13) hg_1 dX12_see_13 ?_
    refine jr_goto (tgt := 18) dX12_see_14 (by decide) ?_
    obtain rfl := drvS1 h
    exact jr_iret rfl dX12_see_18
set_option maxHeartbeats 4000000 in
set_option maxRecDepth 100000 in
theorem tX12_isSmall {a0 : Int32} {w : jWd}  : JM yX12_isSmall MX12_isSmall 1 [.int a0] w (some (.int (fX12_isSmall a0))) w := by
  refine jm_of pl_X12 rfl (Nat.le_of_ble_eq_true rfl) ?_
  show J MX12_isSmall 1 w 0 [(0, .int a0)] [] (some (.int (fX12_isSmall a0))) w
  generalize h : (fX12_isSmall a0) = r
  unfold fX12_isSmall at h
  refine jr_iload_n dX12_isSmall_0 rfl 0 rfl ?_
  refine jr_bipush (v := (97 : Int32)) dX12_isSmall_1 (by decide) ?_
  refine jr_icmp_lt (tgt := 16) (nxt := 6) dX12_isSmall_3 (by decide) rfl (fun hc => ?_) (fun hc => ?_)
  · replace h := drvT hc h
    refine jr_iconst (v := (0 : Int32)) dX12_isSmall_16 (by decide) ?_
    subst h
    exact jr_zret (ty := .boolean) rfl rfl dX12_isSmall_17
  · replace h := drvE hc h
    refine jr_iload_n dX12_isSmall_6 rfl 0 rfl ?_
    refine jr_bipush (v := (122 : Int32)) dX12_isSmall_7 (by decide) ?_
    refine jr_icmp_gt (tgt := 16) (nxt := 12) dX12_isSmall_9 (by decide) rfl (fun hc => ?_) (fun hc => ?_)
    · replace h := drvT hc h
      refine jr_iconst (v := (0 : Int32)) dX12_isSmall_16 (by decide) ?_
      subst h
      exact jr_zret (ty := .boolean) rfl rfl dX12_isSmall_17
    · replace h := drvE hc h
      refine jr_iconst (v := (1 : Int32)) dX12_isSmall_12 (by decide) ?_
      refine jr_goto (tgt := 17) dX12_isSmall_13 (by decide) ?_
      subst h
      exact jr_zret (ty := .boolean) rfl rfl dX12_isSmall_17
set_option maxHeartbeats 4000000 in
set_option maxRecDepth 100000 in
theorem hbX12_keyAt_15 {n : Nat} {p1 : Int32} {p2 : Int32} {k69 : Int32 → (Option Int32)} {w : jWd} {r : Int32} {rec : Int32 → Option Int32} (hk69 : ∀ (z3 : Int32), k69 z3 = some r → J MX12_keyAt 7 w 69 [(0, .ref 205), (1, .int p1), (2, .int p2), (3, .int z3)] [] (some (.int r)) w)
    (hrec : ∀ (x3 : Int32) , rec x3 = some r → J MX12_keyAt 7 w 15 [(0, .ref 205), (1, .int p1), (2, .int p2), (3, .int x3)] [] (some (.int r)) w) : ∀ (x3 : Int32) , bX12_keyAt_15 n p1 p2 k69 w rec x3 = some r → J MX12_keyAt 7 w 15 [(0, .ref 205), (1, .int p1), (2, .int p2), (3, .int x3)] [] (some (.int r)) w := by
  intro x3 h
  unfold bX12_keyAt_15 at h
  refine jr_ldcs (i := 13) (q := ("NobodysBardModel", 121, " become if not and or has long tale lose move smooth say for ")) rfl rfl dX12_keyAt_15 ?_
  refine jr_iload_n dX12_keyAt_17 rfl 2 rfl ?_
  refine jr_iload_n dX12_keyAt_18 rfl 3 rfl ?_
  refine jr_iadd dX12_keyAt_19 ?_
  obtain ⟨hg_1, h⟩ := drvG h
  refine jr_strat wML_X12_129 (by decide) (Nat.le_of_ble_eq_true rfl) (by decide : 13 < jsN) hg_1 dX12_keyAt_20 ?_
  refine jr_bipush (v := (32 : Int32)) dX12_keyAt_23 (by decide) ?_
  refine jr_icmp_eq (tgt := 69) (nxt := 28) dX12_keyAt_25 (by decide) rfl (fun hc => ?_) (fun hc => ?_)
  · replace h := drvT hc h
    refine jr_sub [0, 1, 2, 3] rfl ?_
    exact hk69 _ h
  · replace h := drvE hc h
    refine jr_aload_n dX12_keyAt_28 rfl 0 rfl ?_
    refine gf_X12_133 rfl (rfl : kd 205 = 11) dX12_keyAt_29 ?_
    refine jr_iload_n dX12_keyAt_32 rfl 3 rfl ?_
    refine jr_iadd dX12_keyAt_33 ?_
    refine jr_aload_n dX12_keyAt_34 rfl 0 rfl ?_
    refine gf_X12_136 rfl (rfl : kd 205 = 11) dX12_keyAt_35 ?_
    refine jr_icmp_ge (tgt := 69) (nxt := 41) dX12_keyAt_38 (by decide) rfl (fun hc => ?_) (fun hc => ?_)
    · replace h := drvT hc h
      refine jr_sub [0, 1, 2, 3] rfl ?_
      exact hk69 _ h
    · replace h := drvE hc h
      refine jr_aload_n dX12_keyAt_41 rfl 0 rfl ?_
      refine gf_X12_37 (r := 213) rfl (rfl : kd 205 = 11) rfl dX12_keyAt_42 ?_
      refine jr_aload_n dX12_keyAt_45 rfl 0 rfl ?_
      refine gf_X12_133 rfl (rfl : kd 205 = 11) dX12_keyAt_46 ?_
      refine jr_iload_n dX12_keyAt_49 rfl 3 rfl ?_
      refine jr_iadd dX12_keyAt_50 ?_
      obtain ⟨hg_2, h⟩ := drvG h
      refine jr_iald (rfl : kd 213 = 13) hg_2 dX12_keyAt_51 ?_
      refine jr_ldcs (i := 13) (q := ("NobodysBardModel", 121, " become if not and or has long tale lose move smooth say for ")) rfl rfl dX12_keyAt_52 ?_
      refine jr_iload_n dX12_keyAt_54 rfl 2 rfl ?_
      refine jr_iload_n dX12_keyAt_55 rfl 3 rfl ?_
      refine jr_iadd dX12_keyAt_56 ?_
      obtain ⟨hg_3, h⟩ := drvG h
      refine jr_strat wML_X12_129 (by decide) (Nat.le_of_ble_eq_true rfl) (by decide : 13 < jsN) hg_3 dX12_keyAt_57 ?_
      refine jr_icmp_ne (tgt := 69) (nxt := 63) dX12_keyAt_60 (by decide) rfl (fun hc => ?_) (fun hc => ?_)
      · replace h := drvE hc h
        refine jr_sub [0, 1, 2, 3] rfl ?_
        exact hk69 _ h
      · replace h := drvT hc h
        refine jr_iincN (c := (1 : Int32)) (lv' := fun (x3_4 : Int32) => [(3, .int x3_4), (0, .ref 205), (1, .int p1), (2, .int p2)]) dX12_keyAt_63 (by decide) 3 rfl (by decide) (fun _ => rfl) (fun x3_4 e_5 => ?_)
        replace h := drvL e_5 h
        refine jr_goto (tgt := 15) dX12_keyAt_66 (by decide) ?_
        refine jr_sub [1, 2, 3, 0] rfl ?_
        exact hrec _ h
theorem hlX12_keyAt_15 {n : Nat} {p1 : Int32} {p2 : Int32} {k69 : Int32 → (Option Int32)} {w : jWd} {r : Int32} (hk69 : ∀ (z3 : Int32), k69 z3 = some r → J MX12_keyAt 7 w 69 [(0, .ref 205), (1, .int p1), (2, .int p2), (3, .int z3)] [] (some (.int r)) w) : ∀ (c : Nat) (x3 : Int32) , lX12_keyAt_15 n p1 p2 k69 w c x3 = some r → J MX12_keyAt 7 w 15 [(0, .ref 205), (1, .int p1), (2, .int p2), (3, .int x3)] [] (some (.int r)) w := by
  intro c
  induction c with
  | zero => intro x3 h; cases h
  | succ c ih => intro x3 h; exact hbX12_keyAt_15 (n := n) hk69 ih _ h
set_option maxHeartbeats 4000000 in
set_option maxRecDepth 100000 in
theorem hbX12_keyAt_97 {n : Nat} {p1 : Int32} {k114 : Int32 → (Option Int32)} {w : jWd} {r : Int32} {rec : Int32 → Option Int32} (hk114 : ∀ (z2 : Int32), k114 z2 = some r → J MX12_keyAt 7 w 114 [(0, .ref 205), (1, .int p1), (2, .int z2)] [] (some (.int r)) w)
    (hrec : ∀ (x2 : Int32) , rec x2 = some r → J MX12_keyAt 7 w 97 [(0, .ref 205), (1, .int p1), (2, .int x2)] [] (some (.int r)) w) : ∀ (x2 : Int32) , bX12_keyAt_97 n p1 k114 w rec x2 = some r → J MX12_keyAt 7 w 97 [(0, .ref 205), (1, .int p1), (2, .int x2)] [] (some (.int r)) w := by
  intro x2 h
  unfold bX12_keyAt_97 at h
  refine jr_ldcs (i := 13) (q := ("NobodysBardModel", 121, " become if not and or has long tale lose move smooth say for ")) rfl rfl dX12_keyAt_97 ?_
  refine jr_iload_n dX12_keyAt_99 rfl 2 rfl ?_
  obtain ⟨hg_16, h⟩ := drvG h
  refine jr_strat wML_X12_129 (by decide) (Nat.le_of_ble_eq_true rfl) (by decide : 13 < jsN) hg_16 dX12_keyAt_100 ?_
  refine jr_bipush (v := (32 : Int32)) dX12_keyAt_103 (by decide) ?_
  refine jr_icmp_eq (tgt := 114) (nxt := 108) dX12_keyAt_105 (by decide) rfl (fun hc => ?_) (fun hc => ?_)
  · replace h := drvT hc h
    refine jr_sub [0, 1, 2] rfl ?_
    exact hk114 _ h
  · replace h := drvE hc h
    refine jr_iincN (c := (1 : Int32)) (lv' := fun (x2_17 : Int32) => [(2, .int x2_17), (0, .ref 205), (1, .int p1)]) dX12_keyAt_108 (by decide) 2 rfl (by decide) (fun _ => rfl) (fun x2_17 e_18 => ?_)
    replace h := drvL e_18 h
    refine jr_goto (tgt := 97) dX12_keyAt_111 (by decide) ?_
    refine jr_sub [1, 2, 0] rfl ?_
    exact hrec _ h
theorem hlX12_keyAt_97 {n : Nat} {p1 : Int32} {k114 : Int32 → (Option Int32)} {w : jWd} {r : Int32} (hk114 : ∀ (z2 : Int32), k114 z2 = some r → J MX12_keyAt 7 w 114 [(0, .ref 205), (1, .int p1), (2, .int z2)] [] (some (.int r)) w) : ∀ (c : Nat) (x2 : Int32) , lX12_keyAt_97 n p1 k114 w c x2 = some r → J MX12_keyAt 7 w 97 [(0, .ref 205), (1, .int p1), (2, .int x2)] [] (some (.int r)) w := by
  intro c
  induction c with
  | zero => intro x2 h; cases h
  | succ c ih => intro x2 h; exact hbX12_keyAt_97 (n := n) hk114 ih _ h
set_option maxHeartbeats 4000000 in
set_option maxRecDepth 100000 in
theorem hbX12_keyAt_4 {n : Nat} {w : jWd} {r : Int32} {rec : Int32 → Int32 → Option Int32} 
    (hrec : ∀ (x1 : Int32) (x2 : Int32) , rec x1 x2 = some r → J MX12_keyAt 7 w 4 [(0, .ref 205), (1, .int x1), (2, .int x2)] [] (some (.int r)) w) : ∀ (x1 : Int32) (x2 : Int32) , bX12_keyAt_4 n w rec x1 x2 = some r → J MX12_keyAt 7 w 4 [(0, .ref 205), (1, .int x1), (2, .int x2)] [] (some (.int r)) w := by
  intro x1 x2 h
  unfold bX12_keyAt_4 at h
  refine jr_iload_n dX12_keyAt_4 rfl 2 rfl ?_
  refine jr_ldcs (i := 13) (q := ("NobodysBardModel", 121, " become if not and or has long tale lose move smooth say for ")) rfl rfl dX12_keyAt_5 ?_
  refine jr_strlen wML_X12_123 (by decide) (Nat.le_of_ble_eq_true rfl) (by decide : 13 < jsN) dX12_keyAt_7 ?_
  refine jr_icmp_ge (tgt := 123) (nxt := 13) dX12_keyAt_10 (by decide) rfl (fun hc => ?_) (fun hc => ?_)
  · replace h := drvT hc h
    refine jr_bipush (v := (13 : Int32)) dX12_keyAt_123 (by decide) ?_
    obtain rfl := drvS1 h
    exact jr_iret rfl dX12_keyAt_125
  · replace h := drvE hc h
    refine jr_iconst (v := (0 : Int32)) dX12_keyAt_13 (by decide) ?_
    refine jr_istore_n (lv' := [(3, .int (0 : Int32)), (0, .ref 205), (1, .int x1), (2, .int x2)]) dX12_keyAt_14 rfl (by decide) rfl ?_
    refine jr_sub [1, 2, 3, 0] rfl ?_
    refine hlX12_keyAt_15  ?_ _ _ h
    · intro z3_6 h
      try dsimp only at h
      refine jr_ldcs (i := 13) (q := ("NobodysBardModel", 121, " become if not and or has long tale lose move smooth say for ")) rfl rfl dX12_keyAt_69 ?_
      refine jr_iload_n dX12_keyAt_71 rfl 2 rfl ?_
      refine jr_iload_n dX12_keyAt_72 rfl 3 rfl ?_
      refine jr_iadd dX12_keyAt_73 ?_
      obtain ⟨hg_7, h⟩ := drvG h
      refine jr_strat wML_X12_129 (by decide) (Nat.le_of_ble_eq_true rfl) (by decide : 13 < jsN) hg_7 dX12_keyAt_74 ?_
      refine jr_bipush (v := (32 : Int32)) dX12_keyAt_77 (by decide) ?_
      obtain ⟨j97_8, ej97_8, h⟩ := drvF h
      have hj97_8 : ∀ (_ : Unit), j97_8 = some r → J MX12_keyAt 7 w 97 [(0, .ref 205), (1, .int x1), (2, .int x2)] [] (some (.int r)) w := by
        intro _ h
        rw [ej97_8] at h
        try dsimp only at h
        refine jr_ldcs (i := 13) (q := ("NobodysBardModel", 121, " become if not and or has long tale lose move smooth say for ")) rfl rfl dX12_keyAt_97 ?_
        refine jr_iload_n dX12_keyAt_99 rfl 2 rfl ?_
        obtain ⟨hg_9, h⟩ := drvG h
        refine jr_strat wML_X12_129 (by decide) (Nat.le_of_ble_eq_true rfl) (by decide : 13 < jsN) hg_9 dX12_keyAt_100 ?_
        refine jr_bipush (v := (32 : Int32)) dX12_keyAt_103 (by decide) ?_
        refine jr_icmp_eq (tgt := 114) (nxt := 108) dX12_keyAt_105 (by decide) rfl (fun hc => ?_) (fun hc => ?_)
        · replace h := drvT hc h
          refine jr_iincN (c := (1 : Int32)) (lv' := fun (x2_10 : Int32) => [(2, .int x2_10), (0, .ref 205), (1, .int x1)]) dX12_keyAt_114 (by decide) 2 rfl (by decide) (fun _ => rfl) (fun x2_10 e_11 => ?_)
          replace h := drvL e_11 h
          refine jr_iincN (c := (1 : Int32)) (lv' := fun (x1_12 : Int32) => [(1, .int x1_12), (2, .int x2_10), (0, .ref 205)]) dX12_keyAt_117 (by decide) 2 rfl (by decide) (fun _ => rfl) (fun x1_12 e_13 => ?_)
          replace h := drvL e_13 h
          refine jr_goto (tgt := 4) dX12_keyAt_120 (by decide) ?_
          refine jr_sub [2, 0, 1] rfl ?_
          exact hrec _ _ h
        · replace h := drvE hc h
          refine jr_iincN (c := (1 : Int32)) (lv' := fun (x2_14 : Int32) => [(2, .int x2_14), (0, .ref 205), (1, .int x1)]) dX12_keyAt_108 (by decide) 2 rfl (by decide) (fun _ => rfl) (fun x2_14 e_15 => ?_)
          replace h := drvL e_15 h
          refine jr_goto (tgt := 97) dX12_keyAt_111 (by decide) ?_
          refine jr_sub [1, 2, 0] rfl ?_
          refine hlX12_keyAt_97  ?_ _ _ h
          · intro z2_19 h
            try dsimp only at h
            refine jr_iincN (c := (1 : Int32)) (lv' := fun (x2_20 : Int32) => [(2, .int x2_20), (0, .ref 205), (1, .int x1)]) dX12_keyAt_114 (by decide) 2 rfl (by decide) (fun _ => rfl) (fun x2_20 e_21 => ?_)
            replace h := drvL e_21 h
            refine jr_iincN (c := (1 : Int32)) (lv' := fun (x1_22 : Int32) => [(1, .int x1_22), (2, .int x2_20), (0, .ref 205)]) dX12_keyAt_117 (by decide) 2 rfl (by decide) (fun _ => rfl) (fun x1_22 e_23 => ?_)
            replace h := drvL e_23 h
            refine jr_goto (tgt := 4) dX12_keyAt_120 (by decide) ?_
            refine jr_sub [2, 0, 1] rfl ?_
            exact hrec _ _ h
      refine jr_icmp_ne (tgt := 97) (nxt := 82) dX12_keyAt_79 (by decide) rfl (fun hc => ?_) (fun hc => ?_)
      · replace h := drvE hc h
        refine jr_sub [0, 1, 2] rfl ?_
        exact (hj97_8 ()) h
      · replace h := drvT hc h
        refine jr_aload_n dX12_keyAt_82 rfl 0 rfl ?_
        refine gf_X12_133 rfl (rfl : kd 205 = 11) dX12_keyAt_83 ?_
        refine jr_iload_n dX12_keyAt_86 rfl 3 rfl ?_
        refine jr_iadd dX12_keyAt_87 ?_
        refine jr_aload_n dX12_keyAt_88 rfl 0 rfl ?_
        refine gf_X12_136 rfl (rfl : kd 205 = 11) dX12_keyAt_89 ?_
        refine jr_icmp_ne (tgt := 97) (nxt := 95) dX12_keyAt_92 (by decide) rfl (fun hc => ?_) (fun hc => ?_)
        · replace h := drvE hc h
          refine jr_sub [0, 1, 2] rfl ?_
          exact (hj97_8 ()) h
        · replace h := drvT hc h
          refine jr_iload_n dX12_keyAt_95 rfl 1 rfl ?_
          obtain rfl := drvS1 h
          exact jr_iret rfl dX12_keyAt_96
theorem hlX12_keyAt_4 {n : Nat} {w : jWd} {r : Int32}  : ∀ (c : Nat) (x1 : Int32) (x2 : Int32) , lX12_keyAt_4 n w c x1 x2 = some r → J MX12_keyAt 7 w 4 [(0, .ref 205), (1, .int x1), (2, .int x2)] [] (some (.int r)) w := by
  intro c
  induction c with
  | zero => intro x1 x2 h; cases h
  | succ c ih => intro x1 x2 h; exact hbX12_keyAt_4 (n := n) ih _ _ h
set_option maxHeartbeats 4000000 in
set_option maxRecDepth 100000 in
theorem tX12_keyAt {n : Nat} {w : jWd} {r : Int32}  (h : fX12_keyAt n w = some r) : JM yX12_keyAt MX12_keyAt 7 [.ref 205] w (some (.int r)) w := by
  refine jm_of pl_X12 rfl (Nat.le_of_ble_eq_true rfl) ?_
  show J MX12_keyAt 7 w 0 [(0, .ref 205)] [] (some (.int r)) w
  unfold fX12_keyAt at h
  refine jr_iconst (v := (0 : Int32)) dX12_keyAt_0 (by decide) ?_
  refine jr_istore_n (lv' := [(1, .int (0 : Int32)), (0, .ref 205)]) dX12_keyAt_1 rfl (by decide) rfl ?_
  refine jr_iconst (v := (1 : Int32)) dX12_keyAt_2 (by decide) ?_
  refine jr_istore_n (lv' := [(2, .int (1 : Int32)), (1, .int (0 : Int32)), (0, .ref 205)]) dX12_keyAt_3 rfl (by decide) rfl ?_
  refine jr_sub [2, 1, 0] rfl ?_
  refine hlX12_keyAt_4   _ _ _ h
set_option maxHeartbeats 4000000 in
set_option maxRecDepth 100000 in
theorem tX12_isDigit {a0 : Int32} {w : jWd}  : JM yX12_isDigit MX12_isDigit 1 [.int a0] w (some (.int (fX12_isDigit a0))) w := by
  refine jm_of pl_X12 rfl (Nat.le_of_ble_eq_true rfl) ?_
  show J MX12_isDigit 1 w 0 [(0, .int a0)] [] (some (.int (fX12_isDigit a0))) w
  generalize h : (fX12_isDigit a0) = r
  unfold fX12_isDigit at h
  refine jr_iload_n dX12_isDigit_0 rfl 0 rfl ?_
  refine jr_bipush (v := (48 : Int32)) dX12_isDigit_1 (by decide) ?_
  refine jr_icmp_lt (tgt := 16) (nxt := 6) dX12_isDigit_3 (by decide) rfl (fun hc => ?_) (fun hc => ?_)
  · replace h := drvT hc h
    refine jr_iconst (v := (0 : Int32)) dX12_isDigit_16 (by decide) ?_
    subst h
    exact jr_zret (ty := .boolean) rfl rfl dX12_isDigit_17
  · replace h := drvE hc h
    refine jr_iload_n dX12_isDigit_6 rfl 0 rfl ?_
    refine jr_bipush (v := (57 : Int32)) dX12_isDigit_7 (by decide) ?_
    refine jr_icmp_gt (tgt := 16) (nxt := 12) dX12_isDigit_9 (by decide) rfl (fun hc => ?_) (fun hc => ?_)
    · replace h := drvT hc h
      refine jr_iconst (v := (0 : Int32)) dX12_isDigit_16 (by decide) ?_
      subst h
      exact jr_zret (ty := .boolean) rfl rfl dX12_isDigit_17
    · replace h := drvE hc h
      refine jr_iconst (v := (1 : Int32)) dX12_isDigit_12 (by decide) ?_
      refine jr_goto (tgt := 17) dX12_isDigit_13 (by decide) ?_
      subst h
      exact jr_zret (ty := .boolean) rfl rfl dX12_isDigit_17
set_option maxHeartbeats 4000000 in
set_option maxRecDepth 100000 in
theorem hbX12_next_8 {n : Nat} {k47 : jWd → (Option jWd)} {w' : jWd} {rec : jWd → Option jWd} (hk47 : ∀ (w9 : jWd), k47 w9 = some w' → J MX12_next 8 w9 47 [(0, .ref 205)] [] none w')
    (hrec : ∀ (w : jWd) , rec w = some w' → J MX12_next 8 w 8 [(0, .ref 205)] [] none w') : ∀ (w : jWd) , bX12_next_8 n k47 rec w = some w' → J MX12_next 8 w 8 [(0, .ref 205)] [] none w' := by
  intro w h
  unfold bX12_next_8 at h
  refine jr_aload_n dX12_next_8 rfl 0 rfl ?_
  refine jr_aload_n dX12_next_9 rfl 0 rfl ?_
  refine gf_X12_133 rfl (rfl : kd 205 = 11) dX12_next_10 ?_
  obtain ⟨r_4, hq_3, h⟩ := drvB h
  refine j_callVv lk_X12_139 wIM_X12_see wSE_X12_see (rfl : kd 205 = 11) (by decide) rfl (tX12_see  hq_3) (by omega) rfl rfl (Nat.le_of_ble_eq_true rfl) dX12_next_13 ?_
  refine jr_bipush (v := (10 : Int32)) dX12_next_16 (by decide) ?_
  obtain ⟨j34_5, ej34_5, h⟩ := drvF h
  have hj34_5 : ∀ (_ : Unit), j34_5 = some w' → J MX12_next 8 w 34 [(0, .ref 205)] [] none w' := by
    intro _ h
    rw [ej34_5] at h
    try dsimp only at h
    refine jr_aload_n dX12_next_34 rfl 0 rfl ?_
    refine jr_dup dX12_next_35 rfl ?_
    refine gf_X12_133 rfl (rfl : kd 205 = 11) dX12_next_36 ?_
    refine jr_iconst (v := (1 : Int32)) dX12_next_39 (by decide) ?_
    refine jr_iadd dX12_next_40 ?_
    refine pf_X12_133 rfl (rfl : kd 205 = 11) dX12_next_41 ?_
    refine j_nmw (fun w_6 e_7 => ?_)
    replace h := drvL e_7 h
    refine jr_goto (tgt := 8) dX12_next_44 (by decide) ?_
    refine jr_sub [0] rfl ?_
    exact hrec _ h
  refine jr_icmp_eq (tgt := 34) (nxt := 21) dX12_next_18 (by decide) rfl (fun hc => ?_) (fun hc => ?_)
  · replace h := drvT hc h
    refine jr_sub [0] rfl ?_
    exact (hj34_5 ()) h
  · replace h := drvE hc h
    refine jr_aload_n dX12_next_21 rfl 0 rfl ?_
    refine jr_aload_n dX12_next_22 rfl 0 rfl ?_
    refine gf_X12_133 rfl (rfl : kd 205 = 11) dX12_next_23 ?_
    obtain ⟨r_9, hq_8, h⟩ := drvB h
    refine j_callVv lk_X12_139 wIM_X12_see wSE_X12_see (rfl : kd 205 = 11) (by decide) rfl (tX12_see  hq_8) (by omega) rfl rfl (Nat.le_of_ble_eq_true rfl) dX12_next_26 ?_
    refine jr_bipush (v := (32 : Int32)) dX12_next_29 (by decide) ?_
    refine jr_icmp_ne (tgt := 47) (nxt := 34) dX12_next_31 (by decide) rfl (fun hc => ?_) (fun hc => ?_)
    · replace h := drvE hc h
      refine jr_sub [0] rfl ?_
      exact hk47 _ h
    · replace h := drvT hc h
      refine jr_sub [0] rfl ?_
      exact (hj34_5 ()) h
theorem hlX12_next_8 {n : Nat} {k47 : jWd → (Option jWd)} {w' : jWd} (hk47 : ∀ (w9 : jWd), k47 w9 = some w' → J MX12_next 8 w9 47 [(0, .ref 205)] [] none w') : ∀ (c : Nat) (w : jWd) , lX12_next_8 n k47 c w = some w' → J MX12_next 8 w 8 [(0, .ref 205)] [] none w' := by
  intro c
  induction c with
  | zero => intro w h; cases h
  | succ c ih => intro w h; exact hbX12_next_8 (n := n) hk47 ih _ h
set_option maxHeartbeats 4000000 in
set_option maxRecDepth 100000 in
theorem hbX12_next_146 {n : Nat} {k209 : jWd → (Option jWd)} {w' : jWd} {rec : jWd → Option jWd} (hk209 : ∀ (w9 : jWd), k209 w9 = some w' → J MX12_next 8 w9 209 [(0, .ref 205)] [] none w')
    (hrec : ∀ (w : jWd) , rec w = some w' → J MX12_next 8 w 146 [(0, .ref 205)] [] none w') : ∀ (w : jWd) , bX12_next_146 n k209 rec w = some w' → J MX12_next 8 w 146 [(0, .ref 205)] [] none w' := by
  intro w h
  unfold bX12_next_146 at h
  refine jr_aload_n dX12_next_146 rfl 0 rfl ?_
  refine jr_aload_n dX12_next_147 rfl 0 rfl ?_
  refine gf_X12_136 rfl (rfl : kd 205 = 11) dX12_next_148 ?_
  obtain ⟨r_32, hq_31, h⟩ := drvB h
  refine j_callVv lk_X12_139 wIM_X12_see wSE_X12_see (rfl : kd 205 = 11) (by decide) rfl (tX12_see  hq_31) (by omega) rfl rfl (Nat.le_of_ble_eq_true rfl) dX12_next_151 ?_
  refine j_callSv lk_X12_152 wST_X12_isDigit (tX12_isDigit  (a0 := r_32) (w := w)) (by omega) rfl rfl (Nat.le_of_ble_eq_true rfl) dX12_next_154 ?_
  refine jr_if_eq (tgt := 209) (nxt := 160) dX12_next_157 (by decide) rfl (fun hc => ?_) (fun hc => ?_)
  · replace h := drvT hc h
    refine jr_sub [0] rfl ?_
    exact hk209 _ h
  · replace h := drvE hc h
    refine jr_aload_n dX12_next_160 rfl 0 rfl ?_
    refine gf_X12_136 rfl (rfl : kd 205 = 11) dX12_next_161 ?_
    refine jr_aload_n dX12_next_164 rfl 0 rfl ?_
    refine gf_X12_133 rfl (rfl : kd 205 = 11) dX12_next_165 ?_
    refine jr_isub dX12_next_168 ?_
    refine jr_iconst (v := (3 : Int32)) dX12_next_169 (by decide) ?_
    obtain ⟨j196_34, ej196_34, h⟩ := drvF h
    have hj196_34 : ∀ (w_33 : jWd), j196_34 w_33 = some w' → J MX12_next 8 w_33 196 [(0, .ref 205)] [] none w' := by
      intro w_33 h
      rw [ej196_34] at h
      try dsimp only at h
      refine jr_aload_n dX12_next_196 rfl 0 rfl ?_
      refine jr_dup dX12_next_197 rfl ?_
      refine gf_X12_136 rfl (rfl : kd 205 = 11) dX12_next_198 ?_
      refine jr_iconst (v := (1 : Int32)) dX12_next_201 (by decide) ?_
      refine jr_iadd dX12_next_202 ?_
      refine pf_X12_136 rfl (rfl : kd 205 = 11) dX12_next_203 ?_
      refine j_nmw (fun w_35 e_36 => ?_)
      replace h := drvL e_36 h
      refine jr_goto (tgt := 146) dX12_next_206 (by decide) ?_
      refine jr_sub [0] rfl ?_
      exact hrec _ h
    refine jr_icmp_ge (tgt := 196) (nxt := 173) dX12_next_170 (by decide) rfl (fun hc => ?_) (fun hc => ?_)
    · replace h := drvT hc h
      refine jr_sub [0] rfl ?_
      exact hj196_34 _ h
    · replace h := drvE hc h
      refine jr_aload_n dX12_next_173 rfl 0 rfl ?_
      refine jr_bipush (v := (10 : Int32)) dX12_next_174 (by decide) ?_
      refine jr_aload_n dX12_next_176 rfl 0 rfl ?_
      refine gf_X12_155 rfl (rfl : kd 205 = 11) dX12_next_177 ?_
      refine jr_imul dX12_next_180 ?_
      refine jr_aload_n dX12_next_181 rfl 0 rfl ?_
      refine jr_aload_n dX12_next_182 rfl 0 rfl ?_
      refine gf_X12_136 rfl (rfl : kd 205 = 11) dX12_next_183 ?_
      obtain ⟨r_38, hq_37, h⟩ := drvB h
      refine j_callVv lk_X12_139 wIM_X12_see wSE_X12_see (rfl : kd 205 = 11) (by decide) rfl (tX12_see  hq_37) (by omega) rfl rfl (Nat.le_of_ble_eq_true rfl) dX12_next_186 ?_
      refine jr_iadd dX12_next_189 ?_
      refine jr_bipush (v := (48 : Int32)) dX12_next_190 (by decide) ?_
      refine jr_isub dX12_next_192 ?_
      refine pf_X12_155 rfl (rfl : kd 205 = 11) dX12_next_193 ?_
      refine j_nmw (fun w_39 e_40 => ?_)
      replace h := drvL e_40 h
      refine jr_sub [0] rfl ?_
      exact hj196_34 _ h
theorem hlX12_next_146 {n : Nat} {k209 : jWd → (Option jWd)} {w' : jWd} (hk209 : ∀ (w9 : jWd), k209 w9 = some w' → J MX12_next 8 w9 209 [(0, .ref 205)] [] none w') : ∀ (c : Nat) (w : jWd) , lX12_next_146 n k209 c w = some w' → J MX12_next 8 w 146 [(0, .ref 205)] [] none w' := by
  intro c
  induction c with
  | zero => intro w h; cases h
  | succ c ih => intro w h; exact hbX12_next_146 (n := n) hk209 ih _ h
set_option maxHeartbeats 4000000 in
set_option maxRecDepth 100000 in
theorem hbX12_next_89 {n : Nat} {k116 : jWd → (Option jWd)} {w' : jWd} {rec : jWd → Option jWd} (hk116 : ∀ (w9 : jWd), k116 w9 = some w' → J MX12_next 8 w9 116 [(0, .ref 205)] [] none w')
    (hrec : ∀ (w : jWd) , rec w = some w' → J MX12_next 8 w 89 [(0, .ref 205)] [] none w') : ∀ (w : jWd) , bX12_next_89 n k116 rec w = some w' → J MX12_next 8 w 89 [(0, .ref 205)] [] none w' := by
  intro w h
  unfold bX12_next_89 at h
  refine jr_aload_n dX12_next_89 rfl 0 rfl ?_
  refine jr_aload_n dX12_next_90 rfl 0 rfl ?_
  refine gf_X12_136 rfl (rfl : kd 205 = 11) dX12_next_91 ?_
  obtain ⟨r_47, hq_46, h⟩ := drvB h
  refine j_callVv lk_X12_139 wIM_X12_see wSE_X12_see (rfl : kd 205 = 11) (by decide) rfl (tX12_see  hq_46) (by omega) rfl rfl (Nat.le_of_ble_eq_true rfl) dX12_next_94 ?_
  refine j_callSv lk_X12_145 wST_X12_isSmall (tX12_isSmall  (a0 := r_47) (w := w)) (by omega) rfl rfl (Nat.le_of_ble_eq_true rfl) dX12_next_97 ?_
  refine jr_if_eq (tgt := 116) (nxt := 103) dX12_next_100 (by decide) rfl (fun hc => ?_) (fun hc => ?_)
  · replace h := drvT hc h
    refine jr_sub [0] rfl ?_
    exact hk116 _ h
  · replace h := drvE hc h
    refine jr_aload_n dX12_next_103 rfl 0 rfl ?_
    refine jr_dup dX12_next_104 rfl ?_
    refine gf_X12_136 rfl (rfl : kd 205 = 11) dX12_next_105 ?_
    refine jr_iconst (v := (1 : Int32)) dX12_next_108 (by decide) ?_
    refine jr_iadd dX12_next_109 ?_
    refine pf_X12_136 rfl (rfl : kd 205 = 11) dX12_next_110 ?_
    refine j_nmw (fun w_48 e_49 => ?_)
    replace h := drvL e_49 h
    refine jr_goto (tgt := 89) dX12_next_113 (by decide) ?_
    refine jr_sub [0] rfl ?_
    exact hrec _ h
theorem hlX12_next_89 {n : Nat} {k116 : jWd → (Option jWd)} {w' : jWd} (hk116 : ∀ (w9 : jWd), k116 w9 = some w' → J MX12_next 8 w9 116 [(0, .ref 205)] [] none w') : ∀ (c : Nat) (w : jWd) , lX12_next_89 n k116 c w = some w' → J MX12_next 8 w 89 [(0, .ref 205)] [] none w' := by
  intro c
  induction c with
  | zero => intro w h; cases h
  | succ c ih => intro w h; exact hbX12_next_89 (n := n) hk116 ih _ h
set_option maxHeartbeats 4000000 in
set_option maxRecDepth 100000 in
theorem tX12_next {n : Nat} {w : jWd} {w' : jWd}  (h : fX12_next n w = some w') : JM yX12_next MX12_next 8 [.ref 205] w none w' := by
  refine jm_of pl_X12 rfl (Nat.le_of_ble_eq_true rfl) ?_
  show J MX12_next 8 w 0 [(0, .ref 205)] [] none w'
  unfold fX12_next at h
  refine jr_aload_n dX12_next_0 rfl 0 rfl ?_
  refine jr_aload_n dX12_next_1 rfl 0 rfl ?_
  refine gf_X12_136 rfl (rfl : kd 205 = 11) dX12_next_2 ?_
  refine pf_X12_133 rfl (rfl : kd 205 = 11) dX12_next_5 ?_
  refine j_nmw (fun w_1 e_2 => ?_)
  replace h := drvL e_2 h
  refine jr_sub [0] rfl ?_
  refine hlX12_next_8  ?_ _ _ h
  · intro w_10 h
    try dsimp only at h
    refine jr_aload_n dX12_next_47 rfl 0 rfl ?_
    refine jr_aload_n dX12_next_48 rfl 0 rfl ?_
    refine gf_X12_133 rfl (rfl : kd 205 = 11) dX12_next_49 ?_
    refine pf_X12_136 rfl (rfl : kd 205 = 11) dX12_next_52 ?_
    refine j_nmw (fun w_11 e_12 => ?_)
    replace h := drvL e_12 h
    refine jr_aload_n dX12_next_55 rfl 0 rfl ?_
    refine gf_X12_133 rfl (rfl : kd 205 = 11) dX12_next_56 ?_
    refine jr_aload_n dX12_next_59 rfl 0 rfl ?_
    refine gf_X12_118 rfl (rfl : kd 205 = 11) dX12_next_60 ?_
    refine jr_icmp_lt (tgt := 75) (nxt := 66) dX12_next_63 (by decide) rfl (fun hc => ?_) (fun hc => ?_)
    · replace h := drvT hc h
      refine jr_aload_n dX12_next_75 rfl 0 rfl ?_
      refine jr_aload_n dX12_next_76 rfl 0 rfl ?_
      refine gf_X12_133 rfl (rfl : kd 205 = 11) dX12_next_77 ?_
      obtain ⟨r_14, hq_13, h⟩ := drvB h
      refine j_callVv lk_X12_139 wIM_X12_see wSE_X12_see (rfl : kd 205 = 11) (by decide) rfl (tX12_see  hq_13) (by omega) rfl rfl (Nat.le_of_ble_eq_true rfl) dX12_next_80 ?_
      refine j_callSv lk_X12_145 wST_X12_isSmall (tX12_isSmall  (a0 := r_14) (w := w_11)) (by omega) rfl rfl (Nat.le_of_ble_eq_true rfl) dX12_next_83 ?_
      refine jr_if_eq (tgt := 127) (nxt := 89) dX12_next_86 (by decide) rfl (fun hc => ?_) (fun hc => ?_)
      · replace h := drvT hc h
        refine jr_aload_n dX12_next_127 rfl 0 rfl ?_
        refine jr_aload_n dX12_next_128 rfl 0 rfl ?_
        refine gf_X12_133 rfl (rfl : kd 205 = 11) dX12_next_129 ?_
        obtain ⟨r_16, hq_15, h⟩ := drvB h
        refine j_callVv lk_X12_139 wIM_X12_see wSE_X12_see (rfl : kd 205 = 11) (by decide) rfl (tX12_see  hq_15) (by omega) rfl rfl (Nat.le_of_ble_eq_true rfl) dX12_next_132 ?_
        refine j_callSv lk_X12_152 wST_X12_isDigit (tX12_isDigit  (a0 := r_16) (w := w_11)) (by omega) rfl rfl (Nat.le_of_ble_eq_true rfl) dX12_next_135 ?_
        refine jr_if_eq (tgt := 236) (nxt := 141) dX12_next_138 (by decide) rfl (fun hc => ?_) (fun hc => ?_)
        · replace h := drvT hc h
          refine jr_aload_n dX12_next_236 rfl 0 rfl ?_
          refine jr_dup dX12_next_237 rfl ?_
          refine gf_X12_136 rfl (rfl : kd 205 = 11) dX12_next_238 ?_
          refine jr_iconst (v := (1 : Int32)) dX12_next_241 (by decide) ?_
          refine jr_iadd dX12_next_242 ?_
          refine pf_X12_136 rfl (rfl : kd 205 = 11) dX12_next_243 ?_
          refine j_nmw (fun w_17 e_18 => ?_)
          replace h := drvL e_18 h
          refine jr_aload_n dX12_next_246 rfl 0 rfl ?_
          refine jr_aload_n dX12_next_247 rfl 0 rfl ?_
          refine jr_aload_n dX12_next_248 rfl 0 rfl ?_
          refine gf_X12_133 rfl (rfl : kd 205 = 11) dX12_next_249 ?_
          obtain ⟨r_20, hq_19, h⟩ := drvB h
          refine j_callVv lk_X12_139 wIM_X12_see wSE_X12_see (rfl : kd 205 = 11) (by decide) rfl (tX12_see  hq_19) (by omega) rfl rfl (Nat.le_of_ble_eq_true rfl) dX12_next_252 ?_
          refine jr_bipush (v := (59 : Int32)) dX12_next_255 (by decide) ?_
          obtain ⟨j303_22, ej303_22, h⟩ := drvF h
          have hj303_22 : ∀ (s_21 : Int32), j303_22 s_21 = some w' → J MX12_next 8 w_17 303 [] [.int s_21, .ref 205] none w' := by
            intro s_21 h
            rw [ej303_22] at h
            try dsimp only at h
            refine pf_X12_142 rfl (rfl : kd 205 = 11) dX12_next_303 ?_
            refine j_nmw (fun w_23 e_24 => ?_)
            replace h := drvL e_24 h
            obtain rfl := drvS1 h
            exact jr_vret rfl dX12_next_306
          refine jr_icmp_ne (tgt := 265) (nxt := 260) dX12_next_257 (by decide) rfl (fun hc => ?_) (fun hc => ?_)
          · replace h := drvE hc h
            refine jr_aload_n dX12_next_265 rfl 0 rfl ?_
            refine jr_aload_n dX12_next_266 rfl 0 rfl ?_
            refine gf_X12_133 rfl (rfl : kd 205 = 11) dX12_next_267 ?_
            obtain ⟨r_26, hq_25, h⟩ := drvB h
            refine j_callVv lk_X12_139 wIM_X12_see wSE_X12_see (rfl : kd 205 = 11) (by decide) rfl (tX12_see  hq_25) (by omega) rfl rfl (Nat.le_of_ble_eq_true rfl) dX12_next_270 ?_
            refine jr_bipush (v := (40 : Int32)) dX12_next_273 (by decide) ?_
            refine jr_icmp_ne (tgt := 283) (nxt := 278) dX12_next_275 (by decide) rfl (fun hc => ?_) (fun hc => ?_)
            · replace h := drvE hc h
              refine jr_aload_n dX12_next_283 rfl 0 rfl ?_
              refine jr_aload_n dX12_next_284 rfl 0 rfl ?_
              refine gf_X12_133 rfl (rfl : kd 205 = 11) dX12_next_285 ?_
              obtain ⟨r_28, hq_27, h⟩ := drvB h
              refine j_callVv lk_X12_139 wIM_X12_see wSE_X12_see (rfl : kd 205 = 11) (by decide) rfl (tX12_see  hq_27) (by omega) rfl rfl (Nat.le_of_ble_eq_true rfl) dX12_next_288 ?_
              refine jr_bipush (v := (41 : Int32)) dX12_next_291 (by decide) ?_
              refine jr_icmp_ne (tgt := 301) (nxt := 296) dX12_next_293 (by decide) rfl (fun hc => ?_) (fun hc => ?_)
              · replace h := drvE hc h
                refine jr_bipush (v := (19 : Int32)) dX12_next_301 (by decide) ?_
                refine jr_sub [] rfl ?_
                exact hj303_22 _ h
              · replace h := drvT hc h
                refine jr_bipush (v := (17 : Int32)) dX12_next_296 (by decide) ?_
                refine jr_goto (tgt := 303) dX12_next_298 (by decide) ?_
                refine jr_sub [] rfl ?_
                exact hj303_22 _ h
            · replace h := drvT hc h
              refine jr_bipush (v := (16 : Int32)) dX12_next_278 (by decide) ?_
              refine jr_goto (tgt := 303) dX12_next_280 (by decide) ?_
              refine jr_sub [] rfl ?_
              exact hj303_22 _ h
          · replace h := drvT hc h
            refine jr_bipush (v := (15 : Int32)) dX12_next_260 (by decide) ?_
            refine jr_goto (tgt := 303) dX12_next_262 (by decide) ?_
            refine jr_sub [] rfl ?_
            exact hj303_22 _ h
        · replace h := drvE hc h
          refine jr_aload_n dX12_next_141 rfl 0 rfl ?_
          refine jr_iconst (v := (0 : Int32)) dX12_next_142 (by decide) ?_
          refine pf_X12_155 rfl (rfl : kd 205 = 11) dX12_next_143 ?_
          refine j_nmw (fun w_29 e_30 => ?_)
          replace h := drvL e_30 h
          refine jr_sub [0] rfl ?_
          refine hlX12_next_146  ?_ _ _ h
          · intro w_41 h
            try dsimp only at h
            refine jr_aload_n dX12_next_209 rfl 0 rfl ?_
            refine jr_aload_n dX12_next_210 rfl 0 rfl ?_
            refine gf_X12_136 rfl (rfl : kd 205 = 11) dX12_next_211 ?_
            refine jr_aload_n dX12_next_214 rfl 0 rfl ?_
            refine gf_X12_133 rfl (rfl : kd 205 = 11) dX12_next_215 ?_
            refine jr_isub dX12_next_218 ?_
            refine jr_iconst (v := (3 : Int32)) dX12_next_219 (by decide) ?_
            obtain ⟨j230_43, ej230_43, h⟩ := drvF h
            have hj230_43 : ∀ (s_42 : Int32), j230_43 s_42 = some w' → J MX12_next 8 w_41 230 [] [.int s_42, .ref 205] none w' := by
              intro s_42 h
              rw [ej230_43] at h
              try dsimp only at h
              refine pf_X12_142 rfl (rfl : kd 205 = 11) dX12_next_230 ?_
              refine j_nmw (fun w_44 e_45 => ?_)
              replace h := drvL e_45 h
              refine jr_goto (tgt := 306) dX12_next_233 (by decide) ?_
              obtain rfl := drvS1 h
              exact jr_vret rfl dX12_next_306
            refine jr_icmp_le (tgt := 228) (nxt := 223) dX12_next_220 (by decide) rfl (fun hc => ?_) (fun hc => ?_)
            · replace h := drvT hc h
              refine jr_bipush (v := (14 : Int32)) dX12_next_228 (by decide) ?_
              refine jr_sub [] rfl ?_
              exact hj230_43 _ h
            · replace h := drvE hc h
              refine jr_bipush (v := (19 : Int32)) dX12_next_223 (by decide) ?_
              refine jr_goto (tgt := 230) dX12_next_225 (by decide) ?_
              refine jr_sub [] rfl ?_
              exact hj230_43 _ h
      · replace h := drvE hc h
        refine jr_sub [0] rfl ?_
        refine hlX12_next_89  ?_ _ _ h
        · intro w_50 h
          try dsimp only at h
          refine jr_aload_n dX12_next_116 rfl 0 rfl ?_
          refine jr_aload_n dX12_next_117 rfl 0 rfl ?_
          obtain ⟨r_52, hq_51, h⟩ := drvB h
          refine j_callVv lk_X12_149 wIM_X12_keyAt wSE_X12_keyAt (rfl : kd 205 = 11) (by decide) rfl (tX12_keyAt  hq_51) (by omega) rfl rfl (Nat.le_of_ble_eq_true rfl) dX12_next_118 ?_
          refine pf_X12_142 rfl (rfl : kd 205 = 11) dX12_next_121 ?_
          refine j_nmw (fun w_53 e_54 => ?_)
          replace h := drvL e_54 h
          refine jr_goto (tgt := 306) dX12_next_124 (by decide) ?_
          obtain rfl := drvS1 h
          exact jr_vret rfl dX12_next_306
    · replace h := drvE hc h
      refine jr_aload_n dX12_next_66 rfl 0 rfl ?_
      refine jr_bipush (v := (18 : Int32)) dX12_next_67 (by decide) ?_
      refine pf_X12_142 rfl (rfl : kd 205 = 11) dX12_next_69 ?_
      refine j_nmw (fun w_55 e_56 => ?_)
      replace h := drvL e_56 h
      refine jr_goto (tgt := 306) dX12_next_72 (by decide) ?_
      obtain rfl := drvS1 h
      exact jr_vret rfl dX12_next_306
set_option maxHeartbeats 4000000 in
set_option maxRecDepth 100000 in
theorem tX12_eats {n : Nat} {a0 : Int32} {w : jWd} {r : Int32} {w' : jWd}  (h : fX12_eats n a0 w = some (r, w')) : JM yX12_eats MX12_eats 9 [.ref 205, .int a0] w (some (.int r)) w' := by
  refine jm_of pl_X12 rfl (Nat.le_of_ble_eq_true rfl) ?_
  show J MX12_eats 9 w 0 [(0, .ref 205), (1, .int a0)] [] (some (.int r)) w'
  unfold fX12_eats at h
  refine jr_aload_n dX12_eats_0 rfl 0 rfl ?_
  refine jr_iload_n dX12_eats_1 rfl 1 rfl ?_
  refine j_callVv lk_X12_164 wIM_X12_is wSE_X12_is (rfl : kd 205 = 11) (by decide) rfl (tX12_is  (a0 := a0) (w := w)) (by omega) rfl rfl (Nat.le_of_ble_eq_true rfl) dX12_eats_2 ?_
  refine jr_if_ne (tgt := 10) (nxt := 8) dX12_eats_5 (by decide) rfl (fun hc => ?_) (fun hc => ?_)
  · replace h := drvE hc h
    refine jr_aload_n dX12_eats_10 rfl 0 rfl ?_
    obtain ⟨w_2, hq_1, h⟩ := drvB h
    refine j_callVn lk_X12_167 wIM_X12_next wSE_X12_next (rfl : kd 205 = 11) (by decide) rfl (tX12_next  hq_1) (by omega) rfl rfl (Nat.le_of_ble_eq_true rfl) dX12_eats_11 ?_
    refine jr_iconst (v := (1 : Int32)) dX12_eats_14 (by decide) ?_
    obtain ⟨rfl, rfl⟩ := drvS2 h
    exact jr_zret (ty := .boolean) rfl rfl dX12_eats_15
  · replace h := drvT hc h
    refine jr_iconst (v := (0 : Int32)) dX12_eats_8 (by decide) ?_
    obtain ⟨rfl, rfl⟩ := drvS2 h
    exact jr_zret (ty := .boolean) rfl rfl dX12_eats_9
set_option maxHeartbeats 4000000 in
set_option maxRecDepth 100000 in
theorem tX12_emit {a0 : Int32} {a1 : Int32} {w : jWd} {w' : jWd}  (h : fX12_emit a0 a1 w = some w') : JM yX12_emit MX12_emit 1 [.ref 205, .int a0, .int a1] w none w' := by
  refine jm_of pl_X12 rfl (Nat.le_of_ble_eq_true rfl) ?_
  show J MX12_emit 1 w 0 [(0, .ref 205), (1, .int a0), (2, .int a1)] [] none w'
  unfold fX12_emit at h
  refine jr_aload_n dX12_emit_0 rfl 0 rfl ?_
  refine gf_X12_31 (r := 211) rfl (rfl : kd 205 = 11) rfl dX12_emit_1 ?_
  refine jr_sipush (v := (2080 : Int32)) dX12_emit_4 (by decide) ?_
  refine jr_iconst (v := (2 : Int32)) dX12_emit_7 (by decide) ?_
  refine jr_aload_n dX12_emit_8 rfl 0 rfl ?_
  refine gf_X12_177 rfl (rfl : kd 205 = 11) dX12_emit_9 ?_
  refine jr_imul dX12_emit_12 ?_
  refine jr_iadd dX12_emit_13 ?_
  refine jr_iload_n dX12_emit_14 rfl 1 rfl ?_
  obtain ⟨hg_3, h⟩ := drvG h
  refine jr_iast (rfl : kd 211 = 13) hg_3 dX12_emit_15 ?_
  refine j_nmw (fun w_1 e_2 => ?_)
  replace h := drvL e_2 h
  refine jr_aload_n dX12_emit_16 rfl 0 rfl ?_
  refine gf_X12_31 (r := 211) rfl (rfl : kd 205 = 11) rfl dX12_emit_17 ?_
  refine jr_sipush (v := (2080 : Int32)) dX12_emit_20 (by decide) ?_
  refine jr_iconst (v := (2 : Int32)) dX12_emit_23 (by decide) ?_
  refine jr_aload_n dX12_emit_24 rfl 0 rfl ?_
  refine gf_X12_177 rfl (rfl : kd 205 = 11) dX12_emit_25 ?_
  refine jr_imul dX12_emit_28 ?_
  refine jr_iadd dX12_emit_29 ?_
  refine jr_iconst (v := (1 : Int32)) dX12_emit_30 (by decide) ?_
  refine jr_iadd dX12_emit_31 ?_
  refine jr_iload_n dX12_emit_32 rfl 2 rfl ?_
  obtain ⟨hg_6, h⟩ := drvG h
  refine jr_iast (rfl : kd 211 = 13) hg_6 dX12_emit_33 ?_
  refine j_nmw (fun w_4 e_5 => ?_)
  replace h := drvL e_5 h
  refine jr_aload_n dX12_emit_34 rfl 0 rfl ?_
  refine jr_dup dX12_emit_35 rfl ?_
  refine gf_X12_177 rfl (rfl : kd 205 = 11) dX12_emit_36 ?_
  refine jr_iconst (v := (1 : Int32)) dX12_emit_39 (by decide) ?_
  refine jr_iadd dX12_emit_40 ?_
  refine pf_X12_177 rfl (rfl : kd 205 = 11) dX12_emit_41 ?_
  refine j_nmw (fun w_7 e_8 => ?_)
  replace h := drvL e_8 h
  obtain rfl := drvS1 h
  exact jr_vret rfl dX12_emit_44
set_option maxHeartbeats 4000000 in
set_option maxRecDepth 100000 in
theorem tX12_fails {a0 : Int32} {w : jWd} {w' : jWd}  (h : fX12_fails a0 w = some w') : JM yX12_fails MX12_fails 1 [.ref 205, .int a0] w none w' := by
  refine jm_of pl_X12 rfl (Nat.le_of_ble_eq_true rfl) ?_
  show J MX12_fails 1 w 0 [(0, .ref 205), (1, .int a0)] [] none w'
  unfold fX12_fails at h
  refine jr_aload_n dX12_fails_0 rfl 0 rfl ?_
  refine gf_X12_158 rfl (rfl : kd 205 = 11) dX12_fails_1 ?_
  refine jr_if_eq (tgt := 8) (nxt := 7) dX12_fails_4 (by decide) rfl (fun hc => ?_) (fun hc => ?_)
  · replace h := drvT hc h
    refine jr_aload_n dX12_fails_8 rfl 0 rfl ?_
    refine jr_aload_n dX12_fails_9 rfl 0 rfl ?_
    refine gf_X12_142 rfl (rfl : kd 205 = 11) dX12_fails_10 ?_
    refine jr_bipush (v := (19 : Int32)) dX12_fails_13 (by decide) ?_
    obtain ⟨j23_2, ej23_2, h⟩ := drvF h
    have hj23_2 : ∀ (s_1 : Int32), j23_2 s_1 = some w' → J MX12_fails 1 w 23 [(0, .ref 205)] [.int s_1, .ref 205] none w' := by
      intro s_1 h
      rw [ej23_2] at h
      try dsimp only at h
      refine pf_X12_158 rfl (rfl : kd 205 = 11) dX12_fails_23 ?_
      refine j_nmw (fun w_3 e_4 => ?_)
      replace h := drvL e_4 h
      refine jr_aload_n dX12_fails_26 rfl 0 rfl ?_
      refine jr_aload_n dX12_fails_27 rfl 0 rfl ?_
      refine gf_X12_133 rfl (rfl : kd 205 = 11) dX12_fails_28 ?_
      refine pf_X12_161 rfl (rfl : kd 205 = 11) dX12_fails_31 ?_
      refine j_nmw (fun w_5 e_6 => ?_)
      replace h := drvL e_6 h
      obtain rfl := drvS1 h
      exact jr_vret rfl dX12_fails_34
    refine jr_icmp_ne (tgt := 22) (nxt := 18) dX12_fails_15 (by decide) rfl (fun hc => ?_) (fun hc => ?_)
    · replace h := drvE hc h
      refine jr_iload_n dX12_fails_22 rfl 1 rfl ?_
      refine jr_sub [0] rfl ?_
      exact hj23_2 _ h
    · replace h := drvT hc h
      refine jr_iconst (v := (1 : Int32)) dX12_fails_18 (by decide) ?_
      refine jr_goto (tgt := 23) dX12_fails_19 (by decide) ?_
      refine jr_sub [0] rfl ?_
      exact hj23_2 _ h
  · replace h := drvE hc h
    obtain rfl := drvS1 h
    exact jr_vret rfl dX12_fails_7
set_option maxHeartbeats 4000000 in
set_option maxRecDepth 100000 in
theorem tX12_needs {n : Nat} {a0 : Int32} {w : jWd} {w' : jWd}  (h : fX12_needs n a0 w = some w') : JM yX12_needs MX12_needs 10 [.ref 205, .int a0] w none w' := by
  refine jm_of pl_X12 rfl (Nat.le_of_ble_eq_true rfl) ?_
  show J MX12_needs 10 w 0 [(0, .ref 205), (1, .int a0)] [] none w'
  unfold fX12_needs at h
  refine jr_aload_n dX12_needs_0 rfl 0 rfl ?_
  refine jr_iload_n dX12_needs_1 rfl 1 rfl ?_
  obtain ⟨r_3, w_2, hq_1, h⟩ := drvB2 h
  refine j_callVv lk_X12_170 wIM_X12_eats wSE_X12_eats (rfl : kd 205 = 11) (by decide) rfl (tX12_eats  hq_1) (by omega) rfl rfl (Nat.le_of_ble_eq_true rfl) dX12_needs_2 ?_
  refine jr_if_ne (tgt := 13) (nxt := 8) dX12_needs_5 (by decide) rfl (fun hc => ?_) (fun hc => ?_)
  · replace h := drvE hc h
    obtain rfl := drvS1 h
    exact jr_vret rfl dX12_needs_13
  · replace h := drvT hc h
    refine jr_aload_n dX12_needs_8 rfl 0 rfl ?_
    refine jr_iconst (v := (2 : Int32)) dX12_needs_9 (by decide) ?_
    obtain ⟨w_5, hq_4, h⟩ := drvB h
    refine j_callVn lk_X12_173 wIM_X12_fails wSE_X12_fails (rfl : kd 205 = 11) (by decide) rfl (tX12_fails  hq_4) (by omega) rfl rfl (Nat.le_of_ble_eq_true rfl) dX12_needs_10 ?_
    obtain rfl := drvS1 h
    exact jr_vret rfl dX12_needs_13
set_option maxHeartbeats 4000000 in
set_option maxRecDepth 100000 in
theorem tX12_reads {n : Nat} {a0 : Int32} {a1 : Int32} {a2 : Int32} {w : jWd} {r : Int32} {w' : jWd}  (h : fX12_reads n a0 a1 a2 w = some (r, w')) : JM yX12_reads MX12_reads 9 [.ref 205, .int a0, .int a1, .int a2] w (some (.int r)) w' := by
  refine jm_of pl_X12 rfl (Nat.le_of_ble_eq_true rfl) ?_
  show J MX12_reads 9 w 0 [(0, .ref 205), (1, .int a0), (2, .int a1), (3, .int a2)] [] (some (.int r)) w'
  unfold fX12_reads at h
  refine jr_aload_n dX12_reads_0 rfl 0 rfl ?_
  refine jr_bipush (v := (14 : Int32)) dX12_reads_1 (by decide) ?_
  refine j_callVv lk_X12_164 wIM_X12_is wSE_X12_is (rfl : kd 205 = 11) (by decide) rfl (tX12_is  (a0 := (14 : Int32)) (w := w)) (by omega) rfl rfl (Nat.le_of_ble_eq_true rfl) dX12_reads_3 ?_
  obtain ⟨j49_2, ej49_2, h⟩ := drvF h
  have hj49_2 : ∀ (w_1 : jWd), j49_2 w_1 = some (r, w') → J MX12_reads 9 w_1 49 [(0, .ref 205)] [] (some (.int r)) w' := by
    intro w_1 h
    rw [ej49_2] at h
    try dsimp only at h
    refine jr_aload_n dX12_reads_49 rfl 0 rfl ?_
    refine gf_X12_155 rfl (rfl : kd 205 = 11) dX12_reads_50 ?_
    refine j_nmi (fun x4_3 e_4 => ?_)
    replace h := drvL e_4 h
    refine jr_istore (lv' := [(4, .int x4_3), (0, .ref 205)]) dX12_reads_53 (by decide) rfl ?_
    refine jr_aload_n dX12_reads_55 rfl 1 rfl ?_
    refine gf_X12_158 rfl (rfl : kd 205 = 11) dX12_reads_56 ?_
    refine jr_if_ne (tgt := 66) (nxt := 62) dX12_reads_59 (by decide) rfl (fun hc => ?_) (fun hc => ?_)
    · replace h := drvE hc h
      refine jr_iload dX12_reads_66 0 rfl ?_
      obtain ⟨rfl, rfl⟩ := drvS2 h
      exact jr_iret rfl dX12_reads_68
    · replace h := drvT hc h
      refine jr_aload_n dX12_reads_62 rfl 1 rfl ?_
      obtain ⟨w_6, hq_5, h⟩ := drvB h
      refine j_callVn lk_X12_167 wIM_X12_next wSE_X12_next (rfl : kd 205 = 11) (by decide) rfl (tX12_next  hq_5) (by omega) rfl rfl (Nat.le_of_ble_eq_true rfl) dX12_reads_63 ?_
      refine jr_iload dX12_reads_66 0 rfl ?_
      obtain ⟨rfl, rfl⟩ := drvS2 h
      exact jr_iret rfl dX12_reads_68
  refine jr_if_ne (tgt := 17) (nxt := 9) dX12_reads_6 (by decide) rfl (fun hc => ?_) (fun hc => ?_)
  · replace h := drvE hc h
    refine jr_aload_n dX12_reads_17 rfl 0 rfl ?_
    refine gf_X12_155 rfl (rfl : kd 205 = 11) dX12_reads_18 ?_
    refine jr_i2l dX12_reads_21 ?_
    refine jr_iload_n dX12_reads_22 rfl 1 rfl ?_
    refine jr_i2l dX12_reads_23 ?_
    refine jr_iload_n dX12_reads_24 rfl 2 rfl ?_
    refine jr_i2l dX12_reads_25 ?_
    refine j_callSv lk_X12_81 wST_X12_within (tX12_within  (a0 := (((wI w 205 14)).toInt64)) (a1 := ((a0).toInt64)) (a2 := ((a1).toInt64)) (w := w)) (by omega) rfl rfl (Nat.le_of_ble_eq_true rfl) dX12_reads_26 ?_
    refine jr_if_ne (tgt := 40) (nxt := 32) dX12_reads_29 (by decide) rfl (fun hc => ?_) (fun hc => ?_)
    · replace h := drvE hc h
      refine jr_iload_n dX12_reads_40 rfl 3 rfl ?_
      refine jr_if_eq (tgt := 49) (nxt := 44) dX12_reads_41 (by decide) rfl (fun hc => ?_) (fun hc => ?_)
      · replace h := drvT hc h
        refine jr_sub [0] rfl ?_
        exact hj49_2 _ h
      · replace h := drvE hc h
        refine jr_aload_n dX12_reads_44 rfl 0 rfl ?_
        refine jr_iconst (v := (4 : Int32)) dX12_reads_45 (by decide) ?_
        obtain ⟨w_8, hq_7, h⟩ := drvB h
        refine j_callVn lk_X12_173 wIM_X12_fails wSE_X12_fails (rfl : kd 205 = 11) (by decide) rfl (tX12_fails  hq_7) (by omega) rfl rfl (Nat.le_of_ble_eq_true rfl) dX12_reads_46 ?_
        refine jr_sub [0] rfl ?_
        exact hj49_2 _ h
    · replace h := drvT hc h
      refine jr_aload_n dX12_reads_32 rfl 0 rfl ?_
      refine jr_iconst (v := (3 : Int32)) dX12_reads_33 (by decide) ?_
      obtain ⟨w_10, hq_9, h⟩ := drvB h
      refine j_callVn lk_X12_173 wIM_X12_fails wSE_X12_fails (rfl : kd 205 = 11) (by decide) rfl (tX12_fails  hq_9) (by omega) rfl rfl (Nat.le_of_ble_eq_true rfl) dX12_reads_34 ?_
      refine jr_goto (tgt := 49) dX12_reads_37 (by decide) ?_
      refine jr_sub [0] rfl ?_
      exact hj49_2 _ h
  · replace h := drvT hc h
    refine jr_aload_n dX12_reads_9 rfl 0 rfl ?_
    refine jr_iconst (v := (2 : Int32)) dX12_reads_10 (by decide) ?_
    obtain ⟨w_12, hq_11, h⟩ := drvB h
    refine j_callVn lk_X12_173 wIM_X12_fails wSE_X12_fails (rfl : kd 205 = 11) (by decide) rfl (tX12_fails  hq_11) (by omega) rfl rfl (Nat.le_of_ble_eq_true rfl) dX12_reads_11 ?_
    refine jr_goto (tgt := 49) dX12_reads_14 (by decide) ?_
    refine jr_sub [0] rfl ?_
    exact hj49_2 _ h
set_option maxHeartbeats 4000000 in
set_option maxRecDepth 100000 in
theorem hbX12_parts_4 {n : Nat} {fact : jWd → Option jWd} {w' : jWd} {df : Nat} (hdf : 11 ≤ df) {rec : jWd → Option jWd} (hfact : ∀ (w w' : jWd), fact w = some w' → JM yX12_fact MX12_fact df [.ref 205] w none w') 
    (hrec : ∀ (w : jWd) , rec w = some w' → J MX12_parts (df + 1) w 4 [(0, .ref 205)] [] none w') : ∀ (w : jWd) , bX12_parts_4 n fact rec w = some w' → J MX12_parts (df + 1) w 4 [(0, .ref 205)] [] none w' := by
  intro w h
  unfold bX12_parts_4 at h
  refine jr_aload_n dX12_parts_4 rfl 0 rfl ?_
  refine jr_iconst (v := (3 : Int32)) dX12_parts_5 (by decide) ?_
  obtain ⟨r_5, w_4, hq_3, h⟩ := drvB2 h
  refine j_callVv lk_X12_170 wIM_X12_eats wSE_X12_eats (rfl : kd 205 = 11) (by decide) rfl (tX12_eats  hq_3) (by omega) rfl rfl (Nat.le_of_ble_eq_true rfl) dX12_parts_6 ?_
  refine jr_if_eq (tgt := 32) (nxt := 12) dX12_parts_9 (by decide) rfl (fun hc => ?_) (fun hc => ?_)
  · replace h := drvT hc h
    obtain rfl := drvS1 h
    exact jr_vret rfl dX12_parts_32
  · replace h := drvE hc h
    refine jr_aload_n dX12_parts_12 rfl 0 rfl ?_
    obtain ⟨w_7, hq_6, h⟩ := drvB h
    refine j_callVn lk_X12_187 wIM_X12_fact wSE_X12_fact (rfl : kd 205 = 11) (by decide) rfl (hfact _ _  hq_6) (by omega) rfl rfl (Nat.le_of_ble_eq_true rfl) dX12_parts_13 ?_
    refine jr_aload_n dX12_parts_16 rfl 0 rfl ?_
    refine gf_X12_158 rfl (rfl : kd 205 = 11) dX12_parts_17 ?_
    refine jr_if_ne (tgt := 4) (nxt := 23) dX12_parts_20 (by decide) rfl (fun hc => ?_) (fun hc => ?_)
    · replace h := drvE hc h
      refine jr_sub [0] rfl ?_
      exact hrec _ h
    · replace h := drvT hc h
      refine jr_aload_n dX12_parts_23 rfl 0 rfl ?_
      refine jr_iconst (v := (3 : Int32)) dX12_parts_24 (by decide) ?_
      refine jr_iconst (v := (0 : Int32)) dX12_parts_25 (by decide) ?_
      obtain ⟨w_9, hq_8, h⟩ := drvB h
      refine j_callVn lk_X12_183 wIM_X12_emit wSE_X12_emit (rfl : kd 205 = 11) (by decide) rfl (tX12_emit  hq_8) (by omega) rfl rfl (Nat.le_of_ble_eq_true rfl) dX12_parts_26 ?_
      refine jr_goto (tgt := 4) dX12_parts_29 (by decide) ?_
      refine jr_sub [0] rfl ?_
      exact hrec _ h
theorem hlX12_parts_4 {n : Nat} {fact : jWd → Option jWd} {w' : jWd} {df : Nat} (hdf : 11 ≤ df) (hfact : ∀ (w w' : jWd), fact w = some w' → JM yX12_fact MX12_fact df [.ref 205] w none w')  : ∀ (c : Nat) (w : jWd) , lX12_parts_4 n fact c w = some w' → J MX12_parts (df + 1) w 4 [(0, .ref 205)] [] none w' := by
  intro c
  induction c with
  | zero => intro w h; cases h
  | succ c ih => intro w h; exact hbX12_parts_4 (n := n) hdf hfact ih _ h
set_option maxHeartbeats 4000000 in
set_option maxRecDepth 100000 in
theorem gX12_parts {n : Nat} {fact : jWd → Option jWd} {w : jWd} {w' : jWd} {df : Nat} (hdf : 11 ≤ df) (hfact : ∀ (w w' : jWd), fact w = some w' → JM yX12_fact MX12_fact df [.ref 205] w none w')  (h : fX12_partsG n fact w = some w') : JM yX12_parts MX12_parts (df + 1) [.ref 205] w none w' := by
  refine jm_of pl_X12 rfl (Nat.le_of_ble_eq_true rfl) ?_
  show J MX12_parts (df + 1) w 0 [(0, .ref 205)] [] none w'
  unfold fX12_partsG at h
  refine jr_aload_n dX12_parts_0 rfl 0 rfl ?_
  obtain ⟨w_2, hq_1, h⟩ := drvB h
  refine j_callVn lk_X12_187 wIM_X12_fact wSE_X12_fact (rfl : kd 205 = 11) (by decide) rfl (hfact _ _  hq_1) (by omega) rfl rfl (Nat.le_of_ble_eq_true rfl) dX12_parts_1 ?_
  refine jr_sub [0] rfl ?_
  refine hlX12_parts_4 hdf hfact  _ _ h
set_option maxHeartbeats 4000000 in
set_option maxRecDepth 100000 in
theorem hbX12_test_4 {n : Nat} {fact : jWd → Option jWd} {w' : jWd} {df : Nat} (hdf : 11 ≤ df) {rec : jWd → Option jWd} (hfact : ∀ (w w' : jWd), fact w = some w' → JM yX12_fact MX12_fact df [.ref 205] w none w') 
    (hrec : ∀ (w : jWd) , rec w = some w' → J MX12_test (df + 2) w 4 [(0, .ref 205)] [] none w') : ∀ (w : jWd) , bX12_test_4 n fact rec w = some w' → J MX12_test (df + 2) w 4 [(0, .ref 205)] [] none w' := by
  intro w h
  unfold bX12_test_4 at h
  refine jr_aload_n dX12_test_4 rfl 0 rfl ?_
  refine jr_iconst (v := (4 : Int32)) dX12_test_5 (by decide) ?_
  obtain ⟨r_5, w_4, hq_3, h⟩ := drvB2 h
  refine j_callVv lk_X12_170 wIM_X12_eats wSE_X12_eats (rfl : kd 205 = 11) (by decide) rfl (tX12_eats  hq_3) (by omega) rfl rfl (Nat.le_of_ble_eq_true rfl) dX12_test_6 ?_
  refine jr_if_eq (tgt := 32) (nxt := 12) dX12_test_9 (by decide) rfl (fun hc => ?_) (fun hc => ?_)
  · replace h := drvT hc h
    obtain rfl := drvS1 h
    exact jr_vret rfl dX12_test_32
  · replace h := drvE hc h
    refine jr_aload_n dX12_test_12 rfl 0 rfl ?_
    obtain ⟨w_7, hq_6, h⟩ := drvB h
    refine j_callVn lk_X12_180 wIM_X12_parts wSE_X12_parts (rfl : kd 205 = 11) (by decide) rfl (gX12_parts hdf hfact  hq_6) (by omega) rfl rfl (Nat.le_of_ble_eq_true rfl) dX12_test_13 ?_
    refine jr_aload_n dX12_test_16 rfl 0 rfl ?_
    refine gf_X12_158 rfl (rfl : kd 205 = 11) dX12_test_17 ?_
    refine jr_if_ne (tgt := 4) (nxt := 23) dX12_test_20 (by decide) rfl (fun hc => ?_) (fun hc => ?_)
    · replace h := drvE hc h
      refine jr_sub [0] rfl ?_
      exact hrec _ h
    · replace h := drvT hc h
      refine jr_aload_n dX12_test_23 rfl 0 rfl ?_
      refine jr_iconst (v := (4 : Int32)) dX12_test_24 (by decide) ?_
      refine jr_iconst (v := (0 : Int32)) dX12_test_25 (by decide) ?_
      obtain ⟨w_9, hq_8, h⟩ := drvB h
      refine j_callVn lk_X12_183 wIM_X12_emit wSE_X12_emit (rfl : kd 205 = 11) (by decide) rfl (tX12_emit  hq_8) (by omega) rfl rfl (Nat.le_of_ble_eq_true rfl) dX12_test_26 ?_
      refine jr_goto (tgt := 4) dX12_test_29 (by decide) ?_
      refine jr_sub [0] rfl ?_
      exact hrec _ h
theorem hlX12_test_4 {n : Nat} {fact : jWd → Option jWd} {w' : jWd} {df : Nat} (hdf : 11 ≤ df) (hfact : ∀ (w w' : jWd), fact w = some w' → JM yX12_fact MX12_fact df [.ref 205] w none w')  : ∀ (c : Nat) (w : jWd) , lX12_test_4 n fact c w = some w' → J MX12_test (df + 2) w 4 [(0, .ref 205)] [] none w' := by
  intro c
  induction c with
  | zero => intro w h; cases h
  | succ c ih => intro w h; exact hbX12_test_4 (n := n) hdf hfact ih _ h
set_option maxHeartbeats 4000000 in
set_option maxRecDepth 100000 in
theorem gX12_test {n : Nat} {fact : jWd → Option jWd} {w : jWd} {w' : jWd} {df : Nat} (hdf : 11 ≤ df) (hfact : ∀ (w w' : jWd), fact w = some w' → JM yX12_fact MX12_fact df [.ref 205] w none w')  (h : fX12_testG n fact w = some w') : JM yX12_test MX12_test (df + 2) [.ref 205] w none w' := by
  refine jm_of pl_X12 rfl (Nat.le_of_ble_eq_true rfl) ?_
  show J MX12_test (df + 2) w 0 [(0, .ref 205)] [] none w'
  unfold fX12_testG at h
  refine jr_aload_n dX12_test_0 rfl 0 rfl ?_
  obtain ⟨w_2, hq_1, h⟩ := drvB h
  refine j_callVn lk_X12_180 wIM_X12_parts wSE_X12_parts (rfl : kd 205 = 11) (by decide) rfl (gX12_parts hdf hfact  hq_1) (by omega) rfl rfl (Nat.le_of_ble_eq_true rfl) dX12_test_1 ?_
  refine jr_sub [0] rfl ?_
  refine hlX12_test_4 hdf hfact  _ _ h
set_option maxHeartbeats 4000000 in
set_option maxRecDepth 100000 in
theorem gX12_fact {n : Nat} {fact : jWd → Option jWd} {w : jWd} {w' : jWd} {df : Nat} (hdf : 11 ≤ df) (hfact : ∀ (w w' : jWd), fact w = some w' → JM yX12_fact MX12_fact df [.ref 205] w none w')  (h : fX12_factB n fact w = some w') : JM yX12_fact MX12_fact (df + 3) [.ref 205] w none w' := by
  refine jm_of pl_X12 rfl (Nat.le_of_ble_eq_true rfl) ?_
  show J MX12_fact (df + 3) w 0 [(0, .ref 205)] [] none w'
  unfold fX12_factB at h
  refine jr_aload_n dX12_fact_0 rfl 0 rfl ?_
  refine gf_X12_158 rfl (rfl : kd 205 = 11) dX12_fact_1 ?_
  refine jr_if_eq (tgt := 8) (nxt := 7) dX12_fact_4 (by decide) rfl (fun hc => ?_) (fun hc => ?_)
  · replace h := drvT hc h
    refine jr_aload_n dX12_fact_8 rfl 0 rfl ?_
    refine gf_X12_142 rfl (rfl : kd 205 = 11) dX12_fact_9 ?_
    refine j_nmi (fun x1_1 e_2 => ?_)
    replace h := drvL e_2 h
    refine jr_istore_n (lv' := [(1, .int x1_1), (0, .ref 205)]) dX12_fact_12 rfl (by decide) rfl ?_
    refine jr_iload_n dX12_fact_13 rfl 0 rfl ?_
    refine jr_iconst (v := (2 : Int32)) dX12_fact_14 (by decide) ?_
    obtain ⟨j24_3, ej24_3, h⟩ := drvF h
    have hj24_3 : ∀ (_ : Unit), j24_3 = some w' → J MX12_fact (df + 3) w 24 [(0, .ref 205), (1, .int x1_1)] [] none w' := by
      intro _ h
      rw [ej24_3] at h
      try dsimp only at h
      refine jr_aload_n dX12_fact_24 rfl 0 rfl ?_
      refine gf_X12_190 rfl (rfl : kd 205 = 11) dX12_fact_25 ?_
      refine jr_bipush (v := (8 : Int32)) dX12_fact_28 (by decide) ?_
      obtain ⟨j38_5, ej38_5, h⟩ := drvF h
      have hj38_5 : ∀ (w_4 : jWd), j38_5 w_4 = some w' → J MX12_fact (df + 3) w_4 38 [(0, .ref 205), (1, .int x1_1)] [] none w' := by
        intro w_4 h
        rw [ej38_5] at h
        try dsimp only at h
        refine jr_aload_n dX12_fact_38 rfl 0 rfl ?_
        refine gf_X12_158 rfl (rfl : kd 205 = 11) dX12_fact_39 ?_
        refine jr_if_eq (tgt := 46) (nxt := 45) dX12_fact_42 (by decide) rfl (fun hc => ?_) (fun hc => ?_)
        · replace h := drvT hc h
          refine jr_aload_n dX12_fact_46 rfl 0 rfl ?_
          obtain ⟨w_7, hq_6, h⟩ := drvB h
          refine j_callVn lk_X12_167 wIM_X12_next wSE_X12_next (rfl : kd 205 = 11) (by decide) rfl (tX12_next  hq_6) (by omega) rfl rfl (Nat.le_of_ble_eq_true rfl) dX12_fact_47 ?_
          refine jr_aload_n dX12_fact_50 rfl 0 rfl ?_
          refine jr_dup dX12_fact_51 rfl ?_
          refine gf_X12_190 rfl (rfl : kd 205 = 11) dX12_fact_52 ?_
          refine jr_iconst (v := (1 : Int32)) dX12_fact_55 (by decide) ?_
          refine jr_iadd dX12_fact_56 ?_
          refine pf_X12_190 rfl (rfl : kd 205 = 11) dX12_fact_57 ?_
          refine j_nmw (fun w_8 e_9 => ?_)
          replace h := drvL e_9 h
          refine jr_iload_n dX12_fact_60 rfl 1 rfl ?_
          refine jr_iconst (v := (2 : Int32)) dX12_fact_61 (by decide) ?_
          obtain ⟨j76_11, ej76_11, h⟩ := drvF h
          have hj76_11 : ∀ (w_10 : jWd), j76_11 w_10 = some w' → J MX12_fact (df + 3) w_10 76 [(0, .ref 205), (1, .int x1_1)] [] none w' := by
            intro w_10 h
            rw [ej76_11] at h
            try dsimp only at h
            refine jr_aload_n dX12_fact_76 rfl 0 rfl ?_
            refine jr_dup dX12_fact_77 rfl ?_
            refine gf_X12_190 rfl (rfl : kd 205 = 11) dX12_fact_78 ?_
            refine jr_iconst (v := (1 : Int32)) dX12_fact_81 (by decide) ?_
            refine jr_isub dX12_fact_82 ?_
            refine pf_X12_190 rfl (rfl : kd 205 = 11) dX12_fact_83 ?_
            refine j_nmw (fun w_12 e_13 => ?_)
            replace h := drvL e_13 h
            refine jr_iload_n dX12_fact_86 rfl 1 rfl ?_
            refine jr_bipush (v := (16 : Int32)) dX12_fact_87 (by decide) ?_
            refine jr_icmp_ne (tgt := 101) (nxt := 92) dX12_fact_89 (by decide) rfl (fun hc => ?_) (fun hc => ?_)
            · replace h := drvE hc h
              refine jr_aload_n dX12_fact_101 rfl 0 rfl ?_
              refine gf_X12_158 rfl (rfl : kd 205 = 11) dX12_fact_102 ?_
              refine jr_if_ne (tgt := 114) (nxt := 108) dX12_fact_105 (by decide) rfl (fun hc => ?_) (fun hc => ?_)
              · replace h := drvE hc h
                obtain rfl := drvS1 h
                exact jr_vret rfl dX12_fact_114
              · replace h := drvT hc h
                refine jr_aload_n dX12_fact_108 rfl 0 rfl ?_
                refine jr_iconst (v := (2 : Int32)) dX12_fact_109 (by decide) ?_
                refine jr_iconst (v := (0 : Int32)) dX12_fact_110 (by decide) ?_
                obtain ⟨w_15, hq_14, h⟩ := drvB h
                refine j_callVn lk_X12_183 wIM_X12_emit wSE_X12_emit (rfl : kd 205 = 11) (by decide) rfl (tX12_emit  hq_14) (by omega) rfl rfl (Nat.le_of_ble_eq_true rfl) dX12_fact_111 ?_
                obtain rfl := drvS1 h
                exact jr_vret rfl dX12_fact_114
            · replace h := drvT hc h
              refine jr_aload_n dX12_fact_92 rfl 0 rfl ?_
              refine jr_bipush (v := (17 : Int32)) dX12_fact_93 (by decide) ?_
              obtain ⟨w_17, hq_16, h⟩ := drvB h
              refine j_callVn lk_X12_196 wIM_X12_needs wSE_X12_needs (rfl : kd 205 = 11) (by decide) rfl (tX12_needs  hq_16) (by omega) rfl rfl (Nat.le_of_ble_eq_true rfl) dX12_fact_95 ?_
              refine jr_goto (tgt := 114) dX12_fact_98 (by decide) ?_
              obtain rfl := drvS1 h
              exact jr_vret rfl dX12_fact_114
          refine jr_icmp_ne (tgt := 72) (nxt := 65) dX12_fact_62 (by decide) rfl (fun hc => ?_) (fun hc => ?_)
          · replace h := drvE hc h
            refine jr_aload_n dX12_fact_72 rfl 0 rfl ?_
            obtain ⟨w_19, hq_18, h⟩ := drvB h
            refine j_callVn lk_X12_193 wIM_X12_test wSE_X12_test (rfl : kd 205 = 11) (by decide) rfl (gX12_test hdf hfact  hq_18) (by omega) rfl rfl (Nat.le_of_ble_eq_true rfl) dX12_fact_73 ?_
            refine jr_sub [0, 1] rfl ?_
            exact hj76_11 _ h
          · replace h := drvT hc h
            refine jr_aload_n dX12_fact_65 rfl 0 rfl ?_
            obtain ⟨w_21, hq_20, h⟩ := drvB h
            refine j_callVn lk_X12_187 wIM_X12_fact wSE_X12_fact (rfl : kd 205 = 11) (by decide) rfl (hfact _ _  hq_20) (by omega) rfl rfl (Nat.le_of_ble_eq_true rfl) dX12_fact_66 ?_
            refine jr_goto (tgt := 76) dX12_fact_69 (by decide) ?_
            refine jr_sub [0, 1] rfl ?_
            exact hj76_11 _ h
        · replace h := drvE hc h
          obtain rfl := drvS1 h
          exact jr_vret rfl dX12_fact_45
      refine jr_icmp_ne (tgt := 38) (nxt := 33) dX12_fact_30 (by decide) rfl (fun hc => ?_) (fun hc => ?_)
      · replace h := drvE hc h
        refine jr_sub [0, 1] rfl ?_
        exact hj38_5 _ h
      · replace h := drvT hc h
        refine jr_aload_n dX12_fact_33 rfl 0 rfl ?_
        refine jr_iconst (v := (5 : Int32)) dX12_fact_34 (by decide) ?_
        obtain ⟨w_23, hq_22, h⟩ := drvB h
        refine j_callVn lk_X12_173 wIM_X12_fails wSE_X12_fails (rfl : kd 205 = 11) (by decide) rfl (tX12_fails  hq_22) (by omega) rfl rfl (Nat.le_of_ble_eq_true rfl) dX12_fact_35 ?_
        refine jr_sub [0, 1] rfl ?_
        exact hj38_5 _ h
    refine jr_icmp_eq (tgt := 24) (nxt := 18) dX12_fact_15 (by decide) rfl (fun hc => ?_) (fun hc => ?_)
    · replace h := drvT hc h
      refine jr_sub [1, 0] rfl ?_
      exact (hj24_3 ()) h
    · replace h := drvE hc h
      refine jr_iload_n dX12_fact_18 rfl 0 rfl ?_
      refine jr_bipush (v := (16 : Int32)) dX12_fact_19 (by decide) ?_
      refine jr_icmp_ne (tgt := 115) (nxt := 24) dX12_fact_21 (by decide) rfl (fun hc => ?_) (fun hc => ?_)
      · replace h := drvE hc h
        refine jr_iload_n dX12_fact_115 rfl 0 rfl ?_
        refine jr_iconst (v := (5 : Int32)) dX12_fact_116 (by decide) ?_
        obtain ⟨j138_24, ej138_24, h⟩ := drvF h
        have hj138_24 : ∀ (_ : Unit), j138_24 = some w' → J MX12_fact (df + 3) w 138 [(0, .ref 205), (1, .int x1_1)] [] none w' := by
          intro _ h
          rw [ej138_24] at h
          try dsimp only at h
          refine jr_aload_n dX12_fact_138 rfl 0 rfl ?_
          obtain ⟨w_26, hq_25, h⟩ := drvB h
          refine j_callVn lk_X12_167 wIM_X12_next wSE_X12_next (rfl : kd 205 = 11) (by decide) rfl (tX12_next  hq_25) (by omega) rfl rfl (Nat.le_of_ble_eq_true rfl) dX12_fact_139 ?_
          refine jr_iload_n dX12_fact_142 rfl 1 rfl ?_
          refine jr_iconst (v := (5 : Int32)) dX12_fact_143 (by decide) ?_
          obtain ⟨j184_29, ej184_29, h⟩ := drvF h
          have hj184_29 : ∀ (s_27 : Int32) (w_28 : jWd), j184_29 s_27 w_28 = some w' → J MX12_fact (df + 3) w_28 184 [(0, .ref 205), (1, .int x1_1)] [.int s_27] none w' := by
            intro s_27 w_28 h
            rw [ej184_29] at h
            try dsimp only at h
            refine jr_istore_n (lv' := [(2, .int s_27), (0, .ref 205), (1, .int x1_1)]) dX12_fact_184 rfl (by decide) rfl ?_
            refine jr_aload_n dX12_fact_185 rfl 1 rfl ?_
            refine gf_X12_158 rfl (rfl : kd 205 = 11) dX12_fact_186 ?_
            refine jr_if_ne (tgt := 198) (nxt := 192) dX12_fact_189 (by decide) rfl (fun hc => ?_) (fun hc => ?_)
            · replace h := drvE hc h
              obtain rfl := drvS1 h
              exact jr_vret rfl dX12_fact_198
            · replace h := drvT hc h
              refine jr_aload_n dX12_fact_192 rfl 1 rfl ?_
              refine jr_iload_n dX12_fact_193 rfl 2 rfl ?_
              refine jr_iload_n dX12_fact_194 rfl 0 rfl ?_
              obtain ⟨w_31, hq_30, h⟩ := drvB h
              refine j_callVn lk_X12_183 wIM_X12_emit wSE_X12_emit (rfl : kd 205 = 11) (by decide) rfl (tX12_emit  hq_30) (by omega) rfl rfl (Nat.le_of_ble_eq_true rfl) dX12_fact_195 ?_
              obtain rfl := drvS1 h
              exact jr_vret rfl dX12_fact_198
          refine jr_icmp_ne (tgt := 159) (nxt := 147) dX12_fact_144 (by decide) rfl (fun hc => ?_) (fun hc => ?_)
          · replace h := drvE hc h
            refine jr_iload_n dX12_fact_159 rfl 1 rfl ?_
            refine jr_bipush (v := (6 : Int32)) dX12_fact_160 (by decide) ?_
            refine jr_icmp_ne (tgt := 176) (nxt := 165) dX12_fact_162 (by decide) rfl (fun hc => ?_) (fun hc => ?_)
            · replace h := drvE hc h
              refine jr_aload_n dX12_fact_176 rfl 0 rfl ?_
              refine jr_iconst (v := (0 : Int32)) dX12_fact_177 (by decide) ?_
              refine jr_bipush (v := (9 : Int32)) dX12_fact_178 (by decide) ?_
              refine jr_iconst (v := (0 : Int32)) dX12_fact_180 (by decide) ?_
              obtain ⟨r_34, w_33, hq_32, h⟩ := drvB2 h
              refine j_callVv lk_X12_199 wIM_X12_reads wSE_X12_reads (rfl : kd 205 = 11) (by decide) rfl (tX12_reads  hq_32) (by omega) rfl rfl (Nat.le_of_ble_eq_true rfl) dX12_fact_181 ?_
              refine jr_sub [0, 1] rfl ?_
              exact hj184_29 _ _ h
            · replace h := drvT hc h
              refine jr_aload_n dX12_fact_165 rfl 0 rfl ?_
              refine jr_iconst (v := (1 : Int32)) dX12_fact_166 (by decide) ?_
              refine jr_bipush (v := (8 : Int32)) dX12_fact_167 (by decide) ?_
              refine jr_iconst (v := (0 : Int32)) dX12_fact_169 (by decide) ?_
              obtain ⟨r_37, w_36, hq_35, h⟩ := drvB2 h
              refine j_callVv lk_X12_199 wIM_X12_reads wSE_X12_reads (rfl : kd 205 = 11) (by decide) rfl (tX12_reads  hq_35) (by omega) rfl rfl (Nat.le_of_ble_eq_true rfl) dX12_fact_170 ?_
              refine jr_goto (tgt := 184) dX12_fact_173 (by decide) ?_
              refine jr_sub [0, 1] rfl ?_
              exact hj184_29 _ _ h
          · replace h := drvT hc h
            refine jr_aload_n dX12_fact_147 rfl 0 rfl ?_
            refine jr_iconst (v := (1 : Int32)) dX12_fact_148 (by decide) ?_
            refine jr_sipush (v := (255 : Int32)) dX12_fact_149 (by decide) ?_
            refine jr_iconst (v := (0 : Int32)) dX12_fact_152 (by decide) ?_
            obtain ⟨r_40, w_39, hq_38, h⟩ := drvB2 h
            refine j_callVv lk_X12_199 wIM_X12_reads wSE_X12_reads (rfl : kd 205 = 11) (by decide) rfl (tX12_reads  hq_38) (by omega) rfl rfl (Nat.le_of_ble_eq_true rfl) dX12_fact_153 ?_
            refine jr_goto (tgt := 184) dX12_fact_156 (by decide) ?_
            refine jr_sub [0, 1] rfl ?_
            exact hj184_29 _ _ h
        refine jr_icmp_eq (tgt := 138) (nxt := 120) dX12_fact_117 (by decide) rfl (fun hc => ?_) (fun hc => ?_)
        · replace h := drvT hc h
          refine jr_sub [1, 0] rfl ?_
          exact (hj138_24 ()) h
        · replace h := drvE hc h
          refine jr_iload_n dX12_fact_120 rfl 0 rfl ?_
          refine jr_bipush (v := (6 : Int32)) dX12_fact_121 (by decide) ?_
          refine jr_icmp_eq (tgt := 138) (nxt := 126) dX12_fact_123 (by decide) rfl (fun hc => ?_) (fun hc => ?_)
          · replace h := drvT hc h
            refine jr_sub [1, 0] rfl ?_
            exact (hj138_24 ()) h
          · replace h := drvE hc h
            refine jr_iload_n dX12_fact_126 rfl 0 rfl ?_
            refine jr_bipush (v := (7 : Int32)) dX12_fact_127 (by decide) ?_
            refine jr_icmp_eq (tgt := 138) (nxt := 132) dX12_fact_129 (by decide) rfl (fun hc => ?_) (fun hc => ?_)
            · replace h := drvT hc h
              refine jr_sub [1, 0] rfl ?_
              exact (hj138_24 ()) h
            · replace h := drvE hc h
              refine jr_aload_n dX12_fact_132 rfl 1 rfl ?_
              refine jr_iconst (v := (2 : Int32)) dX12_fact_133 (by decide) ?_
              obtain ⟨w_42, hq_41, h⟩ := drvB h
              refine j_callVn lk_X12_173 wIM_X12_fails wSE_X12_fails (rfl : kd 205 = 11) (by decide) rfl (tX12_fails  hq_41) (by omega) rfl rfl (Nat.le_of_ble_eq_true rfl) dX12_fact_134 ?_
              obtain rfl := drvS1 h
              exact jr_vret rfl dX12_fact_137
      · replace h := drvT hc h
        refine jr_sub [1, 0] rfl ?_
        exact (hj24_3 ()) h
  · replace h := drvE hc h
    obtain rfl := drvS1 h
    exact jr_vret rfl dX12_fact_7
theorem rX12_fact {n : Nat} : ∀ (r : Nat) (w w' : jWd), fX12_fact n r w = some w' → JM yX12_fact MX12_fact (11 + 3 * r) [.ref 205] w none w' := by
  intro r
  induction r with
  | zero => intro w w' h; cases h
  | succ r ih => intro w w' h; exact gX12_fact (df := 11 + 3 * r) (by omega) (fun w w' h => ih w w' h) h
theorem tX12_test {n : Nat} {w w' : jWd} (h : fX12_test n w = some w') : JM yX12_test MX12_test 49 [.ref 205] w none w' := gX12_test (df := 11 + 3 * 12) (by omega) (fun w w' h => rX12_fact 12 w w' h) h
set_option maxHeartbeats 4000000 in
set_option maxRecDepth 100000 in
theorem tX12_fault {a0 : Int32} {w : jWd} {r : Int32} {w' : jWd}  (h : fX12_fault a0 w = some (r, w')) : JM yX12_fault MX12_fault 1 [.ref 205, .int a0] w (some (.int r)) w' := by
  refine jm_of pl_X12 rfl (Nat.le_of_ble_eq_true rfl) ?_
  show J MX12_fault 1 w 0 [(0, .ref 205), (1, .int a0)] [] (some (.int r)) w'
  unfold fX12_fault at h
  refine jr_aload_n dX12_fault_0 rfl 0 rfl ?_
  refine jr_iconst (v := (0 : Int32)) dX12_fault_1 (by decide) ?_
  refine pf_X12_1 rfl (rfl : kd 205 = 11) dX12_fault_2 ?_
  refine j_nmw (fun w_1 e_2 => ?_)
  replace h := drvL e_2 h
  refine jr_iload_n dX12_fault_5 rfl 1 rfl ?_
  refine jr_if_ne (tgt := 16) (nxt := 9) dX12_fault_6 (by decide) rfl (fun hc => ?_) (fun hc => ?_)
  · replace h := drvE hc h
    refine jr_iload_n dX12_fault_16 rfl 1 rfl ?_
    refine jr_iconst (v := (1 : Int32)) dX12_fault_17 (by decide) ?_
    refine jr_icmp_ne (tgt := 28) (nxt := 21) dX12_fault_18 (by decide) rfl (fun hc => ?_) (fun hc => ?_)
    · replace h := drvE hc h
      refine jr_iconst (v := (-1 : Int32)) dX12_fault_28 (by decide) ?_
      obtain ⟨rfl, rfl⟩ := drvS2 h
      exact jr_iret rfl dX12_fault_29
    · replace h := drvT hc h
      refine jr_aload_n dX12_fault_21 rfl 0 rfl ?_
      refine gf_X12_40 rfl (rfl : kd 205 = 11) dX12_fault_22 ?_
      refine jr_goto (tgt := 29) dX12_fault_25 (by decide) ?_
      obtain ⟨rfl, rfl⟩ := drvS2 h
      exact jr_iret rfl dX12_fault_29
  · replace h := drvT hc h
    refine jr_aload_n dX12_fault_9 rfl 0 rfl ?_
    refine gf_X12_217 rfl (rfl : kd 205 = 11) dX12_fault_10 ?_
    refine jr_goto (tgt := 29) dX12_fault_13 (by decide) ?_
    obtain ⟨rfl, rfl⟩ := drvS2 h
    exact jr_iret rfl dX12_fault_29
set_option maxHeartbeats 4000000 in
set_option maxRecDepth 100000 in
theorem hbX12_feed_28 {n : Nat} {p1 : Int32} {p2 : Int32} {p3 : Int32} {p4 : Int32} {p5 : Int32} {k125 : jWd → (Option (Int32 × jWd))} {r : Int32} {w' : jWd} {rec : Int32 → jWd → Option (Int32 × jWd)} (hk125 : ∀ (w9 : jWd), k125 w9 = some (r, w') → J MX12_feed 2 w9 125 [(0, .ref 205)] [] (some (.int r)) w')
    (hrec : ∀ (x6 : Int32) (w : jWd) , rec x6 w = some (r, w') → J MX12_feed 2 w 28 [(0, .ref 205), (1, .int p1), (2, .int p2), (3, .int p3), (4, .int p4), (5, .int p5), (6, .int x6)] [] (some (.int r)) w') : ∀ (x6 : Int32) (w : jWd) , bX12_feed_28 n p1 p2 p3 p4 p5 k125 rec x6 w = some (r, w') → J MX12_feed 2 w 28 [(0, .ref 205), (1, .int p1), (2, .int p2), (3, .int p3), (4, .int p4), (5, .int p5), (6, .int x6)] [] (some (.int r)) w' := by
  intro x6 w h
  unfold bX12_feed_28 at h
  refine jr_iload dX12_feed_28 6 rfl ?_
  refine jr_bipush (v := (20 : Int32)) dX12_feed_30 (by decide) ?_
  refine jr_icmp_ge (tgt := 125) (nxt := 35) dX12_feed_32 (by decide) rfl (fun hc => ?_) (fun hc => ?_)
  · replace h := drvT hc h
    refine jr_sub [0] rfl ?_
    exact hk125 _ h
  · replace h := drvE hc h
    refine jr_iload dX12_feed_35 6 rfl ?_
    refine jr_iconst (v := (4 : Int32)) dX12_feed_37 (by decide) ?_
    obtain ⟨j81_4, ej81_4, h⟩ := drvF h
    have hj81_4 : ∀ (s_3 : Int32), j81_4 s_3 = some (r, w') → J MX12_feed 2 w 81 [(0, .ref 205), (1, .int p1), (2, .int p2), (3, .int p3), (4, .int p4), (5, .int p5), (6, .int x6)] [.int s_3] (some (.int r)) w' := by
      intro s_3 h
      rw [ej81_4] at h
      try dsimp only at h
      refine jr_istore (lv' := [(7, .int s_3), (0, .ref 205), (1, .int p1), (2, .int p2), (3, .int p3), (4, .int p4), (5, .int p5), (6, .int x6)]) dX12_feed_81 (by decide) rfl ?_
      refine jr_aload_n dX12_feed_83 rfl 1 rfl ?_
      refine gf_X12_37 (r := 213) rfl (rfl : kd 205 = 11) rfl dX12_feed_84 ?_
      refine jr_aload_n dX12_feed_87 rfl 1 rfl ?_
      refine gf_X12_115 rfl (rfl : kd 205 = 11) dX12_feed_88 ?_
      refine jr_iload dX12_feed_91 0 rfl ?_
      refine jr_bipush (v := (24 : Int32)) dX12_feed_93 (by decide) ?_
      refine jr_bipush (v := (8 : Int32)) dX12_feed_95 (by decide) ?_
      refine jr_iload dX12_feed_97 7 rfl ?_
      refine jr_iconst (v := (4 : Int32)) dX12_feed_99 (by decide) ?_
      refine jr_irem dX12_feed_100 (by decide) ?_
      refine jr_imul dX12_feed_101 ?_
      refine jr_isub dX12_feed_102 ?_
      refine jr_ishr dX12_feed_103 ?_
      refine jr_sipush (v := (255 : Int32)) dX12_feed_104 (by decide) ?_
      refine jr_iand dX12_feed_107 ?_
      obtain ⟨hg_7, h⟩ := drvG h
      refine jr_iast (rfl : kd 213 = 13) hg_7 dX12_feed_108 ?_
      refine j_nmw (fun w_5 e_6 => ?_)
      replace h := drvL e_6 h
      refine jr_aload_n dX12_feed_109 rfl 1 rfl ?_
      refine jr_dup dX12_feed_110 rfl ?_
      refine gf_X12_115 rfl (rfl : kd 205 = 11) dX12_feed_111 ?_
      refine jr_iconst (v := (1 : Int32)) dX12_feed_114 (by decide) ?_
      refine jr_iadd dX12_feed_115 ?_
      refine pf_X12_115 rfl (rfl : kd 205 = 11) dX12_feed_116 ?_
      refine j_nmw (fun w_8 e_9 => ?_)
      replace h := drvL e_9 h
      refine jr_iincN (c := (1 : Int32)) (lv' := fun (x6_10 : Int32) => [(6, .int x6_10), (7, .int s_3), (0, .ref 205), (1, .int p1), (2, .int p2), (3, .int p3), (4, .int p4), (5, .int p5)]) dX12_feed_119 (by decide) 7 rfl (by decide) (fun _ => rfl) (fun x6_10 e_11 => ?_)
      replace h := drvL e_11 h
      refine jr_goto (tgt := 28) dX12_feed_122 (by decide) ?_
      refine jr_sub [2, 3, 4, 5, 6, 7, 0] rfl ?_
      exact hrec _ _ h
    refine jr_icmp_ge (tgt := 45) (nxt := 41) dX12_feed_38 (by decide) rfl (fun hc => ?_) (fun hc => ?_)
    · replace h := drvT hc h
      refine jr_iload dX12_feed_45 6 rfl ?_
      refine jr_bipush (v := (8 : Int32)) dX12_feed_47 (by decide) ?_
      refine jr_icmp_ge (tgt := 56) (nxt := 52) dX12_feed_49 (by decide) rfl (fun hc => ?_) (fun hc => ?_)
      · replace h := drvT hc h
        refine jr_iload dX12_feed_56 6 rfl ?_
        refine jr_bipush (v := (12 : Int32)) dX12_feed_58 (by decide) ?_
        refine jr_icmp_ge (tgt := 67) (nxt := 63) dX12_feed_60 (by decide) rfl (fun hc => ?_) (fun hc => ?_)
        · replace h := drvT hc h
          refine jr_iload dX12_feed_67 6 rfl ?_
          refine jr_bipush (v := (16 : Int32)) dX12_feed_69 (by decide) ?_
          refine jr_icmp_ge (tgt := 79) (nxt := 74) dX12_feed_71 (by decide) rfl (fun hc => ?_) (fun hc => ?_)
          · replace h := drvT hc h
            refine jr_iload dX12_feed_79 5 rfl ?_
            refine jr_sub [0, 1, 2, 3, 4, 5, 6] rfl ?_
            exact hj81_4 _ h
          · replace h := drvE hc h
            refine jr_iload dX12_feed_74 4 rfl ?_
            refine jr_goto (tgt := 81) dX12_feed_76 (by decide) ?_
            refine jr_sub [0, 1, 2, 3, 4, 5, 6] rfl ?_
            exact hj81_4 _ h
        · replace h := drvE hc h
          refine jr_iload_n dX12_feed_63 rfl 3 rfl ?_
          refine jr_goto (tgt := 81) dX12_feed_64 (by decide) ?_
          refine jr_sub [0, 1, 2, 3, 4, 5, 6] rfl ?_
          exact hj81_4 _ h
      · replace h := drvE hc h
        refine jr_iload_n dX12_feed_52 rfl 2 rfl ?_
        refine jr_goto (tgt := 81) dX12_feed_53 (by decide) ?_
        refine jr_sub [0, 1, 2, 3, 4, 5, 6] rfl ?_
        exact hj81_4 _ h
    · replace h := drvE hc h
      refine jr_iload_n dX12_feed_41 rfl 1 rfl ?_
      refine jr_goto (tgt := 81) dX12_feed_42 (by decide) ?_
      refine jr_sub [0, 1, 2, 3, 4, 5, 6] rfl ?_
      exact hj81_4 _ h
theorem hlX12_feed_28 {n : Nat} {p1 : Int32} {p2 : Int32} {p3 : Int32} {p4 : Int32} {p5 : Int32} {k125 : jWd → (Option (Int32 × jWd))} {r : Int32} {w' : jWd} (hk125 : ∀ (w9 : jWd), k125 w9 = some (r, w') → J MX12_feed 2 w9 125 [(0, .ref 205)] [] (some (.int r)) w') : ∀ (c : Nat) (x6 : Int32) (w : jWd) , lX12_feed_28 n p1 p2 p3 p4 p5 k125 c x6 w = some (r, w') → J MX12_feed 2 w 28 [(0, .ref 205), (1, .int p1), (2, .int p2), (3, .int p3), (4, .int p4), (5, .int p5), (6, .int x6)] [] (some (.int r)) w' := by
  intro c
  induction c with
  | zero => intro x6 w h; cases h
  | succ c ih => intro x6 w h; exact hbX12_feed_28 (n := n) hk125 ih _ _ h
set_option maxHeartbeats 4000000 in
set_option maxRecDepth 100000 in
theorem tX12_feed {n : Nat} {a0 : Int32} {a1 : Int32} {a2 : Int32} {a3 : Int32} {a4 : Int32} {w : jWd} {r : Int32} {w' : jWd}  (h : fX12_feed n a0 a1 a2 a3 a4 w = some (r, w')) : JM yX12_feed MX12_feed 2 [.ref 205, .int a0, .int a1, .int a2, .int a3, .int a4] w (some (.int r)) w' := by
  refine jm_of pl_X12 rfl (Nat.le_of_ble_eq_true rfl) ?_
  show J MX12_feed 2 w 0 [(0, .ref 205), (1, .int a0), (2, .int a1), (3, .int a2), (4, .int a3), (5, .int a4)] [] (some (.int r)) w'
  unfold fX12_feed at h
  refine jr_aload_n dX12_feed_0 rfl 0 rfl ?_
  refine jr_iconst (v := (0 : Int32)) dX12_feed_1 (by decide) ?_
  refine pf_X12_1 rfl (rfl : kd 205 = 11) dX12_feed_2 ?_
  refine j_nmw (fun w_1 e_2 => ?_)
  replace h := drvL e_2 h
  refine jr_aload_n dX12_feed_5 rfl 0 rfl ?_
  refine gf_X12_115 rfl (rfl : kd 205 = 11) dX12_feed_6 ?_
  refine jr_bipush (v := (20 : Int32)) dX12_feed_9 (by decide) ?_
  refine jr_iadd dX12_feed_11 ?_
  refine jr_sipush (v := (400 : Int32)) dX12_feed_12 (by decide) ?_
  refine jr_icmp_le (tgt := 25) (nxt := 18) dX12_feed_15 (by decide) rfl (fun hc => ?_) (fun hc => ?_)
  · replace h := drvT hc h
    refine jr_iconst (v := (0 : Int32)) dX12_feed_25 (by decide) ?_
    refine jr_istore (lv' := [(6, .int (0 : Int32)), (0, .ref 205), (1, .int a0), (2, .int a1), (3, .int a2), (4, .int a3), (5, .int a4)]) dX12_feed_26 (by decide) rfl ?_
    refine jr_sub [1, 2, 3, 4, 5, 6, 0] rfl ?_
    refine hlX12_feed_28  ?_ _ _ _ h
    · intro w_12 h
      try dsimp only at h
      refine jr_aload_n dX12_feed_125 rfl 0 rfl ?_
      refine gf_X12_115 rfl (rfl : kd 205 = 11) dX12_feed_126 ?_
      obtain ⟨rfl, rfl⟩ := drvS2 h
      exact jr_iret rfl dX12_feed_129
  · replace h := drvE hc h
    refine jr_aload_n dX12_feed_18 rfl 0 rfl ?_
    refine jr_bipush (v := (-4 : Int32)) dX12_feed_19 (by decide) ?_
    obtain ⟨r_15, w_14, hq_13, h⟩ := drvB2 h
    refine j_callVv lk_X12_85 wIM_X12_no wSE_X12_no (rfl : kd 205 = 11) (by decide) rfl (tX12_no  hq_13) (by omega) rfl rfl (Nat.le_of_ble_eq_true rfl) dX12_feed_21 ?_
    obtain ⟨rfl, rfl⟩ := drvS2 h
    exact jr_iret rfl dX12_feed_24
set_option maxHeartbeats 4000000 in
set_option maxRecDepth 100000 in
theorem tX12_free {a0 : Int32} {a1 : Int32} {w : jWd} {r : Int32} {w' : jWd}  (h : fX12_free a0 a1 w = some (r, w')) : JM yX12_free MX12_free 2 [.ref 205, .int a0, .int a1] w (some (.int r)) w' := by
  refine jm_of pl_X12 rfl (Nat.le_of_ble_eq_true rfl) ?_
  show J MX12_free 2 w 0 [(0, .ref 205), (1, .int a0), (2, .int a1)] [] (some (.int r)) w'
  unfold fX12_free at h
  refine jr_aload_n dX12_free_0 rfl 0 rfl ?_
  refine jr_iconst (v := (0 : Int32)) dX12_free_1 (by decide) ?_
  refine pf_X12_1 rfl (rfl : kd 205 = 11) dX12_free_2 ?_
  refine j_nmw (fun w_1 e_2 => ?_)
  replace h := drvL e_2 h
  refine jr_iload_n dX12_free_5 rfl 1 rfl ?_
  refine jr_i2l dX12_free_6 ?_
  refine jr_lconst (v := (0 : Int64)) dX12_free_7 rfl ?_
  refine jr_ldc2 (v := (9999 : Int64)) wCC_X12_93 dX12_free_8 ?_
  refine j_callSv lk_X12_81 wST_X12_within (tX12_within  (a0 := ((a0).toInt64)) (a1 := (0 : Int64)) (a2 := (9999 : Int64)) (w := w_1)) (by omega) rfl rfl (Nat.le_of_ble_eq_true rfl) dX12_free_11 ?_
  obtain ⟨j30_3, ej30_3, h⟩ := drvF h
  have hj30_3 : ∀ (_ : Unit), j30_3 = some (r, w') → J MX12_free 2 w_1 30 [(0, .ref 205)] [] (some (.int r)) w' := by
    intro _ h
    rw [ej30_3] at h
    try dsimp only at h
    refine jr_aload_n dX12_free_30 rfl 0 rfl ?_
    refine jr_bipush (v := (-3 : Int32)) dX12_free_31 (by decide) ?_
    obtain ⟨r_6, w_5, hq_4, h⟩ := drvB2 h
    refine j_callVv lk_X12_85 wIM_X12_no wSE_X12_no (rfl : kd 205 = 11) (by decide) rfl (tX12_no  hq_4) (by omega) rfl rfl (Nat.le_of_ble_eq_true rfl) dX12_free_33 ?_
    obtain ⟨rfl, rfl⟩ := drvS2 h
    exact jr_iret rfl dX12_free_36
  refine jr_if_eq (tgt := 30) (nxt := 17) dX12_free_14 (by decide) rfl (fun hc => ?_) (fun hc => ?_)
  · replace h := drvT hc h
    refine jr_sub [0] rfl ?_
    exact (hj30_3 ()) h
  · replace h := drvE hc h
    refine jr_iload_n dX12_free_17 rfl 2 rfl ?_
    refine jr_i2l dX12_free_18 ?_
    refine jr_iload_n dX12_free_19 rfl 1 rfl ?_
    refine jr_i2l dX12_free_20 ?_
    refine jr_ldc2 (v := (9999 : Int64)) wCC_X12_93 dX12_free_21 ?_
    refine j_callSv lk_X12_81 wST_X12_within (tX12_within  (a0 := ((a1).toInt64)) (a1 := ((a0).toInt64)) (a2 := (9999 : Int64)) (w := w_1)) (by omega) rfl rfl (Nat.le_of_ble_eq_true rfl) dX12_free_24 ?_
    refine jr_if_ne (tgt := 37) (nxt := 30) dX12_free_27 (by decide) rfl (fun hc => ?_) (fun hc => ?_)
    · replace h := drvE hc h
      refine jr_aload_n dX12_free_37 rfl 0 rfl ?_
      refine gf_X12_17 (r := 207) rfl (rfl : kd 205 = 11) rfl dX12_free_38 ?_
      refine jr_sipush (v := (970 : Int32)) dX12_free_41 (by decide) ?_
      refine jr_ialdL (k := 970) (rfl : kd 207 = 13) (vp_lit (by decide) (by decide)) (by decide) dX12_free_44 ?_
      refine jr_bipush (v := (8 : Int32)) dX12_free_45 (by decide) ?_
      refine jr_icmp_ne (tgt := 57) (nxt := 50) dX12_free_47 (by decide) rfl (fun hc => ?_) (fun hc => ?_)
      · replace h := drvE hc h
        refine jr_aload_n dX12_free_57 rfl 0 rfl ?_
        refine gf_X12_17 (r := 207) rfl (rfl : kd 205 = 11) rfl dX12_free_58 ?_
        refine jr_sipush (v := (971 : Int32)) dX12_free_61 (by decide) ?_
        refine jr_aload_n dX12_free_64 rfl 0 rfl ?_
        refine gf_X12_17 (r := 207) rfl (rfl : kd 205 = 11) rfl dX12_free_65 ?_
        refine jr_sipush (v := (970 : Int32)) dX12_free_68 (by decide) ?_
        refine jr_ialdL (k := 970) (rfl : kd 207 = 13) (vp_lit (by decide) (by decide)) (by decide) dX12_free_71 ?_
        refine jr_iadd dX12_free_72 ?_
        refine jr_iload_n dX12_free_73 rfl 1 rfl ?_
        obtain ⟨hg_9, h⟩ := drvG h
        refine jr_iast (rfl : kd 207 = 13) hg_9 dX12_free_74 ?_
        refine j_nmw (fun w_7 e_8 => ?_)
        replace h := drvL e_8 h
        refine jr_aload_n dX12_free_75 rfl 0 rfl ?_
        refine gf_X12_17 (r := 207) rfl (rfl : kd 205 = 11) rfl dX12_free_76 ?_
        refine jr_sipush (v := (979 : Int32)) dX12_free_79 (by decide) ?_
        refine jr_aload_n dX12_free_82 rfl 0 rfl ?_
        refine gf_X12_17 (r := 207) rfl (rfl : kd 205 = 11) rfl dX12_free_83 ?_
        refine jr_sipush (v := (970 : Int32)) dX12_free_86 (by decide) ?_
        refine jr_ialdL (k := 970) (rfl : kd 207 = 13) (vp_lit (by decide) (by decide)) (by decide) dX12_free_89 ?_
        refine jr_iadd dX12_free_90 ?_
        refine jr_iload_n dX12_free_91 rfl 2 rfl ?_
        obtain ⟨hg_12, h⟩ := drvG h
        refine jr_iast (rfl : kd 207 = 13) hg_12 dX12_free_92 ?_
        refine j_nmw (fun w_10 e_11 => ?_)
        replace h := drvL e_11 h
        refine jr_aload_n dX12_free_93 rfl 0 rfl ?_
        refine gf_X12_17 (r := 207) rfl (rfl : kd 205 = 11) rfl dX12_free_94 ?_
        refine jr_sipush (v := (970 : Int32)) dX12_free_97 (by decide) ?_
        refine jr_dup2_11 dX12_free_100 rfl rfl ?_
        refine jr_ialdL (k := 970) (rfl : kd 207 = 13) (vp_lit (by decide) (by decide)) (by decide) dX12_free_101 ?_
        refine jr_iconst (v := (1 : Int32)) dX12_free_102 (by decide) ?_
        refine jr_iadd dX12_free_103 ?_
        refine jr_iastL (k := 970) (rfl : kd 207 = 13) (vp_lit (by decide) (by decide)) (by decide) dX12_free_104 ?_
        refine j_nmw (fun w_13 e_14 => ?_)
        replace h := drvL e_14 h
        refine jr_aload_n dX12_free_105 rfl 0 rfl ?_
        refine gf_X12_17 (r := 207) rfl (rfl : kd 205 = 11) rfl dX12_free_106 ?_
        refine jr_sipush (v := (970 : Int32)) dX12_free_109 (by decide) ?_
        refine jr_ialdL (k := 970) (rfl : kd 207 = 13) (vp_lit (by decide) (by decide)) (by decide) dX12_free_112 ?_
        obtain ⟨rfl, rfl⟩ := drvS2 h
        exact jr_iret rfl dX12_free_113
      · replace h := drvT hc h
        refine jr_aload_n dX12_free_50 rfl 0 rfl ?_
        refine jr_bipush (v := (-4 : Int32)) dX12_free_51 (by decide) ?_
        obtain ⟨r_17, w_16, hq_15, h⟩ := drvB2 h
        refine j_callVv lk_X12_85 wIM_X12_no wSE_X12_no (rfl : kd 205 = 11) (by decide) rfl (tX12_no  hq_15) (by omega) rfl rfl (Nat.le_of_ble_eq_true rfl) dX12_free_53 ?_
        obtain ⟨rfl, rfl⟩ := drvS2 h
        exact jr_iret rfl dX12_free_56
    · replace h := drvT hc h
      refine jr_sub [0] rfl ?_
      exact (hj30_3 ()) h
set_option maxHeartbeats 4000000 in
set_option maxRecDepth 100000 in
theorem hbX12_isFree_4 {n : Nat} {p1 : Int32} {w : jWd} {r : Int32} {rec : Int32 → Int32 → Option Int32} 
    (hrec : ∀ (x2 : Int32) (x3 : Int32) , rec x2 x3 = some r → J MX12_isFree 2 w 4 [(0, .ref 205), (1, .int p1), (2, .int x2), (3, .int x3)] [] (some (.int r)) w) : ∀ (x2 : Int32) (x3 : Int32) , bX12_isFree_4 n p1 w rec x2 x3 = some r → J MX12_isFree 2 w 4 [(0, .ref 205), (1, .int p1), (2, .int x2), (3, .int x3)] [] (some (.int r)) w := by
  intro x2 x3 h
  unfold bX12_isFree_4 at h
  refine jr_iload_n dX12_isFree_4 rfl 3 rfl ?_
  refine jr_aload_n dX12_isFree_5 rfl 0 rfl ?_
  refine gf_X12_17 (r := 207) rfl (rfl : kd 205 = 11) rfl dX12_isFree_6 ?_
  refine jr_sipush (v := (970 : Int32)) dX12_isFree_9 (by decide) ?_
  refine jr_ialdL (k := 970) (rfl : kd 207 = 13) (vp_lit (by decide) (by decide)) (by decide) dX12_isFree_12 ?_
  refine jr_icmp_ge (tgt := 62) (nxt := 16) dX12_isFree_13 (by decide) rfl (fun hc => ?_) (fun hc => ?_)
  · replace h := drvT hc h
    refine jr_iload_n dX12_isFree_62 rfl 2 rfl ?_
    obtain rfl := drvS1 h
    exact jr_bret rfl dX12_isFree_63
  · replace h := drvE hc h
    refine jr_iload_n dX12_isFree_16 rfl 2 rfl ?_
    refine jr_if_ne (tgt := 50) (nxt := 20) dX12_isFree_17 (by decide) rfl (fun hc => ?_) (fun hc => ?_)
    · replace h := drvE hc h
      refine jr_iconst (v := (1 : Int32)) dX12_isFree_50 (by decide) ?_
      refine jr_goto (tgt := 55) dX12_isFree_51 (by decide) ?_
      refine jr_istore_n (lv' := [(2, .int (1 : Int32)), (0, .ref 205), (1, .int p1), (3, .int x3)]) dX12_isFree_55 rfl (by decide) rfl ?_
      refine jr_iincN (c := (1 : Int32)) (lv' := fun (x3_1 : Int32) => [(3, .int x3_1), (2, .int (1 : Int32)), (0, .ref 205), (1, .int p1)]) dX12_isFree_56 (by decide) 3 rfl (by decide) (fun _ => rfl) (fun x3_1 e_2 => ?_)
      replace h := drvL e_2 h
      refine jr_goto (tgt := 4) dX12_isFree_59 (by decide) ?_
      refine jr_sub [2, 3, 1, 0] rfl ?_
      exact hrec _ _ h
    · replace h := drvT hc h
      refine jr_iload_n dX12_isFree_20 rfl 1 rfl ?_
      refine jr_i2l dX12_isFree_21 ?_
      refine jr_aload_n dX12_isFree_22 rfl 0 rfl ?_
      refine gf_X12_17 (r := 207) rfl (rfl : kd 205 = 11) rfl dX12_isFree_23 ?_
      refine jr_sipush (v := (971 : Int32)) dX12_isFree_26 (by decide) ?_
      refine jr_iload_n dX12_isFree_29 rfl 3 rfl ?_
      refine jr_iadd dX12_isFree_30 ?_
      obtain ⟨hg_3, h⟩ := drvG h
      refine jr_iald (rfl : kd 207 = 13) hg_3 dX12_isFree_31 ?_
      refine jr_i2l dX12_isFree_32 ?_
      refine jr_aload_n dX12_isFree_33 rfl 0 rfl ?_
      refine gf_X12_17 (r := 207) rfl (rfl : kd 205 = 11) rfl dX12_isFree_34 ?_
      refine jr_sipush (v := (979 : Int32)) dX12_isFree_37 (by decide) ?_
      refine jr_iload_n dX12_isFree_40 rfl 3 rfl ?_
      refine jr_iadd dX12_isFree_41 ?_
      obtain ⟨hg_4, h⟩ := drvG h
      refine jr_iald (rfl : kd 207 = 13) hg_4 dX12_isFree_42 ?_
      refine jr_i2l dX12_isFree_43 ?_
      refine j_callSv lk_X12_81 wST_X12_within (tX12_within  (a0 := ((p1).toInt64)) (a1 := (((wI w 207 (((971 : Int32) + x3)).toNatClampNeg)).toInt64)) (a2 := (((wI w 207 (((979 : Int32) + x3)).toNatClampNeg)).toInt64)) (w := w)) (by omega) rfl rfl (Nat.le_of_ble_eq_true rfl) dX12_isFree_44 ?_
      refine jr_if_eq (tgt := 54) (nxt := 50) dX12_isFree_47 (by decide) rfl (fun hc => ?_) (fun hc => ?_)
      · replace h := drvT hc h
        refine jr_iconst (v := (0 : Int32)) dX12_isFree_54 (by decide) ?_
        refine jr_istore_n (lv' := [(2, .int (0 : Int32)), (0, .ref 205), (1, .int p1), (3, .int x3)]) dX12_isFree_55 rfl (by decide) rfl ?_
        refine jr_iincN (c := (1 : Int32)) (lv' := fun (x3_5 : Int32) => [(3, .int x3_5), (2, .int (0 : Int32)), (0, .ref 205), (1, .int p1)]) dX12_isFree_56 (by decide) 3 rfl (by decide) (fun _ => rfl) (fun x3_5 e_6 => ?_)
        replace h := drvL e_6 h
        refine jr_goto (tgt := 4) dX12_isFree_59 (by decide) ?_
        refine jr_sub [2, 3, 1, 0] rfl ?_
        exact hrec _ _ h
      · replace h := drvE hc h
        refine jr_iconst (v := (1 : Int32)) dX12_isFree_50 (by decide) ?_
        refine jr_goto (tgt := 55) dX12_isFree_51 (by decide) ?_
        refine jr_istore_n (lv' := [(2, .int (1 : Int32)), (0, .ref 205), (1, .int p1), (3, .int x3)]) dX12_isFree_55 rfl (by decide) rfl ?_
        refine jr_iincN (c := (1 : Int32)) (lv' := fun (x3_7 : Int32) => [(3, .int x3_7), (2, .int (1 : Int32)), (0, .ref 205), (1, .int p1)]) dX12_isFree_56 (by decide) 3 rfl (by decide) (fun _ => rfl) (fun x3_7 e_8 => ?_)
        replace h := drvL e_8 h
        refine jr_goto (tgt := 4) dX12_isFree_59 (by decide) ?_
        refine jr_sub [2, 3, 1, 0] rfl ?_
        exact hrec _ _ h
theorem hlX12_isFree_4 {n : Nat} {p1 : Int32} {w : jWd} {r : Int32}  : ∀ (c : Nat) (x2 : Int32) (x3 : Int32) , lX12_isFree_4 n p1 w c x2 x3 = some r → J MX12_isFree 2 w 4 [(0, .ref 205), (1, .int p1), (2, .int x2), (3, .int x3)] [] (some (.int r)) w := by
  intro c
  induction c with
  | zero => intro x2 x3 h; cases h
  | succ c ih => intro x2 x3 h; exact hbX12_isFree_4 (n := n) ih _ _ h
set_option maxHeartbeats 4000000 in
set_option maxRecDepth 100000 in
theorem tX12_isFree {n : Nat} {a0 : Int32} {w : jWd} {r : Int32}  (h : fX12_isFree n a0 w = some r) : JM yX12_isFree MX12_isFree 2 [.ref 205, .int a0] w (some (.int r)) w := by
  refine jm_of pl_X12 rfl (Nat.le_of_ble_eq_true rfl) ?_
  show J MX12_isFree 2 w 0 [(0, .ref 205), (1, .int a0)] [] (some (.int r)) w
  unfold fX12_isFree at h
  refine jr_iconst (v := (0 : Int32)) dX12_isFree_0 (by decide) ?_
  refine jr_istore_n (lv' := [(2, .int (0 : Int32)), (0, .ref 205), (1, .int a0)]) dX12_isFree_1 rfl (by decide) rfl ?_
  refine jr_iconst (v := (0 : Int32)) dX12_isFree_2 (by decide) ?_
  refine jr_istore_n (lv' := [(3, .int (0 : Int32)), (2, .int (0 : Int32)), (0, .ref 205), (1, .int a0)]) dX12_isFree_3 rfl (by decide) rfl ?_
  refine jr_sub [2, 3, 1, 0] rfl ?_
  refine hlX12_isFree_4   _ _ _ h
set_option maxHeartbeats 4000000 in
set_option maxRecDepth 100000 in
theorem hbX12_freeUpTo_4 {n : Nat} {p1 : Int32} {w : jWd} {r : Int32} {rec : Int32 → Int32 → Option Int32} 
    (hrec : ∀ (x2 : Int32) (x3 : Int32) , rec x2 x3 = some r → J MX12_freeUpTo 3 w 4 [(0, .ref 205), (1, .int p1), (2, .int x2), (3, .int x3)] [] (some (.int r)) w) : ∀ (x2 : Int32) (x3 : Int32) , bX12_freeUpTo_4 n p1 w rec x2 x3 = some r → J MX12_freeUpTo 3 w 4 [(0, .ref 205), (1, .int p1), (2, .int x2), (3, .int x3)] [] (some (.int r)) w := by
  intro x2 x3 h
  unfold bX12_freeUpTo_4 at h
  refine jr_iload_n dX12_freeUpTo_4 rfl 3 rfl ?_
  refine jr_iload_n dX12_freeUpTo_5 rfl 1 rfl ?_
  refine jr_icmp_gt (tgt := 31) (nxt := 9) dX12_freeUpTo_6 (by decide) rfl (fun hc => ?_) (fun hc => ?_)
  · replace h := drvT hc h
    refine jr_iload_n dX12_freeUpTo_31 rfl 2 rfl ?_
    obtain rfl := drvS1 h
    exact jr_iret rfl dX12_freeUpTo_32
  · replace h := drvE hc h
    refine jr_iload_n dX12_freeUpTo_9 rfl 2 rfl ?_
    refine jr_aload_n dX12_freeUpTo_10 rfl 0 rfl ?_
    refine jr_iload_n dX12_freeUpTo_11 rfl 3 rfl ?_
    obtain ⟨r_2, hq_1, h⟩ := drvB h
    refine j_callVv lk_X12_344 wIM_X12_isFree wSE_X12_isFree (rfl : kd 205 = 11) (by decide) rfl (tX12_isFree  hq_1) (by omega) rfl rfl (Nat.le_of_ble_eq_true rfl) dX12_freeUpTo_12 ?_
    refine jr_if_eq (tgt := 22) (nxt := 18) dX12_freeUpTo_15 (by decide) rfl (fun hc => ?_) (fun hc => ?_)
    · replace h := drvT hc h
      refine jr_iconst (v := (0 : Int32)) dX12_freeUpTo_22 (by decide) ?_
      refine jr_iadd dX12_freeUpTo_23 ?_
      refine j_nmi (fun x2_3 e_4 => ?_)
      replace h := drvL e_4 h
      refine jr_istore_n (lv' := [(2, .int x2_3), (0, .ref 205), (1, .int p1), (3, .int x3)]) dX12_freeUpTo_24 rfl (by decide) rfl ?_
      refine jr_iincN (c := (1 : Int32)) (lv' := fun (x3_5 : Int32) => [(3, .int x3_5), (2, .int x2_3), (0, .ref 205), (1, .int p1)]) dX12_freeUpTo_25 (by decide) 3 rfl (by decide) (fun _ => rfl) (fun x3_5 e_6 => ?_)
      replace h := drvL e_6 h
      refine jr_goto (tgt := 4) dX12_freeUpTo_28 (by decide) ?_
      refine jr_sub [2, 3, 1, 0] rfl ?_
      exact hrec _ _ h
    · replace h := drvE hc h
      refine jr_iconst (v := (1 : Int32)) dX12_freeUpTo_18 (by decide) ?_
      refine jr_goto (tgt := 23) dX12_freeUpTo_19 (by decide) ?_
      refine jr_iadd dX12_freeUpTo_23 ?_
      refine j_nmi (fun x2_7 e_8 => ?_)
      replace h := drvL e_8 h
      refine jr_istore_n (lv' := [(2, .int x2_7), (0, .ref 205), (1, .int p1), (3, .int x3)]) dX12_freeUpTo_24 rfl (by decide) rfl ?_
      refine jr_iincN (c := (1 : Int32)) (lv' := fun (x3_9 : Int32) => [(3, .int x3_9), (2, .int x2_7), (0, .ref 205), (1, .int p1)]) dX12_freeUpTo_25 (by decide) 3 rfl (by decide) (fun _ => rfl) (fun x3_9 e_10 => ?_)
      replace h := drvL e_10 h
      refine jr_goto (tgt := 4) dX12_freeUpTo_28 (by decide) ?_
      refine jr_sub [2, 3, 1, 0] rfl ?_
      exact hrec _ _ h
theorem hlX12_freeUpTo_4 {n : Nat} {p1 : Int32} {w : jWd} {r : Int32}  : ∀ (c : Nat) (x2 : Int32) (x3 : Int32) , lX12_freeUpTo_4 n p1 w c x2 x3 = some r → J MX12_freeUpTo 3 w 4 [(0, .ref 205), (1, .int p1), (2, .int x2), (3, .int x3)] [] (some (.int r)) w := by
  intro c
  induction c with
  | zero => intro x2 x3 h; cases h
  | succ c ih => intro x2 x3 h; exact hbX12_freeUpTo_4 (n := n) ih _ _ h
set_option maxHeartbeats 4000000 in
set_option maxRecDepth 100000 in
theorem tX12_freeUpTo {n : Nat} {a0 : Int32} {w : jWd} {r : Int32}  (h : fX12_freeUpTo n a0 w = some r) : JM yX12_freeUpTo MX12_freeUpTo 3 [.ref 205, .int a0] w (some (.int r)) w := by
  refine jm_of pl_X12 rfl (Nat.le_of_ble_eq_true rfl) ?_
  show J MX12_freeUpTo 3 w 0 [(0, .ref 205), (1, .int a0)] [] (some (.int r)) w
  unfold fX12_freeUpTo at h
  refine jr_iconst (v := (0 : Int32)) dX12_freeUpTo_0 (by decide) ?_
  refine jr_istore_n (lv' := [(2, .int (0 : Int32)), (0, .ref 205), (1, .int a0)]) dX12_freeUpTo_1 rfl (by decide) rfl ?_
  refine jr_iconst (v := (0 : Int32)) dX12_freeUpTo_2 (by decide) ?_
  refine jr_istore_n (lv' := [(3, .int (0 : Int32)), (2, .int (0 : Int32)), (0, .ref 205), (1, .int a0)]) dX12_freeUpTo_3 rfl (by decide) rfl ?_
  refine jr_sub [2, 3, 1, 0] rfl ?_
  refine hlX12_freeUpTo_4   _ _ _ h
set_option maxHeartbeats 4000000 in
set_option maxRecDepth 100000 in
theorem hbX12_glen_41 {n : Nat} {p1 : Int32} {p2 : Int32} {r : Int32} {w' : jWd} {rec : Int32 → Int32 → jWd → Option (Int32 × jWd)} 
    (hrec : ∀ (x3 : Int32) (x4 : Int32) (w : jWd) , rec x3 x4 w = some (r, w') → J MX12_glen 6 w 41 [(0, .ref 205), (1, .int p1), (2, .int p2), (3, .int x3), (4, .int x4)] [] (some (.int r)) w') : ∀ (x3 : Int32) (x4 : Int32) (w : jWd) , bX12_glen_41 n p1 p2 rec x3 x4 w = some (r, w') → J MX12_glen 6 w 41 [(0, .ref 205), (1, .int p1), (2, .int p2), (3, .int x3), (4, .int x4)] [] (some (.int r)) w' := by
  intro x3 x4 w h
  unfold bX12_glen_41 at h
  refine jr_iload dX12_glen_41 4 rfl ?_
  refine jr_aload_n dX12_glen_43 rfl 0 rfl ?_
  refine gf_X12_17 (r := 207) rfl (rfl : kd 205 = 11) rfl dX12_glen_44 ?_
  refine jr_sipush (v := (547 : Int32)) dX12_glen_47 (by decide) ?_
  refine jr_ialdL (k := 547) (rfl : kd 207 = 13) (vp_lit (by decide) (by decide)) (by decide) dX12_glen_50 ?_
  refine jr_icmp_ge (tgt := 153) (nxt := 54) dX12_glen_51 (by decide) rfl (fun hc => ?_) (fun hc => ?_)
  · replace h := drvT hc h
    refine jr_iload_n dX12_glen_153 rfl 3 rfl ?_
    obtain ⟨rfl, rfl⟩ := drvS2 h
    exact jr_iret rfl dX12_glen_154
  · replace h := drvE hc h
    refine jr_iload_n dX12_glen_54 rfl 2 rfl ?_
    obtain ⟨j117_9, ej117_9, h⟩ := drvF h
    have hj117_9 : ∀ (s_7 : Int32) (w_8 : jWd), j117_9 s_7 w_8 = some (r, w') → J MX12_glen 6 w_8 117 [(0, .ref 205), (1, .int p1), (2, .int p2), (3, .int x3), (4, .int x4)] [.int s_7] (some (.int r)) w' := by
      intro s_7 w_8 h
      rw [ej117_9] at h
      try dsimp only at h
      refine jr_istore (lv' := [(5, .int s_7), (0, .ref 205), (1, .int p1), (2, .int p2), (3, .int x3), (4, .int x4)]) dX12_glen_117 (by decide) rfl ?_
      refine jr_iload_n dX12_glen_119 rfl 4 rfl ?_
      refine jr_aload_n dX12_glen_120 rfl 1 rfl ?_
      refine gf_X12_17 (r := 207) rfl (rfl : kd 205 = 11) rfl dX12_glen_121 ?_
      refine jr_sipush (v := (548 : Int32)) dX12_glen_124 (by decide) ?_
      refine jr_iload dX12_glen_127 5 rfl ?_
      refine jr_iadd dX12_glen_129 ?_
      obtain ⟨hg_10, h⟩ := drvG h
      refine jr_iald (rfl : kd 207 = 13) hg_10 dX12_glen_130 ?_
      refine jr_iload_n dX12_glen_131 rfl 2 rfl ?_
      refine jr_icmp_ne (tgt := 144) (nxt := 135) dX12_glen_132 (by decide) rfl (fun hc => ?_) (fun hc => ?_)
      · replace h := drvE hc h
        refine jr_iconst (v := (0 : Int32)) dX12_glen_144 (by decide) ?_
        refine jr_iadd dX12_glen_145 ?_
        refine j_nmi (fun x3_11 e_12 => ?_)
        replace h := drvL e_12 h
        refine jr_istore_n (lv' := [(3, .int x3_11), (5, .int s_7), (0, .ref 205), (1, .int p1), (2, .int p2), (4, .int x4)]) dX12_glen_146 rfl (by decide) rfl ?_
        refine jr_iincN (c := (1 : Int32)) (lv' := fun (x4_13 : Int32) => [(4, .int x4_13), (3, .int x3_11), (5, .int s_7), (0, .ref 205), (1, .int p1), (2, .int p2)]) dX12_glen_147 (by decide) 5 rfl (by decide) (fun _ => rfl) (fun x4_13 e_14 => ?_)
        replace h := drvL e_14 h
        refine jr_goto (tgt := 41) dX12_glen_150 (by decide) ?_
        refine jr_sub [3, 4, 5, 1, 0] rfl ?_
        exact hrec _ _ _ h
      · replace h := drvT hc h
        refine jr_iload dX12_glen_135 0 rfl ?_
        refine jr_if_eq (tgt := 144) (nxt := 140) dX12_glen_137 (by decide) rfl (fun hc => ?_) (fun hc => ?_)
        · replace h := drvT hc h
          refine jr_iconst (v := (0 : Int32)) dX12_glen_144 (by decide) ?_
          refine jr_iadd dX12_glen_145 ?_
          refine j_nmi (fun x3_15 e_16 => ?_)
          replace h := drvL e_16 h
          refine jr_istore_n (lv' := [(3, .int x3_15), (5, .int s_7), (0, .ref 205), (1, .int p1), (2, .int p2), (4, .int x4)]) dX12_glen_146 rfl (by decide) rfl ?_
          refine jr_iincN (c := (1 : Int32)) (lv' := fun (x4_17 : Int32) => [(4, .int x4_17), (3, .int x3_15), (5, .int s_7), (0, .ref 205), (1, .int p1), (2, .int p2)]) dX12_glen_147 (by decide) 5 rfl (by decide) (fun _ => rfl) (fun x4_17 e_18 => ?_)
          replace h := drvL e_18 h
          refine jr_goto (tgt := 41) dX12_glen_150 (by decide) ?_
          refine jr_sub [3, 4, 5, 1, 0] rfl ?_
          exact hrec _ _ _ h
        · replace h := drvE hc h
          refine jr_iconst (v := (1 : Int32)) dX12_glen_140 (by decide) ?_
          refine jr_goto (tgt := 145) dX12_glen_141 (by decide) ?_
          refine jr_iadd dX12_glen_145 ?_
          refine j_nmi (fun x3_19 e_20 => ?_)
          replace h := drvL e_20 h
          refine jr_istore_n (lv' := [(3, .int x3_19), (5, .int s_7), (0, .ref 205), (1, .int p1), (2, .int p2), (4, .int x4)]) dX12_glen_146 rfl (by decide) rfl ?_
          refine jr_iincN (c := (1 : Int32)) (lv' := fun (x4_21 : Int32) => [(4, .int x4_21), (3, .int x3_19), (5, .int s_7), (0, .ref 205), (1, .int p1), (2, .int p2)]) dX12_glen_147 (by decide) 5 rfl (by decide) (fun _ => rfl) (fun x4_21 e_22 => ?_)
          replace h := drvL e_22 h
          refine jr_goto (tgt := 41) dX12_glen_150 (by decide) ?_
          refine jr_sub [3, 4, 5, 1, 0] rfl ?_
          exact hrec _ _ _ h
    obtain ⟨j112_24, ej112_24, h⟩ := drvF h
    have hj112_24 : ∀ (w_23 : jWd), j112_24 w_23 = some (r, w') → J MX12_glen 6 w_23 112 [(0, .ref 205), (1, .int p1), (2, .int p2), (3, .int x3), (4, .int x4)] [] (some (.int r)) w' := by
      intro w_23 h
      rw [ej112_24] at h
      try dsimp only at h
      refine jr_iconst (v := (1 : Int32)) dX12_glen_112 (by decide) ?_
      refine jr_goto (tgt := 117) dX12_glen_113 (by decide) ?_
      refine jr_sub [0, 1, 2, 3, 4] rfl ?_
      exact hj117_9 _ _ h
    refine jr_if_eq (tgt := 112) (nxt := 58) dX12_glen_55 (by decide) rfl (fun hc => ?_) (fun hc => ?_)
    · replace h := drvT hc h
      refine jr_sub [0, 1, 2, 3, 4] rfl ?_
      exact hj112_24 _ h
    · replace h := drvE hc h
      refine jr_iload_n dX12_glen_58 rfl 2 rfl ?_
      refine jr_iconst (v := (1 : Int32)) dX12_glen_59 (by decide) ?_
      obtain ⟨j78_25, ej78_25, h⟩ := drvF h
      have hj78_25 : ∀ (_ : Unit), j78_25 = some (r, w') → J MX12_glen 6 w 78 [(0, .ref 205), (1, .int p1), (2, .int p2), (3, .int x3), (4, .int x4)] [] (some (.int r)) w' := by
        intro _ h
        rw [ej78_25] at h
        try dsimp only at h
        refine jr_iload_n dX12_glen_78 rfl 2 rfl ?_
        refine jr_iconst (v := (2 : Int32)) dX12_glen_79 (by decide) ?_
        obtain ⟨j98_26, ej98_26, h⟩ := drvF h
        have hj98_26 : ∀ (_ : Unit), j98_26 = some (r, w') → J MX12_glen 6 w 98 [(0, .ref 205), (1, .int p1), (2, .int p2), (3, .int x3), (4, .int x4)] [] (some (.int r)) w' := by
          intro _ h
          rw [ej98_26] at h
          try dsimp only at h
          refine jr_iload_n dX12_glen_98 rfl 2 rfl ?_
          refine jr_iconst (v := (3 : Int32)) dX12_glen_99 (by decide) ?_
          obtain ⟨j116_28, ej116_28, h⟩ := drvF h
          have hj116_28 : ∀ (w_27 : jWd), j116_28 w_27 = some (r, w') → J MX12_glen 6 w_27 116 [(0, .ref 205), (1, .int p1), (2, .int p2), (3, .int x3), (4, .int x4)] [] (some (.int r)) w' := by
            intro w_27 h
            rw [ej116_28] at h
            try dsimp only at h
            refine jr_iconst (v := (0 : Int32)) dX12_glen_116 (by decide) ?_
            refine jr_sub [0, 1, 2, 3, 4] rfl ?_
            exact hj117_9 _ _ h
          refine jr_icmp_ne (tgt := 116) (nxt := 103) dX12_glen_100 (by decide) rfl (fun hc => ?_) (fun hc => ?_)
          · replace h := drvE hc h
            refine jr_sub [0, 1, 2, 3, 4] rfl ?_
            exact hj116_28 _ h
          · replace h := drvT hc h
            refine jr_aload_n dX12_glen_103 rfl 0 rfl ?_
            refine jr_iload dX12_glen_104 4 rfl ?_
            obtain ⟨r_31, w_30, hq_29, h⟩ := drvB2 h
            refine j_callVv lk_X12_327 wIM_X12_isBack wSE_X12_isBack (rfl : kd 205 = 11) (by decide) rfl (tX12_isBack  hq_29) (by omega) rfl rfl (Nat.le_of_ble_eq_true rfl) dX12_glen_106 ?_
            refine jr_if_eq (tgt := 116) (nxt := 112) dX12_glen_109 (by decide) rfl (fun hc => ?_) (fun hc => ?_)
            · replace h := drvT hc h
              refine jr_sub [0, 1, 2, 3, 4] rfl ?_
              exact hj116_28 _ h
            · replace h := drvE hc h
              refine jr_sub [0, 1, 2, 3, 4] rfl ?_
              exact hj112_24 _ h
        refine jr_icmp_ne (tgt := 98) (nxt := 83) dX12_glen_80 (by decide) rfl (fun hc => ?_) (fun hc => ?_)
        · replace h := drvE hc h
          refine jr_sub [0, 1, 2, 3, 4] rfl ?_
          exact (hj98_26 ()) h
        · replace h := drvT hc h
          refine jr_aload_n dX12_glen_83 rfl 0 rfl ?_
          refine gf_X12_17 (r := 207) rfl (rfl : kd 205 = 11) rfl dX12_glen_84 ?_
          refine jr_sipush (v := (788 : Int32)) dX12_glen_87 (by decide) ?_
          refine jr_iload dX12_glen_90 4 rfl ?_
          refine jr_iadd dX12_glen_92 ?_
          obtain ⟨hg_32, h⟩ := drvG h
          refine jr_iald (rfl : kd 207 = 13) hg_32 dX12_glen_93 ?_
          refine jr_iconst (v := (1 : Int32)) dX12_glen_94 (by decide) ?_
          refine jr_icmp_eq (tgt := 112) (nxt := 98) dX12_glen_95 (by decide) rfl (fun hc => ?_) (fun hc => ?_)
          · replace h := drvT hc h
            refine jr_sub [0, 1, 2, 3, 4] rfl ?_
            exact hj112_24 _ h
          · replace h := drvE hc h
            refine jr_sub [0, 1, 2, 3, 4] rfl ?_
            exact (hj98_26 ()) h
      refine jr_icmp_ne (tgt := 78) (nxt := 63) dX12_glen_60 (by decide) rfl (fun hc => ?_) (fun hc => ?_)
      · replace h := drvE hc h
        refine jr_sub [0, 1, 2, 3, 4] rfl ?_
        exact (hj78_25 ()) h
      · replace h := drvT hc h
        refine jr_aload_n dX12_glen_63 rfl 0 rfl ?_
        refine gf_X12_17 (r := 207) rfl (rfl : kd 205 = 11) rfl dX12_glen_64 ?_
        refine jr_sipush (v := (728 : Int32)) dX12_glen_67 (by decide) ?_
        refine jr_iload dX12_glen_70 4 rfl ?_
        refine jr_iadd dX12_glen_72 ?_
        obtain ⟨hg_33, h⟩ := drvG h
        refine jr_iald (rfl : kd 207 = 13) hg_33 dX12_glen_73 ?_
        refine jr_iconst (v := (1 : Int32)) dX12_glen_74 (by decide) ?_
        refine jr_icmp_eq (tgt := 112) (nxt := 78) dX12_glen_75 (by decide) rfl (fun hc => ?_) (fun hc => ?_)
        · replace h := drvT hc h
          refine jr_sub [0, 1, 2, 3, 4] rfl ?_
          exact hj112_24 _ h
        · replace h := drvE hc h
          refine jr_sub [0, 1, 2, 3, 4] rfl ?_
          exact (hj78_25 ()) h
theorem hlX12_glen_41 {n : Nat} {p1 : Int32} {p2 : Int32} {r : Int32} {w' : jWd}  : ∀ (c : Nat) (x3 : Int32) (x4 : Int32) (w : jWd) , lX12_glen_41 n p1 p2 c x3 x4 w = some (r, w') → J MX12_glen 6 w 41 [(0, .ref 205), (1, .int p1), (2, .int p2), (3, .int x3), (4, .int x4)] [] (some (.int r)) w' := by
  intro c
  induction c with
  | zero => intro x3 x4 w h; cases h
  | succ c ih => intro x3 x4 w h; exact hbX12_glen_41 (n := n) ih _ _ _ h
set_option maxHeartbeats 4000000 in
set_option maxRecDepth 100000 in
theorem tX12_glen {n : Nat} {a0 : Int32} {a1 : Int32} {w : jWd} {r : Int32} {w' : jWd}  (h : fX12_glen n a0 a1 w = some (r, w')) : JM yX12_glen MX12_glen 6 [.ref 205, .int a0, .int a1] w (some (.int r)) w' := by
  refine jm_of pl_X12 rfl (Nat.le_of_ble_eq_true rfl) ?_
  show J MX12_glen 6 w 0 [(0, .ref 205), (1, .int a0), (2, .int a1)] [] (some (.int r)) w'
  unfold fX12_glen at h
  refine jr_aload_n dX12_glen_0 rfl 0 rfl ?_
  refine jr_iconst (v := (0 : Int32)) dX12_glen_1 (by decide) ?_
  refine pf_X12_1 rfl (rfl : kd 205 = 11) dX12_glen_2 ?_
  refine j_nmw (fun w_1 e_2 => ?_)
  replace h := drvL e_2 h
  refine jr_iload_n dX12_glen_5 rfl 1 rfl ?_
  refine jr_i2l dX12_glen_6 ?_
  refine jr_lconst (v := (0 : Int64)) dX12_glen_7 rfl ?_
  refine jr_ldc2 (v := (15 : Int64)) wCC_X12_91 dX12_glen_8 ?_
  refine j_callSv lk_X12_81 wST_X12_within (tX12_within  (a0 := ((a0).toInt64)) (a1 := (0 : Int64)) (a2 := (15 : Int64)) (w := w_1)) (by omega) rfl rfl (Nat.le_of_ble_eq_true rfl) dX12_glen_11 ?_
  obtain ⟨j29_3, ej29_3, h⟩ := drvF h
  have hj29_3 : ∀ (_ : Unit), j29_3 = some (r, w') → J MX12_glen 6 w_1 29 [(0, .ref 205)] [] (some (.int r)) w' := by
    intro _ h
    rw [ej29_3] at h
    try dsimp only at h
    refine jr_aload_n dX12_glen_29 rfl 0 rfl ?_
    refine jr_bipush (v := (-2 : Int32)) dX12_glen_30 (by decide) ?_
    obtain ⟨r_6, w_5, hq_4, h⟩ := drvB2 h
    refine j_callVv lk_X12_85 wIM_X12_no wSE_X12_no (rfl : kd 205 = 11) (by decide) rfl (tX12_no  hq_4) (by omega) rfl rfl (Nat.le_of_ble_eq_true rfl) dX12_glen_32 ?_
    obtain ⟨rfl, rfl⟩ := drvS2 h
    exact jr_iret rfl dX12_glen_35
  refine jr_if_eq (tgt := 29) (nxt := 17) dX12_glen_14 (by decide) rfl (fun hc => ?_) (fun hc => ?_)
  · replace h := drvT hc h
    refine jr_sub [0] rfl ?_
    exact (hj29_3 ()) h
  · replace h := drvE hc h
    refine jr_iload_n dX12_glen_17 rfl 2 rfl ?_
    refine jr_i2l dX12_glen_18 ?_
    refine jr_lconst (v := (0 : Int64)) dX12_glen_19 rfl ?_
    refine jr_ldc2 (v := (3 : Int64)) wCC_X12_335 dX12_glen_20 ?_
    refine j_callSv lk_X12_81 wST_X12_within (tX12_within  (a0 := ((a1).toInt64)) (a1 := (0 : Int64)) (a2 := (3 : Int64)) (w := w_1)) (by omega) rfl rfl (Nat.le_of_ble_eq_true rfl) dX12_glen_23 ?_
    refine jr_if_ne (tgt := 36) (nxt := 29) dX12_glen_26 (by decide) rfl (fun hc => ?_) (fun hc => ?_)
    · replace h := drvE hc h
      refine jr_iconst (v := (0 : Int32)) dX12_glen_36 (by decide) ?_
      refine jr_istore_n (lv' := [(3, .int (0 : Int32)), (0, .ref 205), (1, .int a0), (2, .int a1)]) dX12_glen_37 rfl (by decide) rfl ?_
      refine jr_iconst (v := (0 : Int32)) dX12_glen_38 (by decide) ?_
      refine jr_istore (lv' := [(4, .int (0 : Int32)), (3, .int (0 : Int32)), (0, .ref 205), (1, .int a0), (2, .int a1)]) dX12_glen_39 (by decide) rfl ?_
      refine jr_sub [2, 3, 4, 1, 0] rfl ?_
      refine hlX12_glen_41   _ _ _ _ h
    · replace h := drvT hc h
      refine jr_sub [0] rfl ?_
      exact (hj29_3 ()) h
set_option maxHeartbeats 4000000 in
set_option maxRecDepth 100000 in
theorem tX12_image {n : Nat} {a0 : Int32} {w : jWd} {r : Int32} {w' : jWd}  (h : fX12_image n a0 w = some (r, w')) : JM yX12_image MX12_image 2 [.ref 205, .int a0] w (some (.int r)) w' := by
  refine jm_of pl_X12 rfl (Nat.le_of_ble_eq_true rfl) ?_
  show J MX12_image 2 w 0 [(0, .ref 205), (1, .int a0)] [] (some (.int r)) w'
  unfold fX12_image at h
  refine jr_aload_n dX12_image_0 rfl 0 rfl ?_
  refine jr_iconst (v := (0 : Int32)) dX12_image_1 (by decide) ?_
  refine pf_X12_1 rfl (rfl : kd 205 = 11) dX12_image_2 ?_
  refine j_nmw (fun w_1 e_2 => ?_)
  replace h := drvL e_2 h
  refine jr_iload_n dX12_image_5 rfl 1 rfl ?_
  refine jr_i2l dX12_image_6 ?_
  refine jr_lconst (v := (0 : Int64)) dX12_image_7 rfl ?_
  refine jr_lconst (v := (1 : Int64)) dX12_image_8 rfl ?_
  refine j_callSv lk_X12_81 wST_X12_within (tX12_within  (a0 := ((a0).toInt64)) (a1 := (0 : Int64)) (a2 := (1 : Int64)) (w := w_1)) (by omega) rfl rfl (Nat.le_of_ble_eq_true rfl) dX12_image_9 ?_
  refine jr_if_ne (tgt := 22) (nxt := 15) dX12_image_12 (by decide) rfl (fun hc => ?_) (fun hc => ?_)
  · replace h := drvE hc h
    refine jr_aload_n dX12_image_22 rfl 0 rfl ?_
    refine jr_iconst (v := (0 : Int32)) dX12_image_23 (by decide) ?_
    refine jr_iload_n dX12_image_24 rfl 1 rfl ?_
    refine jr_iconst (v := (1 : Int32)) dX12_image_25 (by decide) ?_
    refine jr_iadd dX12_image_26 ?_
    obtain ⟨w_4, hq_3, h⟩ := drvB h
    refine j_callVn lk_X12_368 wIM_X12_copies wSE_X12_copies (rfl : kd 205 = 11) (by decide) rfl (tX12_copies  hq_3) (by omega) rfl rfl (Nat.le_of_ble_eq_true rfl) dX12_image_27 ?_
    refine jr_aload_n dX12_image_30 rfl 0 rfl ?_
    refine gf_X12_24 (r := 209) rfl (rfl : kd 205 = 11) rfl dX12_image_31 ?_
    refine jr_iload_n dX12_image_34 rfl 1 rfl ?_
    refine jr_iconst (v := (1 : Int32)) dX12_image_35 (by decide) ?_
    obtain ⟨hg_7, h⟩ := drvG h
    refine jr_zast (rfl : kd 209 = 15) hg_7 dX12_image_36 ?_
    refine j_nmw (fun w_5 e_6 => ?_)
    replace h := drvL e_6 h
    refine jr_iconst (v := (0 : Int32)) dX12_image_37 (by decide) ?_
    obtain ⟨rfl, rfl⟩ := drvS2 h
    exact jr_iret rfl dX12_image_38
  · replace h := drvT hc h
    refine jr_aload_n dX12_image_15 rfl 0 rfl ?_
    refine jr_bipush (v := (-2 : Int32)) dX12_image_16 (by decide) ?_
    obtain ⟨r_10, w_9, hq_8, h⟩ := drvB2 h
    refine j_callVv lk_X12_85 wIM_X12_no wSE_X12_no (rfl : kd 205 = 11) (by decide) rfl (tX12_no  hq_8) (by omega) rfl rfl (Nat.le_of_ble_eq_true rfl) dX12_image_18 ?_
    obtain ⟨rfl, rfl⟩ := drvS2 h
    exact jr_iret rfl dX12_image_21
set_option maxHeartbeats 4000000 in
set_option maxRecDepth 100000 in
theorem hbX12_isAnyEarly_4 {n : Nat} {w : jWd} {r : Int32} {rec : Int32 → Int32 → Option Int32} 
    (hrec : ∀ (x1 : Int32) (x2 : Int32) , rec x1 x2 = some r → J MX12_isAnyEarly 2 w 4 [(0, .ref 205), (1, .int x1), (2, .int x2)] [] (some (.int r)) w) : ∀ (x1 : Int32) (x2 : Int32) , bX12_isAnyEarly_4 n w rec x1 x2 = some r → J MX12_isAnyEarly 2 w 4 [(0, .ref 205), (1, .int x1), (2, .int x2)] [] (some (.int r)) w := by
  intro x1 x2 h
  unfold bX12_isAnyEarly_4 at h
  refine jr_iload_n dX12_isAnyEarly_4 rfl 2 rfl ?_
  refine jr_aload_n dX12_isAnyEarly_5 rfl 0 rfl ?_
  refine gf_X12_17 (r := 207) rfl (rfl : kd 205 = 11) rfl dX12_isAnyEarly_6 ?_
  refine jr_iconst (v := (0 : Int32)) dX12_isAnyEarly_9 (by decide) ?_
  refine jr_ialdL (k := 0) (rfl : kd 207 = 13) (vp_lit (by decide) (by decide)) (by decide) dX12_isAnyEarly_10 ?_
  refine jr_icmp_ge (tgt := 38) (nxt := 14) dX12_isAnyEarly_11 (by decide) rfl (fun hc => ?_) (fun hc => ?_)
  · replace h := drvT hc h
    refine jr_iload_n dX12_isAnyEarly_38 rfl 1 rfl ?_
    obtain rfl := drvS1 h
    exact jr_bret rfl dX12_isAnyEarly_39
  · replace h := drvE hc h
    refine jr_iload_n dX12_isAnyEarly_14 rfl 1 rfl ?_
    refine jr_if_ne (tgt := 26) (nxt := 18) dX12_isAnyEarly_15 (by decide) rfl (fun hc => ?_) (fun hc => ?_)
    · replace h := drvE hc h
      refine jr_iconst (v := (1 : Int32)) dX12_isAnyEarly_26 (by decide) ?_
      refine jr_goto (tgt := 31) dX12_isAnyEarly_27 (by decide) ?_
      refine jr_istore_n (lv' := [(1, .int (1 : Int32)), (0, .ref 205), (2, .int x2)]) dX12_isAnyEarly_31 rfl (by decide) rfl ?_
      refine jr_iincN (c := (1 : Int32)) (lv' := fun (x2_1 : Int32) => [(2, .int x2_1), (1, .int (1 : Int32)), (0, .ref 205)]) dX12_isAnyEarly_32 (by decide) 2 rfl (by decide) (fun _ => rfl) (fun x2_1 e_2 => ?_)
      replace h := drvL e_2 h
      refine jr_goto (tgt := 4) dX12_isAnyEarly_35 (by decide) ?_
      refine jr_sub [2, 1, 0] rfl ?_
      exact hrec _ _ h
    · replace h := drvT hc h
      refine jr_aload_n dX12_isAnyEarly_18 rfl 0 rfl ?_
      refine jr_iload_n dX12_isAnyEarly_19 rfl 2 rfl ?_
      obtain ⟨r_4, hq_3, h⟩ := drvB h
      refine j_callVv lk_X12_250 wIM_X12_isEarly wSE_X12_isEarly (rfl : kd 205 = 11) (by decide) rfl (tX12_isEarly  hq_3) (by omega) rfl rfl (Nat.le_of_ble_eq_true rfl) dX12_isAnyEarly_20 ?_
      refine jr_if_eq (tgt := 30) (nxt := 26) dX12_isAnyEarly_23 (by decide) rfl (fun hc => ?_) (fun hc => ?_)
      · replace h := drvT hc h
        refine jr_iconst (v := (0 : Int32)) dX12_isAnyEarly_30 (by decide) ?_
        refine jr_istore_n (lv' := [(1, .int (0 : Int32)), (0, .ref 205), (2, .int x2)]) dX12_isAnyEarly_31 rfl (by decide) rfl ?_
        refine jr_iincN (c := (1 : Int32)) (lv' := fun (x2_5 : Int32) => [(2, .int x2_5), (1, .int (0 : Int32)), (0, .ref 205)]) dX12_isAnyEarly_32 (by decide) 2 rfl (by decide) (fun _ => rfl) (fun x2_5 e_6 => ?_)
        replace h := drvL e_6 h
        refine jr_goto (tgt := 4) dX12_isAnyEarly_35 (by decide) ?_
        refine jr_sub [2, 1, 0] rfl ?_
        exact hrec _ _ h
      · replace h := drvE hc h
        refine jr_iconst (v := (1 : Int32)) dX12_isAnyEarly_26 (by decide) ?_
        refine jr_goto (tgt := 31) dX12_isAnyEarly_27 (by decide) ?_
        refine jr_istore_n (lv' := [(1, .int (1 : Int32)), (0, .ref 205), (2, .int x2)]) dX12_isAnyEarly_31 rfl (by decide) rfl ?_
        refine jr_iincN (c := (1 : Int32)) (lv' := fun (x2_7 : Int32) => [(2, .int x2_7), (1, .int (1 : Int32)), (0, .ref 205)]) dX12_isAnyEarly_32 (by decide) 2 rfl (by decide) (fun _ => rfl) (fun x2_7 e_8 => ?_)
        replace h := drvL e_8 h
        refine jr_goto (tgt := 4) dX12_isAnyEarly_35 (by decide) ?_
        refine jr_sub [2, 1, 0] rfl ?_
        exact hrec _ _ h
theorem hlX12_isAnyEarly_4 {n : Nat} {w : jWd} {r : Int32}  : ∀ (c : Nat) (x1 : Int32) (x2 : Int32) , lX12_isAnyEarly_4 n w c x1 x2 = some r → J MX12_isAnyEarly 2 w 4 [(0, .ref 205), (1, .int x1), (2, .int x2)] [] (some (.int r)) w := by
  intro c
  induction c with
  | zero => intro x1 x2 h; cases h
  | succ c ih => intro x1 x2 h; exact hbX12_isAnyEarly_4 (n := n) ih _ _ h
set_option maxHeartbeats 4000000 in
set_option maxRecDepth 100000 in
theorem tX12_isAnyEarly {n : Nat} {w : jWd} {r : Int32}  (h : fX12_isAnyEarly n w = some r) : JM yX12_isAnyEarly MX12_isAnyEarly 2 [.ref 205] w (some (.int r)) w := by
  refine jm_of pl_X12 rfl (Nat.le_of_ble_eq_true rfl) ?_
  show J MX12_isAnyEarly 2 w 0 [(0, .ref 205)] [] (some (.int r)) w
  unfold fX12_isAnyEarly at h
  refine jr_iconst (v := (0 : Int32)) dX12_isAnyEarly_0 (by decide) ?_
  refine jr_istore_n (lv' := [(1, .int (0 : Int32)), (0, .ref 205)]) dX12_isAnyEarly_1 rfl (by decide) rfl ?_
  refine jr_iconst (v := (0 : Int32)) dX12_isAnyEarly_2 (by decide) ?_
  refine jr_istore_n (lv' := [(2, .int (0 : Int32)), (1, .int (0 : Int32)), (0, .ref 205)]) dX12_isAnyEarly_3 rfl (by decide) rfl ?_
  refine jr_sub [2, 1, 0] rfl ?_
  refine hlX12_isAnyEarly_4   _ _ _ h
set_option maxHeartbeats 4000000 in
set_option maxRecDepth 100000 in
theorem tX12_isLine {a0 : Int32} {a1 : Int32} {a2 : Int32} {w : jWd} {r : Int32}  (h : fX12_isLine a0 a1 a2 w = some r) : JM yX12_isLine MX12_isLine 2 [.ref 205, .int a0, .int a1, .int a2] w (some (.int r)) w := by
  refine jm_of pl_X12 rfl (Nat.le_of_ble_eq_true rfl) ?_
  show J MX12_isLine 2 w 0 [(0, .ref 205), (1, .int a0), (2, .int a1), (3, .int a2)] [] (some (.int r)) w
  unfold fX12_isLine at h
  refine jr_iload_n dX12_isLine_0 rfl 1 rfl ?_
  by_cases hs_1 : a0 = (0 : Int32)
  · replace h := drvT hs_1 h
    refine jr_tableK (tgt := 36) dX12_isLine_1 hs_1 (by decide) (by decide) rfl (by decide) ?_
    refine jr_iload_n dX12_isLine_36 rfl 2 rfl ?_
    refine jr_i2l dX12_isLine_37 ?_
    refine jr_lconst (v := (0 : Int64)) dX12_isLine_38 rfl ?_
    refine jr_aload_n dX12_isLine_39 rfl 0 rfl ?_
    refine gf_X12_17 (r := 207) rfl (rfl : kd 205 = 11) rfl dX12_isLine_40 ?_
    refine jr_iconst (v := (0 : Int32)) dX12_isLine_43 (by decide) ?_
    refine jr_ialdL (k := 0) (rfl : kd 207 = 13) (vp_lit (by decide) (by decide)) (by decide) dX12_isLine_44 ?_
    refine jr_iconst (v := (1 : Int32)) dX12_isLine_45 (by decide) ?_
    refine jr_isub dX12_isLine_46 ?_
    refine jr_i2l dX12_isLine_47 ?_
    refine j_callSv lk_X12_81 wST_X12_within (tX12_within  (a0 := ((a1).toInt64)) (a1 := (0 : Int64)) (a2 := ((((wI w 207 0) - (1 : Int32))).toInt64)) (w := w)) (by omega) rfl rfl (Nat.le_of_ble_eq_true rfl) dX12_isLine_48 ?_
    refine jr_if_eq (tgt := 79) (nxt := 54) dX12_isLine_51 (by decide) rfl (fun hc => ?_) (fun hc => ?_)
    · replace h := drvT hc h
      refine jr_iconst (v := (0 : Int32)) dX12_isLine_79 (by decide) ?_
      obtain rfl := drvS1 h
      exact jr_zret (ty := .boolean) rfl rfl dX12_isLine_80
    · replace h := drvE hc h
      refine jr_iload_n dX12_isLine_54 rfl 3 rfl ?_
      refine jr_i2l dX12_isLine_55 ?_
      refine jr_lconst (v := (0 : Int64)) dX12_isLine_56 rfl ?_
      refine jr_aload_n dX12_isLine_57 rfl 0 rfl ?_
      refine gf_X12_17 (r := 207) rfl (rfl : kd 205 = 11) rfl dX12_isLine_58 ?_
      refine jr_bipush (v := (121 : Int32)) dX12_isLine_61 (by decide) ?_
      refine jr_iload_n dX12_isLine_63 rfl 2 rfl ?_
      refine jr_iadd dX12_isLine_64 ?_
      obtain ⟨hg_2, h⟩ := drvG h
      refine jr_iald (rfl : kd 207 = 13) hg_2 dX12_isLine_65 ?_
      refine jr_iconst (v := (1 : Int32)) dX12_isLine_66 (by decide) ?_
      refine jr_isub dX12_isLine_67 ?_
      refine jr_i2l dX12_isLine_68 ?_
      refine j_callSv lk_X12_81 wST_X12_within (tX12_within  (a0 := ((a2).toInt64)) (a1 := (0 : Int64)) (a2 := ((((wI w 207 (((121 : Int32) + a1)).toNatClampNeg) - (1 : Int32))).toInt64)) (w := w)) (by omega) rfl rfl (Nat.le_of_ble_eq_true rfl) dX12_isLine_69 ?_
      refine jr_if_eq (tgt := 79) (nxt := 75) dX12_isLine_72 (by decide) rfl (fun hc => ?_) (fun hc => ?_)
      · replace h := drvT hc h
        refine jr_iconst (v := (0 : Int32)) dX12_isLine_79 (by decide) ?_
        obtain rfl := drvS1 h
        exact jr_zret (ty := .boolean) rfl rfl dX12_isLine_80
      · replace h := drvE hc h
        refine jr_iconst (v := (1 : Int32)) dX12_isLine_75 (by decide) ?_
        refine jr_goto (tgt := 80) dX12_isLine_76 (by decide) ?_
        obtain rfl := drvS1 h
        exact jr_zret (ty := .boolean) rfl rfl dX12_isLine_80
  replace h := drvE hs_1 h
  by_cases hs_3 : a0 = (1 : Int32)
  · replace h := drvT hs_3 h
    refine jr_tableK (tgt := 81) dX12_isLine_1 hs_3 (by decide) (by decide) rfl (by decide) ?_
    refine jr_iload_n dX12_isLine_81 rfl 2 rfl ?_
    refine jr_i2l dX12_isLine_82 ?_
    refine jr_lconst (v := (0 : Int64)) dX12_isLine_83 rfl ?_
    refine jr_aload_n dX12_isLine_84 rfl 0 rfl ?_
    refine gf_X12_17 (r := 207) rfl (rfl : kd 205 = 11) rfl dX12_isLine_85 ?_
    refine jr_sipush (v := (223 : Int32)) dX12_isLine_88 (by decide) ?_
    refine jr_ialdL (k := 223) (rfl : kd 207 = 13) (vp_lit (by decide) (by decide)) (by decide) dX12_isLine_91 ?_
    refine jr_iconst (v := (1 : Int32)) dX12_isLine_92 (by decide) ?_
    refine jr_isub dX12_isLine_93 ?_
    refine jr_i2l dX12_isLine_94 ?_
    refine j_callSv lk_X12_81 wST_X12_within (tX12_within  (a0 := ((a1).toInt64)) (a1 := (0 : Int64)) (a2 := ((((wI w 207 223) - (1 : Int32))).toInt64)) (w := w)) (by omega) rfl rfl (Nat.le_of_ble_eq_true rfl) dX12_isLine_95 ?_
    refine jr_if_eq (tgt := 127) (nxt := 101) dX12_isLine_98 (by decide) rfl (fun hc => ?_) (fun hc => ?_)
    · replace h := drvT hc h
      refine jr_iconst (v := (0 : Int32)) dX12_isLine_127 (by decide) ?_
      obtain rfl := drvS1 h
      exact jr_zret (ty := .boolean) rfl rfl dX12_isLine_128
    · replace h := drvE hc h
      refine jr_iload_n dX12_isLine_101 rfl 3 rfl ?_
      refine jr_i2l dX12_isLine_102 ?_
      refine jr_lconst (v := (0 : Int64)) dX12_isLine_103 rfl ?_
      refine jr_aload_n dX12_isLine_104 rfl 0 rfl ?_
      refine gf_X12_17 (r := 207) rfl (rfl : kd 205 = 11) rfl dX12_isLine_105 ?_
      refine jr_sipush (v := (236 : Int32)) dX12_isLine_108 (by decide) ?_
      refine jr_iload_n dX12_isLine_111 rfl 2 rfl ?_
      refine jr_iadd dX12_isLine_112 ?_
      obtain ⟨hg_4, h⟩ := drvG h
      refine jr_iald (rfl : kd 207 = 13) hg_4 dX12_isLine_113 ?_
      refine jr_iconst (v := (1 : Int32)) dX12_isLine_114 (by decide) ?_
      refine jr_isub dX12_isLine_115 ?_
      refine jr_i2l dX12_isLine_116 ?_
      refine j_callSv lk_X12_81 wST_X12_within (tX12_within  (a0 := ((a2).toInt64)) (a1 := (0 : Int64)) (a2 := ((((wI w 207 (((236 : Int32) + a1)).toNatClampNeg) - (1 : Int32))).toInt64)) (w := w)) (by omega) rfl rfl (Nat.le_of_ble_eq_true rfl) dX12_isLine_117 ?_
      refine jr_if_eq (tgt := 127) (nxt := 123) dX12_isLine_120 (by decide) rfl (fun hc => ?_) (fun hc => ?_)
      · replace h := drvT hc h
        refine jr_iconst (v := (0 : Int32)) dX12_isLine_127 (by decide) ?_
        obtain rfl := drvS1 h
        exact jr_zret (ty := .boolean) rfl rfl dX12_isLine_128
      · replace h := drvE hc h
        refine jr_iconst (v := (1 : Int32)) dX12_isLine_123 (by decide) ?_
        refine jr_goto (tgt := 128) dX12_isLine_124 (by decide) ?_
        obtain rfl := drvS1 h
        exact jr_zret (ty := .boolean) rfl rfl dX12_isLine_128
  replace h := drvE hs_3 h
  by_cases hs_5 : a0 = (2 : Int32)
  · replace h := drvT hs_5 h
    refine jr_tableK (tgt := 129) dX12_isLine_1 hs_5 (by decide) (by decide) rfl (by decide) ?_
    refine jr_iload_n dX12_isLine_129 rfl 3 rfl ?_
    refine jr_i2l dX12_isLine_130 ?_
    refine jr_lconst (v := (0 : Int64)) dX12_isLine_131 rfl ?_
    refine jr_aload_n dX12_isLine_132 rfl 0 rfl ?_
    refine gf_X12_17 (r := 207) rfl (rfl : kd 205 = 11) rfl dX12_isLine_133 ?_
    refine jr_sipush (v := (162 : Int32)) dX12_isLine_136 (by decide) ?_
    refine jr_ialdL (k := 162) (rfl : kd 207 = 13) (vp_lit (by decide) (by decide)) (by decide) dX12_isLine_139 ?_
    refine jr_iconst (v := (1 : Int32)) dX12_isLine_140 (by decide) ?_
    refine jr_isub dX12_isLine_141 ?_
    refine jr_i2l dX12_isLine_142 ?_
    refine j_callSv lk_X12_81 wST_X12_within (tX12_within  (a0 := ((a2).toInt64)) (a1 := (0 : Int64)) (a2 := ((((wI w 207 162) - (1 : Int32))).toInt64)) (w := w)) (by omega) rfl rfl (Nat.le_of_ble_eq_true rfl) dX12_isLine_143 ?_
    obtain rfl := drvS1 h
    exact jr_bret rfl dX12_isLine_146
  replace h := drvE hs_5 h
  by_cases hs_6 : a0 = (3 : Int32)
  · replace h := drvT hs_6 h
    refine jr_tableK (tgt := 147) dX12_isLine_1 hs_6 (by decide) (by decide) rfl (by decide) ?_
    refine jr_iload_n dX12_isLine_147 rfl 2 rfl ?_
    refine jr_i2l dX12_isLine_148 ?_
    refine jr_lconst (v := (0 : Int64)) dX12_isLine_149 rfl ?_
    refine jr_aload_n dX12_isLine_150 rfl 0 rfl ?_
    refine gf_X12_17 (r := 207) rfl (rfl : kd 205 = 11) rfl dX12_isLine_151 ?_
    refine jr_sipush (v := (506 : Int32)) dX12_isLine_154 (by decide) ?_
    refine jr_ialdL (k := 506) (rfl : kd 207 = 13) (vp_lit (by decide) (by decide)) (by decide) dX12_isLine_157 ?_
    refine jr_iconst (v := (1 : Int32)) dX12_isLine_158 (by decide) ?_
    refine jr_isub dX12_isLine_159 ?_
    refine jr_i2l dX12_isLine_160 ?_
    refine j_callSv lk_X12_81 wST_X12_within (tX12_within  (a0 := ((a1).toInt64)) (a1 := (0 : Int64)) (a2 := ((((wI w 207 506) - (1 : Int32))).toInt64)) (w := w)) (by omega) rfl rfl (Nat.le_of_ble_eq_true rfl) dX12_isLine_161 ?_
    obtain rfl := drvS1 h
    exact jr_bret rfl dX12_isLine_164
  replace h := drvE hs_6 h
  by_cases hs_7 : a0 = (4 : Int32)
  · replace h := drvT hs_7 h
    refine jr_tableK (tgt := 147) dX12_isLine_1 hs_7 (by decide) (by decide) rfl (by decide) ?_
    refine jr_iload_n dX12_isLine_147 rfl 2 rfl ?_
    refine jr_i2l dX12_isLine_148 ?_
    refine jr_lconst (v := (0 : Int64)) dX12_isLine_149 rfl ?_
    refine jr_aload_n dX12_isLine_150 rfl 0 rfl ?_
    refine gf_X12_17 (r := 207) rfl (rfl : kd 205 = 11) rfl dX12_isLine_151 ?_
    refine jr_sipush (v := (506 : Int32)) dX12_isLine_154 (by decide) ?_
    refine jr_ialdL (k := 506) (rfl : kd 207 = 13) (vp_lit (by decide) (by decide)) (by decide) dX12_isLine_157 ?_
    refine jr_iconst (v := (1 : Int32)) dX12_isLine_158 (by decide) ?_
    refine jr_isub dX12_isLine_159 ?_
    refine jr_i2l dX12_isLine_160 ?_
    refine j_callSv lk_X12_81 wST_X12_within (tX12_within  (a0 := ((a1).toInt64)) (a1 := (0 : Int64)) (a2 := ((((wI w 207 506) - (1 : Int32))).toInt64)) (w := w)) (by omega) rfl rfl (Nat.le_of_ble_eq_true rfl) dX12_isLine_161 ?_
    obtain rfl := drvS1 h
    exact jr_bret rfl dX12_isLine_164
  replace h := drvE hs_7 h
  refine jr_tableOut (tgt := 165) dX12_isLine_1 (by have a0 := lv_neT hs_1 (show (0 : Int32).toInt = 0 from rfl); have a1 := lv_neT hs_3 (show (1 : Int32).toInt = 1 from rfl); have a2 := lv_neT hs_5 (show (2 : Int32).toInt = 2 from rfl); have a3 := lv_neT hs_6 (show (3 : Int32).toInt = 3 from rfl); have a4 := lv_neT hs_7 (show (4 : Int32).toInt = 4 from rfl); omega) (by decide) ?_
  refine jr_iconst (v := (0 : Int32)) dX12_isLine_165 (by decide) ?_
  obtain rfl := drvS1 h
  exact jr_zret (ty := .boolean) rfl rfl dX12_isLine_166
set_option maxHeartbeats 4000000 in
set_option maxRecDepth 100000 in
theorem tX12_isMuddled {n : Nat} {a0 : Int32} {w : jWd} {r : Int32} {w' : jWd}  (h : fX12_isMuddled n a0 w = some (r, w')) : JM yX12_isMuddled MX12_isMuddled 5 [.ref 205, .int a0] w (some (.int r)) w' := by
  refine jm_of pl_X12 rfl (Nat.le_of_ble_eq_true rfl) ?_
  show J MX12_isMuddled 5 w 0 [(0, .ref 205), (1, .int a0)] [] (some (.int r)) w'
  unfold fX12_isMuddled at h
  refine jr_aload_n dX12_isMuddled_0 rfl 0 rfl ?_
  refine gf_X12_20 (r := 208) rfl (rfl : kd 205 = 11) rfl dX12_isMuddled_1 ?_
  refine jr_sipush (v := (724 : Int32)) dX12_isMuddled_4 (by decide) ?_
  refine jr_iload_n dX12_isMuddled_7 rfl 1 rfl ?_
  refine jr_iadd dX12_isMuddled_8 ?_
  obtain ⟨hg_1, h⟩ := drvG h
  refine jr_lald (rfl : kd 208 = 14) hg_1 dX12_isMuddled_9 ?_
  refine j_nml (fun x2_2 e_3 => ?_)
  replace h := drvL e_3 h
  refine jr_lstore_n (lv' := [(2, .long x2_2), (0, .ref 205), (1, .int a0)]) dX12_isMuddled_10 rfl (by decide) rfl ?_
  refine jr_aload_n dX12_isMuddled_11 rfl 1 rfl ?_
  refine gf_X12_17 (r := 207) rfl (rfl : kd 205 = 11) rfl dX12_isMuddled_12 ?_
  refine jr_sipush (v := (788 : Int32)) dX12_isMuddled_15 (by decide) ?_
  refine jr_iload_n dX12_isMuddled_18 rfl 2 rfl ?_
  refine jr_iadd dX12_isMuddled_19 ?_
  obtain ⟨hg_4, h⟩ := drvG h
  refine jr_iald (rfl : kd 207 = 13) hg_4 dX12_isMuddled_20 ?_
  refine jr_iconst (v := (1 : Int32)) dX12_isMuddled_21 (by decide) ?_
  refine jr_icmp_ne (tgt := 68) (nxt := 25) dX12_isMuddled_22 (by decide) rfl (fun hc => ?_) (fun hc => ?_)
  · replace h := drvE hc h
    refine jr_iconst (v := (0 : Int32)) dX12_isMuddled_68 (by decide) ?_
    obtain ⟨rfl, rfl⟩ := drvS2 h
    exact jr_zret (ty := .boolean) rfl rfl dX12_isMuddled_69
  · replace h := drvT hc h
    refine jr_lload_n dX12_isMuddled_25 rfl 0 rfl ?_
    refine jr_lconst (v := (0 : Int64)) dX12_isMuddled_26 rfl ?_
    refine jr_lcmp dX12_isMuddled_27 ?_
    refine jr_if_eq (tgt := 68) (nxt := 31) dX12_isMuddled_28 (by decide) rfl (fun hc => ?_) (fun hc => ?_)
    · replace h := drvT hc h
      refine jr_iconst (v := (0 : Int32)) dX12_isMuddled_68 (by decide) ?_
      obtain ⟨rfl, rfl⟩ := drvS2 h
      exact jr_zret (ty := .boolean) rfl rfl dX12_isMuddled_69
    · replace h := drvE hc h
      refine jr_aload_n dX12_isMuddled_31 rfl 1 rfl ?_
      refine jr_lload_n dX12_isMuddled_32 rfl 0 rfl ?_
      refine jr_iconst (v := (1 : Int32)) dX12_isMuddled_33 (by decide) ?_
      obtain ⟨r_7, w_6, hq_5, h⟩ := drvB2 h
      refine j_callVv lk_X12_275 wIM_X12_mostOfSongs wSE_X12_mostOfSongs (rfl : kd 205 = 11) (by decide) rfl (tX12_mostOfSongs  hq_5) (by omega) rfl rfl (Nat.le_of_ble_eq_true rfl) dX12_isMuddled_34 ?_
      refine jr_aload_n dX12_isMuddled_37 rfl 1 rfl ?_
      refine gf_X12_17 (r := 207) rfl (rfl : kd 205 = 11) rfl dX12_isMuddled_38 ?_
      refine jr_sipush (v := (248 : Int32)) dX12_isMuddled_41 (by decide) ?_
      refine jr_ialdL (k := 248) (rfl : kd 207 = 13) (vp_lit (by decide) (by decide)) (by decide) dX12_isMuddled_44 ?_
      refine jr_icmp_lt (tgt := 68) (nxt := 48) dX12_isMuddled_45 (by decide) rfl (fun hc => ?_) (fun hc => ?_)
      · replace h := drvT hc h
        refine jr_iconst (v := (0 : Int32)) dX12_isMuddled_68 (by decide) ?_
        obtain ⟨rfl, rfl⟩ := drvS2 h
        exact jr_zret (ty := .boolean) rfl rfl dX12_isMuddled_69
      · replace h := drvE hc h
        refine jr_aload_n dX12_isMuddled_48 rfl 1 rfl ?_
        refine jr_lload_n dX12_isMuddled_49 rfl 0 rfl ?_
        obtain ⟨r_10, w_9, hq_8, h⟩ := drvB2 h
        refine j_callVv lk_X12_279 wIM_X12_mostOfPrint wSE_X12_mostOfPrint (rfl : kd 205 = 11) (by decide) rfl (tX12_mostOfPrint  hq_8) (by omega) rfl rfl (Nat.le_of_ble_eq_true rfl) dX12_isMuddled_50 ?_
        refine jr_aload_n dX12_isMuddled_53 rfl 1 rfl ?_
        refine gf_X12_17 (r := 207) rfl (rfl : kd 205 = 11) rfl dX12_isMuddled_54 ?_
        refine jr_sipush (v := (248 : Int32)) dX12_isMuddled_57 (by decide) ?_
        refine jr_ialdL (k := 248) (rfl : kd 207 = 13) (vp_lit (by decide) (by decide)) (by decide) dX12_isMuddled_60 ?_
        refine jr_icmp_ge (tgt := 68) (nxt := 64) dX12_isMuddled_61 (by decide) rfl (fun hc => ?_) (fun hc => ?_)
        · replace h := drvT hc h
          refine jr_iconst (v := (0 : Int32)) dX12_isMuddled_68 (by decide) ?_
          obtain ⟨rfl, rfl⟩ := drvS2 h
          exact jr_zret (ty := .boolean) rfl rfl dX12_isMuddled_69
        · replace h := drvE hc h
          refine jr_iconst (v := (1 : Int32)) dX12_isMuddled_64 (by decide) ?_
          refine jr_goto (tgt := 69) dX12_isMuddled_65 (by decide) ?_
          obtain ⟨rfl, rfl⟩ := drvS2 h
          exact jr_zret (ty := .boolean) rfl rfl dX12_isMuddled_69
set_option maxHeartbeats 4000000 in
set_option maxRecDepth 100000 in
theorem tX12_late {n : Nat} {a0 : Int32} {a1 : Int32} {w : jWd} {r : Int32} {w' : jWd}  (h : fX12_late n a0 a1 w = some (r, w')) : JM yX12_late MX12_late 5 [.ref 205, .int a0, .int a1] w (some (.int r)) w' := by
  refine jm_of pl_X12 rfl (Nat.le_of_ble_eq_true rfl) ?_
  show J MX12_late 5 w 0 [(0, .ref 205), (1, .int a0), (2, .int a1)] [] (some (.int r)) w'
  unfold fX12_late at h
  refine jr_aload_n dX12_late_0 rfl 0 rfl ?_
  refine jr_iconst (v := (0 : Int32)) dX12_late_1 (by decide) ?_
  refine pf_X12_1 rfl (rfl : kd 205 = 11) dX12_late_2 ?_
  refine j_nmw (fun w_1 e_2 => ?_)
  replace h := drvL e_2 h
  refine jr_aload_n dX12_late_5 rfl 0 rfl ?_
  refine jr_iconst (v := (0 : Int32)) dX12_late_6 (by decide) ?_
  refine jr_iload_n dX12_late_7 rfl 1 rfl ?_
  refine jr_iload_n dX12_late_8 rfl 2 rfl ?_
  obtain ⟨r_4, hq_3, h⟩ := drvB h
  refine j_callVv lk_X12_107 wIM_X12_isLine wSE_X12_isLine (rfl : kd 205 = 11) (by decide) rfl (tX12_isLine  hq_3) (by omega) rfl rfl (Nat.le_of_ble_eq_true rfl) dX12_late_9 ?_
  refine jr_if_ne (tgt := 22) (nxt := 15) dX12_late_12 (by decide) rfl (fun hc => ?_) (fun hc => ?_)
  · replace h := drvE hc h
    refine jr_aload_n dX12_late_22 rfl 0 rfl ?_
    refine jr_iload_n dX12_late_23 rfl 1 rfl ?_
    obtain ⟨r_6, hq_5, h⟩ := drvB h
    refine j_callVv lk_X12_250 wIM_X12_isEarly wSE_X12_isEarly (rfl : kd 205 = 11) (by decide) rfl (tX12_isEarly  hq_5) (by omega) rfl rfl (Nat.le_of_ble_eq_true rfl) dX12_late_24 ?_
    refine jr_if_eq (tgt := 37) (nxt := 30) dX12_late_27 (by decide) rfl (fun hc => ?_) (fun hc => ?_)
    · replace h := drvT hc h
      refine jr_aload_n dX12_late_37 rfl 0 rfl ?_
      refine gf_X12_20 (r := 208) rfl (rfl : kd 205 = 11) rfl dX12_late_38 ?_
      refine jr_bipush (v := (12 : Int32)) dX12_late_41 (by decide) ?_
      refine jr_iload_n dX12_late_43 rfl 1 rfl ?_
      refine jr_imul dX12_late_44 ?_
      refine jr_iload_n dX12_late_45 rfl 2 rfl ?_
      refine jr_iadd dX12_late_46 ?_
      obtain ⟨hg_7, h⟩ := drvG h
      refine jr_lald (rfl : kd 208 = 14) hg_7 dX12_late_47 ?_
      refine j_nml (fun x3_8 e_9 => ?_)
      replace h := drvL e_9 h
      refine jr_lstore_n (lv' := [(3, .long x3_8), (0, .ref 205), (1, .int a0), (2, .int a1)]) dX12_late_48 rfl (by decide) rfl ?_
      refine jr_aload_n dX12_late_49 rfl 1 rfl ?_
      refine jr_lload_n dX12_late_50 rfl 0 rfl ?_
      refine jr_iconst (v := (1 : Int32)) dX12_late_51 (by decide) ?_
      obtain ⟨r_12, w_11, hq_10, h⟩ := drvB2 h
      refine j_callVv lk_X12_275 wIM_X12_mostOfSongs wSE_X12_mostOfSongs (rfl : kd 205 = 11) (by decide) rfl (tX12_mostOfSongs  hq_10) (by omega) rfl rfl (Nat.le_of_ble_eq_true rfl) dX12_late_52 ?_
      refine jr_aload_n dX12_late_55 rfl 1 rfl ?_
      refine gf_X12_17 (r := 207) rfl (rfl : kd 205 = 11) rfl dX12_late_56 ?_
      refine jr_sipush (v := (248 : Int32)) dX12_late_59 (by decide) ?_
      refine jr_ialdL (k := 248) (rfl : kd 207 = 13) (vp_lit (by decide) (by decide)) (by decide) dX12_late_62 ?_
      refine jr_icmp_lt (tgt := 70) (nxt := 66) dX12_late_63 (by decide) rfl (fun hc => ?_) (fun hc => ?_)
      · replace h := drvT hc h
        refine jr_aload_n dX12_late_70 rfl 1 rfl ?_
        refine jr_lload_n dX12_late_71 rfl 0 rfl ?_
        obtain ⟨r_15, w_14, hq_13, h⟩ := drvB2 h
        refine j_callVv lk_X12_279 wIM_X12_mostOfPrint wSE_X12_mostOfPrint (rfl : kd 205 = 11) (by decide) rfl (tX12_mostOfPrint  hq_13) (by omega) rfl rfl (Nat.le_of_ble_eq_true rfl) dX12_late_72 ?_
        refine jr_aload_n dX12_late_75 rfl 1 rfl ?_
        refine gf_X12_17 (r := 207) rfl (rfl : kd 205 = 11) rfl dX12_late_76 ?_
        refine jr_sipush (v := (248 : Int32)) dX12_late_79 (by decide) ?_
        refine jr_ialdL (k := 248) (rfl : kd 207 = 13) (vp_lit (by decide) (by decide)) (by decide) dX12_late_82 ?_
        refine jr_icmp_lt (tgt := 90) (nxt := 86) dX12_late_83 (by decide) rfl (fun hc => ?_) (fun hc => ?_)
        · replace h := drvT hc h
          refine jr_iconst (v := (0 : Int32)) dX12_late_90 (by decide) ?_
          obtain ⟨rfl, rfl⟩ := drvS2 h
          exact jr_iret rfl dX12_late_91
        · replace h := drvE hc h
          refine jr_iconst (v := (2 : Int32)) dX12_late_86 (by decide) ?_
          refine jr_goto (tgt := 91) dX12_late_87 (by decide) ?_
          obtain ⟨rfl, rfl⟩ := drvS2 h
          exact jr_iret rfl dX12_late_91
      · replace h := drvE hc h
        refine jr_iconst (v := (1 : Int32)) dX12_late_66 (by decide) ?_
        refine jr_goto (tgt := 91) dX12_late_67 (by decide) ?_
        obtain ⟨rfl, rfl⟩ := drvS2 h
        exact jr_iret rfl dX12_late_91
    · replace h := drvE hc h
      refine jr_aload_n dX12_late_30 rfl 0 rfl ?_
      refine jr_bipush (v := (-5 : Int32)) dX12_late_31 (by decide) ?_
      obtain ⟨r_18, w_17, hq_16, h⟩ := drvB2 h
      refine j_callVv lk_X12_85 wIM_X12_no wSE_X12_no (rfl : kd 205 = 11) (by decide) rfl (tX12_no  hq_16) (by omega) rfl rfl (Nat.le_of_ble_eq_true rfl) dX12_late_33 ?_
      obtain ⟨rfl, rfl⟩ := drvS2 h
      exact jr_iret rfl dX12_late_36
  · replace h := drvT hc h
    refine jr_aload_n dX12_late_15 rfl 0 rfl ?_
    refine jr_bipush (v := (-2 : Int32)) dX12_late_16 (by decide) ?_
    obtain ⟨r_21, w_20, hq_19, h⟩ := drvB2 h
    refine j_callVv lk_X12_85 wIM_X12_no wSE_X12_no (rfl : kd 205 = 11) (by decide) rfl (tX12_no  hq_19) (by omega) rfl rfl (Nat.le_of_ble_eq_true rfl) dX12_late_18 ?_
    obtain ⟨rfl, rfl⟩ := drvS2 h
    exact jr_iret rfl dX12_late_21
set_option maxHeartbeats 4000000 in
set_option maxRecDepth 100000 in
theorem tX12_like {n : Nat} {a0 : Int64} {a1 : Int64} {w : jWd} {r : Int32} {w' : jWd}  (h : fX12_like n a0 a1 w = some (r, w')) : JM yX12_like MX12_like 4 [.ref 205, .long a0, .long a1] w (some (.int r)) w' := by
  refine jm_of pl_X12 rfl (Nat.le_of_ble_eq_true rfl) ?_
  show J MX12_like 4 w 0 [(0, .ref 205), (1, .long a0), (3, .long a1)] [] (some (.int r)) w'
  unfold fX12_like at h
  refine jr_aload_n dX12_like_0 rfl 0 rfl ?_
  refine jr_iconst (v := (0 : Int32)) dX12_like_1 (by decide) ?_
  refine pf_X12_1 rfl (rfl : kd 205 = 11) dX12_like_2 ?_
  refine j_nmw (fun w_1 e_2 => ?_)
  replace h := drvL e_2 h
  refine jr_lload_n dX12_like_5 rfl 1 rfl ?_
  obtain ⟨r_4, hq_3, h⟩ := drvB h
  refine j_callSv lk_X12_77 wST_X12_lengthOf (tX12_lengthOf  hq_3) (by omega) rfl rfl (Nat.le_of_ble_eq_true rfl) dX12_like_6 ?_
  obtain ⟨j19_5, ej19_5, h⟩ := drvF h
  have hj19_5 : ∀ (_ : Unit), j19_5 = some (r, w') → J MX12_like 4 w_1 19 [(0, .ref 205)] [] (some (.int r)) w' := by
    intro _ h
    rw [ej19_5] at h
    try dsimp only at h
    refine jr_aload_n dX12_like_19 rfl 0 rfl ?_
    refine jr_bipush (v := (-3 : Int32)) dX12_like_20 (by decide) ?_
    obtain ⟨r_8, w_7, hq_6, h⟩ := drvB2 h
    refine j_callVv lk_X12_85 wIM_X12_no wSE_X12_no (rfl : kd 205 = 11) (by decide) rfl (tX12_no  hq_6) (by omega) rfl rfl (Nat.le_of_ble_eq_true rfl) dX12_like_22 ?_
    obtain ⟨rfl, rfl⟩ := drvS2 h
    exact jr_iret rfl dX12_like_25
  refine jr_if_eq (tgt := 19) (nxt := 12) dX12_like_9 (by decide) rfl (fun hc => ?_) (fun hc => ?_)
  · replace h := drvT hc h
    refine jr_sub [0] rfl ?_
    exact (hj19_5 ()) h
  · replace h := drvE hc h
    refine jr_lload_n dX12_like_12 rfl 2 rfl ?_
    obtain ⟨r_10, hq_9, h⟩ := drvB h
    refine j_callSv lk_X12_77 wST_X12_lengthOf (tX12_lengthOf  hq_9) (by omega) rfl rfl (Nat.le_of_ble_eq_true rfl) dX12_like_13 ?_
    refine jr_if_ne (tgt := 26) (nxt := 19) dX12_like_16 (by decide) rfl (fun hc => ?_) (fun hc => ?_)
    · replace h := drvE hc h
      refine jr_aload_n dX12_like_26 rfl 0 rfl ?_
      refine jr_lload_n dX12_like_27 rfl 1 rfl ?_
      refine jr_lload_n dX12_like_28 rfl 2 rfl ?_
      obtain ⟨r_13, w_12, hq_11, h⟩ := drvB2 h
      refine j_callVv lk_X12_111 wIM_X12_likeOf wSE_X12_likeOf (rfl : kd 205 = 11) (by decide) rfl (tX12_likeOf  hq_11) (by omega) rfl rfl (Nat.le_of_ble_eq_true rfl) dX12_like_29 ?_
      obtain ⟨rfl, rfl⟩ := drvS2 h
      exact jr_iret rfl dX12_like_32
    · replace h := drvT hc h
      refine jr_sub [0] rfl ?_
      exact (hj19_5 ()) h
set_option maxHeartbeats 4000000 in
set_option maxRecDepth 100000 in
theorem tX12_line {n : Nat} {a0 : Int32} {a1 : Int32} {a2 : Int32} {a3 : Int64} {w : jWd} {r : Int32} {w' : jWd}  (h : fX12_line n a0 a1 a2 a3 w = some (r, w')) : JM yX12_line MX12_line 4 [.ref 205, .int a0, .int a1, .int a2, .long a3] w (some (.int r)) w' := by
  refine jm_of pl_X12 rfl (Nat.le_of_ble_eq_true rfl) ?_
  show J MX12_line 4 w 0 [(0, .ref 205), (1, .int a0), (2, .int a1), (3, .int a2), (4, .long a3)] [] (some (.int r)) w'
  unfold fX12_line at h
  refine jr_aload_n dX12_line_0 rfl 0 rfl ?_
  refine jr_iconst (v := (0 : Int32)) dX12_line_1 (by decide) ?_
  refine pf_X12_1 rfl (rfl : kd 205 = 11) dX12_line_2 ?_
  refine j_nmw (fun w_1 e_2 => ?_)
  replace h := drvL e_2 h
  refine jr_iload_n dX12_line_5 rfl 1 rfl ?_
  obtain ⟨j63_3, ej63_3, h⟩ := drvF h
  have hj63_3 : ∀ (_ : Unit), j63_3 = some (r, w') → J MX12_line 4 w_1 63 [(0, .ref 205)] [] (some (.int r)) w' := by
    intro _ h
    rw [ej63_3] at h
    try dsimp only at h
    refine jr_aload_n dX12_line_63 rfl 0 rfl ?_
    refine jr_bipush (v := (-2 : Int32)) dX12_line_64 (by decide) ?_
    obtain ⟨r_6, w_5, hq_4, h⟩ := drvB2 h
    refine j_callVv lk_X12_85 wIM_X12_no wSE_X12_no (rfl : kd 205 = 11) (by decide) rfl (tX12_no  hq_4) (by omega) rfl rfl (Nat.le_of_ble_eq_true rfl) dX12_line_66 ?_
    obtain ⟨rfl, rfl⟩ := drvS2 h
    exact jr_iret rfl dX12_line_69
  obtain ⟨j70_7, ej70_7, h⟩ := drvF h
  have hj70_7 : ∀ (_ : Unit), j70_7 = some (r, w') → J MX12_line 4 w_1 70 [(0, .ref 205), (1, .int a0), (2, .int a1), (3, .int a2), (4, .long a3)] [] (some (.int r)) w' := by
    intro _ h
    rw [ej70_7] at h
    try dsimp only at h
    refine jr_lload dX12_line_70 4 rfl ?_
    obtain ⟨r_9, hq_8, h⟩ := drvB h
    refine j_callSv lk_X12_77 wST_X12_lengthOf (tX12_lengthOf  hq_8) (by omega) rfl rfl (Nat.le_of_ble_eq_true rfl) dX12_line_72 ?_
    obtain ⟨j95_10, ej95_10, h⟩ := drvF h
    have hj95_10 : ∀ (_ : Unit), j95_10 = some (r, w') → J MX12_line 4 w_1 95 [(0, .ref 205)] [] (some (.int r)) w' := by
      intro _ h
      rw [ej95_10] at h
      try dsimp only at h
      refine jr_aload_n dX12_line_95 rfl 0 rfl ?_
      refine jr_bipush (v := (-3 : Int32)) dX12_line_96 (by decide) ?_
      obtain ⟨r_13, w_12, hq_11, h⟩ := drvB2 h
      refine j_callVv lk_X12_85 wIM_X12_no wSE_X12_no (rfl : kd 205 = 11) (by decide) rfl (tX12_no  hq_11) (by omega) rfl rfl (Nat.le_of_ble_eq_true rfl) dX12_line_98 ?_
      obtain ⟨rfl, rfl⟩ := drvS2 h
      exact jr_iret rfl dX12_line_101
    refine jr_if_eq (tgt := 95) (nxt := 78) dX12_line_75 (by decide) rfl (fun hc => ?_) (fun hc => ?_)
    · replace h := drvT hc h
      refine jr_sub [0] rfl ?_
      exact (hj95_10 ()) h
    · replace h := drvE hc h
      refine jr_iload_n dX12_line_78 rfl 1 rfl ?_
      refine jr_iconst (v := (2 : Int32)) dX12_line_79 (by decide) ?_
      obtain ⟨j102_14, ej102_14, h⟩ := drvF h
      have hj102_14 : ∀ (_ : Unit), j102_14 = some (r, w') → J MX12_line 4 w_1 102 [(0, .ref 205), (1, .int a0), (2, .int a1), (3, .int a2), (4, .long a3)] [] (some (.int r)) w' := by
        intro _ h
        rw [ej102_14] at h
        try dsimp only at h
        refine jr_iload_n dX12_line_102 rfl 1 rfl ?_
        refine jr_iconst (v := (2 : Int32)) dX12_line_103 (by decide) ?_
        refine jr_icmp_ne (tgt := 190) (nxt := 107) dX12_line_104 (by decide) rfl (fun hc => ?_) (fun hc => ?_)
        · replace h := drvE hc h
          refine jr_iload_n dX12_line_190 rfl 1 rfl ?_
          obtain ⟨j206_16, ej206_16, h⟩ := drvF h
          have hj206_16 : ∀ (s_15 : Int32), j206_16 s_15 = some (r, w') → J MX12_line 4 w_1 206 [(0, .ref 205), (1, .int a0), (2, .int a1), (4, .long a3)] [.int s_15] (some (.int r)) w' := by
            intro s_15 h
            rw [ej206_16] at h
            try dsimp only at h
            refine jr_istore (lv' := [(6, .int s_15), (0, .ref 205), (1, .int a0), (2, .int a1), (4, .long a3)]) dX12_line_206 (by decide) rfl ?_
            refine jr_aload_n dX12_line_208 rfl 1 rfl ?_
            refine gf_X12_17 (r := 207) rfl (rfl : kd 205 = 11) rfl dX12_line_209 ?_
            refine jr_iload dX12_line_212 0 rfl ?_
            obtain ⟨hg_17, h⟩ := drvG h
            refine jr_iald (rfl : kd 207 = 13) hg_17 dX12_line_214 ?_
            refine jr_bipush (v := (12 : Int32)) dX12_line_215 (by decide) ?_
            refine jr_icmp_ne (tgt := 227) (nxt := 220) dX12_line_217 (by decide) rfl (fun hc => ?_) (fun hc => ?_)
            · replace h := drvE hc h
              refine jr_aload_n dX12_line_227 rfl 1 rfl ?_
              refine gf_X12_20 (r := 208) rfl (rfl : kd 205 = 11) rfl dX12_line_228 ?_
              refine jr_iload_n dX12_line_231 rfl 2 rfl ?_
              obtain ⟨j242_19, ej242_19, h⟩ := drvF h
              have hj242_19 : ∀ (s_18 : Int32), j242_19 s_18 = some (r, w') → J MX12_line 4 w_1 242 [(0, .ref 205), (2, .int a1), (4, .long a3), (6, .int s_15)] [.int s_18, .ref 208] (some (.int r)) w' := by
                intro s_18 h
                rw [ej242_19] at h
                try dsimp only at h
                refine jr_bipush (v := (12 : Int32)) dX12_line_242 (by decide) ?_
                refine jr_iload_n dX12_line_244 rfl 1 rfl ?_
                refine jr_imul dX12_line_245 ?_
                refine jr_iadd dX12_line_246 ?_
                refine jr_aload_n dX12_line_247 rfl 0 rfl ?_
                refine gf_X12_17 (r := 207) rfl (rfl : kd 205 = 11) rfl dX12_line_248 ?_
                refine jr_iload dX12_line_251 3 rfl ?_
                obtain ⟨hg_20, h⟩ := drvG h
                refine jr_iald (rfl : kd 207 = 13) hg_20 dX12_line_253 ?_
                refine jr_iadd dX12_line_254 ?_
                refine jr_lload dX12_line_255 2 rfl ?_
                obtain ⟨r_22, hq_21, h⟩ := drvB h
                refine j_callSv lk_X12_101 wST_X12_plain (tX12_plain  hq_21) (by omega) rfl rfl (Nat.le_of_ble_eq_true rfl) dX12_line_257 ?_
                obtain ⟨hg_25, h⟩ := drvG h
                refine jr_last (rfl : kd 208 = 14) hg_25 dX12_line_260 ?_
                refine j_nmw (fun w_23 e_24 => ?_)
                replace h := drvL e_24 h
                refine jr_aload_n dX12_line_261 rfl 0 rfl ?_
                refine gf_X12_17 (r := 207) rfl (rfl : kd 205 = 11) rfl dX12_line_262 ?_
                refine jr_iload dX12_line_265 3 rfl ?_
                refine jr_dup2_11 dX12_line_267 rfl rfl ?_
                obtain ⟨hg_26, h⟩ := drvG h
                refine jr_iald (rfl : kd 207 = 13) hg_26 dX12_line_268 ?_
                refine jr_iconst (v := (1 : Int32)) dX12_line_269 (by decide) ?_
                refine jr_iadd dX12_line_270 ?_
                obtain ⟨hg_29, h⟩ := drvG h
                refine jr_iast (rfl : kd 207 = 13) hg_29 dX12_line_271 ?_
                refine j_nmw (fun w_27 e_28 => ?_)
                replace h := drvL e_28 h
                refine jr_aload_n dX12_line_272 rfl 0 rfl ?_
                refine gf_X12_17 (r := 207) rfl (rfl : kd 205 = 11) rfl dX12_line_273 ?_
                refine jr_iload dX12_line_276 3 rfl ?_
                obtain ⟨hg_30, h⟩ := drvG h
                refine jr_iald (rfl : kd 207 = 13) hg_30 dX12_line_278 ?_
                refine jr_iconst (v := (1 : Int32)) dX12_line_279 (by decide) ?_
                refine jr_isub dX12_line_280 ?_
                obtain ⟨rfl, rfl⟩ := drvS2 h
                exact jr_iret rfl dX12_line_281
              refine jr_if_ne (tgt := 239) (nxt := 235) dX12_line_232 (by decide) rfl (fun hc => ?_) (fun hc => ?_)
              · replace h := drvE hc h
                refine jr_sipush (v := (540 : Int32)) dX12_line_239 (by decide) ?_
                refine jr_sub [1, 3, 4, 0] rfl ?_
                exact hj242_19 _ h
              · replace h := drvT hc h
                refine jr_iconst (v := (0 : Int32)) dX12_line_235 (by decide) ?_
                refine jr_goto (tgt := 242) dX12_line_236 (by decide) ?_
                refine jr_sub [1, 3, 4, 0] rfl ?_
                exact hj242_19 _ h
            · replace h := drvT hc h
              refine jr_aload_n dX12_line_220 rfl 1 rfl ?_
              refine jr_bipush (v := (-4 : Int32)) dX12_line_221 (by decide) ?_
              obtain ⟨r_33, w_32, hq_31, h⟩ := drvB2 h
              refine j_callVv lk_X12_85 wIM_X12_no wSE_X12_no (rfl : kd 205 = 11) (by decide) rfl (tX12_no  hq_31) (by omega) rfl rfl (Nat.le_of_ble_eq_true rfl) dX12_line_223 ?_
              obtain ⟨rfl, rfl⟩ := drvS2 h
              exact jr_iret rfl dX12_line_226
          refine jr_if_ne (tgt := 201) (nxt := 194) dX12_line_191 (by decide) rfl (fun hc => ?_) (fun hc => ?_)
          · replace h := drvE hc h
            refine jr_sipush (v := (236 : Int32)) dX12_line_201 (by decide) ?_
            refine jr_iload_n dX12_line_204 rfl 2 rfl ?_
            refine jr_iadd dX12_line_205 ?_
            refine jr_sub [0, 1, 2, 4] rfl ?_
            exact hj206_16 _ h
          · replace h := drvT hc h
            refine jr_bipush (v := (121 : Int32)) dX12_line_194 (by decide) ?_
            refine jr_iload_n dX12_line_196 rfl 2 rfl ?_
            refine jr_iadd dX12_line_197 ?_
            refine jr_goto (tgt := 206) dX12_line_198 (by decide) ?_
            refine jr_sub [0, 1, 2, 4] rfl ?_
            exact hj206_16 _ h
        · replace h := drvT hc h
          refine jr_aload_n dX12_line_107 rfl 0 rfl ?_
          refine gf_X12_17 (r := 207) rfl (rfl : kd 205 = 11) rfl dX12_line_108 ?_
          refine jr_sipush (v := (162 : Int32)) dX12_line_111 (by decide) ?_
          refine jr_ialdL (k := 162) (rfl : kd 207 = 13) (vp_lit (by decide) (by decide)) (by decide) dX12_line_114 ?_
          refine jr_bipush (v := (60 : Int32)) dX12_line_115 (by decide) ?_
          refine jr_icmp_ne (tgt := 127) (nxt := 120) dX12_line_117 (by decide) rfl (fun hc => ?_) (fun hc => ?_)
          · replace h := drvE hc h
            refine jr_aload_n dX12_line_127 rfl 0 rfl ?_
            refine gf_X12_17 (r := 207) rfl (rfl : kd 205 = 11) rfl dX12_line_128 ?_
            refine jr_sipush (v := (163 : Int32)) dX12_line_131 (by decide) ?_
            refine jr_aload_n dX12_line_134 rfl 0 rfl ?_
            refine gf_X12_17 (r := 207) rfl (rfl : kd 205 = 11) rfl dX12_line_135 ?_
            refine jr_sipush (v := (162 : Int32)) dX12_line_138 (by decide) ?_
            refine jr_ialdL (k := 162) (rfl : kd 207 = 13) (vp_lit (by decide) (by decide)) (by decide) dX12_line_141 ?_
            refine jr_iadd dX12_line_142 ?_
            refine jr_iload_n dX12_line_143 rfl 3 rfl ?_
            obtain ⟨hg_36, h⟩ := drvG h
            refine jr_iast (rfl : kd 207 = 13) hg_36 dX12_line_144 ?_
            refine j_nmw (fun w_34 e_35 => ?_)
            replace h := drvL e_35 h
            refine jr_aload_n dX12_line_145 rfl 0 rfl ?_
            refine gf_X12_20 (r := 208) rfl (rfl : kd 205 = 11) rfl dX12_line_146 ?_
            refine jr_sipush (v := (480 : Int32)) dX12_line_149 (by decide) ?_
            refine jr_aload_n dX12_line_152 rfl 0 rfl ?_
            refine gf_X12_17 (r := 207) rfl (rfl : kd 205 = 11) rfl dX12_line_153 ?_
            refine jr_sipush (v := (162 : Int32)) dX12_line_156 (by decide) ?_
            refine jr_ialdL (k := 162) (rfl : kd 207 = 13) (vp_lit (by decide) (by decide)) (by decide) dX12_line_159 ?_
            refine jr_iadd dX12_line_160 ?_
            refine jr_lload dX12_line_161 4 rfl ?_
            obtain ⟨r_38, hq_37, h⟩ := drvB h
            refine j_callSv lk_X12_101 wST_X12_plain (tX12_plain  hq_37) (by omega) rfl rfl (Nat.le_of_ble_eq_true rfl) dX12_line_163 ?_
            obtain ⟨hg_41, h⟩ := drvG h
            refine jr_last (rfl : kd 208 = 14) hg_41 dX12_line_166 ?_
            refine j_nmw (fun w_39 e_40 => ?_)
            replace h := drvL e_40 h
            refine jr_aload_n dX12_line_167 rfl 0 rfl ?_
            refine gf_X12_17 (r := 207) rfl (rfl : kd 205 = 11) rfl dX12_line_168 ?_
            refine jr_sipush (v := (162 : Int32)) dX12_line_171 (by decide) ?_
            refine jr_dup2_11 dX12_line_174 rfl rfl ?_
            refine jr_ialdL (k := 162) (rfl : kd 207 = 13) (vp_lit (by decide) (by decide)) (by decide) dX12_line_175 ?_
            refine jr_iconst (v := (1 : Int32)) dX12_line_176 (by decide) ?_
            refine jr_iadd dX12_line_177 ?_
            refine jr_iastL (k := 162) (rfl : kd 207 = 13) (vp_lit (by decide) (by decide)) (by decide) dX12_line_178 ?_
            refine j_nmw (fun w_42 e_43 => ?_)
            replace h := drvL e_43 h
            refine jr_aload_n dX12_line_179 rfl 0 rfl ?_
            refine gf_X12_17 (r := 207) rfl (rfl : kd 205 = 11) rfl dX12_line_180 ?_
            refine jr_sipush (v := (162 : Int32)) dX12_line_183 (by decide) ?_
            refine jr_ialdL (k := 162) (rfl : kd 207 = 13) (vp_lit (by decide) (by decide)) (by decide) dX12_line_186 ?_
            refine jr_iconst (v := (1 : Int32)) dX12_line_187 (by decide) ?_
            refine jr_isub dX12_line_188 ?_
            obtain ⟨rfl, rfl⟩ := drvS2 h
            exact jr_iret rfl dX12_line_189
          · replace h := drvT hc h
            refine jr_aload_n dX12_line_120 rfl 0 rfl ?_
            refine jr_bipush (v := (-4 : Int32)) dX12_line_121 (by decide) ?_
            obtain ⟨r_46, w_45, hq_44, h⟩ := drvB2 h
            refine j_callVv lk_X12_85 wIM_X12_no wSE_X12_no (rfl : kd 205 = 11) (by decide) rfl (tX12_no  hq_44) (by omega) rfl rfl (Nat.le_of_ble_eq_true rfl) dX12_line_123 ?_
            obtain ⟨rfl, rfl⟩ := drvS2 h
            exact jr_iret rfl dX12_line_126
      refine jr_icmp_ne (tgt := 102) (nxt := 83) dX12_line_80 (by decide) rfl (fun hc => ?_) (fun hc => ?_)
      · replace h := drvE hc h
        refine jr_sub [0, 1, 2, 3, 4] rfl ?_
        exact (hj102_14 ()) h
      · replace h := drvT hc h
        refine jr_iload_n dX12_line_83 rfl 3 rfl ?_
        refine jr_i2l dX12_line_84 ?_
        refine jr_lconst (v := (0 : Int64)) dX12_line_85 rfl ?_
        refine jr_ldc2 (v := (9 : Int64)) wCC_X12_89 dX12_line_86 ?_
        refine j_callSv lk_X12_81 wST_X12_within (tX12_within  (a0 := ((a2).toInt64)) (a1 := (0 : Int64)) (a2 := (9 : Int64)) (w := w_1)) (by omega) rfl rfl (Nat.le_of_ble_eq_true rfl) dX12_line_89 ?_
        refine jr_if_ne (tgt := 102) (nxt := 95) dX12_line_92 (by decide) rfl (fun hc => ?_) (fun hc => ?_)
        · replace h := drvE hc h
          refine jr_sub [0, 1, 2, 3, 4] rfl ?_
          exact (hj102_14 ()) h
        · replace h := drvT hc h
          refine jr_sub [0] rfl ?_
          exact (hj95_10 ()) h
  refine jr_if_ne (tgt := 30) (nxt := 9) dX12_line_6 (by decide) rfl (fun hc => ?_) (fun hc => ?_)
  · replace h := drvE hc h
    refine jr_iload_n dX12_line_30 rfl 1 rfl ?_
    refine jr_iconst (v := (1 : Int32)) dX12_line_31 (by decide) ?_
    refine jr_icmp_ne (tgt := 58) (nxt := 35) dX12_line_32 (by decide) rfl (fun hc => ?_) (fun hc => ?_)
    · replace h := drvE hc h
      refine jr_iload_n dX12_line_58 rfl 1 rfl ?_
      refine jr_iconst (v := (2 : Int32)) dX12_line_59 (by decide) ?_
      refine jr_icmp_eq (tgt := 70) (nxt := 63) dX12_line_60 (by decide) rfl (fun hc => ?_) (fun hc => ?_)
      · replace h := drvT hc h
        refine jr_sub [0, 1, 2, 3, 4] rfl ?_
        exact (hj70_7 ()) h
      · replace h := drvE hc h
        refine jr_sub [0] rfl ?_
        exact (hj63_3 ()) h
    · replace h := drvT hc h
      refine jr_iload_n dX12_line_35 rfl 2 rfl ?_
      refine jr_i2l dX12_line_36 ?_
      refine jr_lconst (v := (0 : Int64)) dX12_line_37 rfl ?_
      refine jr_aload_n dX12_line_38 rfl 0 rfl ?_
      refine gf_X12_17 (r := 207) rfl (rfl : kd 205 = 11) rfl dX12_line_39 ?_
      refine jr_sipush (v := (223 : Int32)) dX12_line_42 (by decide) ?_
      refine jr_ialdL (k := 223) (rfl : kd 207 = 13) (vp_lit (by decide) (by decide)) (by decide) dX12_line_45 ?_
      refine jr_iconst (v := (1 : Int32)) dX12_line_46 (by decide) ?_
      refine jr_isub dX12_line_47 ?_
      refine jr_i2l dX12_line_48 ?_
      refine j_callSv lk_X12_81 wST_X12_within (tX12_within  (a0 := ((a1).toInt64)) (a1 := (0 : Int64)) (a2 := ((((wI w_1 207 223) - (1 : Int32))).toInt64)) (w := w_1)) (by omega) rfl rfl (Nat.le_of_ble_eq_true rfl) dX12_line_49 ?_
      refine jr_if_ne (tgt := 70) (nxt := 55) dX12_line_52 (by decide) rfl (fun hc => ?_) (fun hc => ?_)
      · replace h := drvE hc h
        refine jr_sub [0, 1, 2, 3, 4] rfl ?_
        exact (hj70_7 ()) h
      · replace h := drvT hc h
        refine jr_goto (tgt := 63) dX12_line_55 (by decide) ?_
        refine jr_sub [0] rfl ?_
        exact (hj63_3 ()) h
  · replace h := drvT hc h
    refine jr_iload_n dX12_line_9 rfl 2 rfl ?_
    refine jr_i2l dX12_line_10 ?_
    refine jr_lconst (v := (0 : Int64)) dX12_line_11 rfl ?_
    refine jr_aload_n dX12_line_12 rfl 0 rfl ?_
    refine gf_X12_17 (r := 207) rfl (rfl : kd 205 = 11) rfl dX12_line_13 ?_
    refine jr_iconst (v := (0 : Int32)) dX12_line_16 (by decide) ?_
    refine jr_ialdL (k := 0) (rfl : kd 207 = 13) (vp_lit (by decide) (by decide)) (by decide) dX12_line_17 ?_
    refine jr_iconst (v := (1 : Int32)) dX12_line_18 (by decide) ?_
    refine jr_isub dX12_line_19 ?_
    refine jr_i2l dX12_line_20 ?_
    refine j_callSv lk_X12_81 wST_X12_within (tX12_within  (a0 := ((a1).toInt64)) (a1 := (0 : Int64)) (a2 := ((((wI w_1 207 0) - (1 : Int32))).toInt64)) (w := w_1)) (by omega) rfl rfl (Nat.le_of_ble_eq_true rfl) dX12_line_21 ?_
    refine jr_if_ne (tgt := 70) (nxt := 27) dX12_line_24 (by decide) rfl (fun hc => ?_) (fun hc => ?_)
    · replace h := drvE hc h
      refine jr_sub [0, 1, 2, 3, 4] rfl ?_
      exact (hj70_7 ()) h
    · replace h := drvT hc h
      refine jr_goto (tgt := 63) dX12_line_27 (by decide) ?_
      refine jr_sub [0] rfl ?_
      exact (hj63_3 ()) h
set_option maxHeartbeats 4000000 in
set_option maxRecDepth 100000 in
theorem hbX12_matchesOf_24 {n : Nat} {p1 : Int32} {p2 : Int32} {p3 : Int32} {p4 : Int32} {k92 : Int32 → jWd → (Option (Int32 × jWd))} {r : Int32} {w' : jWd} {rec : Int32 → Int32 → jWd → Option (Int32 × jWd)} (hk92 : ∀ (z5 : Int32) (w9 : jWd), k92 z5 w9 = some (r, w') → J MX12_matchesOf 4 w9 92 [(0, .ref 205), (1, .int p1), (2, .int p2), (3, .int p3), (4, .int p4), (5, .int z5)] [] (some (.int r)) w')
    (hrec : ∀ (x5 : Int32) (x6 : Int32) (w : jWd) , rec x5 x6 w = some (r, w') → J MX12_matchesOf 4 w 24 [(0, .ref 205), (1, .int p1), (2, .int p2), (3, .int p3), (4, .int p4), (5, .int x5), (6, .int x6)] [] (some (.int r)) w') : ∀ (x5 : Int32) (x6 : Int32) (w : jWd) , bX12_matchesOf_24 n p1 p2 p3 p4 k92 rec x5 x6 w = some (r, w') → J MX12_matchesOf 4 w 24 [(0, .ref 205), (1, .int p1), (2, .int p2), (3, .int p3), (4, .int p4), (5, .int x5), (6, .int x6)] [] (some (.int r)) w' := by
  intro x5 x6 w h
  unfold bX12_matchesOf_24 at h
  refine jr_iload dX12_matchesOf_24 6 rfl ?_
  refine jr_aload_n dX12_matchesOf_26 rfl 0 rfl ?_
  refine gf_X12_17 (r := 207) rfl (rfl : kd 205 = 11) rfl dX12_matchesOf_27 ?_
  refine jr_sipush (v := (236 : Int32)) dX12_matchesOf_30 (by decide) ?_
  refine jr_iload_n dX12_matchesOf_33 rfl 1 rfl ?_
  refine jr_iadd dX12_matchesOf_34 ?_
  obtain ⟨hg_1, h⟩ := drvG h
  refine jr_iald (rfl : kd 207 = 13) hg_1 dX12_matchesOf_35 ?_
  refine jr_icmp_ge (tgt := 92) (nxt := 39) dX12_matchesOf_36 (by decide) rfl (fun hc => ?_) (fun hc => ?_)
  · replace h := drvT hc h
    refine jr_sub [0, 1, 2, 3, 4, 5] rfl ?_
    exact hk92 _ _ h
  · replace h := drvE hc h
    refine jr_iload dX12_matchesOf_39 5 rfl ?_
    refine jr_if_ne (tgt := 92) (nxt := 44) dX12_matchesOf_41 (by decide) rfl (fun hc => ?_) (fun hc => ?_)
    · replace h := drvE hc h
      refine jr_sub [0, 1, 2, 3, 4, 5] rfl ?_
      exact hk92 _ _ h
    · replace h := drvT hc h
      refine jr_aload_n dX12_matchesOf_44 rfl 0 rfl ?_
      refine jr_aload_n dX12_matchesOf_45 rfl 0 rfl ?_
      refine gf_X12_20 (r := 208) rfl (rfl : kd 205 = 11) rfl dX12_matchesOf_46 ?_
      refine jr_sipush (v := (480 : Int32)) dX12_matchesOf_49 (by decide) ?_
      refine jr_iload dX12_matchesOf_52 4 rfl ?_
      refine jr_iadd dX12_matchesOf_54 ?_
      obtain ⟨hg_2, h⟩ := drvG h
      refine jr_lald (rfl : kd 208 = 14) hg_2 dX12_matchesOf_55 ?_
      refine jr_aload_n dX12_matchesOf_56 rfl 0 rfl ?_
      refine gf_X12_20 (r := 208) rfl (rfl : kd 205 = 11) rfl dX12_matchesOf_57 ?_
      refine jr_sipush (v := (540 : Int32)) dX12_matchesOf_60 (by decide) ?_
      refine jr_bipush (v := (12 : Int32)) dX12_matchesOf_63 (by decide) ?_
      refine jr_iload_n dX12_matchesOf_65 rfl 1 rfl ?_
      refine jr_imul dX12_matchesOf_66 ?_
      refine jr_iadd dX12_matchesOf_67 ?_
      refine jr_iload dX12_matchesOf_68 6 rfl ?_
      refine jr_iadd dX12_matchesOf_70 ?_
      obtain ⟨hg_3, h⟩ := drvG h
      refine jr_lald (rfl : kd 208 = 14) hg_3 dX12_matchesOf_71 ?_
      obtain ⟨r_6, w_5, hq_4, h⟩ := drvB2 h
      refine j_callVv lk_X12_111 wIM_X12_likeOf wSE_X12_likeOf (rfl : kd 205 = 11) (by decide) rfl (tX12_likeOf  hq_4) (by omega) rfl rfl (Nat.le_of_ble_eq_true rfl) dX12_matchesOf_72 ?_
      refine jr_iload_n dX12_matchesOf_75 rfl 2 rfl ?_
      refine jr_icmp_lt (tgt := 83) (nxt := 79) dX12_matchesOf_76 (by decide) rfl (fun hc => ?_) (fun hc => ?_)
      · replace h := drvT hc h
        refine jr_iconst (v := (0 : Int32)) dX12_matchesOf_83 (by decide) ?_
        refine jr_istore (lv' := [(5, .int (0 : Int32)), (0, .ref 205), (1, .int p1), (2, .int p2), (3, .int p3), (4, .int p4), (6, .int x6)]) dX12_matchesOf_84 (by decide) rfl ?_
        refine jr_iincN (c := (1 : Int32)) (lv' := fun (x6_7 : Int32) => [(6, .int x6_7), (5, .int (0 : Int32)), (0, .ref 205), (1, .int p1), (2, .int p2), (3, .int p3), (4, .int p4)]) dX12_matchesOf_86 (by decide) 6 rfl (by decide) (fun _ => rfl) (fun x6_7 e_8 => ?_)
        replace h := drvL e_8 h
        refine jr_goto (tgt := 24) dX12_matchesOf_89 (by decide) ?_
        refine jr_sub [2, 3, 4, 5, 6, 1, 0] rfl ?_
        exact hrec _ _ _ h
      · replace h := drvE hc h
        refine jr_iconst (v := (1 : Int32)) dX12_matchesOf_79 (by decide) ?_
        refine jr_goto (tgt := 84) dX12_matchesOf_80 (by decide) ?_
        refine jr_istore (lv' := [(5, .int (1 : Int32)), (0, .ref 205), (1, .int p1), (2, .int p2), (3, .int p3), (4, .int p4), (6, .int x6)]) dX12_matchesOf_84 (by decide) rfl ?_
        refine jr_iincN (c := (1 : Int32)) (lv' := fun (x6_9 : Int32) => [(6, .int x6_9), (5, .int (1 : Int32)), (0, .ref 205), (1, .int p1), (2, .int p2), (3, .int p3), (4, .int p4)]) dX12_matchesOf_86 (by decide) 6 rfl (by decide) (fun _ => rfl) (fun x6_9 e_10 => ?_)
        replace h := drvL e_10 h
        refine jr_goto (tgt := 24) dX12_matchesOf_89 (by decide) ?_
        refine jr_sub [2, 3, 4, 5, 6, 1, 0] rfl ?_
        exact hrec _ _ _ h
theorem hlX12_matchesOf_24 {n : Nat} {p1 : Int32} {p2 : Int32} {p3 : Int32} {p4 : Int32} {k92 : Int32 → jWd → (Option (Int32 × jWd))} {r : Int32} {w' : jWd} (hk92 : ∀ (z5 : Int32) (w9 : jWd), k92 z5 w9 = some (r, w') → J MX12_matchesOf 4 w9 92 [(0, .ref 205), (1, .int p1), (2, .int p2), (3, .int p3), (4, .int p4), (5, .int z5)] [] (some (.int r)) w') : ∀ (c : Nat) (x5 : Int32) (x6 : Int32) (w : jWd) , lX12_matchesOf_24 n p1 p2 p3 p4 k92 c x5 x6 w = some (r, w') → J MX12_matchesOf 4 w 24 [(0, .ref 205), (1, .int p1), (2, .int p2), (3, .int p3), (4, .int p4), (5, .int x5), (6, .int x6)] [] (some (.int r)) w' := by
  intro c
  induction c with
  | zero => intro x5 x6 w h; cases h
  | succ c ih => intro x5 x6 w h; exact hbX12_matchesOf_24 (n := n) hk92 ih _ _ _ h
set_option maxHeartbeats 4000000 in
set_option maxRecDepth 100000 in
theorem hbX12_matchesOf_5 {n : Nat} {p1 : Int32} {p2 : Int32} {r : Int32} {w' : jWd} {rec : Int32 → Int32 → jWd → Option (Int32 × jWd)} 
    (hrec : ∀ (x3 : Int32) (x4 : Int32) (w : jWd) , rec x3 x4 w = some (r, w') → J MX12_matchesOf 4 w 5 [(0, .ref 205), (1, .int p1), (2, .int p2), (3, .int x3), (4, .int x4)] [] (some (.int r)) w') : ∀ (x3 : Int32) (x4 : Int32) (w : jWd) , bX12_matchesOf_5 n p1 p2 rec x3 x4 w = some (r, w') → J MX12_matchesOf 4 w 5 [(0, .ref 205), (1, .int p1), (2, .int p2), (3, .int x3), (4, .int x4)] [] (some (.int r)) w' := by
  intro x3 x4 w h
  unfold bX12_matchesOf_5 at h
  refine jr_iload dX12_matchesOf_5 4 rfl ?_
  refine jr_aload_n dX12_matchesOf_7 rfl 0 rfl ?_
  refine gf_X12_17 (r := 207) rfl (rfl : kd 205 = 11) rfl dX12_matchesOf_8 ?_
  refine jr_sipush (v := (162 : Int32)) dX12_matchesOf_11 (by decide) ?_
  refine jr_ialdL (k := 162) (rfl : kd 207 = 13) (vp_lit (by decide) (by decide)) (by decide) dX12_matchesOf_14 ?_
  refine jr_icmp_ge (tgt := 111) (nxt := 18) dX12_matchesOf_15 (by decide) rfl (fun hc => ?_) (fun hc => ?_)
  · replace h := drvT hc h
    refine jr_iload_n dX12_matchesOf_111 rfl 3 rfl ?_
    obtain ⟨rfl, rfl⟩ := drvS2 h
    exact jr_iret rfl dX12_matchesOf_112
  · replace h := drvE hc h
    refine jr_iconst (v := (0 : Int32)) dX12_matchesOf_18 (by decide) ?_
    refine jr_istore (lv' := [(5, .int (0 : Int32)), (0, .ref 205), (1, .int p1), (2, .int p2), (3, .int x3), (4, .int x4)]) dX12_matchesOf_19 (by decide) rfl ?_
    refine jr_iconst (v := (0 : Int32)) dX12_matchesOf_21 (by decide) ?_
    refine jr_istore (lv' := [(6, .int (0 : Int32)), (5, .int (0 : Int32)), (0, .ref 205), (1, .int p1), (2, .int p2), (3, .int x3), (4, .int x4)]) dX12_matchesOf_22 (by decide) rfl ?_
    refine jr_sub [2, 3, 4, 5, 6, 1, 0] rfl ?_
    refine hlX12_matchesOf_24  ?_ _ _ _ _ h
    · intro z5_12 w_11 h
      try dsimp only at h
      refine jr_iload_n dX12_matchesOf_92 rfl 3 rfl ?_
      refine jr_iload dX12_matchesOf_93 5 rfl ?_
      refine jr_if_eq (tgt := 102) (nxt := 98) dX12_matchesOf_95 (by decide) rfl (fun hc => ?_) (fun hc => ?_)
      · replace h := drvT hc h
        refine jr_iconst (v := (0 : Int32)) dX12_matchesOf_102 (by decide) ?_
        refine jr_iadd dX12_matchesOf_103 ?_
        refine j_nmi (fun x3_13 e_14 => ?_)
        replace h := drvL e_14 h
        refine jr_istore_n (lv' := [(3, .int x3_13), (0, .ref 205), (1, .int p1), (2, .int p2), (4, .int x4), (5, .int z5_12)]) dX12_matchesOf_104 rfl (by decide) rfl ?_
        refine jr_iincN (c := (1 : Int32)) (lv' := fun (x4_15 : Int32) => [(4, .int x4_15), (3, .int x3_13), (0, .ref 205), (1, .int p1), (2, .int p2), (5, .int z5_12)]) dX12_matchesOf_105 (by decide) 4 rfl (by decide) (fun _ => rfl) (fun x4_15 e_16 => ?_)
        replace h := drvL e_16 h
        refine jr_goto (tgt := 5) dX12_matchesOf_108 (by decide) ?_
        refine jr_sub [2, 3, 4, 1, 0] rfl ?_
        exact hrec _ _ _ h
      · replace h := drvE hc h
        refine jr_iconst (v := (1 : Int32)) dX12_matchesOf_98 (by decide) ?_
        refine jr_goto (tgt := 103) dX12_matchesOf_99 (by decide) ?_
        refine jr_iadd dX12_matchesOf_103 ?_
        refine j_nmi (fun x3_17 e_18 => ?_)
        replace h := drvL e_18 h
        refine jr_istore_n (lv' := [(3, .int x3_17), (0, .ref 205), (1, .int p1), (2, .int p2), (4, .int x4), (5, .int z5_12)]) dX12_matchesOf_104 rfl (by decide) rfl ?_
        refine jr_iincN (c := (1 : Int32)) (lv' := fun (x4_19 : Int32) => [(4, .int x4_19), (3, .int x3_17), (0, .ref 205), (1, .int p1), (2, .int p2), (5, .int z5_12)]) dX12_matchesOf_105 (by decide) 4 rfl (by decide) (fun _ => rfl) (fun x4_19 e_20 => ?_)
        replace h := drvL e_20 h
        refine jr_goto (tgt := 5) dX12_matchesOf_108 (by decide) ?_
        refine jr_sub [2, 3, 4, 1, 0] rfl ?_
        exact hrec _ _ _ h
theorem hlX12_matchesOf_5 {n : Nat} {p1 : Int32} {p2 : Int32} {r : Int32} {w' : jWd}  : ∀ (c : Nat) (x3 : Int32) (x4 : Int32) (w : jWd) , lX12_matchesOf_5 n p1 p2 c x3 x4 w = some (r, w') → J MX12_matchesOf 4 w 5 [(0, .ref 205), (1, .int p1), (2, .int p2), (3, .int x3), (4, .int x4)] [] (some (.int r)) w' := by
  intro c
  induction c with
  | zero => intro x3 x4 w h; cases h
  | succ c ih => intro x3 x4 w h; exact hbX12_matchesOf_5 (n := n) ih _ _ _ h
set_option maxHeartbeats 4000000 in
set_option maxRecDepth 100000 in
theorem tX12_matchesOf {n : Nat} {a0 : Int32} {a1 : Int32} {w : jWd} {r : Int32} {w' : jWd}  (h : fX12_matchesOf n a0 a1 w = some (r, w')) : JM yX12_matchesOf MX12_matchesOf 4 [.ref 205, .int a0, .int a1] w (some (.int r)) w' := by
  refine jm_of pl_X12 rfl (Nat.le_of_ble_eq_true rfl) ?_
  show J MX12_matchesOf 4 w 0 [(0, .ref 205), (1, .int a0), (2, .int a1)] [] (some (.int r)) w'
  unfold fX12_matchesOf at h
  refine jr_iconst (v := (0 : Int32)) dX12_matchesOf_0 (by decide) ?_
  refine jr_istore_n (lv' := [(3, .int (0 : Int32)), (0, .ref 205), (1, .int a0), (2, .int a1)]) dX12_matchesOf_1 rfl (by decide) rfl ?_
  refine jr_iconst (v := (0 : Int32)) dX12_matchesOf_2 (by decide) ?_
  refine jr_istore (lv' := [(4, .int (0 : Int32)), (3, .int (0 : Int32)), (0, .ref 205), (1, .int a0), (2, .int a1)]) dX12_matchesOf_3 (by decide) rfl ?_
  refine jr_sub [2, 3, 4, 1, 0] rfl ?_
  refine hlX12_matchesOf_5   _ _ _ _ h
set_option maxHeartbeats 4000000 in
set_option maxRecDepth 100000 in
theorem tX12_matches {n : Nat} {a0 : Int32} {a1 : Int32} {w : jWd} {r : Int32} {w' : jWd}  (h : fX12_matches n a0 a1 w = some (r, w')) : JM yX12_matches MX12_matches 5 [.ref 205, .int a0, .int a1] w (some (.int r)) w' := by
  refine jm_of pl_X12 rfl (Nat.le_of_ble_eq_true rfl) ?_
  show J MX12_matches 5 w 0 [(0, .ref 205), (1, .int a0), (2, .int a1)] [] (some (.int r)) w'
  unfold fX12_matches at h
  refine jr_aload_n dX12_matches_0 rfl 0 rfl ?_
  refine jr_iconst (v := (0 : Int32)) dX12_matches_1 (by decide) ?_
  refine pf_X12_1 rfl (rfl : kd 205 = 11) dX12_matches_2 ?_
  refine j_nmw (fun w_1 e_2 => ?_)
  replace h := drvL e_2 h
  refine jr_iload_n dX12_matches_5 rfl 1 rfl ?_
  refine jr_i2l dX12_matches_6 ?_
  refine jr_lconst (v := (0 : Int64)) dX12_matches_7 rfl ?_
  refine jr_aload_n dX12_matches_8 rfl 0 rfl ?_
  refine gf_X12_17 (r := 207) rfl (rfl : kd 205 = 11) rfl dX12_matches_9 ?_
  refine jr_sipush (v := (223 : Int32)) dX12_matches_12 (by decide) ?_
  refine jr_ialdL (k := 223) (rfl : kd 207 = 13) (vp_lit (by decide) (by decide)) (by decide) dX12_matches_15 ?_
  refine jr_iconst (v := (1 : Int32)) dX12_matches_16 (by decide) ?_
  refine jr_isub dX12_matches_17 ?_
  refine jr_i2l dX12_matches_18 ?_
  refine j_callSv lk_X12_81 wST_X12_within (tX12_within  (a0 := ((a0).toInt64)) (a1 := (0 : Int64)) (a2 := ((((wI w_1 207 223) - (1 : Int32))).toInt64)) (w := w_1)) (by omega) rfl rfl (Nat.le_of_ble_eq_true rfl) dX12_matches_19 ?_
  refine jr_if_ne (tgt := 32) (nxt := 25) dX12_matches_22 (by decide) rfl (fun hc => ?_) (fun hc => ?_)
  · replace h := drvE hc h
    refine jr_iload_n dX12_matches_32 rfl 2 rfl ?_
    refine jr_i2l dX12_matches_33 ?_
    refine jr_lconst (v := (1 : Int64)) dX12_matches_34 rfl ?_
    refine jr_ldc2 (v := (100 : Int64)) wCC_X12_105 dX12_matches_35 ?_
    refine j_callSv lk_X12_81 wST_X12_within (tX12_within  (a0 := ((a1).toInt64)) (a1 := (1 : Int64)) (a2 := (100 : Int64)) (w := w_1)) (by omega) rfl rfl (Nat.le_of_ble_eq_true rfl) dX12_matches_38 ?_
    refine jr_if_ne (tgt := 51) (nxt := 44) dX12_matches_41 (by decide) rfl (fun hc => ?_) (fun hc => ?_)
    · replace h := drvE hc h
      refine jr_aload_n dX12_matches_51 rfl 0 rfl ?_
      refine jr_iload_n dX12_matches_52 rfl 1 rfl ?_
      refine jr_iload_n dX12_matches_53 rfl 2 rfl ?_
      obtain ⟨r_5, w_4, hq_3, h⟩ := drvB2 h
      refine j_callVv lk_X12_302 wIM_X12_matchesOf wSE_X12_matchesOf (rfl : kd 205 = 11) (by decide) rfl (tX12_matchesOf  hq_3) (by omega) rfl rfl (Nat.le_of_ble_eq_true rfl) dX12_matches_54 ?_
      obtain ⟨rfl, rfl⟩ := drvS2 h
      exact jr_iret rfl dX12_matches_57
    · replace h := drvT hc h
      refine jr_aload_n dX12_matches_44 rfl 0 rfl ?_
      refine jr_bipush (v := (-3 : Int32)) dX12_matches_45 (by decide) ?_
      obtain ⟨r_8, w_7, hq_6, h⟩ := drvB2 h
      refine j_callVv lk_X12_85 wIM_X12_no wSE_X12_no (rfl : kd 205 = 11) (by decide) rfl (tX12_no  hq_6) (by omega) rfl rfl (Nat.le_of_ble_eq_true rfl) dX12_matches_47 ?_
      obtain ⟨rfl, rfl⟩ := drvS2 h
      exact jr_iret rfl dX12_matches_50
  · replace h := drvT hc h
    refine jr_aload_n dX12_matches_25 rfl 0 rfl ?_
    refine jr_bipush (v := (-2 : Int32)) dX12_matches_26 (by decide) ?_
    obtain ⟨r_11, w_10, hq_9, h⟩ := drvB2 h
    refine j_callVv lk_X12_85 wIM_X12_no wSE_X12_no (rfl : kd 205 = 11) (by decide) rfl (tX12_no  hq_9) (by omega) rfl rfl (Nat.le_of_ble_eq_true rfl) dX12_matches_28 ?_
    obtain ⟨rfl, rfl⟩ := drvS2 h
    exact jr_iret rfl dX12_matches_31
set_option maxHeartbeats 4000000 in
set_option maxRecDepth 100000 in
theorem hbX12_minister_70 {n : Nat} {p1 : Int32} {p2 : Int32} {k147 : (Option (Int32 × jWd))} {k134 : (Option (Int32 × jWd))} {w : jWd} {r : Int32} {w' : jWd} {rec : Int32 → Option (Int32 × jWd)} (hk147 : ∀ (_ : Unit), k147 = some (r, w') → J MX12_minister 5 w 147 [(0, .ref 205), (1, .int p1), (2, .int p2)] [] (some (.int r)) w') (hk134 : ∀ (_ : Unit), k134 = some (r, w') → J MX12_minister 5 w 134 [(0, .ref 205)] [] (some (.int r)) w')
    (hrec : ∀ (x3 : Int32) , rec x3 = some (r, w') → J MX12_minister 5 w 70 [(0, .ref 205), (1, .int p1), (2, .int p2), (3, .int x3)] [] (some (.int r)) w') : ∀ (x3 : Int32) , bX12_minister_70 n p1 p2 k147 k134 w rec x3 = some (r, w') → J MX12_minister 5 w 70 [(0, .ref 205), (1, .int p1), (2, .int p2), (3, .int x3)] [] (some (.int r)) w' := by
  intro x3 h
  unfold bX12_minister_70 at h
  refine jr_iload_n dX12_minister_70 rfl 3 rfl ?_
  refine jr_iload_n dX12_minister_71 rfl 2 rfl ?_
  refine jr_icmp_ge (tgt := 147) (nxt := 75) dX12_minister_72 (by decide) rfl (fun hc => ?_) (fun hc => ?_)
  · replace h := drvT hc h
    refine jr_sub [0, 1, 2] rfl ?_
    exact (hk147 ()) h
  · replace h := drvE hc h
    refine jr_bipush (v := (60 : Int32)) dX12_minister_75 (by decide) ?_
    refine jr_iload_n dX12_minister_77 rfl 1 rfl ?_
    refine jr_imul dX12_minister_78 ?_
    refine jr_iconst (v := (5 : Int32)) dX12_minister_79 (by decide) ?_
    refine jr_iload_n dX12_minister_80 rfl 3 rfl ?_
    refine jr_imul dX12_minister_81 ?_
    refine jr_iadd dX12_minister_82 ?_
    refine j_nmi (fun x4_8 e_9 => ?_)
    replace h := drvL e_9 h
    refine jr_istore (lv' := [(4, .int x4_8), (0, .ref 205), (1, .int p1), (2, .int p2), (3, .int x3)]) dX12_minister_83 (by decide) rfl ?_
    refine jr_aload_n dX12_minister_85 rfl 1 rfl ?_
    refine gf_X12_70 (r := 223) rfl (rfl : kd 205 = 11) rfl dX12_minister_86 ?_
    refine jr_iload dX12_minister_89 0 rfl ?_
    obtain ⟨hg_10, h⟩ := drvG h
    refine jr_lald (rfl : kd 223 = 14) hg_10 dX12_minister_91 ?_
    refine jr_aload_n dX12_minister_92 rfl 1 rfl ?_
    refine gf_X12_70 (r := 223) rfl (rfl : kd 205 = 11) rfl dX12_minister_93 ?_
    refine jr_iload dX12_minister_96 0 rfl ?_
    refine jr_iconst (v := (1 : Int32)) dX12_minister_98 (by decide) ?_
    refine jr_iadd dX12_minister_99 ?_
    obtain ⟨hg_11, h⟩ := drvG h
    refine jr_lald (rfl : kd 223 = 14) hg_11 dX12_minister_100 ?_
    refine jr_aload_n dX12_minister_101 rfl 1 rfl ?_
    refine gf_X12_70 (r := 223) rfl (rfl : kd 205 = 11) rfl dX12_minister_102 ?_
    refine jr_iload dX12_minister_105 0 rfl ?_
    refine jr_iconst (v := (2 : Int32)) dX12_minister_107 (by decide) ?_
    refine jr_iadd dX12_minister_108 ?_
    obtain ⟨hg_12, h⟩ := drvG h
    refine jr_lald (rfl : kd 223 = 14) hg_12 dX12_minister_109 ?_
    refine jr_aload_n dX12_minister_110 rfl 1 rfl ?_
    refine gf_X12_70 (r := 223) rfl (rfl : kd 205 = 11) rfl dX12_minister_111 ?_
    refine jr_iload dX12_minister_114 0 rfl ?_
    refine jr_iconst (v := (3 : Int32)) dX12_minister_116 (by decide) ?_
    refine jr_iadd dX12_minister_117 ?_
    obtain ⟨hg_13, h⟩ := drvG h
    refine jr_lald (rfl : kd 223 = 14) hg_13 dX12_minister_118 ?_
    refine jr_aload_n dX12_minister_119 rfl 1 rfl ?_
    refine gf_X12_70 (r := 223) rfl (rfl : kd 205 = 11) rfl dX12_minister_120 ?_
    refine jr_iload dX12_minister_123 0 rfl ?_
    refine jr_iconst (v := (4 : Int32)) dX12_minister_125 (by decide) ?_
    refine jr_iadd dX12_minister_126 ?_
    obtain ⟨hg_14, h⟩ := drvG h
    refine jr_lald (rfl : kd 223 = 14) hg_14 dX12_minister_127 ?_
    refine j_callSv lk_X12_313 wST_X12_isAnswer (tX12_isAnswer  (a0 := (wJ w 223 (x4_8).toNatClampNeg)) (a1 := (wJ w 223 ((x4_8 + (1 : Int32))).toNatClampNeg)) (a2 := (wJ w 223 ((x4_8 + (2 : Int32))).toNatClampNeg)) (a3 := (wJ w 223 ((x4_8 + (3 : Int32))).toNatClampNeg)) (a4 := (wJ w 223 ((x4_8 + (4 : Int32))).toNatClampNeg)) (w := w)) (by omega) rfl rfl (Nat.le_of_ble_eq_true rfl) dX12_minister_128 ?_
    refine jr_if_ne (tgt := 141) (nxt := 134) dX12_minister_131 (by decide) rfl (fun hc => ?_) (fun hc => ?_)
    · replace h := drvE hc h
      refine jr_iincN (c := (1 : Int32)) (lv' := fun (x3_15 : Int32) => [(3, .int x3_15), (4, .int x4_8), (0, .ref 205), (1, .int p1), (2, .int p2)]) dX12_minister_141 (by decide) 4 rfl (by decide) (fun _ => rfl) (fun x3_15 e_16 => ?_)
      replace h := drvL e_16 h
      refine jr_goto (tgt := 70) dX12_minister_144 (by decide) ?_
      refine jr_sub [2, 3, 4, 0] rfl ?_
      exact hrec _ h
    · replace h := drvT hc h
      refine jr_sub [1] rfl ?_
      exact (hk134 ()) h
theorem hlX12_minister_70 {n : Nat} {p1 : Int32} {p2 : Int32} {k147 : (Option (Int32 × jWd))} {k134 : (Option (Int32 × jWd))} {w : jWd} {r : Int32} {w' : jWd} (hk147 : ∀ (_ : Unit), k147 = some (r, w') → J MX12_minister 5 w 147 [(0, .ref 205), (1, .int p1), (2, .int p2)] [] (some (.int r)) w') (hk134 : ∀ (_ : Unit), k134 = some (r, w') → J MX12_minister 5 w 134 [(0, .ref 205)] [] (some (.int r)) w') : ∀ (c : Nat) (x3 : Int32) , lX12_minister_70 n p1 p2 k147 k134 w c x3 = some (r, w') → J MX12_minister 5 w 70 [(0, .ref 205), (1, .int p1), (2, .int p2), (3, .int x3)] [] (some (.int r)) w' := by
  intro c
  induction c with
  | zero => intro x3 h; cases h
  | succ c ih => intro x3 h; exact hbX12_minister_70 (n := n) hk147 hk134 ih _ h
set_option maxHeartbeats 4000000 in
set_option maxRecDepth 100000 in
theorem hbX12_minister_171 {n : Nat} {p1 : Int32} {p2 : Int32} {r : Int32} {w' : jWd} {rec : Int32 → jWd → Option (Int32 × jWd)} 
    (hrec : ∀ (x3 : Int32) (w : jWd) , rec x3 w = some (r, w') → J MX12_minister 5 w 171 [(0, .ref 205), (1, .int p1), (2, .int p2), (3, .int x3)] [] (some (.int r)) w') : ∀ (x3 : Int32) (w : jWd) , bX12_minister_171 n p1 p2 rec x3 w = some (r, w') → J MX12_minister 5 w 171 [(0, .ref 205), (1, .int p1), (2, .int p2), (3, .int x3)] [] (some (.int r)) w' := by
  intro x3 w h
  unfold bX12_minister_171 at h
  refine jr_iload_n dX12_minister_171 rfl 3 rfl ?_
  refine jr_iload_n dX12_minister_172 rfl 2 rfl ?_
  refine jr_icmp_ge (tgt := 245) (nxt := 176) dX12_minister_173 (by decide) rfl (fun hc => ?_) (fun hc => ?_)
  · replace h := drvT hc h
    refine jr_iload_n dX12_minister_245 rfl 2 rfl ?_
    obtain ⟨rfl, rfl⟩ := drvS2 h
    exact jr_iret rfl dX12_minister_246
  · replace h := drvE hc h
    refine jr_bipush (v := (60 : Int32)) dX12_minister_176 (by decide) ?_
    refine jr_iload_n dX12_minister_178 rfl 1 rfl ?_
    refine jr_imul dX12_minister_179 ?_
    refine jr_iconst (v := (5 : Int32)) dX12_minister_180 (by decide) ?_
    refine jr_iload_n dX12_minister_181 rfl 3 rfl ?_
    refine jr_imul dX12_minister_182 ?_
    refine jr_iadd dX12_minister_183 ?_
    refine j_nmi (fun x4_17 e_18 => ?_)
    replace h := drvL e_18 h
    refine jr_istore (lv' := [(4, .int x4_17), (0, .ref 205), (1, .int p1), (2, .int p2), (3, .int x3)]) dX12_minister_184 (by decide) rfl ?_
    refine jr_aload_n dX12_minister_186 rfl 1 rfl ?_
    refine jr_aload_n dX12_minister_187 rfl 1 rfl ?_
    refine gf_X12_70 (r := 223) rfl (rfl : kd 205 = 11) rfl dX12_minister_188 ?_
    refine jr_iload dX12_minister_191 0 rfl ?_
    obtain ⟨hg_19, h⟩ := drvG h
    refine jr_lald (rfl : kd 223 = 14) hg_19 dX12_minister_193 ?_
    refine jr_l2i dX12_minister_194 ?_
    refine jr_aload_n dX12_minister_195 rfl 1 rfl ?_
    refine gf_X12_70 (r := 223) rfl (rfl : kd 205 = 11) rfl dX12_minister_196 ?_
    refine jr_iload dX12_minister_199 0 rfl ?_
    refine jr_iconst (v := (1 : Int32)) dX12_minister_201 (by decide) ?_
    refine jr_iadd dX12_minister_202 ?_
    obtain ⟨hg_20, h⟩ := drvG h
    refine jr_lald (rfl : kd 223 = 14) hg_20 dX12_minister_203 ?_
    refine jr_l2i dX12_minister_204 ?_
    refine jr_aload_n dX12_minister_205 rfl 1 rfl ?_
    refine gf_X12_70 (r := 223) rfl (rfl : kd 205 = 11) rfl dX12_minister_206 ?_
    refine jr_iload dX12_minister_209 0 rfl ?_
    refine jr_iconst (v := (2 : Int32)) dX12_minister_211 (by decide) ?_
    refine jr_iadd dX12_minister_212 ?_
    obtain ⟨hg_21, h⟩ := drvG h
    refine jr_lald (rfl : kd 223 = 14) hg_21 dX12_minister_213 ?_
    refine jr_l2i dX12_minister_214 ?_
    refine jr_aload_n dX12_minister_215 rfl 1 rfl ?_
    refine gf_X12_70 (r := 223) rfl (rfl : kd 205 = 11) rfl dX12_minister_216 ?_
    refine jr_iload dX12_minister_219 0 rfl ?_
    refine jr_iconst (v := (3 : Int32)) dX12_minister_221 (by decide) ?_
    refine jr_iadd dX12_minister_222 ?_
    obtain ⟨hg_22, h⟩ := drvG h
    refine jr_lald (rfl : kd 223 = 14) hg_22 dX12_minister_223 ?_
    refine jr_l2i dX12_minister_224 ?_
    refine jr_aload_n dX12_minister_225 rfl 1 rfl ?_
    refine gf_X12_70 (r := 223) rfl (rfl : kd 205 = 11) rfl dX12_minister_226 ?_
    refine jr_iload dX12_minister_229 0 rfl ?_
    refine jr_iconst (v := (4 : Int32)) dX12_minister_231 (by decide) ?_
    refine jr_iadd dX12_minister_232 ?_
    obtain ⟨hg_23, h⟩ := drvG h
    refine jr_lald (rfl : kd 223 = 14) hg_23 dX12_minister_233 ?_
    refine jr_l2i dX12_minister_234 ?_
    refine jr_lconst (v := (0 : Int64)) dX12_minister_235 rfl ?_
    obtain ⟨w_25, hq_24, h⟩ := drvB h
    refine j_callVn lk_X12_317 wIM_X12_answers wSE_X12_answers (rfl : kd 205 = 11) (by decide) rfl (tX12_answers  hq_24) (by omega) rfl rfl (Nat.le_of_ble_eq_true rfl) dX12_minister_236 ?_
    refine jr_iincN (c := (1 : Int32)) (lv' := fun (x3_26 : Int32) => [(3, .int x3_26), (4, .int x4_17), (0, .ref 205), (1, .int p1), (2, .int p2)]) dX12_minister_239 (by decide) 4 rfl (by decide) (fun _ => rfl) (fun x3_26 e_27 => ?_)
    replace h := drvL e_27 h
    refine jr_goto (tgt := 171) dX12_minister_242 (by decide) ?_
    refine jr_sub [2, 3, 4, 0] rfl ?_
    exact hrec _ _ h
theorem hlX12_minister_171 {n : Nat} {p1 : Int32} {p2 : Int32} {r : Int32} {w' : jWd}  : ∀ (c : Nat) (x3 : Int32) (w : jWd) , lX12_minister_171 n p1 p2 c x3 w = some (r, w') → J MX12_minister 5 w 171 [(0, .ref 205), (1, .int p1), (2, .int p2), (3, .int x3)] [] (some (.int r)) w' := by
  intro c
  induction c with
  | zero => intro x3 w h; cases h
  | succ c ih => intro x3 w h; exact hbX12_minister_171 (n := n) ih _ _ h
set_option maxHeartbeats 4000000 in
set_option maxRecDepth 100000 in
theorem tX12_minister {n : Nat} {a0 : Int32} {w : jWd} {r : Int32} {w' : jWd}  (h : fX12_minister n a0 w = some (r, w')) : JM yX12_minister MX12_minister 5 [.ref 205, .int a0] w (some (.int r)) w' := by
  refine jm_of pl_X12 rfl (Nat.le_of_ble_eq_true rfl) ?_
  show J MX12_minister 5 w 0 [(0, .ref 205), (1, .int a0)] [] (some (.int r)) w'
  unfold fX12_minister at h
  refine jr_aload_n dX12_minister_0 rfl 0 rfl ?_
  refine jr_iconst (v := (0 : Int32)) dX12_minister_1 (by decide) ?_
  refine pf_X12_1 rfl (rfl : kd 205 = 11) dX12_minister_2 ?_
  refine j_nmw (fun w_1 e_2 => ?_)
  replace h := drvL e_2 h
  refine jr_iload_n dX12_minister_5 rfl 1 rfl ?_
  refine jr_i2l dX12_minister_6 ?_
  refine jr_lconst (v := (0 : Int64)) dX12_minister_7 rfl ?_
  refine jr_ldc2 (v := (3 : Int64)) wCC_X12_335 dX12_minister_8 ?_
  refine j_callSv lk_X12_81 wST_X12_within (tX12_within  (a0 := ((a0).toInt64)) (a1 := (0 : Int64)) (a2 := (3 : Int64)) (w := w_1)) (by omega) rfl rfl (Nat.le_of_ble_eq_true rfl) dX12_minister_11 ?_
  refine jr_if_ne (tgt := 24) (nxt := 17) dX12_minister_14 (by decide) rfl (fun hc => ?_) (fun hc => ?_)
  · replace h := drvE hc h
    refine jr_aload_n dX12_minister_24 rfl 0 rfl ?_
    refine gf_X12_64 (r := 221) rfl (rfl : kd 205 = 11) rfl dX12_minister_25 ?_
    refine jr_iload_n dX12_minister_28 rfl 1 rfl ?_
    obtain ⟨hg_3, h⟩ := drvG h
    refine jr_iald (rfl : kd 221 = 13) hg_3 dX12_minister_29 ?_
    refine jr_iconst (v := (-1 : Int32)) dX12_minister_30 (by decide) ?_
    refine jr_icmp_ne (tgt := 41) (nxt := 34) dX12_minister_31 (by decide) rfl (fun hc => ?_) (fun hc => ?_)
    · replace h := drvE hc h
      refine jr_aload_n dX12_minister_41 rfl 0 rfl ?_
      refine gf_X12_67 (r := 222) rfl (rfl : kd 205 = 11) rfl dX12_minister_42 ?_
      refine jr_iload_n dX12_minister_45 rfl 1 rfl ?_
      obtain ⟨hg_4, h⟩ := drvG h
      refine jr_iald (rfl : kd 222 = 13) hg_4 dX12_minister_46 ?_
      refine jr_iconst (v := (5 : Int32)) dX12_minister_47 (by decide) ?_
      refine jr_irem dX12_minister_48 (by decide) ?_
      refine jr_if_eq (tgt := 59) (nxt := 52) dX12_minister_49 (by decide) rfl (fun hc => ?_) (fun hc => ?_)
      · replace h := drvT hc h
        refine jr_aload_n dX12_minister_59 rfl 0 rfl ?_
        refine gf_X12_67 (r := 222) rfl (rfl : kd 205 = 11) rfl dX12_minister_60 ?_
        refine jr_iload_n dX12_minister_63 rfl 1 rfl ?_
        obtain ⟨hg_5, h⟩ := drvG h
        refine jr_iald (rfl : kd 222 = 13) hg_5 dX12_minister_64 ?_
        refine jr_iconst (v := (5 : Int32)) dX12_minister_65 (by decide) ?_
        refine jr_idiv dX12_minister_66 (by decide) ?_
        refine j_nmi (fun x2_6 e_7 => ?_)
        replace h := drvL e_7 h
        refine jr_istore_n (lv' := [(2, .int x2_6), (0, .ref 205), (1, .int a0)]) dX12_minister_67 rfl (by decide) rfl ?_
        refine jr_iconst (v := (0 : Int32)) dX12_minister_68 (by decide) ?_
        refine jr_istore_n (lv' := [(3, .int (0 : Int32)), (2, .int x2_6), (0, .ref 205), (1, .int a0)]) dX12_minister_69 rfl (by decide) rfl ?_
        refine jr_sub [2, 3, 1, 0] rfl ?_
        refine hlX12_minister_70  ?_ ?_ _ _ h
        · intro _ h
          try dsimp only at h
          refine jr_aload_n dX12_minister_147 rfl 0 rfl ?_
          refine gf_X12_17 (r := 207) rfl (rfl : kd 205 = 11) rfl dX12_minister_148 ?_
          refine jr_sipush (v := (547 : Int32)) dX12_minister_151 (by decide) ?_
          refine jr_ialdL (k := 547) (rfl : kd 207 = 13) (vp_lit (by decide) (by decide)) (by decide) dX12_minister_154 ?_
          refine jr_iload_n dX12_minister_155 rfl 2 rfl ?_
          refine jr_iadd dX12_minister_156 ?_
          refine jr_bipush (v := (60 : Int32)) dX12_minister_157 (by decide) ?_
          refine jr_icmp_le (tgt := 169) (nxt := 162) dX12_minister_159 (by decide) rfl (fun hc => ?_) (fun hc => ?_)
          · replace h := drvT hc h
            refine jr_iconst (v := (0 : Int32)) dX12_minister_169 (by decide) ?_
            refine jr_istore_n (lv' := [(3, .int (0 : Int32)), (0, .ref 205), (1, .int a0), (2, .int x2_6)]) dX12_minister_170 rfl (by decide) rfl ?_
            refine jr_sub [1, 2, 3, 0] rfl ?_
            refine hlX12_minister_171   _ _ _ h
          · replace h := drvE hc h
            refine jr_aload_n dX12_minister_162 rfl 0 rfl ?_
            refine jr_bipush (v := (-4 : Int32)) dX12_minister_163 (by decide) ?_
            obtain ⟨r_30, w_29, hq_28, h⟩ := drvB2 h
            refine j_callVv lk_X12_85 wIM_X12_no wSE_X12_no (rfl : kd 205 = 11) (by decide) rfl (tX12_no  hq_28) (by omega) rfl rfl (Nat.le_of_ble_eq_true rfl) dX12_minister_165 ?_
            obtain ⟨rfl, rfl⟩ := drvS2 h
            exact jr_iret rfl dX12_minister_168
        · intro _ h
          try dsimp only at h
          refine jr_aload_n dX12_minister_134 rfl 0 rfl ?_
          refine jr_bipush (v := (-3 : Int32)) dX12_minister_135 (by decide) ?_
          obtain ⟨r_33, w_32, hq_31, h⟩ := drvB2 h
          refine j_callVv lk_X12_85 wIM_X12_no wSE_X12_no (rfl : kd 205 = 11) (by decide) rfl (tX12_no  hq_31) (by omega) rfl rfl (Nat.le_of_ble_eq_true rfl) dX12_minister_137 ?_
          obtain ⟨rfl, rfl⟩ := drvS2 h
          exact jr_iret rfl dX12_minister_140
      · replace h := drvE hc h
        refine jr_aload_n dX12_minister_52 rfl 0 rfl ?_
        refine jr_bipush (v := (-7 : Int32)) dX12_minister_53 (by decide) ?_
        obtain ⟨r_36, w_35, hq_34, h⟩ := drvB2 h
        refine j_callVv lk_X12_85 wIM_X12_no wSE_X12_no (rfl : kd 205 = 11) (by decide) rfl (tX12_no  hq_34) (by omega) rfl rfl (Nat.le_of_ble_eq_true rfl) dX12_minister_55 ?_
        obtain ⟨rfl, rfl⟩ := drvS2 h
        exact jr_iret rfl dX12_minister_58
    · replace h := drvT hc h
      refine jr_aload_n dX12_minister_34 rfl 0 rfl ?_
      refine jr_bipush (v := (-6 : Int32)) dX12_minister_35 (by decide) ?_
      obtain ⟨r_39, w_38, hq_37, h⟩ := drvB2 h
      refine j_callVv lk_X12_85 wIM_X12_no wSE_X12_no (rfl : kd 205 = 11) (by decide) rfl (tX12_no  hq_37) (by omega) rfl rfl (Nat.le_of_ble_eq_true rfl) dX12_minister_37 ?_
      obtain ⟨rfl, rfl⟩ := drvS2 h
      exact jr_iret rfl dX12_minister_40
  · replace h := drvT hc h
    refine jr_aload_n dX12_minister_17 rfl 0 rfl ?_
    refine jr_bipush (v := (-2 : Int32)) dX12_minister_18 (by decide) ?_
    obtain ⟨r_42, w_41, hq_40, h⟩ := drvB2 h
    refine j_callVv lk_X12_85 wIM_X12_no wSE_X12_no (rfl : kd 205 = 11) (by decide) rfl (tX12_no  hq_40) (by omega) rfl rfl (Nat.le_of_ble_eq_true rfl) dX12_minister_20 ?_
    obtain ⟨rfl, rfl⟩ := drvS2 h
    exact jr_iret rfl dX12_minister_23
set_option maxHeartbeats 4000000 in
set_option maxRecDepth 100000 in
theorem hbX12_pagesIn_5 {n : Nat} {p1 : Int32} {p2 : Int32} {w : jWd} {r : Int32} {rec : Int32 → Int32 → Option Int32} 
    (hrec : ∀ (x3 : Int32) (x4 : Int32) , rec x3 x4 = some r → J MX12_pagesIn 2 w 5 [(0, .ref 205), (1, .int p1), (2, .int p2), (3, .int x3), (4, .int x4)] [] (some (.int r)) w) : ∀ (x3 : Int32) (x4 : Int32) , bX12_pagesIn_5 n p1 p2 w rec x3 x4 = some r → J MX12_pagesIn 2 w 5 [(0, .ref 205), (1, .int p1), (2, .int p2), (3, .int x3), (4, .int x4)] [] (some (.int r)) w := by
  intro x3 x4 h
  unfold bX12_pagesIn_5 at h
  refine jr_iload dX12_pagesIn_5 4 rfl ?_
  refine jr_aload_n dX12_pagesIn_7 rfl 0 rfl ?_
  refine gf_X12_17 (r := 207) rfl (rfl : kd 205 = 11) rfl dX12_pagesIn_8 ?_
  refine jr_sipush (v := (889 : Int32)) dX12_pagesIn_11 (by decide) ?_
  refine jr_ialdL (k := 889) (rfl : kd 207 = 13) (vp_lit (by decide) (by decide)) (by decide) dX12_pagesIn_14 ?_
  refine jr_icmp_ge (tgt := 64) (nxt := 18) dX12_pagesIn_15 (by decide) rfl (fun hc => ?_) (fun hc => ?_)
  · replace h := drvT hc h
    refine jr_iload_n dX12_pagesIn_64 rfl 3 rfl ?_
    obtain rfl := drvS1 h
    exact jr_iret rfl dX12_pagesIn_65
  · replace h := drvE hc h
    refine jr_iload_n dX12_pagesIn_18 rfl 3 rfl ?_
    refine jr_aload_n dX12_pagesIn_19 rfl 0 rfl ?_
    refine gf_X12_17 (r := 207) rfl (rfl : kd 205 = 11) rfl dX12_pagesIn_20 ?_
    refine jr_sipush (v := (890 : Int32)) dX12_pagesIn_23 (by decide) ?_
    refine jr_iload dX12_pagesIn_26 4 rfl ?_
    refine jr_iadd dX12_pagesIn_28 ?_
    obtain ⟨hg_1, h⟩ := drvG h
    refine jr_iald (rfl : kd 207 = 13) hg_1 dX12_pagesIn_29 ?_
    refine jr_i2l dX12_pagesIn_30 ?_
    refine jr_iload_n dX12_pagesIn_31 rfl 1 rfl ?_
    refine jr_i2l dX12_pagesIn_32 ?_
    refine jr_iload_n dX12_pagesIn_33 rfl 2 rfl ?_
    refine jr_i2l dX12_pagesIn_34 ?_
    refine j_callSv lk_X12_81 wST_X12_within (tX12_within  (a0 := (((wI w 207 (((890 : Int32) + x4)).toNatClampNeg)).toInt64)) (a1 := ((p1).toInt64)) (a2 := ((p2).toInt64)) (w := w)) (by omega) rfl rfl (Nat.le_of_ble_eq_true rfl) dX12_pagesIn_35 ?_
    refine jr_if_eq (tgt := 55) (nxt := 41) dX12_pagesIn_38 (by decide) rfl (fun hc => ?_) (fun hc => ?_)
    · replace h := drvT hc h
      refine jr_iconst (v := (0 : Int32)) dX12_pagesIn_55 (by decide) ?_
      refine jr_iadd dX12_pagesIn_56 ?_
      refine j_nmi (fun x3_2 e_3 => ?_)
      replace h := drvL e_3 h
      refine jr_istore_n (lv' := [(3, .int x3_2), (0, .ref 205), (1, .int p1), (2, .int p2), (4, .int x4)]) dX12_pagesIn_57 rfl (by decide) rfl ?_
      refine jr_iincN (c := (1 : Int32)) (lv' := fun (x4_4 : Int32) => [(4, .int x4_4), (3, .int x3_2), (0, .ref 205), (1, .int p1), (2, .int p2)]) dX12_pagesIn_58 (by decide) 4 rfl (by decide) (fun _ => rfl) (fun x4_4 e_5 => ?_)
      replace h := drvL e_5 h
      refine jr_goto (tgt := 5) dX12_pagesIn_61 (by decide) ?_
      refine jr_sub [2, 3, 4, 1, 0] rfl ?_
      exact hrec _ _ h
    · replace h := drvE hc h
      refine jr_aload_n dX12_pagesIn_41 rfl 0 rfl ?_
      refine gf_X12_17 (r := 207) rfl (rfl : kd 205 = 11) rfl dX12_pagesIn_42 ?_
      refine jr_sipush (v := (930 : Int32)) dX12_pagesIn_45 (by decide) ?_
      refine jr_iload dX12_pagesIn_48 4 rfl ?_
      refine jr_iadd dX12_pagesIn_50 ?_
      obtain ⟨hg_6, h⟩ := drvG h
      refine jr_iald (rfl : kd 207 = 13) hg_6 dX12_pagesIn_51 ?_
      refine jr_goto (tgt := 56) dX12_pagesIn_52 (by decide) ?_
      refine jr_iadd dX12_pagesIn_56 ?_
      refine j_nmi (fun x3_7 e_8 => ?_)
      replace h := drvL e_8 h
      refine jr_istore_n (lv' := [(3, .int x3_7), (0, .ref 205), (1, .int p1), (2, .int p2), (4, .int x4)]) dX12_pagesIn_57 rfl (by decide) rfl ?_
      refine jr_iincN (c := (1 : Int32)) (lv' := fun (x4_9 : Int32) => [(4, .int x4_9), (3, .int x3_7), (0, .ref 205), (1, .int p1), (2, .int p2)]) dX12_pagesIn_58 (by decide) 4 rfl (by decide) (fun _ => rfl) (fun x4_9 e_10 => ?_)
      replace h := drvL e_10 h
      refine jr_goto (tgt := 5) dX12_pagesIn_61 (by decide) ?_
      refine jr_sub [2, 3, 4, 1, 0] rfl ?_
      exact hrec _ _ h
theorem hlX12_pagesIn_5 {n : Nat} {p1 : Int32} {p2 : Int32} {w : jWd} {r : Int32}  : ∀ (c : Nat) (x3 : Int32) (x4 : Int32) , lX12_pagesIn_5 n p1 p2 w c x3 x4 = some r → J MX12_pagesIn 2 w 5 [(0, .ref 205), (1, .int p1), (2, .int p2), (3, .int x3), (4, .int x4)] [] (some (.int r)) w := by
  intro c
  induction c with
  | zero => intro x3 x4 h; cases h
  | succ c ih => intro x3 x4 h; exact hbX12_pagesIn_5 (n := n) ih _ _ h
set_option maxHeartbeats 4000000 in
set_option maxRecDepth 100000 in
theorem tX12_pagesIn {n : Nat} {a0 : Int32} {a1 : Int32} {w : jWd} {r : Int32}  (h : fX12_pagesIn n a0 a1 w = some r) : JM yX12_pagesIn MX12_pagesIn 2 [.ref 205, .int a0, .int a1] w (some (.int r)) w := by
  refine jm_of pl_X12 rfl (Nat.le_of_ble_eq_true rfl) ?_
  show J MX12_pagesIn 2 w 0 [(0, .ref 205), (1, .int a0), (2, .int a1)] [] (some (.int r)) w
  unfold fX12_pagesIn at h
  refine jr_iconst (v := (0 : Int32)) dX12_pagesIn_0 (by decide) ?_
  refine jr_istore_n (lv' := [(3, .int (0 : Int32)), (0, .ref 205), (1, .int a0), (2, .int a1)]) dX12_pagesIn_1 rfl (by decide) rfl ?_
  refine jr_iconst (v := (0 : Int32)) dX12_pagesIn_2 (by decide) ?_
  refine jr_istore (lv' := [(4, .int (0 : Int32)), (3, .int (0 : Int32)), (0, .ref 205), (1, .int a0), (2, .int a1)]) dX12_pagesIn_3 (by decide) rfl ?_
  refine jr_sub [2, 3, 4, 1, 0] rfl ?_
  refine hlX12_pagesIn_5   _ _ _ h
set_option maxHeartbeats 4000000 in
set_option maxRecDepth 100000 in
theorem hbX12_more_50 {n : Nat} {p1 : Int32} {p2 : Int32} {w : jWd} {r : Int32} {w' : jWd} {rec : Int32 → Int32 → Option (Int32 × jWd)} 
    (hrec : ∀ (x3 : Int32) (x4 : Int32) , rec x3 x4 = some (r, w') → J MX12_more 3 w 50 [(0, .ref 205), (1, .int p1), (2, .int p2), (3, .int x3), (4, .int x4)] [] (some (.int r)) w') : ∀ (x3 : Int32) (x4 : Int32) , bX12_more_50 n p1 p2 w rec x3 x4 = some (r, w') → J MX12_more 3 w 50 [(0, .ref 205), (1, .int p1), (2, .int p2), (3, .int x3), (4, .int x4)] [] (some (.int r)) w' := by
  intro x3 x4 h
  unfold bX12_more_50 at h
  refine jr_iload dX12_more_50 4 rfl ?_
  refine jr_aload_n dX12_more_52 rfl 0 rfl ?_
  refine gf_X12_17 (r := 207) rfl (rfl : kd 205 = 11) rfl dX12_more_53 ?_
  refine jr_sipush (v := (848 : Int32)) dX12_more_56 (by decide) ?_
  refine jr_ialdL (k := 848) (rfl : kd 207 = 13) (vp_lit (by decide) (by decide)) (by decide) dX12_more_59 ?_
  refine jr_icmp_ge (tgt := 129) (nxt := 63) dX12_more_60 (by decide) rfl (fun hc => ?_) (fun hc => ?_)
  · replace h := drvT hc h
    refine jr_iload_n dX12_more_129 rfl 3 rfl ?_
    obtain ⟨rfl, rfl⟩ := drvS2 h
    exact jr_iret rfl dX12_more_130
  · replace h := drvE hc h
    refine jr_aload_n dX12_more_63 rfl 0 rfl ?_
    refine gf_X12_17 (r := 207) rfl (rfl : kd 205 = 11) rfl dX12_more_64 ?_
    refine jr_sipush (v := (849 : Int32)) dX12_more_67 (by decide) ?_
    refine jr_iload dX12_more_70 4 rfl ?_
    refine jr_iadd dX12_more_72 ?_
    obtain ⟨hg_4, h⟩ := drvG h
    refine jr_iald (rfl : kd 207 = 13) hg_4 dX12_more_73 ?_
    refine j_nmi (fun x5_5 e_6 => ?_)
    replace h := drvL e_6 h
    refine jr_istore (lv' := [(5, .int x5_5), (0, .ref 205), (1, .int p1), (2, .int p2), (3, .int x3), (4, .int x4)]) dX12_more_74 (by decide) rfl ?_
    refine jr_iload_n dX12_more_76 rfl 4 rfl ?_
    refine jr_iload_n dX12_more_77 rfl 2 rfl ?_
    refine jr_iconst (v := (1 : Int32)) dX12_more_78 (by decide) ?_
    refine jr_icmp_ne (tgt := 96) (nxt := 82) dX12_more_79 (by decide) rfl (fun hc => ?_) (fun hc => ?_)
    · replace h := drvE hc h
      refine jr_aload_n dX12_more_96 rfl 1 rfl ?_
      refine jr_iload dX12_more_97 0 rfl ?_
      refine jr_iconst (v := (1 : Int32)) dX12_more_99 (by decide) ?_
      refine jr_iadd dX12_more_100 ?_
      refine jr_iload dX12_more_101 0 rfl ?_
      refine jr_iload_n dX12_more_103 rfl 3 rfl ?_
      refine jr_iadd dX12_more_104 ?_
      obtain ⟨r_8, hq_7, h⟩ := drvB h
      refine j_callVv lk_X12_341 wIM_X12_pagesIn wSE_X12_pagesIn (rfl : kd 205 = 11) (by decide) rfl (tX12_pagesIn  hq_7) (by omega) rfl rfl (Nat.le_of_ble_eq_true rfl) dX12_more_105 ?_
      refine jr_aload_n dX12_more_108 rfl 1 rfl ?_
      refine jr_iload dX12_more_109 0 rfl ?_
      refine jr_iload_n dX12_more_111 rfl 3 rfl ?_
      refine jr_isub dX12_more_112 ?_
      refine jr_iload dX12_more_113 0 rfl ?_
      refine jr_iconst (v := (1 : Int32)) dX12_more_115 (by decide) ?_
      refine jr_isub dX12_more_116 ?_
      obtain ⟨r_10, hq_9, h⟩ := drvB h
      refine j_callVv lk_X12_341 wIM_X12_pagesIn wSE_X12_pagesIn (rfl : kd 205 = 11) (by decide) rfl (tX12_pagesIn  hq_9) (by omega) rfl rfl (Nat.le_of_ble_eq_true rfl) dX12_more_117 ?_
      refine jr_isub dX12_more_120 ?_
      refine jr_iadd dX12_more_121 ?_
      refine j_nmi (fun x3_11 e_12 => ?_)
      replace h := drvL e_12 h
      refine jr_istore_n (lv' := [(3, .int x3_11), (5, .int x5_5), (0, .ref 205), (1, .int p1), (2, .int p2), (4, .int x4)]) dX12_more_122 rfl (by decide) rfl ?_
      refine jr_iincN (c := (1 : Int32)) (lv' := fun (x4_13 : Int32) => [(4, .int x4_13), (3, .int x3_11), (5, .int x5_5), (0, .ref 205), (1, .int p1), (2, .int p2)]) dX12_more_123 (by decide) 5 rfl (by decide) (fun _ => rfl) (fun x4_13 e_14 => ?_)
      replace h := drvL e_14 h
      refine jr_goto (tgt := 50) dX12_more_126 (by decide) ?_
      refine jr_sub [3, 4, 5, 1, 0] rfl ?_
      exact hrec _ _ h
    · replace h := drvT hc h
      refine jr_aload_n dX12_more_82 rfl 1 rfl ?_
      refine gf_X12_17 (r := 207) rfl (rfl : kd 205 = 11) rfl dX12_more_83 ?_
      refine jr_sipush (v := (869 : Int32)) dX12_more_86 (by decide) ?_
      refine jr_iload dX12_more_89 5 rfl ?_
      refine jr_iadd dX12_more_91 ?_
      obtain ⟨hg_15, h⟩ := drvG h
      refine jr_iald (rfl : kd 207 = 13) hg_15 dX12_more_92 ?_
      refine jr_goto (tgt := 121) dX12_more_93 (by decide) ?_
      refine jr_iadd dX12_more_121 ?_
      refine j_nmi (fun x3_16 e_17 => ?_)
      replace h := drvL e_17 h
      refine jr_istore_n (lv' := [(3, .int x3_16), (5, .int x5_5), (0, .ref 205), (1, .int p1), (2, .int p2), (4, .int x4)]) dX12_more_122 rfl (by decide) rfl ?_
      refine jr_iincN (c := (1 : Int32)) (lv' := fun (x4_18 : Int32) => [(4, .int x4_18), (3, .int x3_16), (5, .int x5_5), (0, .ref 205), (1, .int p1), (2, .int p2)]) dX12_more_123 (by decide) 5 rfl (by decide) (fun _ => rfl) (fun x4_18 e_19 => ?_)
      replace h := drvL e_19 h
      refine jr_goto (tgt := 50) dX12_more_126 (by decide) ?_
      refine jr_sub [3, 4, 5, 1, 0] rfl ?_
      exact hrec _ _ h
theorem hlX12_more_50 {n : Nat} {p1 : Int32} {p2 : Int32} {w : jWd} {r : Int32} {w' : jWd}  : ∀ (c : Nat) (x3 : Int32) (x4 : Int32) , lX12_more_50 n p1 p2 w c x3 x4 = some (r, w') → J MX12_more 3 w 50 [(0, .ref 205), (1, .int p1), (2, .int p2), (3, .int x3), (4, .int x4)] [] (some (.int r)) w' := by
  intro c
  induction c with
  | zero => intro x3 x4 h; cases h
  | succ c ih => intro x3 x4 h; exact hbX12_more_50 (n := n) ih _ _ h
set_option maxHeartbeats 4000000 in
set_option maxRecDepth 100000 in
theorem tX12_more {n : Nat} {a0 : Int32} {a1 : Int32} {w : jWd} {r : Int32} {w' : jWd}  (h : fX12_more n a0 a1 w = some (r, w')) : JM yX12_more MX12_more 3 [.ref 205, .int a0, .int a1] w (some (.int r)) w' := by
  refine jm_of pl_X12 rfl (Nat.le_of_ble_eq_true rfl) ?_
  show J MX12_more 3 w 0 [(0, .ref 205), (1, .int a0), (2, .int a1)] [] (some (.int r)) w'
  unfold fX12_more at h
  refine jr_aload_n dX12_more_0 rfl 0 rfl ?_
  refine jr_iconst (v := (0 : Int32)) dX12_more_1 (by decide) ?_
  refine pf_X12_1 rfl (rfl : kd 205 = 11) dX12_more_2 ?_
  refine j_nmw (fun w_1 e_2 => ?_)
  replace h := drvL e_2 h
  refine jr_iload_n dX12_more_5 rfl 1 rfl ?_
  refine jr_i2l dX12_more_6 ?_
  refine jr_lconst (v := (0 : Int64)) dX12_more_7 rfl ?_
  refine jr_lconst (v := (1 : Int64)) dX12_more_8 rfl ?_
  refine j_callSv lk_X12_81 wST_X12_within (tX12_within  (a0 := ((a0).toInt64)) (a1 := (0 : Int64)) (a2 := (1 : Int64)) (w := w_1)) (by omega) rfl rfl (Nat.le_of_ble_eq_true rfl) dX12_more_9 ?_
  refine jr_if_ne (tgt := 22) (nxt := 15) dX12_more_12 (by decide) rfl (fun hc => ?_) (fun hc => ?_)
  · replace h := drvE hc h
    refine jr_iload_n dX12_more_22 rfl 1 rfl ?_
    obtain ⟨j45_3, ej45_3, h⟩ := drvF h
    have hj45_3 : ∀ (_ : Unit), j45_3 = some (r, w') → J MX12_more 3 w_1 45 [(0, .ref 205), (1, .int a0), (2, .int a1)] [] (some (.int r)) w' := by
      intro _ h
      rw [ej45_3] at h
      try dsimp only at h
      refine jr_iconst (v := (0 : Int32)) dX12_more_45 (by decide) ?_
      refine jr_istore_n (lv' := [(3, .int (0 : Int32)), (0, .ref 205), (1, .int a0), (2, .int a1)]) dX12_more_46 rfl (by decide) rfl ?_
      refine jr_iconst (v := (0 : Int32)) dX12_more_47 (by decide) ?_
      refine jr_istore (lv' := [(4, .int (0 : Int32)), (3, .int (0 : Int32)), (0, .ref 205), (1, .int a0), (2, .int a1)]) dX12_more_48 (by decide) rfl ?_
      refine jr_sub [2, 3, 4, 1, 0] rfl ?_
      refine hlX12_more_50   _ _ _ h
    refine jr_if_ne (tgt := 45) (nxt := 26) dX12_more_23 (by decide) rfl (fun hc => ?_) (fun hc => ?_)
    · replace h := drvE hc h
      refine jr_sub [0, 1, 2] rfl ?_
      exact (hj45_3 ()) h
    · replace h := drvT hc h
      refine jr_iload_n dX12_more_26 rfl 2 rfl ?_
      refine jr_i2l dX12_more_27 ?_
      refine jr_lconst (v := (1 : Int64)) dX12_more_28 rfl ?_
      refine jr_ldc2 (v := (999 : Int64)) wCC_X12_337 dX12_more_29 ?_
      refine j_callSv lk_X12_81 wST_X12_within (tX12_within  (a0 := ((a1).toInt64)) (a1 := (1 : Int64)) (a2 := (999 : Int64)) (w := w_1)) (by omega) rfl rfl (Nat.le_of_ble_eq_true rfl) dX12_more_32 ?_
      refine jr_if_ne (tgt := 45) (nxt := 38) dX12_more_35 (by decide) rfl (fun hc => ?_) (fun hc => ?_)
      · replace h := drvE hc h
        refine jr_sub [0, 1, 2] rfl ?_
        exact (hj45_3 ()) h
      · replace h := drvT hc h
        refine jr_aload_n dX12_more_38 rfl 0 rfl ?_
        refine jr_bipush (v := (-3 : Int32)) dX12_more_39 (by decide) ?_
        obtain ⟨r_22, w_21, hq_20, h⟩ := drvB2 h
        refine j_callVv lk_X12_85 wIM_X12_no wSE_X12_no (rfl : kd 205 = 11) (by decide) rfl (tX12_no  hq_20) (by omega) rfl rfl (Nat.le_of_ble_eq_true rfl) dX12_more_41 ?_
        obtain ⟨rfl, rfl⟩ := drvS2 h
        exact jr_iret rfl dX12_more_44
  · replace h := drvT hc h
    refine jr_aload_n dX12_more_15 rfl 0 rfl ?_
    refine jr_bipush (v := (-2 : Int32)) dX12_more_16 (by decide) ?_
    obtain ⟨r_25, w_24, hq_23, h⟩ := drvB2 h
    refine j_callVv lk_X12_85 wIM_X12_no wSE_X12_no (rfl : kd 205 = 11) (by decide) rfl (tX12_no  hq_23) (by omega) rfl rfl (Nat.le_of_ble_eq_true rfl) dX12_more_18 ?_
    obtain ⟨rfl, rfl⟩ := drvS2 h
    exact jr_iret rfl dX12_more_21
set_option maxHeartbeats 4000000 in
set_option maxRecDepth 100000 in
theorem hbX12_most_72 {n : Nat} {p1 : Int32} {p2 : Int32} {k124 : Int32 → Int32 → Int32 → jWd → (Option (Int32 × jWd))} {r : Int32} {w' : jWd} {rec : Int32 → Int32 → Int32 → Int32 → jWd → Option (Int32 × jWd)} (hk124 : ∀ (z3 : Int32) (z4 : Int32) (z5 : Int32) (w9 : jWd), k124 z3 z4 z5 w9 = some (r, w') → J MX12_most 5 w9 124 [(0, .ref 205), (2, .int p2), (3, .int z3), (4, .int z4), (5, .int z5)] [] (some (.int r)) w')
    (hrec : ∀ (x3 : Int32) (x4 : Int32) (x5 : Int32) (x6 : Int32) (w : jWd) , rec x3 x4 x5 x6 w = some (r, w') → J MX12_most 5 w 72 [(0, .ref 205), (1, .int p1), (2, .int p2), (3, .int x3), (4, .int x4), (5, .int x5), (6, .int x6)] [] (some (.int r)) w') : ∀ (x3 : Int32) (x4 : Int32) (x5 : Int32) (x6 : Int32) (w : jWd) , bX12_most_72 n p1 p2 k124 rec x3 x4 x5 x6 w = some (r, w') → J MX12_most 5 w 72 [(0, .ref 205), (1, .int p1), (2, .int p2), (3, .int x3), (4, .int x4), (5, .int x5), (6, .int x6)] [] (some (.int r)) w' := by
  intro x3 x4 x5 x6 w h
  unfold bX12_most_72 at h
  refine jr_iload dX12_most_72 6 rfl ?_
  refine jr_aload_n dX12_most_74 rfl 0 rfl ?_
  refine gf_X12_17 (r := 207) rfl (rfl : kd 205 = 11) rfl dX12_most_75 ?_
  refine jr_sipush (v := (223 : Int32)) dX12_most_78 (by decide) ?_
  refine jr_ialdL (k := 223) (rfl : kd 207 = 13) (vp_lit (by decide) (by decide)) (by decide) dX12_most_81 ?_
  refine jr_icmp_ge (tgt := 124) (nxt := 85) dX12_most_82 (by decide) rfl (fun hc => ?_) (fun hc => ?_)
  · replace h := drvT hc h
    refine jr_sub [0, 2, 3, 4, 5] rfl ?_
    exact hk124 _ _ _ _ h
  · replace h := drvE hc h
    refine jr_aload_n dX12_most_85 rfl 0 rfl ?_
    refine jr_iload dX12_most_86 6 rfl ?_
    refine jr_iload_n dX12_most_88 rfl 1 rfl ?_
    obtain ⟨r_5, w_4, hq_3, h⟩ := drvB2 h
    refine j_callVv lk_X12_302 wIM_X12_matchesOf wSE_X12_matchesOf (rfl : kd 205 = 11) (by decide) rfl (tX12_matchesOf  hq_3) (by omega) rfl rfl (Nat.le_of_ble_eq_true rfl) dX12_most_89 ?_
    refine jr_istore (lv' := [(7, .int r_5), (0, .ref 205), (1, .int p1), (2, .int p2), (3, .int x3), (4, .int x4), (5, .int x5), (6, .int x6)]) dX12_most_92 (by decide) rfl ?_
    refine jr_iload dX12_most_94 6 rfl ?_
    refine jr_iload dX12_most_96 0 rfl ?_
    refine jr_iadd dX12_most_98 ?_
    refine j_nmi (fun x5_6 e_7 => ?_)
    replace h := drvL e_7 h
    refine jr_istore (lv' := [(5, .int x5_6), (7, .int r_5), (0, .ref 205), (1, .int p1), (2, .int p2), (3, .int x3), (4, .int x4), (6, .int x6)]) dX12_most_99 (by decide) rfl ?_
    refine jr_iload dX12_most_101 1 rfl ?_
    refine jr_iload dX12_most_103 6 rfl ?_
    refine jr_icmp_gt (tgt := 111) (nxt := 108) dX12_most_105 (by decide) rfl (fun hc => ?_) (fun hc => ?_)
    · replace h := drvT hc h
      refine jr_iload dX12_most_111 7 rfl ?_
      refine jr_istore_n (lv' := [(3, .int x6), (5, .int x5_6), (7, .int r_5), (0, .ref 205), (1, .int p1), (2, .int p2), (4, .int x4), (6, .int x6)]) dX12_most_113 rfl (by decide) rfl ?_
      refine jr_iload dX12_most_114 2 rfl ?_
      refine jr_istore (lv' := [(4, .int r_5), (3, .int x6), (5, .int x5_6), (7, .int r_5), (0, .ref 205), (1, .int p1), (2, .int p2), (6, .int x6)]) dX12_most_116 (by decide) rfl ?_
      refine jr_iincN (c := (1 : Int32)) (lv' := fun (x6_8 : Int32) => [(6, .int x6_8), (4, .int r_5), (3, .int x6), (5, .int x5_6), (7, .int r_5), (0, .ref 205), (1, .int p1), (2, .int p2)]) dX12_most_118 (by decide) 7 rfl (by decide) (fun _ => rfl) (fun x6_8 e_9 => ?_)
      replace h := drvL e_9 h
      refine jr_goto (tgt := 72) dX12_most_121 (by decide) ?_
      refine jr_sub [5, 6, 7, 2, 1, 3, 0] rfl ?_
      exact hrec _ _ _ _ _ h
    · replace h := drvE hc h
      refine jr_goto (tgt := 118) dX12_most_108 (by decide) ?_
      refine jr_iincN (c := (1 : Int32)) (lv' := fun (x6_10 : Int32) => [(6, .int x6_10), (5, .int x5_6), (7, .int r_5), (0, .ref 205), (1, .int p1), (2, .int p2), (3, .int x3), (4, .int x4)]) dX12_most_118 (by decide) 7 rfl (by decide) (fun _ => rfl) (fun x6_10 e_11 => ?_)
      replace h := drvL e_11 h
      refine jr_goto (tgt := 72) dX12_most_121 (by decide) ?_
      refine jr_sub [3, 4, 5, 6, 7, 1, 0] rfl ?_
      exact hrec _ _ _ _ _ h
theorem hlX12_most_72 {n : Nat} {p1 : Int32} {p2 : Int32} {k124 : Int32 → Int32 → Int32 → jWd → (Option (Int32 × jWd))} {r : Int32} {w' : jWd} (hk124 : ∀ (z3 : Int32) (z4 : Int32) (z5 : Int32) (w9 : jWd), k124 z3 z4 z5 w9 = some (r, w') → J MX12_most 5 w9 124 [(0, .ref 205), (2, .int p2), (3, .int z3), (4, .int z4), (5, .int z5)] [] (some (.int r)) w') : ∀ (c : Nat) (x3 : Int32) (x4 : Int32) (x5 : Int32) (x6 : Int32) (w : jWd) , lX12_most_72 n p1 p2 k124 c x3 x4 x5 x6 w = some (r, w') → J MX12_most 5 w 72 [(0, .ref 205), (1, .int p1), (2, .int p2), (3, .int x3), (4, .int x4), (5, .int x5), (6, .int x6)] [] (some (.int r)) w' := by
  intro c
  induction c with
  | zero => intro x3 x4 x5 x6 w h; cases h
  | succ c ih => intro x3 x4 x5 x6 w h; exact hbX12_most_72 (n := n) hk124 ih _ _ _ _ _ h
set_option maxHeartbeats 4000000 in
set_option maxRecDepth 100000 in
theorem tX12_most {n : Nat} {a0 : Int32} {a1 : Int32} {w : jWd} {r : Int32} {w' : jWd}  (h : fX12_most n a0 a1 w = some (r, w')) : JM yX12_most MX12_most 5 [.ref 205, .int a0, .int a1] w (some (.int r)) w' := by
  refine jm_of pl_X12 rfl (Nat.le_of_ble_eq_true rfl) ?_
  show J MX12_most 5 w 0 [(0, .ref 205), (1, .int a0), (2, .int a1)] [] (some (.int r)) w'
  unfold fX12_most at h
  refine jr_aload_n dX12_most_0 rfl 0 rfl ?_
  refine jr_iconst (v := (0 : Int32)) dX12_most_1 (by decide) ?_
  refine pf_X12_1 rfl (rfl : kd 205 = 11) dX12_most_2 ?_
  refine j_nmw (fun w_1 e_2 => ?_)
  replace h := drvL e_2 h
  refine jr_iload_n dX12_most_5 rfl 2 rfl ?_
  refine jr_i2l dX12_most_6 ?_
  refine jr_lconst (v := (0 : Int64)) dX12_most_7 rfl ?_
  refine jr_ldc2 (v := (2 : Int64)) wCC_X12_306 dX12_most_8 ?_
  refine j_callSv lk_X12_81 wST_X12_within (tX12_within  (a0 := ((a1).toInt64)) (a1 := (0 : Int64)) (a2 := (2 : Int64)) (w := w_1)) (by omega) rfl rfl (Nat.le_of_ble_eq_true rfl) dX12_most_11 ?_
  refine jr_if_ne (tgt := 24) (nxt := 17) dX12_most_14 (by decide) rfl (fun hc => ?_) (fun hc => ?_)
  · replace h := drvE hc h
    refine jr_iload_n dX12_most_24 rfl 1 rfl ?_
    refine jr_i2l dX12_most_25 ?_
    refine jr_lconst (v := (1 : Int64)) dX12_most_26 rfl ?_
    refine jr_ldc2 (v := (100 : Int64)) wCC_X12_105 dX12_most_27 ?_
    refine j_callSv lk_X12_81 wST_X12_within (tX12_within  (a0 := ((a0).toInt64)) (a1 := (1 : Int64)) (a2 := (100 : Int64)) (w := w_1)) (by omega) rfl rfl (Nat.le_of_ble_eq_true rfl) dX12_most_30 ?_
    refine jr_if_ne (tgt := 43) (nxt := 36) dX12_most_33 (by decide) rfl (fun hc => ?_) (fun hc => ?_)
    · replace h := drvE hc h
      refine jr_aload_n dX12_most_43 rfl 0 rfl ?_
      refine gf_X12_17 (r := 207) rfl (rfl : kd 205 = 11) rfl dX12_most_44 ?_
      refine jr_sipush (v := (223 : Int32)) dX12_most_47 (by decide) ?_
      refine jr_ialdL (k := 223) (rfl : kd 207 = 13) (vp_lit (by decide) (by decide)) (by decide) dX12_most_50 ?_
      refine jr_if_ne (tgt := 61) (nxt := 54) dX12_most_51 (by decide) rfl (fun hc => ?_) (fun hc => ?_)
      · replace h := drvE hc h
        refine jr_iconst (v := (0 : Int32)) dX12_most_61 (by decide) ?_
        refine jr_istore_n (lv' := [(3, .int (0 : Int32)), (0, .ref 205), (1, .int a0), (2, .int a1)]) dX12_most_62 rfl (by decide) rfl ?_
        refine jr_iconst (v := (0 : Int32)) dX12_most_63 (by decide) ?_
        refine jr_istore (lv' := [(4, .int (0 : Int32)), (3, .int (0 : Int32)), (0, .ref 205), (1, .int a0), (2, .int a1)]) dX12_most_64 (by decide) rfl ?_
        refine jr_iconst (v := (0 : Int32)) dX12_most_66 (by decide) ?_
        refine jr_istore (lv' := [(5, .int (0 : Int32)), (4, .int (0 : Int32)), (3, .int (0 : Int32)), (0, .ref 205), (1, .int a0), (2, .int a1)]) dX12_most_67 (by decide) rfl ?_
        refine jr_iconst (v := (0 : Int32)) dX12_most_69 (by decide) ?_
        refine jr_istore (lv' := [(6, .int (0 : Int32)), (5, .int (0 : Int32)), (4, .int (0 : Int32)), (3, .int (0 : Int32)), (0, .ref 205), (1, .int a0), (2, .int a1)]) dX12_most_70 (by decide) rfl ?_
        refine jr_sub [4, 5, 6, 3, 2, 1, 0] rfl ?_
        refine hlX12_most_72  ?_ _ _ _ _ _ _ h
        · intro z3_13 z4_14 z5_15 w_12 h
          try dsimp only at h
          refine jr_iload_n dX12_most_124 rfl 1 rfl ?_
          refine jr_iconst (v := (2 : Int32)) dX12_most_125 (by decide) ?_
          refine jr_icmp_ne (tgt := 133) (nxt := 129) dX12_most_126 (by decide) rfl (fun hc => ?_) (fun hc => ?_)
          · replace h := drvE hc h
            refine jr_iload dX12_most_133 3 rfl ?_
            refine jr_aload_n dX12_most_135 rfl 0 rfl ?_
            refine gf_X12_17 (r := 207) rfl (rfl : kd 205 = 11) rfl dX12_most_136 ?_
            refine jr_sipush (v := (223 : Int32)) dX12_most_139 (by decide) ?_
            refine jr_ialdL (k := 223) (rfl : kd 207 = 13) (vp_lit (by decide) (by decide)) (by decide) dX12_most_142 ?_
            refine jr_imul dX12_most_143 ?_
            refine jr_i2l dX12_most_144 ?_
            refine jr_iload dX12_most_145 4 rfl ?_
            refine jr_i2l dX12_most_147 ?_
            refine jr_iload_n dX12_most_148 rfl 1 rfl ?_
            obtain ⟨r_17, hq_16, h⟩ := drvB h
            refine j_callSv lk_X12_298 wST_X12_part (tX12_part  hq_16) (by omega) rfl rfl (Nat.le_of_ble_eq_true rfl) dX12_most_149 ?_
            refine jr_l2i dX12_most_152 ?_
            obtain ⟨rfl, rfl⟩ := drvS2 h
            exact jr_iret rfl dX12_most_153
          · replace h := drvT hc h
            refine jr_iload_n dX12_most_129 rfl 2 rfl ?_
            refine jr_goto (tgt := 153) dX12_most_130 (by decide) ?_
            obtain ⟨rfl, rfl⟩ := drvS2 h
            exact jr_iret rfl dX12_most_153
      · replace h := drvT hc h
        refine jr_aload_n dX12_most_54 rfl 0 rfl ?_
        refine jr_bipush (v := (-5 : Int32)) dX12_most_55 (by decide) ?_
        obtain ⟨r_20, w_19, hq_18, h⟩ := drvB2 h
        refine j_callVv lk_X12_85 wIM_X12_no wSE_X12_no (rfl : kd 205 = 11) (by decide) rfl (tX12_no  hq_18) (by omega) rfl rfl (Nat.le_of_ble_eq_true rfl) dX12_most_57 ?_
        obtain ⟨rfl, rfl⟩ := drvS2 h
        exact jr_iret rfl dX12_most_60
    · replace h := drvT hc h
      refine jr_aload_n dX12_most_36 rfl 0 rfl ?_
      refine jr_bipush (v := (-3 : Int32)) dX12_most_37 (by decide) ?_
      obtain ⟨r_23, w_22, hq_21, h⟩ := drvB2 h
      refine j_callVv lk_X12_85 wIM_X12_no wSE_X12_no (rfl : kd 205 = 11) (by decide) rfl (tX12_no  hq_21) (by omega) rfl rfl (Nat.le_of_ble_eq_true rfl) dX12_most_39 ?_
      obtain ⟨rfl, rfl⟩ := drvS2 h
      exact jr_iret rfl dX12_most_42
  · replace h := drvT hc h
    refine jr_aload_n dX12_most_17 rfl 0 rfl ?_
    refine jr_bipush (v := (-2 : Int32)) dX12_most_18 (by decide) ?_
    obtain ⟨r_26, w_25, hq_24, h⟩ := drvB2 h
    refine j_callVv lk_X12_85 wIM_X12_no wSE_X12_no (rfl : kd 205 = 11) (by decide) rfl (tX12_no  hq_24) (by omega) rfl rfl (Nat.le_of_ble_eq_true rfl) dX12_most_20 ?_
    obtain ⟨rfl, rfl⟩ := drvS2 h
    exact jr_iret rfl dX12_most_23
set_option maxHeartbeats 4000000 in
set_option maxRecDepth 100000 in
theorem hbX12_muddled_9 {n : Nat} {p1 : Int32} {k48 : Int32 → jWd → (Option (Int32 × jWd))} {r : Int32} {w' : jWd} {rec : Int32 → Int32 → jWd → Option (Int32 × jWd)} (hk48 : ∀ (z2 : Int32) (w9 : jWd), k48 z2 w9 = some (r, w') → J MX12_muddled 6 w9 48 [(1, .int p1), (2, .int z2)] [] (some (.int r)) w')
    (hrec : ∀ (x2 : Int32) (x3 : Int32) (w : jWd) , rec x2 x3 w = some (r, w') → J MX12_muddled 6 w 9 [(0, .ref 205), (1, .int p1), (2, .int x2), (3, .int x3)] [] (some (.int r)) w') : ∀ (x2 : Int32) (x3 : Int32) (w : jWd) , bX12_muddled_9 n p1 k48 rec x2 x3 w = some (r, w') → J MX12_muddled 6 w 9 [(0, .ref 205), (1, .int p1), (2, .int x2), (3, .int x3)] [] (some (.int r)) w' := by
  intro x2 x3 w h
  unfold bX12_muddled_9 at h
  refine jr_iload_n dX12_muddled_9 rfl 3 rfl ?_
  refine jr_aload_n dX12_muddled_10 rfl 0 rfl ?_
  refine gf_X12_17 (r := 207) rfl (rfl : kd 205 = 11) rfl dX12_muddled_11 ?_
  refine jr_sipush (v := (547 : Int32)) dX12_muddled_14 (by decide) ?_
  refine jr_ialdL (k := 547) (rfl : kd 207 = 13) (vp_lit (by decide) (by decide)) (by decide) dX12_muddled_17 ?_
  refine jr_icmp_ge (tgt := 48) (nxt := 21) dX12_muddled_18 (by decide) rfl (fun hc => ?_) (fun hc => ?_)
  · replace h := drvT hc h
    refine jr_sub [1, 2] rfl ?_
    exact hk48 _ _ h
  · replace h := drvE hc h
    refine jr_aload_n dX12_muddled_21 rfl 0 rfl ?_
    refine jr_iload_n dX12_muddled_22 rfl 3 rfl ?_
    obtain ⟨r_5, w_4, hq_3, h⟩ := drvB2 h
    refine j_callVv lk_X12_332 wIM_X12_isMuddled wSE_X12_isMuddled (rfl : kd 205 = 11) (by decide) rfl (tX12_isMuddled  hq_3) (by omega) rfl rfl (Nat.le_of_ble_eq_true rfl) dX12_muddled_23 ?_
    refine jr_if_ne (tgt := 32) (nxt := 29) dX12_muddled_26 (by decide) rfl (fun hc => ?_) (fun hc => ?_)
    · replace h := drvE hc h
      refine jr_iload_n dX12_muddled_32 rfl 2 rfl ?_
      refine jr_iload_n dX12_muddled_33 rfl 1 rfl ?_
      refine jr_icmp_ne (tgt := 39) (nxt := 37) dX12_muddled_34 (by decide) rfl (fun hc => ?_) (fun hc => ?_)
      · replace h := drvE hc h
        refine jr_iincN (c := (1 : Int32)) (lv' := fun (x2_6 : Int32) => [(2, .int x2_6), (0, .ref 205), (1, .int p1), (3, .int x3)]) dX12_muddled_39 (by decide) 2 rfl (by decide) (fun _ => rfl) (fun x2_6 e_7 => ?_)
        replace h := drvL e_7 h
        refine jr_iincN (c := (1 : Int32)) (lv' := fun (x3_8 : Int32) => [(3, .int x3_8), (2, .int x2_6), (0, .ref 205), (1, .int p1)]) dX12_muddled_42 (by decide) 3 rfl (by decide) (fun _ => rfl) (fun x3_8 e_9 => ?_)
        replace h := drvL e_9 h
        refine jr_goto (tgt := 9) dX12_muddled_45 (by decide) ?_
        refine jr_sub [2, 3, 1, 0] rfl ?_
        exact hrec _ _ _ h
      · replace h := drvT hc h
        refine jr_iload_n dX12_muddled_37 rfl 3 rfl ?_
        obtain ⟨rfl, rfl⟩ := drvS2 h
        exact jr_iret rfl dX12_muddled_38
    · replace h := drvT hc h
      refine jr_goto (tgt := 42) dX12_muddled_29 (by decide) ?_
      refine jr_iincN (c := (1 : Int32)) (lv' := fun (x3_10 : Int32) => [(3, .int x3_10), (0, .ref 205), (1, .int p1), (2, .int x2)]) dX12_muddled_42 (by decide) 3 rfl (by decide) (fun _ => rfl) (fun x3_10 e_11 => ?_)
      replace h := drvL e_11 h
      refine jr_goto (tgt := 9) dX12_muddled_45 (by decide) ?_
      refine jr_sub [1, 2, 3, 0] rfl ?_
      exact hrec _ _ _ h
theorem hlX12_muddled_9 {n : Nat} {p1 : Int32} {k48 : Int32 → jWd → (Option (Int32 × jWd))} {r : Int32} {w' : jWd} (hk48 : ∀ (z2 : Int32) (w9 : jWd), k48 z2 w9 = some (r, w') → J MX12_muddled 6 w9 48 [(1, .int p1), (2, .int z2)] [] (some (.int r)) w') : ∀ (c : Nat) (x2 : Int32) (x3 : Int32) (w : jWd) , lX12_muddled_9 n p1 k48 c x2 x3 w = some (r, w') → J MX12_muddled 6 w 9 [(0, .ref 205), (1, .int p1), (2, .int x2), (3, .int x3)] [] (some (.int r)) w' := by
  intro c
  induction c with
  | zero => intro x2 x3 w h; cases h
  | succ c ih => intro x2 x3 w h; exact hbX12_muddled_9 (n := n) hk48 ih _ _ _ h
set_option maxHeartbeats 4000000 in
set_option maxRecDepth 100000 in
theorem tX12_muddled {n : Nat} {a0 : Int32} {w : jWd} {r : Int32} {w' : jWd}  (h : fX12_muddled n a0 w = some (r, w')) : JM yX12_muddled MX12_muddled 6 [.ref 205, .int a0] w (some (.int r)) w' := by
  refine jm_of pl_X12 rfl (Nat.le_of_ble_eq_true rfl) ?_
  show J MX12_muddled 6 w 0 [(0, .ref 205), (1, .int a0)] [] (some (.int r)) w'
  unfold fX12_muddled at h
  refine jr_aload_n dX12_muddled_0 rfl 0 rfl ?_
  refine jr_iconst (v := (0 : Int32)) dX12_muddled_1 (by decide) ?_
  refine pf_X12_1 rfl (rfl : kd 205 = 11) dX12_muddled_2 ?_
  refine j_nmw (fun w_1 e_2 => ?_)
  replace h := drvL e_2 h
  refine jr_iconst (v := (0 : Int32)) dX12_muddled_5 (by decide) ?_
  refine jr_istore_n (lv' := [(2, .int (0 : Int32)), (0, .ref 205), (1, .int a0)]) dX12_muddled_6 rfl (by decide) rfl ?_
  refine jr_iconst (v := (0 : Int32)) dX12_muddled_7 (by decide) ?_
  refine jr_istore_n (lv' := [(3, .int (0 : Int32)), (2, .int (0 : Int32)), (0, .ref 205), (1, .int a0)]) dX12_muddled_8 rfl (by decide) rfl ?_
  refine jr_sub [2, 3, 1, 0] rfl ?_
  refine hlX12_muddled_9  ?_ _ _ _ _ h
  · intro z2_13 w_12 h
    try dsimp only at h
    refine jr_iload_n dX12_muddled_48 rfl 0 rfl ?_
    refine jr_iconst (v := (-1 : Int32)) dX12_muddled_49 (by decide) ?_
    refine jr_icmp_ne (tgt := 57) (nxt := 53) dX12_muddled_50 (by decide) rfl (fun hc => ?_) (fun hc => ?_)
    · replace h := drvE hc h
      refine jr_iconst (v := (-1 : Int32)) dX12_muddled_57 (by decide) ?_
      obtain ⟨rfl, rfl⟩ := drvS2 h
      exact jr_iret rfl dX12_muddled_58
    · replace h := drvT hc h
      refine jr_iload_n dX12_muddled_53 rfl 1 rfl ?_
      refine jr_goto (tgt := 58) dX12_muddled_54 (by decide) ?_
      obtain ⟨rfl, rfl⟩ := drvS2 h
      exact jr_iret rfl dX12_muddled_58
set_option maxHeartbeats 4000000 in
set_option maxRecDepth 100000 in
theorem tX12_odds {n : Nat} {a0 : Int32} {a1 : Int32} {w : jWd} {r : Int64} {w' : jWd}  (h : fX12_odds n a0 a1 w = some (r, w')) : JM yX12_odds MX12_odds 5 [.ref 205, .int a0, .int a1] w (some (.long r)) w' := by
  refine jm_of pl_X12 rfl (Nat.le_of_ble_eq_true rfl) ?_
  show J MX12_odds 5 w 0 [(0, .ref 205), (1, .int a0), (2, .int a1)] [] (some (.long r)) w'
  unfold fX12_odds at h
  refine jr_aload_n dX12_odds_0 rfl 0 rfl ?_
  refine jr_iconst (v := (0 : Int32)) dX12_odds_1 (by decide) ?_
  refine pf_X12_1 rfl (rfl : kd 205 = 11) dX12_odds_2 ?_
  refine j_nmw (fun w_1 e_2 => ?_)
  replace h := drvL e_2 h
  refine jr_iload_n dX12_odds_5 rfl 2 rfl ?_
  refine jr_i2l dX12_odds_6 ?_
  refine jr_lconst (v := (0 : Int64)) dX12_odds_7 rfl ?_
  refine jr_lconst (v := (1 : Int64)) dX12_odds_8 rfl ?_
  refine j_callSv lk_X12_81 wST_X12_within (tX12_within  (a0 := ((a1).toInt64)) (a1 := (0 : Int64)) (a2 := (1 : Int64)) (w := w_1)) (by omega) rfl rfl (Nat.le_of_ble_eq_true rfl) dX12_odds_9 ?_
  refine jr_if_ne (tgt := 23) (nxt := 15) dX12_odds_12 (by decide) rfl (fun hc => ?_) (fun hc => ?_)
  · replace h := drvE hc h
    refine jr_iload_n dX12_odds_23 rfl 1 rfl ?_
    refine jr_i2l dX12_odds_24 ?_
    refine jr_lconst (v := (1 : Int64)) dX12_odds_25 rfl ?_
    refine jr_ldc2 (v := (100 : Int64)) wCC_X12_105 dX12_odds_26 ?_
    refine j_callSv lk_X12_81 wST_X12_within (tX12_within  (a0 := ((a0).toInt64)) (a1 := (1 : Int64)) (a2 := (100 : Int64)) (w := w_1)) (by omega) rfl rfl (Nat.le_of_ble_eq_true rfl) dX12_odds_29 ?_
    refine jr_if_ne (tgt := 43) (nxt := 35) dX12_odds_32 (by decide) rfl (fun hc => ?_) (fun hc => ?_)
    · replace h := drvE hc h
      refine jr_aload_n dX12_odds_43 rfl 0 rfl ?_
      refine jr_iload_n dX12_odds_44 rfl 1 rfl ?_
      refine jr_iconst (v := (1 : Int32)) dX12_odds_45 (by decide) ?_
      obtain ⟨w_4, hq_3, h⟩ := drvB h
      refine j_callVn lk_X12_294 wIM_X12_meets wSE_X12_meets (rfl : kd 205 = 11) (by decide) rfl (tX12_meets  hq_3) (by omega) rfl rfl (Nat.le_of_ble_eq_true rfl) dX12_odds_46 ?_
      refine jr_aload_n dX12_odds_49 rfl 0 rfl ?_
      refine gf_X12_291 rfl (rfl : kd 205 = 11) dX12_odds_50 ?_
      refine jr_i2l dX12_odds_53 ?_
      refine j_nml (fun x3_5 e_6 => ?_)
      replace h := drvL e_6 h
      refine jr_lstore_n (lv' := [(3, .long x3_5), (0, .ref 205), (1, .int a0), (2, .int a1)]) dX12_odds_54 rfl (by decide) rfl ?_
      refine jr_aload_n dX12_odds_55 rfl 1 rfl ?_
      refine gf_X12_288 rfl (rfl : kd 205 = 11) dX12_odds_56 ?_
      refine jr_i2l dX12_odds_59 ?_
      refine j_nml (fun x5_7 e_8 => ?_)
      replace h := drvL e_8 h
      refine jr_lstore (lv' := [(5, .long x5_7), (3, .long x3_5), (0, .ref 205), (1, .int a0), (2, .int a1)]) dX12_odds_60 (by decide) rfl ?_
      refine jr_aload_n dX12_odds_62 rfl 2 rfl ?_
      refine jr_iload_n dX12_odds_63 rfl 3 rfl ?_
      refine jr_iconst (v := (0 : Int32)) dX12_odds_64 (by decide) ?_
      obtain ⟨w_10, hq_9, h⟩ := drvB h
      refine j_callVn lk_X12_294 wIM_X12_meets wSE_X12_meets (rfl : kd 205 = 11) (by decide) rfl (tX12_meets  hq_9) (by omega) rfl rfl (Nat.le_of_ble_eq_true rfl) dX12_odds_65 ?_
      refine jr_aload_n dX12_odds_68 rfl 2 rfl ?_
      refine gf_X12_291 rfl (rfl : kd 205 = 11) dX12_odds_69 ?_
      refine jr_i2l dX12_odds_72 ?_
      refine jr_lload dX12_odds_73 0 rfl ?_
      refine jr_lmul dX12_odds_75 ?_
      refine jr_aload_n dX12_odds_76 rfl 2 rfl ?_
      refine gf_X12_288 rfl (rfl : kd 205 = 11) dX12_odds_77 ?_
      refine jr_i2l dX12_odds_80 ?_
      refine jr_lload_n dX12_odds_81 rfl 1 rfl ?_
      refine jr_lmul dX12_odds_82 ?_
      refine jr_iload_n dX12_odds_83 rfl 4 rfl ?_
      obtain ⟨r_12, hq_11, h⟩ := drvB h
      refine j_callSv lk_X12_298 wST_X12_part (tX12_part  hq_11) (by omega) rfl rfl (Nat.le_of_ble_eq_true rfl) dX12_odds_84 ?_
      obtain ⟨rfl, rfl⟩ := drvS2 h
      exact jr_lret rfl dX12_odds_87
    · replace h := drvT hc h
      refine jr_aload_n dX12_odds_35 rfl 0 rfl ?_
      refine jr_bipush (v := (-3 : Int32)) dX12_odds_36 (by decide) ?_
      obtain ⟨r_15, w_14, hq_13, h⟩ := drvB2 h
      refine j_callVv lk_X12_85 wIM_X12_no wSE_X12_no (rfl : kd 205 = 11) (by decide) rfl (tX12_no  hq_13) (by omega) rfl rfl (Nat.le_of_ble_eq_true rfl) dX12_odds_38 ?_
      refine jr_i2l dX12_odds_41 ?_
      obtain ⟨rfl, rfl⟩ := drvS2 h
      exact jr_lret rfl dX12_odds_42
  · replace h := drvT hc h
    refine jr_aload_n dX12_odds_15 rfl 0 rfl ?_
    refine jr_bipush (v := (-2 : Int32)) dX12_odds_16 (by decide) ?_
    obtain ⟨r_18, w_17, hq_16, h⟩ := drvB2 h
    refine j_callVv lk_X12_85 wIM_X12_no wSE_X12_no (rfl : kd 205 = 11) (by decide) rfl (tX12_no  hq_16) (by omega) rfl rfl (Nat.le_of_ble_eq_true rfl) dX12_odds_18 ?_
    refine jr_i2l dX12_odds_21 ?_
    obtain ⟨rfl, rfl⟩ := drvS2 h
    exact jr_lret rfl dX12_odds_22
set_option maxHeartbeats 4000000 in
set_option maxRecDepth 100000 in
theorem tX12_opens {a0 : Int32} {a1 : Int32} {a2 : Int32} {w : jWd} {r : Int32} {w' : jWd}  (h : fX12_opens a0 a1 a2 w = some (r, w')) : JM yX12_opens MX12_opens 1 [.ref 205, .int a0, .int a1, .int a2] w (some (.int r)) w' := by
  refine jm_of pl_X12 rfl (Nat.le_of_ble_eq_true rfl) ?_
  show J MX12_opens 1 w 0 [(0, .ref 205), (1, .int a0), (2, .int a1), (3, .int a2)] [] (some (.int r)) w'
  unfold fX12_opens at h
  refine jr_aload_n dX12_opens_0 rfl 0 rfl ?_
  refine gf_X12_17 (r := 207) rfl (rfl : kd 205 = 11) rfl dX12_opens_1 ?_
  refine jr_iconst (v := (0 : Int32)) dX12_opens_4 (by decide) ?_
  refine jr_ialdL (k := 0) (rfl : kd 207 = 13) (vp_lit (by decide) (by decide)) (by decide) dX12_opens_5 ?_
  refine j_nmi (fun x4_1 e_2 => ?_)
  replace h := drvL e_2 h
  refine jr_istore (lv' := [(4, .int x4_1), (0, .ref 205), (1, .int a0), (2, .int a1), (3, .int a2)]) dX12_opens_6 (by decide) rfl ?_
  refine jr_aload_n dX12_opens_8 rfl 1 rfl ?_
  refine gf_X12_17 (r := 207) rfl (rfl : kd 205 = 11) rfl dX12_opens_9 ?_
  refine jr_iconst (v := (1 : Int32)) dX12_opens_12 (by decide) ?_
  refine jr_iload dX12_opens_13 0 rfl ?_
  refine jr_iadd dX12_opens_15 ?_
  refine jr_iload_n dX12_opens_16 rfl 2 rfl ?_
  obtain ⟨hg_5, h⟩ := drvG h
  refine jr_iast (rfl : kd 207 = 13) hg_5 dX12_opens_17 ?_
  refine j_nmw (fun w_3 e_4 => ?_)
  replace h := drvL e_4 h
  refine jr_aload_n dX12_opens_18 rfl 1 rfl ?_
  refine gf_X12_17 (r := 207) rfl (rfl : kd 205 = 11) rfl dX12_opens_19 ?_
  refine jr_bipush (v := (41 : Int32)) dX12_opens_22 (by decide) ?_
  refine jr_iload dX12_opens_24 0 rfl ?_
  refine jr_iadd dX12_opens_26 ?_
  refine jr_iload_n dX12_opens_27 rfl 3 rfl ?_
  obtain ⟨hg_8, h⟩ := drvG h
  refine jr_iast (rfl : kd 207 = 13) hg_8 dX12_opens_28 ?_
  refine j_nmw (fun w_6 e_7 => ?_)
  replace h := drvL e_7 h
  refine jr_aload_n dX12_opens_29 rfl 1 rfl ?_
  refine gf_X12_17 (r := 207) rfl (rfl : kd 205 = 11) rfl dX12_opens_30 ?_
  refine jr_bipush (v := (81 : Int32)) dX12_opens_33 (by decide) ?_
  refine jr_iload dX12_opens_35 0 rfl ?_
  refine jr_iadd dX12_opens_37 ?_
  refine jr_iload_n dX12_opens_38 rfl 4 rfl ?_
  obtain ⟨hg_11, h⟩ := drvG h
  refine jr_iast (rfl : kd 207 = 13) hg_11 dX12_opens_39 ?_
  refine j_nmw (fun w_9 e_10 => ?_)
  replace h := drvL e_10 h
  refine jr_aload_n dX12_opens_40 rfl 1 rfl ?_
  refine gf_X12_17 (r := 207) rfl (rfl : kd 205 = 11) rfl dX12_opens_41 ?_
  refine jr_bipush (v := (121 : Int32)) dX12_opens_44 (by decide) ?_
  refine jr_iload dX12_opens_46 0 rfl ?_
  refine jr_iadd dX12_opens_48 ?_
  refine jr_iconst (v := (0 : Int32)) dX12_opens_49 (by decide) ?_
  obtain ⟨hg_14, h⟩ := drvG h
  refine jr_iast (rfl : kd 207 = 13) hg_14 dX12_opens_50 ?_
  refine j_nmw (fun w_12 e_13 => ?_)
  replace h := drvL e_13 h
  refine jr_aload_n dX12_opens_51 rfl 1 rfl ?_
  refine gf_X12_17 (r := 207) rfl (rfl : kd 205 = 11) rfl dX12_opens_52 ?_
  refine jr_iconst (v := (0 : Int32)) dX12_opens_55 (by decide) ?_
  refine jr_dup2_11 dX12_opens_56 rfl rfl ?_
  refine jr_ialdL (k := 0) (rfl : kd 207 = 13) (vp_lit (by decide) (by decide)) (by decide) dX12_opens_57 ?_
  refine jr_iconst (v := (1 : Int32)) dX12_opens_58 (by decide) ?_
  refine jr_iadd dX12_opens_59 ?_
  refine jr_iastL (k := 0) (rfl : kd 207 = 13) (vp_lit (by decide) (by decide)) (by decide) dX12_opens_60 ?_
  refine j_nmw (fun w_15 e_16 => ?_)
  replace h := drvL e_16 h
  refine jr_iload dX12_opens_61 0 rfl ?_
  obtain ⟨rfl, rfl⟩ := drvS2 h
  exact jr_iret rfl dX12_opens_63
