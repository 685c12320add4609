/-! each function is what its method does (by program) -/
set_option maxHeartbeats 4000000 in
set_option maxRecDepth 100000 in
theorem tX11_refuse {a0 : Int32} {w : jWd} {r : Int32} {w' : jWd}  (h : fX11_refuse a0 w = some (r, w')) : JM yX11_refuse MX11_refuse 1 [.ref 0, .int a0] w (some (.int r)) w' := by
  refine jm_of pl_X11 rfl (Nat.le_of_ble_eq_true rfl) ?_
  show J MX11_refuse 1 w 0 [(0, .ref 0), (1, .int a0)] [] (some (.int r)) w'
  unfold fX11_refuse at h
  refine jr_iload_n dX11_refuse_0 rfl 1 rfl ?_
  refine jr_bipush (v := (-10 : Int32)) dX11_refuse_1 (by decide) ?_
  obtain ⟨j12_2, ej12_2, h⟩ := drvF h
  have hj12_2 : ∀ (s_1 : Int32), j12_2 s_1 = some (r, w') → J MX11_refuse 1 w 12 [(0, .ref 0), (1, .int a0)] [.int s_1] (some (.int r)) w' := by
    intro s_1 h
    rw [ej12_2] at h
    try dsimp only at h
    refine jr_istore_n (lv' := [(2, .int s_1), (0, .ref 0), (1, .int a0)]) dX11_refuse_12 rfl (by decide) rfl ?_
    refine jr_iload_n dX11_refuse_13 rfl 0 rfl ?_
    refine jr_if_lt (tgt := 36) (nxt := 17) dX11_refuse_14 (by decide) rfl (fun hc => ?_) (fun hc => ?_)
    · replace h := drvT hc h
      refine jr_iload_n dX11_refuse_36 rfl 2 rfl ?_
      obtain ⟨rfl, rfl⟩ := drvS2 h
      exact jr_iret rfl dX11_refuse_37
    · replace h := drvE hc h
      refine jr_iload_n dX11_refuse_17 rfl 0 rfl ?_
      refine jr_aload_n dX11_refuse_18 rfl 1 rfl ?_
      refine gf_X11_57 (r := 204) rfl (rfl : kd 0 = 10) rfl dX11_refuse_19 ?_
      refine jr_alenL (v := (8 : Int32)) (rfl : kd 204 = 13) (by decide) (by decide) (by decide) dX11_refuse_22 ?_
      refine jr_icmp_ge (tgt := 36) (nxt := 26) dX11_refuse_23 (by decide) rfl (fun hc => ?_) (fun hc => ?_)
      · replace h := drvT hc h
        refine jr_iload_n dX11_refuse_36 rfl 2 rfl ?_
        obtain ⟨rfl, rfl⟩ := drvS2 h
        exact jr_iret rfl dX11_refuse_37
      · replace h := drvE hc h
        refine jr_aload_n dX11_refuse_26 rfl 1 rfl ?_
        refine gf_X11_57 (r := 204) rfl (rfl : kd 0 = 10) rfl dX11_refuse_27 ?_
        refine jr_iload_n dX11_refuse_30 rfl 0 rfl ?_
        refine jr_dup2_11 dX11_refuse_31 rfl rfl ?_
        obtain ⟨hg_3, h⟩ := drvG h
        refine jr_iald (rfl : kd 204 = 13) hg_3 dX11_refuse_32 ?_
        refine jr_iconst (v := (1 : Int32)) dX11_refuse_33 (by decide) ?_
        refine jr_iadd dX11_refuse_34 ?_
        obtain ⟨hg_6, h⟩ := drvG h
        refine jr_iast (rfl : kd 204 = 13) hg_6 dX11_refuse_35 ?_
        refine j_nmw (fun w_4 e_5 => ?_)
        replace h := drvL e_5 h
        refine jr_iload_n dX11_refuse_36 rfl 2 rfl ?_
        obtain ⟨rfl, rfl⟩ := drvS2 h
        exact jr_iret rfl dX11_refuse_37
  refine jr_icmp_ge (tgt := 10) (nxt := 6) dX11_refuse_3 (by decide) rfl (fun hc => ?_) (fun hc => ?_)
  · replace h := drvT hc h
    refine jr_iload_n dX11_refuse_10 rfl 1 rfl ?_
    refine jr_ineg dX11_refuse_11 ?_
    refine jr_sub [0, 1] rfl ?_
    exact hj12_2 _ h
  · replace h := drvE hc h
    refine jr_iconst (v := (1 : Int32)) dX11_refuse_6 (by decide) ?_
    refine jr_goto (tgt := 12) dX11_refuse_7 (by decide) ?_
    refine jr_sub [0, 1] rfl ?_
    exact hj12_2 _ h
set_option maxHeartbeats 4000000 in
set_option maxRecDepth 100000 in
theorem tX11_within {a0 : Int64} {a1 : Int64} {a2 : Int64} {w : jWd}  : JM yX11_within MX11_within 1 [.long a0, .long a1, .long a2] w (some (.int (fX11_within a0 a1 a2))) w := by
  refine jm_of pl_X11 rfl (Nat.le_of_ble_eq_true rfl) ?_
  show J MX11_within 1 w 0 [(0, .long a0), (2, .long a1), (4, .long a2)] [] (some (.int (fX11_within a0 a1 a2))) w
  generalize h : (fX11_within a0 a1 a2) = r
  unfold fX11_within at h
  refine jr_lload_n dX11_within_0 rfl 0 rfl ?_
  refine jr_lload_n dX11_within_1 rfl 1 rfl ?_
  refine jr_lcmp dX11_within_2 ?_
  refine jr_if_lt (tgt := 17) (nxt := 6) dX11_within_3 (by decide) rfl (fun hc => ?_) (fun hc => ?_)
  · replace h := drvT hc h
    refine jr_iconst (v := (0 : Int32)) dX11_within_17 (by decide) ?_
    subst h
    exact jr_zret (ty := .boolean) rfl rfl dX11_within_18
  · replace h := drvE hc h
    refine jr_lload_n dX11_within_6 rfl 0 rfl ?_
    refine jr_lload dX11_within_7 2 rfl ?_
    refine jr_lcmp dX11_within_9 ?_
    refine jr_if_gt (tgt := 17) (nxt := 13) dX11_within_10 (by decide) rfl (fun hc => ?_) (fun hc => ?_)
    · replace h := drvT hc h
      refine jr_iconst (v := (0 : Int32)) dX11_within_17 (by decide) ?_
      subst h
      exact jr_zret (ty := .boolean) rfl rfl dX11_within_18
    · replace h := drvE hc h
      refine jr_iconst (v := (1 : Int32)) dX11_within_13 (by decide) ?_
      refine jr_goto (tgt := 18) dX11_within_14 (by decide) ?_
      subst h
      exact jr_zret (ty := .boolean) rfl rfl dX11_within_18
set_option maxHeartbeats 4000000 in
set_option maxRecDepth 100000 in
theorem tX11_added {n : Nat} {a0 : Int32} {a1 : Int32} {a2 : Int32} {w : jWd} {r : Int32} {w' : jWd}  (h : fX11_added n a0 a1 a2 w = some (r, w')) : JM yX11_added MX11_added 8 [.ref 0, .int a0, .int a1, .int a2] w (some (.int r)) w' := by
  refine jm_of pl_X11 rfl (Nat.le_of_ble_eq_true rfl) ?_
  show J MX11_added 8 w 0 [(0, .ref 0), (1, .int a0), (2, .int a1), (3, .int a2)] [] (some (.int r)) w'
  unfold fX11_added at h
  refine jr_aload_n dX11_added_0 rfl 0 rfl ?_
  refine gf_X11_10 (r := 1) rfl (rfl : kd 0 = 10) rfl dX11_added_1 ?_
  refine gf_X11_250 (r := 9) rfl (rfl : kd 1 = 7) rfl dX11_added_4 ?_
  refine jr_iload_n dX11_added_7 rfl 1 rfl ?_
  refine j_callVv lk_X11_93 wIM_X5_has wSE_X5_has (rfl : kd 9 = 4) (by decide) rfl (tX5_has (rfl : kd 9 = 4) (a0 := a0) (t := 9) (w := w)) (by omega) rfl rfl (Nat.le_of_ble_eq_true rfl) dX11_added_8 ?_
  refine jr_if_ne (tgt := 21) (nxt := 14) dX11_added_11 (by decide) rfl (fun hc => ?_) (fun hc => ?_)
  · replace h := drvE hc h
    refine jr_iload_n dX11_added_21 rfl 2 rfl ?_
    refine jr_i2l dX11_added_22 ?_
    refine jr_lconst (v := (0 : Int64)) dX11_added_23 rfl ?_
    refine jr_ldc2 (v := (9 : Int64)) wCC_X11_65 dX11_added_24 ?_
    refine j_callSv lk_X11_69 wST_X11_within (tX11_within  (a0 := ((a1).toInt64)) (a1 := (0 : Int64)) (a2 := (9 : Int64)) (w := w)) (by omega) rfl rfl (Nat.le_of_ble_eq_true rfl) dX11_added_27 ?_
    refine jr_if_ne (tgt := 40) (nxt := 33) dX11_added_30 (by decide) rfl (fun hc => ?_) (fun hc => ?_)
    · replace h := drvE hc h
      refine jr_iload_n dX11_added_40 rfl 3 rfl ?_
      refine jr_if_ge (tgt := 48) (nxt := 44) dX11_added_41 (by decide) rfl (fun hc => ?_) (fun hc => ?_)
      · replace h := drvT hc h
        refine jr_aload_n dX11_added_48 rfl 0 rfl ?_
        refine gf_X11_31 (r := 182) rfl (rfl : kd 0 = 10) rfl dX11_added_49 ?_
        refine jr_iload_n dX11_added_52 rfl 1 rfl ?_
        refine jr_iload_n dX11_added_53 rfl 2 rfl ?_
        refine jr_iload_n dX11_added_54 rfl 3 rfl ?_
        obtain ⟨r_3, w_2, hq_1, h⟩ := drvB2 h
        refine j_callVv lk_X11_259 wIM_X2_addsOf wSE_X2_addsOf (rfl : kd 182 = 2) (by decide) rfl (tX2_addsOf  hq_1) (by omega) rfl rfl (Nat.le_of_ble_eq_true rfl) dX11_added_55 ?_
        obtain ⟨rfl, rfl⟩ := drvS2 h
        exact jr_iret rfl dX11_added_58
      · replace h := drvE hc h
        refine jr_iconst (v := (-1 : Int32)) dX11_added_44 (by decide) ?_
        refine jr_goto (tgt := 58) dX11_added_45 (by decide) ?_
        obtain ⟨rfl, rfl⟩ := drvS2 h
        exact jr_iret rfl dX11_added_58
    · replace h := drvT hc h
      refine jr_aload_n dX11_added_33 rfl 0 rfl ?_
      refine jr_bipush (v := (-3 : Int32)) dX11_added_34 (by decide) ?_
      obtain ⟨r_6, w_5, hq_4, h⟩ := drvB2 h
      refine j_callVv lk_X11_61 wIM_X11_refuse wSE_X11_refuse (rfl : kd 0 = 10) (by decide) rfl (tX11_refuse  hq_4) (by omega) rfl rfl (Nat.le_of_ble_eq_true rfl) dX11_added_36 ?_
      obtain ⟨rfl, rfl⟩ := drvS2 h
      exact jr_iret rfl dX11_added_39
  · replace h := drvT hc h
    refine jr_aload_n dX11_added_14 rfl 0 rfl ?_
    refine jr_bipush (v := (-2 : Int32)) dX11_added_15 (by decide) ?_
    obtain ⟨r_9, w_8, hq_7, h⟩ := drvB2 h
    refine j_callVv lk_X11_61 wIM_X11_refuse wSE_X11_refuse (rfl : kd 0 = 10) (by decide) rfl (tX11_refuse  hq_7) (by omega) rfl rfl (Nat.le_of_ble_eq_true rfl) dX11_added_17 ?_
    obtain ⟨rfl, rfl⟩ := drvS2 h
    exact jr_iret rfl dX11_added_20
set_option maxHeartbeats 4000000 in
set_option maxRecDepth 100000 in
theorem tX11_adds {n : Nat} {a0 : Int32} {a1 : Int32} {w : jWd} {r : Int32} {w' : jWd}  (h : fX11_adds n a0 a1 w = some (r, w')) : JM yX11_adds MX11_adds 8 [.ref 0, .int a0, .int a1] w (some (.int r)) w' := by
  refine jm_of pl_X11 rfl (Nat.le_of_ble_eq_true rfl) ?_
  show J MX11_adds 8 w 0 [(0, .ref 0), (1, .int a0), (2, .int a1)] [] (some (.int r)) w'
  unfold fX11_adds at h
  refine jr_aload_n dX11_adds_0 rfl 0 rfl ?_
  refine gf_X11_10 (r := 1) rfl (rfl : kd 0 = 10) rfl dX11_adds_1 ?_
  refine gf_X11_250 (r := 9) rfl (rfl : kd 1 = 7) rfl dX11_adds_4 ?_
  refine jr_iload_n dX11_adds_7 rfl 1 rfl ?_
  refine j_callVv lk_X11_93 wIM_X5_has wSE_X5_has (rfl : kd 9 = 4) (by decide) rfl (tX5_has (rfl : kd 9 = 4) (a0 := a0) (t := 9) (w := w)) (by omega) rfl rfl (Nat.le_of_ble_eq_true rfl) dX11_adds_8 ?_
  refine jr_if_ne (tgt := 21) (nxt := 14) dX11_adds_11 (by decide) rfl (fun hc => ?_) (fun hc => ?_)
  · replace h := drvE hc h
    refine jr_iload_n dX11_adds_21 rfl 2 rfl ?_
    refine jr_i2l dX11_adds_22 ?_
    refine jr_lconst (v := (0 : Int64)) dX11_adds_23 rfl ?_
    refine jr_ldc2 (v := (9 : Int64)) wCC_X11_65 dX11_adds_24 ?_
    refine j_callSv lk_X11_69 wST_X11_within (tX11_within  (a0 := ((a1).toInt64)) (a1 := (0 : Int64)) (a2 := (9 : Int64)) (w := w)) (by omega) rfl rfl (Nat.le_of_ble_eq_true rfl) dX11_adds_27 ?_
    refine jr_if_ne (tgt := 40) (nxt := 33) dX11_adds_30 (by decide) rfl (fun hc => ?_) (fun hc => ?_)
    · replace h := drvE hc h
      refine jr_aload_n dX11_adds_40 rfl 0 rfl ?_
      refine gf_X11_31 (r := 182) rfl (rfl : kd 0 = 10) rfl dX11_adds_41 ?_
      refine jr_iload_n dX11_adds_44 rfl 1 rfl ?_
      refine jr_iload_n dX11_adds_45 rfl 2 rfl ?_
      refine jr_iconst (v := (-1 : Int32)) dX11_adds_46 (by decide) ?_
      obtain ⟨r_3, w_2, hq_1, h⟩ := drvB2 h
      refine j_callVv lk_X11_259 wIM_X2_addsOf wSE_X2_addsOf (rfl : kd 182 = 2) (by decide) rfl (tX2_addsOf  hq_1) (by omega) rfl rfl (Nat.le_of_ble_eq_true rfl) dX11_adds_47 ?_
      obtain ⟨rfl, rfl⟩ := drvS2 h
      exact jr_iret rfl dX11_adds_50
    · replace h := drvT hc h
      refine jr_aload_n dX11_adds_33 rfl 0 rfl ?_
      refine jr_bipush (v := (-3 : Int32)) dX11_adds_34 (by decide) ?_
      obtain ⟨r_6, w_5, hq_4, h⟩ := drvB2 h
      refine j_callVv lk_X11_61 wIM_X11_refuse wSE_X11_refuse (rfl : kd 0 = 10) (by decide) rfl (tX11_refuse  hq_4) (by omega) rfl rfl (Nat.le_of_ble_eq_true rfl) dX11_adds_36 ?_
      obtain ⟨rfl, rfl⟩ := drvS2 h
      exact jr_iret rfl dX11_adds_39
  · replace h := drvT hc h
    refine jr_aload_n dX11_adds_14 rfl 0 rfl ?_
    refine jr_bipush (v := (-2 : Int32)) dX11_adds_15 (by decide) ?_
    obtain ⟨r_9, w_8, hq_7, h⟩ := drvB2 h
    refine j_callVv lk_X11_61 wIM_X11_refuse wSE_X11_refuse (rfl : kd 0 = 10) (by decide) rfl (tX11_refuse  hq_7) (by omega) rfl rfl (Nat.le_of_ble_eq_true rfl) dX11_adds_17 ?_
    obtain ⟨rfl, rfl⟩ := drvS2 h
    exact jr_iret rfl dX11_adds_20
set_option maxHeartbeats 4000000 in
set_option maxRecDepth 100000 in
theorem tX11_isGlenAndDay {a0 : Int32} {a1 : Int32} {w : jWd}  : JM yX11_isGlenAndDay MX11_isGlenAndDay 2 [.int a0, .int a1] w (some (.int (fX11_isGlenAndDay a0 a1))) w := by
  refine jm_of pl_X11 rfl (Nat.le_of_ble_eq_true rfl) ?_
  show J MX11_isGlenAndDay 2 w 0 [(0, .int a0), (1, .int a1)] [] (some (.int (fX11_isGlenAndDay a0 a1))) w
  generalize h : (fX11_isGlenAndDay a0 a1) = r
  unfold fX11_isGlenAndDay at h
  refine jr_iload_n dX11_isGlenAndDay_0 rfl 0 rfl ?_
  refine jr_i2l dX11_isGlenAndDay_1 ?_
  refine jr_lconst (v := (0 : Int64)) dX11_isGlenAndDay_2 rfl ?_
  refine jr_ldc2 (v := (15 : Int64)) wCC_X11_306 dX11_isGlenAndDay_3 ?_
  refine j_callSv lk_X11_69 wST_X11_within (tX11_within  (a0 := ((a0).toInt64)) (a1 := (0 : Int64)) (a2 := (15 : Int64)) (w := w)) (by omega) rfl rfl (Nat.le_of_ble_eq_true rfl) dX11_isGlenAndDay_6 ?_
  refine jr_if_eq (tgt := 28) (nxt := 12) dX11_isGlenAndDay_9 (by decide) rfl (fun hc => ?_) (fun hc => ?_)
  · replace h := drvT hc h
    refine jr_iconst (v := (0 : Int32)) dX11_isGlenAndDay_28 (by decide) ?_
    subst h
    exact jr_zret (ty := .boolean) rfl rfl dX11_isGlenAndDay_29
  · replace h := drvE hc h
    refine jr_iload_n dX11_isGlenAndDay_12 rfl 1 rfl ?_
    refine jr_i2l dX11_isGlenAndDay_13 ?_
    refine jr_lconst (v := (0 : Int64)) dX11_isGlenAndDay_14 rfl ?_
    refine jr_ldc2 (v := (9999 : Int64)) wCC_X11_113 dX11_isGlenAndDay_15 ?_
    refine j_callSv lk_X11_69 wST_X11_within (tX11_within  (a0 := ((a1).toInt64)) (a1 := (0 : Int64)) (a2 := (9999 : Int64)) (w := w)) (by omega) rfl rfl (Nat.le_of_ble_eq_true rfl) dX11_isGlenAndDay_18 ?_
    refine jr_if_eq (tgt := 28) (nxt := 24) dX11_isGlenAndDay_21 (by decide) rfl (fun hc => ?_) (fun hc => ?_)
    · replace h := drvT hc h
      refine jr_iconst (v := (0 : Int32)) dX11_isGlenAndDay_28 (by decide) ?_
      subst h
      exact jr_zret (ty := .boolean) rfl rfl dX11_isGlenAndDay_29
    · replace h := drvE hc h
      refine jr_iconst (v := (1 : Int32)) dX11_isGlenAndDay_24 (by decide) ?_
      refine jr_goto (tgt := 29) dX11_isGlenAndDay_25 (by decide) ?_
      subst h
      exact jr_zret (ty := .boolean) rfl rfl dX11_isGlenAndDay_29
set_option maxHeartbeats 4000000 in
set_option maxRecDepth 100000 in
theorem tX11_answer {n : Nat} {a0 : Int32} {a1 : Int32} {a2 : Int32} {a3 : Int32} {a4 : Int32} {a5 : Int64} {w : jWd} {r : Int32} {w' : jWd}  (h : fX11_answer n a0 a1 a2 a3 a4 a5 w = some (r, w')) : JM yX11_answer MX11_answer 4 [.ref 0, .int a0, .int a1, .int a2, .int a3, .int a4, .long a5] w (some (.int r)) w' := by
  refine jm_of pl_X11 rfl (Nat.le_of_ble_eq_true rfl) ?_
  show J MX11_answer 4 w 0 [(0, .ref 0), (1, .int a0), (2, .int a1), (3, .int a2), (4, .int a3), (5, .int a4), (6, .long a5)] [] (some (.int r)) w'
  unfold fX11_answer at h
  refine jr_iload_n dX11_answer_0 rfl 1 rfl ?_
  refine jr_iload_n dX11_answer_1 rfl 2 rfl ?_
  refine j_callSv lk_X11_73 wST_X11_isGlenAndDay (tX11_isGlenAndDay  (a0 := a0) (a1 := a1) (w := w)) (by omega) rfl rfl (Nat.le_of_ble_eq_true rfl) dX11_answer_2 ?_
  obtain ⟨j20_1, ej20_1, h⟩ := drvF h
  have hj20_1 : ∀ (_ : Unit), j20_1 = some (r, w') → J MX11_answer 4 w 20 [(0, .ref 0)] [] (some (.int r)) w' := by
    intro _ h
    rw [ej20_1] at h
    try dsimp only at h
    refine jr_aload_n dX11_answer_20 rfl 0 rfl ?_
    refine jr_bipush (v := (-3 : Int32)) dX11_answer_21 (by decide) ?_
    obtain ⟨r_4, w_3, hq_2, h⟩ := drvB2 h
    refine j_callVv lk_X11_61 wIM_X11_refuse wSE_X11_refuse (rfl : kd 0 = 10) (by decide) rfl (tX11_refuse  hq_2) (by omega) rfl rfl (Nat.le_of_ble_eq_true rfl) dX11_answer_23 ?_
    obtain ⟨rfl, rfl⟩ := drvS2 h
    exact jr_iret rfl dX11_answer_26
  refine jr_if_eq (tgt := 20) (nxt := 8) dX11_answer_5 (by decide) rfl (fun hc => ?_) (fun hc => ?_)
  · replace h := drvT hc h
    refine jr_sub [0] rfl ?_
    exact (hj20_1 ()) h
  · replace h := drvE hc h
    refine jr_iload_n dX11_answer_8 rfl 3 rfl ?_
    refine jr_i2l dX11_answer_9 ?_
    refine jr_lconst (v := (0 : Int64)) dX11_answer_10 rfl ?_
    refine jr_ldc2 (v := (9 : Int64)) wCC_X11_65 dX11_answer_11 ?_
    refine j_callSv lk_X11_69 wST_X11_within (tX11_within  (a0 := ((a2).toInt64)) (a1 := (0 : Int64)) (a2 := (9 : Int64)) (w := w)) (by omega) rfl rfl (Nat.le_of_ble_eq_true rfl) dX11_answer_14 ?_
    refine jr_if_ne (tgt := 27) (nxt := 20) dX11_answer_17 (by decide) rfl (fun hc => ?_) (fun hc => ?_)
    · replace h := drvE hc h
      refine jr_iload dX11_answer_27 4 rfl ?_
      refine jr_i2l dX11_answer_29 ?_
      refine jr_lconst (v := (0 : Int64)) dX11_answer_30 rfl ?_
      refine jr_ldc2 (v := (2 : Int64)) wCC_X11_91 dX11_answer_31 ?_
      refine j_callSv lk_X11_69 wST_X11_within (tX11_within  (a0 := ((a3).toInt64)) (a1 := (0 : Int64)) (a2 := (2 : Int64)) (w := w)) (by omega) rfl rfl (Nat.le_of_ble_eq_true rfl) dX11_answer_34 ?_
      obtain ⟨j53_5, ej53_5, h⟩ := drvF h
      have hj53_5 : ∀ (_ : Unit), j53_5 = some (r, w') → J MX11_answer 4 w 53 [(0, .ref 0)] [] (some (.int r)) w' := by
        intro _ h
        rw [ej53_5] at h
        try dsimp only at h
        refine jr_aload_n dX11_answer_53 rfl 0 rfl ?_
        refine jr_bipush (v := (-3 : Int32)) dX11_answer_54 (by decide) ?_
        obtain ⟨r_8, w_7, hq_6, h⟩ := drvB2 h
        refine j_callVv lk_X11_61 wIM_X11_refuse wSE_X11_refuse (rfl : kd 0 = 10) (by decide) rfl (tX11_refuse  hq_6) (by omega) rfl rfl (Nat.le_of_ble_eq_true rfl) dX11_answer_56 ?_
        obtain ⟨rfl, rfl⟩ := drvS2 h
        exact jr_iret rfl dX11_answer_59
      refine jr_if_eq (tgt := 53) (nxt := 40) dX11_answer_37 (by decide) rfl (fun hc => ?_) (fun hc => ?_)
      · replace h := drvT hc h
        refine jr_sub [0] rfl ?_
        exact (hj53_5 ()) h
      · replace h := drvE hc h
        refine jr_iload dX11_answer_40 5 rfl ?_
        refine jr_i2l dX11_answer_42 ?_
        refine jr_lconst (v := (0 : Int64)) dX11_answer_43 rfl ?_
        refine jr_ldc2 (v := (2 : Int64)) wCC_X11_91 dX11_answer_44 ?_
        refine j_callSv lk_X11_69 wST_X11_within (tX11_within  (a0 := ((a4).toInt64)) (a1 := (0 : Int64)) (a2 := (2 : Int64)) (w := w)) (by omega) rfl rfl (Nat.le_of_ble_eq_true rfl) dX11_answer_47 ?_
        refine jr_if_ne (tgt := 60) (nxt := 53) dX11_answer_50 (by decide) rfl (fun hc => ?_) (fun hc => ?_)
        · replace h := drvE hc h
          refine jr_lload dX11_answer_60 6 rfl ?_
          obtain ⟨r_10, hq_9, h⟩ := drvB h
          refine j_callSv lk_X11_97 wST_X4_clean (tX4_clean  hq_9) (by omega) rfl rfl (Nat.le_of_ble_eq_true rfl) dX11_answer_62 ?_
          refine jr_lstore (lv' := [(8, .long r_10), (0, .ref 0), (1, .int a0), (2, .int a1), (3, .int a2), (4, .int a3), (5, .int a4), (6, .long a5)]) dX11_answer_65 (by decide) rfl ?_
          refine jr_lload dX11_answer_67 0 rfl ?_
          refine jr_lconst (v := (0 : Int64)) dX11_answer_69 rfl ?_
          refine jr_lcmp dX11_answer_70 ?_
          obtain ⟨j88_11, ej88_11, h⟩ := drvF h
          have hj88_11 : ∀ (_ : Unit), j88_11 = some (r, w') → J MX11_answer 4 w 88 [(0, .ref 0), (1, .int a0), (2, .int a1), (3, .int a2), (4, .int a3), (5, .int a4), (8, .long r_10)] [] (some (.int r)) w' := by
            intro _ h
            rw [ej88_11] at h
            try dsimp only at h
            refine jr_aload_n dX11_answer_88 rfl 0 rfl ?_
            refine gf_X11_10 (r := 1) rfl (rfl : kd 0 = 10) rfl dX11_answer_89 ?_
            refine gf_X11_276 (r := 41) rfl (rfl : kd 1 = 7) rfl dX11_answer_92 ?_
            refine j_callVv lk_X11_280 wIM_X0_room wSE_X0_room (rfl : kd 41 = 0) (by decide) rfl (tX0_room (rfl : kd 41 = 0)  (t := 41) (w := w)) (by omega) rfl rfl (Nat.le_of_ble_eq_true rfl) dX11_answer_95 ?_
            refine jr_if_ne (tgt := 108) (nxt := 101) dX11_answer_98 (by decide) rfl (fun hc => ?_) (fun hc => ?_)
            · replace h := drvE hc h
              refine jr_aload_n dX11_answer_108 rfl 0 rfl ?_
              refine gf_X11_10 (r := 1) rfl (rfl : kd 0 = 10) rfl dX11_answer_109 ?_
              refine gf_X11_276 (r := 41) rfl (rfl : kd 1 = 7) rfl dX11_answer_112 ?_
              refine jr_iload_n dX11_answer_115 rfl 1 rfl ?_
              refine jr_iload_n dX11_answer_116 rfl 2 rfl ?_
              refine jr_iload_n dX11_answer_117 rfl 3 rfl ?_
              obtain ⟨r_14, w_13, hq_12, h⟩ := drvB2 h
              refine j_callVv lk_X11_284 wIM_X0_start wSE_X0_start (rfl : kd 41 = 0) (by decide) rfl (tX0_start (rfl : kd 41 = 0) hq_12) (by omega) rfl rfl (Nat.le_of_ble_eq_true rfl) dX11_answer_118 ?_
              refine jr_istore (lv' := [(10, .int r_14), (0, .ref 0), (1, .int a0), (2, .int a1), (3, .int a2), (4, .int a3), (5, .int a4), (8, .long r_10)]) dX11_answer_121 (by decide) rfl ?_
              refine jr_aload_n dX11_answer_123 rfl 1 rfl ?_
              refine gf_X11_10 (r := 1) rfl (rfl : kd 0 = 10) rfl dX11_answer_124 ?_
              refine gf_X11_276 (r := 41) rfl (rfl : kd 1 = 7) rfl dX11_answer_127 ?_
              refine jr_iload dX11_answer_130 0 rfl ?_
              refine jr_iload dX11_answer_132 5 rfl ?_
              refine jr_iload dX11_answer_134 6 rfl ?_
              refine jr_lload dX11_answer_136 7 rfl ?_
              obtain ⟨w_16, hq_15, h⟩ := drvB h
              refine j_callVn lk_X11_285 wIM_X0_hear wSE_X0_hear (rfl : kd 41 = 0) (by decide) rfl (tX0_hear (rfl : kd 41 = 0) hq_15) (by omega) rfl rfl (Nat.le_of_ble_eq_true rfl) dX11_answer_138 ?_
              refine jr_iload dX11_answer_141 0 rfl ?_
              obtain ⟨rfl, rfl⟩ := drvS2 h
              exact jr_iret rfl dX11_answer_143
            · replace h := drvT hc h
              refine jr_aload_n dX11_answer_101 rfl 0 rfl ?_
              refine jr_bipush (v := (-4 : Int32)) dX11_answer_102 (by decide) ?_
              obtain ⟨r_19, w_18, hq_17, h⟩ := drvB2 h
              refine j_callVv lk_X11_61 wIM_X11_refuse wSE_X11_refuse (rfl : kd 0 = 10) (by decide) rfl (tX11_refuse  hq_17) (by omega) rfl rfl (Nat.le_of_ble_eq_true rfl) dX11_answer_104 ?_
              obtain ⟨rfl, rfl⟩ := drvS2 h
              exact jr_iret rfl dX11_answer_107
          refine jr_if_ne (tgt := 88) (nxt := 74) dX11_answer_71 (by decide) rfl (fun hc => ?_) (fun hc => ?_)
          · replace h := drvE hc h
            refine jr_sub [1, 2, 3, 4, 5, 6, 0] rfl ?_
            exact (hj88_11 ()) h
          · replace h := drvT hc h
            refine jr_lload dX11_answer_74 7 rfl ?_
            refine jr_lconst (v := (0 : Int64)) dX11_answer_76 rfl ?_
            refine jr_lcmp dX11_answer_77 ?_
            refine jr_if_eq (tgt := 88) (nxt := 81) dX11_answer_78 (by decide) rfl (fun hc => ?_) (fun hc => ?_)
            · replace h := drvT hc h
              refine jr_sub [1, 2, 3, 4, 5, 6, 0] rfl ?_
              exact (hj88_11 ()) h
            · replace h := drvE hc h
              refine jr_aload_n dX11_answer_81 rfl 1 rfl ?_
              refine jr_bipush (v := (-3 : Int32)) dX11_answer_82 (by decide) ?_
              obtain ⟨r_22, w_21, hq_20, h⟩ := drvB2 h
              refine j_callVv lk_X11_61 wIM_X11_refuse wSE_X11_refuse (rfl : kd 0 = 10) (by decide) rfl (tX11_refuse  hq_20) (by omega) rfl rfl (Nat.le_of_ble_eq_true rfl) dX11_answer_84 ?_
              obtain ⟨rfl, rfl⟩ := drvS2 h
              exact jr_iret rfl dX11_answer_87
        · replace h := drvT hc h
          refine jr_sub [0] rfl ?_
          exact (hj53_5 ()) h
    · replace h := drvT hc h
      refine jr_sub [0] rfl ?_
      exact (hj20_1 ()) h
set_option maxHeartbeats 4000000 in
set_option maxRecDepth 100000 in
theorem tX11_isHalf {a0 : Int32} {w : jWd}  : JM yX11_isHalf MX11_isHalf 1 [.int a0] w (some (.int (fX11_isHalf a0))) w := by
  refine jm_of pl_X11 rfl (Nat.le_of_ble_eq_true rfl) ?_
  show J MX11_isHalf 1 w 0 [(0, .int a0)] [] (some (.int (fX11_isHalf a0))) w
  generalize h : (fX11_isHalf a0) = r
  unfold fX11_isHalf at h
  refine jr_iload_n dX11_isHalf_0 rfl 0 rfl ?_
  refine jr_if_eq (tgt := 9) (nxt := 4) dX11_isHalf_1 (by decide) rfl (fun hc => ?_) (fun hc => ?_)
  · replace h := drvT hc h
    refine jr_iconst (v := (1 : Int32)) dX11_isHalf_9 (by decide) ?_
    refine jr_goto (tgt := 14) dX11_isHalf_10 (by decide) ?_
    subst h
    exact jr_zret (ty := .boolean) rfl rfl dX11_isHalf_14
  · replace h := drvE hc h
    refine jr_iload_n dX11_isHalf_4 rfl 0 rfl ?_
    refine jr_iconst (v := (1 : Int32)) dX11_isHalf_5 (by decide) ?_
    refine jr_icmp_ne (tgt := 13) (nxt := 9) dX11_isHalf_6 (by decide) rfl (fun hc => ?_) (fun hc => ?_)
    · replace h := drvE hc h
      refine jr_iconst (v := (0 : Int32)) dX11_isHalf_13 (by decide) ?_
      subst h
      exact jr_zret (ty := .boolean) rfl rfl dX11_isHalf_14
    · replace h := drvT hc h
      refine jr_iconst (v := (1 : Int32)) dX11_isHalf_9 (by decide) ?_
      refine jr_goto (tgt := 14) dX11_isHalf_10 (by decide) ?_
      subst h
      exact jr_zret (ty := .boolean) rfl rfl dX11_isHalf_14
set_option maxHeartbeats 4000000 in
set_option maxRecDepth 100000 in
theorem tX11_ask {n : Nat} {a0 : Int32} {a1 : Int32} {w : jWd} {r : Int32} {w' : jWd}  (h : fX11_ask n a0 a1 w = some (r, w')) : JM yX11_ask MX11_ask 4 [.ref 0, .int a0, .int a1] w (some (.int r)) w' := by
  refine jm_of pl_X11 rfl (Nat.le_of_ble_eq_true rfl) ?_
  show J MX11_ask 4 w 0 [(0, .ref 0), (1, .int a0), (2, .int a1)] [] (some (.int r)) w'
  unfold fX11_ask at h
  refine jr_aload_n dX11_ask_0 rfl 0 rfl ?_
  refine gf_X11_10 (r := 1) rfl (rfl : kd 0 = 10) rfl dX11_ask_1 ?_
  refine gf_X11_354 (r := 55) rfl (rfl : kd 1 = 7) rfl dX11_ask_4 ?_
  refine jr_iload_n dX11_ask_7 rfl 1 rfl ?_
  refine j_callVv lk_X11_367 wIM_X10_hasAll wSE_X10_hasAll (rfl : kd 55 = 9) (by decide) rfl (tX10_hasAll (rfl : kd 55 = 9) (a0 := a0) (t := 55) (w := w)) (by omega) rfl rfl (Nat.le_of_ble_eq_true rfl) dX11_ask_8 ?_
  obtain ⟨j21_1, ej21_1, h⟩ := drvF h
  have hj21_1 : ∀ (_ : Unit), j21_1 = some (r, w') → J MX11_ask 4 w 21 [(0, .ref 0)] [] (some (.int r)) w' := by
    intro _ h
    rw [ej21_1] at h
    try dsimp only at h
    refine jr_aload_n dX11_ask_21 rfl 0 rfl ?_
    refine jr_bipush (v := (-2 : Int32)) dX11_ask_22 (by decide) ?_
    obtain ⟨r_4, w_3, hq_2, h⟩ := drvB2 h
    refine j_callVv lk_X11_61 wIM_X11_refuse wSE_X11_refuse (rfl : kd 0 = 10) (by decide) rfl (tX11_refuse  hq_2) (by omega) rfl rfl (Nat.le_of_ble_eq_true rfl) dX11_ask_24 ?_
    obtain ⟨rfl, rfl⟩ := drvS2 h
    exact jr_iret rfl dX11_ask_27
  refine jr_if_eq (tgt := 21) (nxt := 14) dX11_ask_11 (by decide) rfl (fun hc => ?_) (fun hc => ?_)
  · replace h := drvT hc h
    refine jr_sub [0] rfl ?_
    exact (hj21_1 ()) h
  · replace h := drvE hc h
    refine jr_iload_n dX11_ask_14 rfl 2 rfl ?_
    refine j_callSv lk_X11_208 wST_X11_isHalf (tX11_isHalf  (a0 := a1) (w := w)) (by omega) rfl rfl (Nat.le_of_ble_eq_true rfl) dX11_ask_15 ?_
    refine jr_if_ne (tgt := 28) (nxt := 21) dX11_ask_18 (by decide) rfl (fun hc => ?_) (fun hc => ?_)
    · replace h := drvE hc h
      refine jr_aload_n dX11_ask_28 rfl 0 rfl ?_
      refine gf_X11_10 (r := 1) rfl (rfl : kd 0 = 10) rfl dX11_ask_29 ?_
      refine gf_X11_354 (r := 55) rfl (rfl : kd 1 = 7) rfl dX11_ask_32 ?_
      refine jr_iload_n dX11_ask_35 rfl 1 rfl ?_
      obtain ⟨w_6, hq_5, h⟩ := drvB h
      refine j_callVn lk_X11_370 wIM_X10_weigh wSE_X10_weigh (rfl : kd 55 = 9) (by decide) rfl (tX10_weigh (rfl : kd 55 = 9) hq_5) (by omega) rfl rfl (Nat.le_of_ble_eq_true rfl) dX11_ask_36 ?_
      refine jr_iload_n dX11_ask_39 rfl 2 rfl ?_
      refine jr_if_ne (tgt := 58) (nxt := 43) dX11_ask_40 (by decide) rfl (fun hc => ?_) (fun hc => ?_)
      · replace h := drvE hc h
        refine jr_aload_n dX11_ask_58 rfl 0 rfl ?_
        refine gf_X11_10 (r := 1) rfl (rfl : kd 0 = 10) rfl dX11_ask_59 ?_
        refine gf_X11_354 (r := 55) rfl (rfl : kd 1 = 7) rfl dX11_ask_62 ?_
        refine gf_X11_376 (r := 60) rfl (rfl : kd 55 = 9) rfl dX11_ask_65 ?_
        refine jr_iload_n dX11_ask_68 rfl 1 rfl ?_
        obtain ⟨hg_7, h⟩ := drvG h
        refine jr_iald (rfl : kd 60 = 13) hg_7 dX11_ask_69 ?_
        obtain ⟨rfl, rfl⟩ := drvS2 h
        exact jr_iret rfl dX11_ask_70
      · replace h := drvT hc h
        refine jr_aload_n dX11_ask_43 rfl 0 rfl ?_
        refine gf_X11_10 (r := 1) rfl (rfl : kd 0 = 10) rfl dX11_ask_44 ?_
        refine gf_X11_354 (r := 55) rfl (rfl : kd 1 = 7) rfl dX11_ask_47 ?_
        refine gf_X11_373 (r := 59) rfl (rfl : kd 55 = 9) rfl dX11_ask_50 ?_
        refine jr_iload_n dX11_ask_53 rfl 1 rfl ?_
        obtain ⟨hg_8, h⟩ := drvG h
        refine jr_iald (rfl : kd 59 = 13) hg_8 dX11_ask_54 ?_
        refine jr_goto (tgt := 70) dX11_ask_55 (by decide) ?_
        obtain ⟨rfl, rfl⟩ := drvS2 h
        exact jr_iret rfl dX11_ask_70
    · replace h := drvT hc h
      refine jr_sub [0] rfl ?_
      exact (hj21_1 ()) h
set_option maxHeartbeats 4000000 in
set_option maxRecDepth 100000 in
theorem tX11_back {n : Nat} {a0 : Int32} {w : jWd} {r : Int32} {w' : jWd}  (h : fX11_back n a0 w = some (r, w')) : JM yX11_back MX11_back 6 [.ref 0, .int a0] w (some (.int r)) w' := by
  refine jm_of pl_X11 rfl (Nat.le_of_ble_eq_true rfl) ?_
  show J MX11_back 6 w 0 [(0, .ref 0), (1, .int a0)] [] (some (.int r)) w'
  unfold fX11_back at h
  refine jr_aload_n dX11_back_0 rfl 0 rfl ?_
  refine gf_X11_10 (r := 1) rfl (rfl : kd 0 = 10) rfl dX11_back_1 ?_
  refine gf_X11_276 (r := 41) rfl (rfl : kd 1 = 7) rfl dX11_back_4 ?_
  refine jr_iload_n dX11_back_7 rfl 1 rfl ?_
  refine j_callVv lk_X11_289 wIM_X0_has wSE_X0_has (rfl : kd 41 = 0) (by decide) rfl (tX0_has (rfl : kd 41 = 0) (a0 := a0) (t := 41) (w := w)) (by omega) rfl rfl (Nat.le_of_ble_eq_true rfl) dX11_back_8 ?_
  refine jr_if_ne (tgt := 21) (nxt := 14) dX11_back_11 (by decide) rfl (fun hc => ?_) (fun hc => ?_)
  · replace h := drvE hc h
    refine jr_aload_n dX11_back_21 rfl 0 rfl ?_
    refine gf_X11_31 (r := 182) rfl (rfl : kd 0 = 10) rfl dX11_back_22 ?_
    refine jr_iload_n dX11_back_25 rfl 1 rfl ?_
    obtain ⟨r_3, w_2, hq_1, h⟩ := drvB2 h
    refine j_callVv lk_X11_290 wIM_X2_isBack wSE_X2_isBack (rfl : kd 182 = 2) (by decide) rfl (tX2_isBack  hq_1) (by omega) rfl rfl (Nat.le_of_ble_eq_true rfl) dX11_back_26 ?_
    refine jr_if_eq (tgt := 36) (nxt := 32) dX11_back_29 (by decide) rfl (fun hc => ?_) (fun hc => ?_)
    · replace h := drvT hc h
      refine jr_iconst (v := (0 : Int32)) dX11_back_36 (by decide) ?_
      obtain ⟨rfl, rfl⟩ := drvS2 h
      exact jr_iret rfl dX11_back_37
    · replace h := drvE hc h
      refine jr_iconst (v := (1 : Int32)) dX11_back_32 (by decide) ?_
      refine jr_goto (tgt := 37) dX11_back_33 (by decide) ?_
      obtain ⟨rfl, rfl⟩ := drvS2 h
      exact jr_iret rfl dX11_back_37
  · replace h := drvT hc h
    refine jr_aload_n dX11_back_14 rfl 0 rfl ?_
    refine jr_bipush (v := (-2 : Int32)) dX11_back_15 (by decide) ?_
    obtain ⟨r_6, w_5, hq_4, h⟩ := drvB2 h
    refine j_callVv lk_X11_61 wIM_X11_refuse wSE_X11_refuse (rfl : kd 0 = 10) (by decide) rfl (tX11_refuse  hq_4) (by omega) rfl rfl (Nat.le_of_ble_eq_true rfl) dX11_back_17 ?_
    obtain ⟨rfl, rfl⟩ := drvS2 h
    exact jr_iret rfl dX11_back_20
set_option maxHeartbeats 4000000 in
set_option maxRecDepth 100000 in
theorem tX11_backOdds {n : Nat} {a0 : Int32} {a1 : Int32} {w : jWd} {r : Int32} {w' : jWd}  (h : fX11_backOdds n a0 a1 w = some (r, w')) : JM yX11_backOdds MX11_backOdds 5 [.ref 0, .int a0, .int a1] w (some (.int r)) w' := by
  refine jm_of pl_X11 rfl (Nat.le_of_ble_eq_true rfl) ?_
  show J MX11_backOdds 5 w 0 [(0, .ref 0), (1, .int a0), (2, .int a1)] [] (some (.int r)) w'
  unfold fX11_backOdds at h
  refine jr_aload_n dX11_backOdds_0 rfl 0 rfl ?_
  refine gf_X11_10 (r := 1) rfl (rfl : kd 0 = 10) rfl dX11_backOdds_1 ?_
  refine gf_X11_276 (r := 41) rfl (rfl : kd 1 = 7) rfl dX11_backOdds_4 ?_
  refine jr_iload_n dX11_backOdds_7 rfl 1 rfl ?_
  refine j_callVv lk_X11_289 wIM_X0_has wSE_X0_has (rfl : kd 41 = 0) (by decide) rfl (tX0_has (rfl : kd 41 = 0) (a0 := a0) (t := 41) (w := w)) (by omega) rfl rfl (Nat.le_of_ble_eq_true rfl) dX11_backOdds_8 ?_
  obtain ⟨j21_1, ej21_1, h⟩ := drvF h
  have hj21_1 : ∀ (_ : Unit), j21_1 = some (r, w') → J MX11_backOdds 5 w 21 [(0, .ref 0)] [] (some (.int r)) w' := by
    intro _ h
    rw [ej21_1] at h
    try dsimp only at h
    refine jr_aload_n dX11_backOdds_21 rfl 0 rfl ?_
    refine jr_bipush (v := (-2 : Int32)) dX11_backOdds_22 (by decide) ?_
    obtain ⟨r_4, w_3, hq_2, h⟩ := drvB2 h
    refine j_callVv lk_X11_61 wIM_X11_refuse wSE_X11_refuse (rfl : kd 0 = 10) (by decide) rfl (tX11_refuse  hq_2) (by omega) rfl rfl (Nat.le_of_ble_eq_true rfl) dX11_backOdds_24 ?_
    obtain ⟨rfl, rfl⟩ := drvS2 h
    exact jr_iret rfl dX11_backOdds_27
  refine jr_if_eq (tgt := 21) (nxt := 14) dX11_backOdds_11 (by decide) rfl (fun hc => ?_) (fun hc => ?_)
  · replace h := drvT hc h
    refine jr_sub [0] rfl ?_
    exact (hj21_1 ()) h
  · replace h := drvE hc h
    refine jr_iload_n dX11_backOdds_14 rfl 2 rfl ?_
    refine j_callSv lk_X11_208 wST_X11_isHalf (tX11_isHalf  (a0 := a1) (w := w)) (by omega) rfl rfl (Nat.le_of_ble_eq_true rfl) dX11_backOdds_15 ?_
    refine jr_if_ne (tgt := 28) (nxt := 21) dX11_backOdds_18 (by decide) rfl (fun hc => ?_) (fun hc => ?_)
    · replace h := drvE hc h
      refine jr_aload_n dX11_backOdds_28 rfl 0 rfl ?_
      refine gf_X11_10 (r := 1) rfl (rfl : kd 0 = 10) rfl dX11_backOdds_29 ?_
      refine gf_X11_276 (r := 41) rfl (rfl : kd 1 = 7) rfl dX11_backOdds_32 ?_
      refine gf_X11_293 (r := 47) rfl (rfl : kd 41 = 0) rfl dX11_backOdds_35 ?_
      refine jr_iload_n dX11_backOdds_38 rfl 1 rfl ?_
      obtain ⟨hg_5, h⟩ := drvG h
      refine jr_lald (rfl : kd 47 = 14) hg_5 dX11_backOdds_39 ?_
      refine j_nml (fun x3_6 e_7 => ?_)
      replace h := drvL e_7 h
      refine jr_lstore_n (lv' := [(3, .long x3_6), (0, .ref 0), (1, .int a0), (2, .int a1)]) dX11_backOdds_40 rfl (by decide) rfl ?_
      refine jr_lload_n dX11_backOdds_41 rfl 0 rfl ?_
      refine jr_lconst (v := (0 : Int64)) dX11_backOdds_42 rfl ?_
      refine jr_lcmp dX11_backOdds_43 ?_
      obtain ⟨j74_8, ej74_8, h⟩ := drvF h
      have hj74_8 : ∀ (_ : Unit), j74_8 = some (r, w') → J MX11_backOdds 5 w 74 [(2, .int a1)] [] (some (.int r)) w' := by
        intro _ h
        rw [ej74_8] at h
        try dsimp only at h
        refine jr_lconst (v := (0 : Int64)) dX11_backOdds_74 rfl ?_
        refine jr_lconst (v := (1 : Int64)) dX11_backOdds_75 rfl ?_
        refine jr_iload_n dX11_backOdds_76 rfl 0 rfl ?_
        obtain ⟨r_10, hq_9, h⟩ := drvB h
        refine j_callSv lk_X11_246 wST_X2_fraction (tX2_fraction  hq_9) (by omega) rfl rfl (Nat.le_of_ble_eq_true rfl) dX11_backOdds_77 ?_
        refine jr_l2i dX11_backOdds_80 ?_
        obtain ⟨rfl, rfl⟩ := drvS2 h
        exact jr_iret rfl dX11_backOdds_81
      refine jr_if_eq (tgt := 74) (nxt := 47) dX11_backOdds_44 (by decide) rfl (fun hc => ?_) (fun hc => ?_)
      · replace h := drvT hc h
        refine jr_sub [3] rfl ?_
        exact (hj74_8 ()) h
      · replace h := drvE hc h
        refine jr_aload_n dX11_backOdds_47 rfl 1 rfl ?_
        refine gf_X11_10 (r := 1) rfl (rfl : kd 0 = 10) rfl dX11_backOdds_48 ?_
        refine gf_X11_276 (r := 41) rfl (rfl : kd 1 = 7) rfl dX11_backOdds_51 ?_
        refine gf_X11_296 (r := 43) rfl (rfl : kd 41 = 0) rfl dX11_backOdds_54 ?_
        refine jr_iload_n dX11_backOdds_57 rfl 2 rfl ?_
        obtain ⟨hg_11, h⟩ := drvG h
        refine jr_iald (rfl : kd 43 = 13) hg_11 dX11_backOdds_58 ?_
        refine jr_aload_n dX11_backOdds_59 rfl 1 rfl ?_
        refine gf_X11_10 (r := 1) rfl (rfl : kd 0 = 10) rfl dX11_backOdds_60 ?_
        refine gf_X11_115 (r := 16) rfl (rfl : kd 1 = 7) rfl dX11_backOdds_63 ?_
        refine gf_X11_119 (r := 19) rfl (rfl : kd 16 = 4) rfl dX11_backOdds_66 ?_
        refine jr_iconst (v := (0 : Int32)) dX11_backOdds_69 (by decide) ?_
        refine jr_ialdL (k := 0) (rfl : kd 19 = 13) (vp_lit (by decide) (by decide)) (by decide) dX11_backOdds_70 ?_
        refine jr_icmp_gt (tgt := 82) (nxt := 74) dX11_backOdds_71 (by decide) rfl (fun hc => ?_) (fun hc => ?_)
        · replace h := drvT hc h
          refine jr_aload_n dX11_backOdds_82 rfl 1 rfl ?_
          refine gf_X11_31 (r := 182) rfl (rfl : kd 0 = 10) rfl dX11_backOdds_83 ?_
          refine jr_bipush (v := (8 : Int32)) dX11_backOdds_86 (by decide) ?_
          refine jr_lload_n dX11_backOdds_88 rfl 0 rfl ?_
          refine jr_iconst (v := (-1 : Int32)) dX11_backOdds_89 (by decide) ?_
          obtain ⟨r_14, w_13, hq_12, h⟩ := drvB2 h
          refine j_callVv lk_X11_223 wIM_X2_nearest wSE_X2_nearest (rfl : kd 182 = 2) (by decide) rfl (tX2_nearest  hq_12) (by omega) rfl rfl (Nat.le_of_ble_eq_true rfl) dX11_backOdds_90 ?_
          refine jr_aload_n dX11_backOdds_93 rfl 1 rfl ?_
          refine gf_X11_10 (r := 1) rfl (rfl : kd 0 = 10) rfl dX11_backOdds_94 ?_
          refine gf_X11_276 (r := 41) rfl (rfl : kd 1 = 7) rfl dX11_backOdds_97 ?_
          refine gf_X11_297 (r := 44) rfl (rfl : kd 41 = 0) rfl dX11_backOdds_100 ?_
          refine jr_iload_n dX11_backOdds_103 rfl 2 rfl ?_
          obtain ⟨hg_15, h⟩ := drvG h
          refine jr_iald (rfl : kd 44 = 13) hg_15 dX11_backOdds_104 ?_
          refine jr_iconst (v := (1 : Int32)) dX11_backOdds_105 (by decide) ?_
          refine jr_iadd dX11_backOdds_106 ?_
          refine jr_imul dX11_backOdds_107 ?_
          refine j_nmi (fun x5_16 e_17 => ?_)
          replace h := drvL e_17 h
          refine jr_istore (lv' := [(5, .int x5_16), (3, .long x3_6), (0, .ref 0), (1, .int a0), (2, .int a1)]) dX11_backOdds_108 (by decide) rfl ?_
          refine jr_aload_n dX11_backOdds_110 rfl 2 rfl ?_
          refine gf_X11_31 (r := 182) rfl (rfl : kd 0 = 10) rfl dX11_backOdds_111 ?_
          refine jr_bipush (v := (6 : Int32)) dX11_backOdds_114 (by decide) ?_
          refine jr_lload_n dX11_backOdds_116 rfl 1 rfl ?_
          refine jr_iconst (v := (-1 : Int32)) dX11_backOdds_117 (by decide) ?_
          obtain ⟨r_20, w_19, hq_18, h⟩ := drvB2 h
          refine j_callVv lk_X11_223 wIM_X2_nearest wSE_X2_nearest (rfl : kd 182 = 2) (by decide) rfl (tX2_nearest  hq_18) (by omega) rfl rfl (Nat.le_of_ble_eq_true rfl) dX11_backOdds_118 ?_
          refine jr_bipush (v := (10 : Int32)) dX11_backOdds_121 (by decide) ?_
          refine jr_imul dX11_backOdds_123 ?_
          refine j_nmi (fun x6_21 e_22 => ?_)
          replace h := drvL e_22 h
          refine jr_istore (lv' := [(6, .int x6_21), (5, .int x5_16), (3, .long x3_6), (0, .ref 0), (1, .int a0), (2, .int a1)]) dX11_backOdds_124 (by decide) rfl ?_
          refine jr_iload dX11_backOdds_126 1 rfl ?_
          refine jr_i2l dX11_backOdds_128 ?_
          refine jr_iload dX11_backOdds_129 0 rfl ?_
          refine jr_i2l dX11_backOdds_131 ?_
          refine jr_iload_n dX11_backOdds_132 rfl 5 rfl ?_
          obtain ⟨r_24, hq_23, h⟩ := drvB h
          refine j_callSv lk_X11_246 wST_X2_fraction (tX2_fraction  hq_23) (by omega) rfl rfl (Nat.le_of_ble_eq_true rfl) dX11_backOdds_133 ?_
          refine jr_l2i dX11_backOdds_136 ?_
          obtain ⟨rfl, rfl⟩ := drvS2 h
          exact jr_iret rfl dX11_backOdds_137
        · replace h := drvE hc h
          refine jr_sub [3] rfl ?_
          exact (hj74_8 ()) h
    · replace h := drvT hc h
      refine jr_sub [0] rfl ?_
      exact (hj21_1 ()) h
set_option maxHeartbeats 4000000 in
set_option maxRecDepth 100000 in
theorem tX11_bounds {a0 : Int32} {a1 : Int32} {w : jWd} {r : Int32} {w' : jWd}  (h : fX11_bounds a0 a1 w = some (r, w')) : JM yX11_bounds MX11_bounds 2 [.ref 0, .int a0, .int a1] w (some (.int r)) w' := by
  refine jm_of pl_X11 rfl (Nat.le_of_ble_eq_true rfl) ?_
  show J MX11_bounds 2 w 0 [(0, .ref 0), (1, .int a0), (2, .int a1)] [] (some (.int r)) w'
  unfold fX11_bounds at h
  refine jr_iload_n dX11_bounds_0 rfl 1 rfl ?_
  refine jr_i2l dX11_bounds_1 ?_
  refine jr_lconst (v := (1 : Int64)) dX11_bounds_2 rfl ?_
  refine jr_ldc2 (v := (100 : Int64)) wCC_X11_122 dX11_bounds_3 ?_
  refine j_callSv lk_X11_69 wST_X11_within (tX11_within  (a0 := ((a0).toInt64)) (a1 := (1 : Int64)) (a2 := (100 : Int64)) (w := w)) (by omega) rfl rfl (Nat.le_of_ble_eq_true rfl) dX11_bounds_6 ?_
  obtain ⟨j23_1, ej23_1, h⟩ := drvF h
  have hj23_1 : ∀ (_ : Unit), j23_1 = some (r, w') → J MX11_bounds 2 w 23 [(0, .ref 0)] [] (some (.int r)) w' := by
    intro _ h
    rw [ej23_1] at h
    try dsimp only at h
    refine jr_aload_n dX11_bounds_23 rfl 0 rfl ?_
    refine jr_bipush (v := (-3 : Int32)) dX11_bounds_24 (by decide) ?_
    obtain ⟨r_4, w_3, hq_2, h⟩ := drvB2 h
    refine j_callVv lk_X11_61 wIM_X11_refuse wSE_X11_refuse (rfl : kd 0 = 10) (by decide) rfl (tX11_refuse  hq_2) (by omega) rfl rfl (Nat.le_of_ble_eq_true rfl) dX11_bounds_26 ?_
    obtain ⟨rfl, rfl⟩ := drvS2 h
    exact jr_iret rfl dX11_bounds_29
  refine jr_if_eq (tgt := 23) (nxt := 12) dX11_bounds_9 (by decide) rfl (fun hc => ?_) (fun hc => ?_)
  · replace h := drvT hc h
    refine jr_sub [0] rfl ?_
    exact (hj23_1 ()) h
  · replace h := drvE hc h
    refine jr_iload_n dX11_bounds_12 rfl 2 rfl ?_
    refine jr_i2l dX11_bounds_13 ?_
    refine jr_lconst (v := (1 : Int64)) dX11_bounds_14 rfl ?_
    refine jr_iload_n dX11_bounds_15 rfl 1 rfl ?_
    refine jr_i2l dX11_bounds_16 ?_
    refine j_callSv lk_X11_69 wST_X11_within (tX11_within  (a0 := ((a1).toInt64)) (a1 := (1 : Int64)) (a2 := ((a0).toInt64)) (w := w)) (by omega) rfl rfl (Nat.le_of_ble_eq_true rfl) dX11_bounds_17 ?_
    refine jr_if_ne (tgt := 30) (nxt := 23) dX11_bounds_20 (by decide) rfl (fun hc => ?_) (fun hc => ?_)
    · replace h := drvE hc h
      refine jr_aload_n dX11_bounds_30 rfl 0 rfl ?_
      refine gf_X11_10 (r := 1) rfl (rfl : kd 0 = 10) rfl dX11_bounds_31 ?_
      refine jr_iload_n dX11_bounds_34 rfl 1 rfl ?_
      refine pf_X11_124 rfl (rfl : kd 1 = 7) dX11_bounds_35 ?_
      refine j_nmw (fun w_5 e_6 => ?_)
      replace h := drvL e_6 h
      refine jr_aload_n dX11_bounds_38 rfl 0 rfl ?_
      refine gf_X11_10 (r := 1) rfl (rfl : kd 0 = 10) rfl dX11_bounds_39 ?_
      refine jr_iload_n dX11_bounds_42 rfl 2 rfl ?_
      refine pf_X11_128 rfl (rfl : kd 1 = 7) dX11_bounds_43 ?_
      refine j_nmw (fun w_7 e_8 => ?_)
      replace h := drvL e_8 h
      refine jr_iconst (v := (0 : Int32)) dX11_bounds_46 (by decide) ?_
      obtain ⟨rfl, rfl⟩ := drvS2 h
      exact jr_iret rfl dX11_bounds_47
    · replace h := drvT hc h
      refine jr_sub [0] rfl ?_
      exact (hj23_1 ()) h
set_option maxHeartbeats 4000000 in
set_option maxRecDepth 100000 in
theorem tX11_isBound {a0 : Int32} {w : jWd}  : JM yX11_isBound MX11_isBound 2 [.int a0] w (some (.int (fX11_isBound a0))) w := by
  refine jm_of pl_X11 rfl (Nat.le_of_ble_eq_true rfl) ?_
  show J MX11_isBound 2 w 0 [(0, .int a0)] [] (some (.int (fX11_isBound a0))) w
  generalize h : (fX11_isBound a0) = r
  unfold fX11_isBound at h
  refine jr_iload_n dX11_isBound_0 rfl 0 rfl ?_
  refine jr_i2l dX11_isBound_1 ?_
  refine jr_lconst (v := (1 : Int64)) dX11_isBound_2 rfl ?_
  refine jr_ldc2 (v := (100 : Int64)) wCC_X11_122 dX11_isBound_3 ?_
  refine j_callSv lk_X11_69 wST_X11_within (tX11_within  (a0 := ((a0).toInt64)) (a1 := (1 : Int64)) (a2 := (100 : Int64)) (w := w)) (by omega) rfl rfl (Nat.le_of_ble_eq_true rfl) dX11_isBound_6 ?_
  subst h
  exact jr_bret rfl dX11_isBound_9
set_option maxHeartbeats 4000000 in
set_option maxRecDepth 100000 in
theorem tX11_chance {n : Nat} {a0 : Int32} {a1 : Int32} {w : jWd} {r : Int32} {w' : jWd}  (h : fX11_chance n a0 a1 w = some (r, w')) : JM yX11_chance MX11_chance 6 [.ref 0, .int a0, .int a1] w (some (.int r)) w' := by
  refine jm_of pl_X11 rfl (Nat.le_of_ble_eq_true rfl) ?_
  show J MX11_chance 6 w 0 [(0, .ref 0), (1, .int a0), (2, .int a1)] [] (some (.int r)) w'
  unfold fX11_chance at h
  refine jr_iload_n dX11_chance_0 rfl 2 rfl ?_
  refine j_callSv lk_X11_208 wST_X11_isHalf (tX11_isHalf  (a0 := a1) (w := w)) (by omega) rfl rfl (Nat.le_of_ble_eq_true rfl) dX11_chance_1 ?_
  refine jr_if_ne (tgt := 14) (nxt := 7) dX11_chance_4 (by decide) rfl (fun hc => ?_) (fun hc => ?_)
  · replace h := drvE hc h
    refine jr_iload_n dX11_chance_14 rfl 1 rfl ?_
    refine j_callSv lk_X11_236 wST_X11_isBound (tX11_isBound  (a0 := a0) (w := w)) (by omega) rfl rfl (Nat.le_of_ble_eq_true rfl) dX11_chance_15 ?_
    refine jr_if_ne (tgt := 28) (nxt := 21) dX11_chance_18 (by decide) rfl (fun hc => ?_) (fun hc => ?_)
    · replace h := drvE hc h
      refine jr_aload_n dX11_chance_28 rfl 0 rfl ?_
      refine gf_X11_31 (r := 182) rfl (rfl : kd 0 = 10) rfl dX11_chance_29 ?_
      refine jr_bipush (v := (9 : Int32)) dX11_chance_32 (by decide) ?_
      refine jr_iload_n dX11_chance_34 rfl 1 rfl ?_
      obtain ⟨r_2, hq_1, h⟩ := drvB h
      refine j_callVv lk_X11_239 wIM_X2_pairsBy wSE_X2_pairsBy (rfl : kd 182 = 2) (by decide) rfl (tX2_pairsBy  hq_1) (by omega) rfl rfl (Nat.le_of_ble_eq_true rfl) dX11_chance_35 ?_
      refine jr_i2l dX11_chance_38 ?_
      refine jr_aload_n dX11_chance_39 rfl 0 rfl ?_
      refine gf_X11_31 (r := 182) rfl (rfl : kd 0 = 10) rfl dX11_chance_40 ?_
      refine jr_bipush (v := (9 : Int32)) dX11_chance_43 (by decide) ?_
      obtain ⟨r_4, hq_3, h⟩ := drvB h
      refine j_callVv lk_X11_243 wIM_X2_pairs wSE_X2_pairs (rfl : kd 182 = 2) (by decide) rfl (tX2_pairs  hq_3) (by omega) rfl rfl (Nat.le_of_ble_eq_true rfl) dX11_chance_45 ?_
      refine jr_i2l dX11_chance_48 ?_
      refine jr_iload_n dX11_chance_49 rfl 2 rfl ?_
      obtain ⟨r_6, hq_5, h⟩ := drvB h
      refine j_callSv lk_X11_246 wST_X2_fraction (tX2_fraction  hq_5) (by omega) rfl rfl (Nat.le_of_ble_eq_true rfl) dX11_chance_50 ?_
      refine jr_l2i dX11_chance_53 ?_
      obtain ⟨rfl, rfl⟩ := drvS2 h
      exact jr_iret rfl dX11_chance_54
    · replace h := drvT hc h
      refine jr_aload_n dX11_chance_21 rfl 0 rfl ?_
      refine jr_bipush (v := (-3 : Int32)) dX11_chance_22 (by decide) ?_
      obtain ⟨r_9, w_8, hq_7, h⟩ := drvB2 h
      refine j_callVv lk_X11_61 wIM_X11_refuse wSE_X11_refuse (rfl : kd 0 = 10) (by decide) rfl (tX11_refuse  hq_7) (by omega) rfl rfl (Nat.le_of_ble_eq_true rfl) dX11_chance_24 ?_
      obtain ⟨rfl, rfl⟩ := drvS2 h
      exact jr_iret rfl dX11_chance_27
  · replace h := drvT hc h
    refine jr_aload_n dX11_chance_7 rfl 0 rfl ?_
    refine jr_bipush (v := (-2 : Int32)) dX11_chance_8 (by decide) ?_
    obtain ⟨r_12, w_11, hq_10, h⟩ := drvB2 h
    refine j_callVv lk_X11_61 wIM_X11_refuse wSE_X11_refuse (rfl : kd 0 = 10) (by decide) rfl (tX11_refuse  hq_10) (by omega) rfl rfl (Nat.le_of_ble_eq_true rfl) dX11_chance_10 ?_
    obtain ⟨rfl, rfl⟩ := drvS2 h
    exact jr_iret rfl dX11_chance_13
set_option maxHeartbeats 4000000 in
set_option maxRecDepth 100000 in
theorem tX11_linesOf {a0 : Nat} {a1 : Int32} {w : jWd} {r : Int32} (hk_a0 : kd a0 = 4) (h : fX11_linesOf a0 a1 w = some r) : JM yX11_linesOf MX11_linesOf 2 [.ref a0, .int a1] w (some (.int r)) w := by
  refine jm_of pl_X11 rfl (Nat.le_of_ble_eq_true rfl) ?_
  show J MX11_linesOf 2 w 0 [(0, .ref a0), (1, .int a1)] [] (some (.int r)) w
  unfold fX11_linesOf at h
  refine jr_aload_n dX11_linesOf_0 rfl 0 rfl ?_
  refine jr_iload_n dX11_linesOf_1 rfl 1 rfl ?_
  refine j_callVv lk_X11_93 wIM_X5_has wSE_X5_has hk_a0 (by decide) rfl (tX5_has hk_a0 (a0 := a1) (t := a0) (w := w)) (by omega) rfl rfl (Nat.le_of_ble_eq_true rfl) dX11_linesOf_2 ?_
  refine jr_if_eq (tgt := 17) (nxt := 8) dX11_linesOf_5 (by decide) rfl (fun hc => ?_) (fun hc => ?_)
  · replace h := drvT hc h
    refine jr_iconst (v := (-1 : Int32)) dX11_linesOf_17 (by decide) ?_
    obtain rfl := drvS1 h
    exact jr_iret rfl dX11_linesOf_18
  · replace h := drvE hc h
    refine jr_aload_n dX11_linesOf_8 rfl 0 rfl ?_
    refine gf_X11_227 (r := (a0 + 4)) rfl hk_a0 rfl dX11_linesOf_9 ?_
    refine jr_iload_n dX11_linesOf_12 rfl 1 rfl ?_
    obtain ⟨hg_1, h⟩ := drvG h
    refine jr_iald (kr_4_4 hk_a0) hg_1 dX11_linesOf_13 ?_
    refine jr_goto (tgt := 18) dX11_linesOf_14 (by decide) ?_
    obtain rfl := drvS1 h
    exact jr_iret rfl dX11_linesOf_18
set_option maxHeartbeats 4000000 in
set_option maxRecDepth 100000 in
theorem tX11_count {a0 : Int32} {w : jWd} {r : Int32}  (h : fX11_count a0 w = some r) : JM yX11_count MX11_count 3 [.ref 0, .int a0] w (some (.int r)) w := by
  refine jm_of pl_X11 rfl (Nat.le_of_ble_eq_true rfl) ?_
  show J MX11_count 3 w 0 [(0, .ref 0), (1, .int a0)] [] (some (.int r)) w
  unfold fX11_count at h
  refine jr_iload_n dX11_count_0 rfl 1 rfl ?_
  refine jr_i2l dX11_count_1 ?_
  refine jr_ldc2 (v := (100 : Int64)) wCC_X11_122 dX11_count_2 ?_
  refine jr_ldc2 (v := (199 : Int64)) wCC_X11_408 dX11_count_5 ?_
  refine j_callSv lk_X11_69 wST_X11_within (tX11_within  (a0 := ((a0).toInt64)) (a1 := (100 : Int64)) (a2 := (199 : Int64)) (w := w)) (by omega) rfl rfl (Nat.le_of_ble_eq_true rfl) dX11_count_8 ?_
  refine jr_if_eq (tgt := 29) (nxt := 14) dX11_count_11 (by decide) rfl (fun hc => ?_) (fun hc => ?_)
  · replace h := drvT hc h
    refine jr_iload_n dX11_count_29 rfl 1 rfl ?_
    refine jr_sipush (v := (200 : Int32)) dX11_count_30 (by decide) ?_
    refine jr_icmp_lt (tgt := 52) (nxt := 36) dX11_count_33 (by decide) rfl (fun hc => ?_) (fun hc => ?_)
    · replace h := drvT hc h
      refine jr_iload_n dX11_count_52 rfl 1 rfl ?_
      by_cases hs_1 : a0 = (0 : Int32)
      · replace h := drvT hs_1 h
        refine jr_tableK (tgt := 120) dX11_count_53 hs_1 (by decide) (by decide) rfl (by decide) ?_
        refine jr_aload_n dX11_count_120 rfl 0 rfl ?_
        refine gf_X11_10 (r := 1) rfl (rfl : kd 0 = 10) rfl dX11_count_121 ?_
        refine gf_X11_198 (r := 2) rfl (rfl : kd 1 = 7) rfl dX11_count_124 ?_
        refine gf_X11_256 rfl (rfl : kd 2 = 4) dX11_count_127 ?_
        obtain rfl := drvS1 h
        exact jr_iret rfl dX11_count_130
      replace h := drvE hs_1 h
      by_cases hs_2 : a0 = (1 : Int32)
      · replace h := drvT hs_2 h
        refine jr_tableK (tgt := 131) dX11_count_53 hs_2 (by decide) (by decide) rfl (by decide) ?_
        refine jr_aload_n dX11_count_131 rfl 0 rfl ?_
        refine gf_X11_10 (r := 1) rfl (rfl : kd 0 = 10) rfl dX11_count_132 ?_
        refine gf_X11_250 (r := 9) rfl (rfl : kd 1 = 7) rfl dX11_count_135 ?_
        refine gf_X11_256 rfl (rfl : kd 9 = 4) dX11_count_138 ?_
        obtain rfl := drvS1 h
        exact jr_iret rfl dX11_count_141
      replace h := drvE hs_2 h
      by_cases hs_3 : a0 = (2 : Int32)
      · replace h := drvT hs_3 h
        refine jr_tableK (tgt := 142) dX11_count_53 hs_3 (by decide) (by decide) rfl (by decide) ?_
        refine jr_aload_n dX11_count_142 rfl 0 rfl ?_
        refine gf_X11_10 (r := 1) rfl (rfl : kd 0 = 10) rfl dX11_count_143 ?_
        refine gf_X11_115 (r := 16) rfl (rfl : kd 1 = 7) rfl dX11_count_146 ?_
        refine gf_X11_227 (r := 20) rfl (rfl : kd 16 = 4) rfl dX11_count_149 ?_
        refine jr_iconst (v := (0 : Int32)) dX11_count_152 (by decide) ?_
        refine jr_ialdL (k := 0) (rfl : kd 20 = 13) (vp_lit (by decide) (by decide)) (by decide) dX11_count_153 ?_
        obtain rfl := drvS1 h
        exact jr_iret rfl dX11_count_154
      replace h := drvE hs_3 h
      by_cases hs_4 : a0 = (3 : Int32)
      · replace h := drvT hs_4 h
        refine jr_tableK (tgt := 155) dX11_count_53 hs_4 (by decide) (by decide) rfl (by decide) ?_
        refine jr_aload_n dX11_count_155 rfl 0 rfl ?_
        refine gf_X11_10 (r := 1) rfl (rfl : kd 0 = 10) rfl dX11_count_156 ?_
        refine gf_X11_276 (r := 41) rfl (rfl : kd 1 = 7) rfl dX11_count_159 ?_
        refine gf_X11_310 rfl (rfl : kd 41 = 0) dX11_count_162 ?_
        obtain rfl := drvS1 h
        exact jr_iret rfl dX11_count_165
      replace h := drvE hs_4 h
      by_cases hs_5 : a0 = (4 : Int32)
      · replace h := drvT hs_5 h
        refine jr_tableK (tgt := 166) dX11_count_53 hs_5 (by decide) (by decide) rfl (by decide) ?_
        refine jr_aload_n dX11_count_166 rfl 0 rfl ?_
        refine gf_X11_10 (r := 1) rfl (rfl : kd 0 = 10) rfl dX11_count_167 ?_
        refine gf_X11_267 (r := 23) rfl (rfl : kd 1 = 7) rfl dX11_count_170 ?_
        refine gf_X11_256 rfl (rfl : kd 23 = 4) dX11_count_173 ?_
        obtain rfl := drvS1 h
        exact jr_iret rfl dX11_count_176
      replace h := drvE hs_5 h
      by_cases hs_6 : a0 = (5 : Int32)
      · replace h := drvT hs_6 h
        refine jr_tableK (tgt := 177) dX11_count_53 hs_6 (by decide) (by decide) rfl (by decide) ?_
        refine jr_aload_n dX11_count_177 rfl 0 rfl ?_
        refine gf_X11_10 (r := 1) rfl (rfl : kd 0 = 10) rfl dX11_count_178 ?_
        refine gf_X11_319 (r := 48) rfl (rfl : kd 1 = 7) rfl dX11_count_181 ?_
        refine gf_X11_323 rfl (rfl : kd 48 = 8) dX11_count_184 ?_
        obtain rfl := drvS1 h
        exact jr_iret rfl dX11_count_187
      replace h := drvE hs_6 h
      by_cases hs_7 : a0 = (6 : Int32)
      · replace h := drvT hs_7 h
        refine jr_tableK (tgt := 188) dX11_count_53 hs_7 (by decide) (by decide) rfl (by decide) ?_
        refine jr_aload_n dX11_count_188 rfl 0 rfl ?_
        refine gf_X11_10 (r := 1) rfl (rfl : kd 0 = 10) rfl dX11_count_189 ?_
        refine gf_X11_319 (r := 48) rfl (rfl : kd 1 = 7) rfl dX11_count_192 ?_
        refine gf_X11_333 rfl (rfl : kd 48 = 8) dX11_count_195 ?_
        obtain rfl := drvS1 h
        exact jr_iret rfl dX11_count_198
      replace h := drvE hs_7 h
      by_cases hs_8 : a0 = (7 : Int32)
      · replace h := drvT hs_8 h
        refine jr_tableK (tgt := 199) dX11_count_53 hs_8 (by decide) (by decide) rfl (by decide) ?_
        refine jr_aload_n dX11_count_199 rfl 0 rfl ?_
        refine gf_X11_10 (r := 1) rfl (rfl : kd 0 = 10) rfl dX11_count_200 ?_
        refine gf_X11_319 (r := 48) rfl (rfl : kd 1 = 7) rfl dX11_count_203 ?_
        refine gf_X11_345 rfl (rfl : kd 48 = 8) dX11_count_206 ?_
        obtain rfl := drvS1 h
        exact jr_iret rfl dX11_count_209
      replace h := drvE hs_8 h
      by_cases hs_9 : a0 = (8 : Int32)
      · replace h := drvT hs_9 h
        refine jr_tableK (tgt := 210) dX11_count_53 hs_9 (by decide) (by decide) rfl (by decide) ?_
        refine jr_aload_n dX11_count_210 rfl 0 rfl ?_
        refine gf_X11_10 (r := 1) rfl (rfl : kd 0 = 10) rfl dX11_count_211 ?_
        refine gf_X11_354 (r := 55) rfl (rfl : kd 1 = 7) rfl dX11_count_214 ?_
        refine gf_X11_358 rfl (rfl : kd 55 = 9) dX11_count_217 ?_
        obtain rfl := drvS1 h
        exact jr_iret rfl dX11_count_220
      replace h := drvE hs_9 h
      by_cases hs_10 : a0 = (9 : Int32)
      · replace h := drvT hs_10 h
        refine jr_tableK (tgt := 221) dX11_count_53 hs_10 (by decide) (by decide) rfl (by decide) ?_
        refine jr_aload_n dX11_count_221 rfl 0 rfl ?_
        refine gf_X11_10 (r := 1) rfl (rfl : kd 0 = 10) rfl dX11_count_222 ?_
        refine gf_X11_171 (r := 32) rfl (rfl : kd 1 = 7) rfl dX11_count_225 ?_
        refine gf_X11_172 rfl (rfl : kd 32 = 1) dX11_count_228 ?_
        obtain rfl := drvS1 h
        exact jr_iret rfl dX11_count_231
      replace h := drvE hs_10 h
      by_cases hs_11 : a0 = (10 : Int32)
      · replace h := drvT hs_11 h
        refine jr_tableK (tgt := 232) dX11_count_53 hs_11 (by decide) (by decide) rfl (by decide) ?_
        refine jr_aload_n dX11_count_232 rfl 0 rfl ?_
        refine gf_X11_10 (r := 1) rfl (rfl : kd 0 = 10) rfl dX11_count_233 ?_
        refine gf_X11_177 (r := 39) rfl (rfl : kd 1 = 7) rfl dX11_count_236 ?_
        refine gf_X11_188 rfl (rfl : kd 39 = 3) dX11_count_239 ?_
        obtain rfl := drvS1 h
        exact jr_iret rfl dX11_count_242
      replace h := drvE hs_11 h
      by_cases hs_12 : a0 = (11 : Int32)
      · replace h := drvT hs_12 h
        refine jr_tableK (tgt := 243) dX11_count_53 hs_12 (by decide) (by decide) rfl (by decide) ?_
        refine jr_aload_n dX11_count_243 rfl 0 rfl ?_
        refine gf_X11_143 rfl (rfl : kd 0 = 10) dX11_count_244 ?_
        obtain rfl := drvS1 h
        exact jr_iret rfl dX11_count_247
      replace h := drvE hs_12 h
      by_cases hs_13 : a0 = (12 : Int32)
      · replace h := drvT hs_13 h
        refine jr_tableK (tgt := 248) dX11_count_53 hs_13 (by decide) (by decide) rfl (by decide) ?_
        refine jr_aload_n dX11_count_248 rfl 0 rfl ?_
        refine gf_X11_10 (r := 1) rfl (rfl : kd 0 = 10) rfl dX11_count_249 ?_
        refine gf_X11_115 (r := 16) rfl (rfl : kd 1 = 7) rfl dX11_count_252 ?_
        refine gf_X11_119 (r := 19) rfl (rfl : kd 16 = 4) rfl dX11_count_255 ?_
        refine jr_iconst (v := (0 : Int32)) dX11_count_258 (by decide) ?_
        refine jr_ialdL (k := 0) (rfl : kd 19 = 13) (vp_lit (by decide) (by decide)) (by decide) dX11_count_259 ?_
        obtain rfl := drvS1 h
        exact jr_iret rfl dX11_count_260
      replace h := drvE hs_13 h
      refine jr_tableOut (tgt := 261) dX11_count_53 (by have a0 := lv_neT hs_1 (show (0 : Int32).toInt = 0 from rfl); have a1 := lv_neT hs_2 (show (1 : Int32).toInt = 1 from rfl); have a2 := lv_neT hs_3 (show (2 : Int32).toInt = 2 from rfl); have a3 := lv_neT hs_4 (show (3 : Int32).toInt = 3 from rfl); have a4 := lv_neT hs_5 (show (4 : Int32).toInt = 4 from rfl); have a5 := lv_neT hs_6 (show (5 : Int32).toInt = 5 from rfl); have a6 := lv_neT hs_7 (show (6 : Int32).toInt = 6 from rfl); have a7 := lv_neT hs_8 (show (7 : Int32).toInt = 7 from rfl); have a8 := lv_neT hs_9 (show (8 : Int32).toInt = 8 from rfl); have a9 := lv_neT hs_10 (show (9 : Int32).toInt = 9 from rfl); have a10 := lv_neT hs_11 (show (10 : Int32).toInt = 10 from rfl); have a11 := lv_neT hs_12 (show (11 : Int32).toInt = 11 from rfl); have a12 := lv_neT hs_13 (show (12 : Int32).toInt = 12 from rfl); omega) (by decide) ?_
      refine jr_iconst (v := (-1 : Int32)) dX11_count_261 (by decide) ?_
      obtain rfl := drvS1 h
      exact jr_iret rfl dX11_count_262
    · replace h := drvE hc h
      refine jr_aload_n dX11_count_36 rfl 0 rfl ?_
      refine gf_X11_10 (r := 1) rfl (rfl : kd 0 = 10) rfl dX11_count_37 ?_
      refine gf_X11_250 (r := 9) rfl (rfl : kd 1 = 7) rfl dX11_count_40 ?_
      refine jr_iload_n dX11_count_43 rfl 1 rfl ?_
      refine jr_sipush (v := (200 : Int32)) dX11_count_44 (by decide) ?_
      refine jr_isub dX11_count_47 ?_
      obtain ⟨r_15, hq_14, h⟩ := drvB h
      refine j_callSv lk_X11_410 wST_X11_linesOf (tX11_linesOf (rfl : kd 9 = 4) hq_14) (by omega) rfl rfl (Nat.le_of_ble_eq_true rfl) dX11_count_48 ?_
      obtain rfl := drvS1 h
      exact jr_iret rfl dX11_count_51
  · replace h := drvE hc h
    refine jr_aload_n dX11_count_14 rfl 0 rfl ?_
    refine gf_X11_10 (r := 1) rfl (rfl : kd 0 = 10) rfl dX11_count_15 ?_
    refine gf_X11_198 (r := 2) rfl (rfl : kd 1 = 7) rfl dX11_count_18 ?_
    refine jr_iload_n dX11_count_21 rfl 1 rfl ?_
    refine jr_bipush (v := (100 : Int32)) dX11_count_22 (by decide) ?_
    refine jr_isub dX11_count_24 ?_
    obtain ⟨r_17, hq_16, h⟩ := drvB h
    refine j_callSv lk_X11_410 wST_X11_linesOf (tX11_linesOf (rfl : kd 2 = 4) hq_16) (by omega) rfl rfl (Nat.le_of_ble_eq_true rfl) dX11_count_25 ?_
    obtain rfl := drvS1 h
    exact jr_iret rfl dX11_count_28
set_option maxHeartbeats 4000000 in
set_option maxRecDepth 100000 in
theorem tX11_fault {a0 : Int32} {w : jWd}  : JM yX11_fault MX11_fault 1 [.ref 0, .int a0] w (some (.int (fX11_fault a0 w))) w := by
  refine jm_of pl_X11 rfl (Nat.le_of_ble_eq_true rfl) ?_
  show J MX11_fault 1 w 0 [(0, .ref 0), (1, .int a0)] [] (some (.int (fX11_fault a0 w))) w
  generalize h : (fX11_fault a0 w) = r
  unfold fX11_fault at h
  refine jr_iload_n dX11_fault_0 rfl 1 rfl ?_
  refine jr_if_ne (tgt := 12) (nxt := 4) dX11_fault_1 (by decide) rfl (fun hc => ?_) (fun hc => ?_)
  · replace h := drvE hc h
    refine jr_iload_n dX11_fault_12 rfl 1 rfl ?_
    refine jr_iconst (v := (1 : Int32)) dX11_fault_13 (by decide) ?_
    refine jr_icmp_ne (tgt := 37) (nxt := 17) dX11_fault_14 (by decide) rfl (fun hc => ?_) (fun hc => ?_)
    · replace h := drvE hc h
      refine jr_iconst (v := (-1 : Int32)) dX11_fault_37 (by decide) ?_
      subst h
      exact jr_iret rfl dX11_fault_38
    · replace h := drvT hc h
      refine jr_aload_n dX11_fault_17 rfl 0 rfl ?_
      refine gf_X11_45 (r := 189) rfl (rfl : kd 0 = 10) rfl dX11_fault_18 ?_
      refine gf_X11_160 rfl (rfl : kd 189 = 5) dX11_fault_21 ?_
      refine jr_if_eq (tgt := 37) (nxt := 27) dX11_fault_24 (by decide) rfl (fun hc => ?_) (fun hc => ?_)
      · replace h := drvT hc h
        refine jr_iconst (v := (-1 : Int32)) dX11_fault_37 (by decide) ?_
        subst h
        exact jr_iret rfl dX11_fault_38
      · replace h := drvE hc h
        refine jr_aload_n dX11_fault_27 rfl 0 rfl ?_
        refine gf_X11_45 (r := 189) rfl (rfl : kd 0 = 10) rfl dX11_fault_28 ?_
        refine gf_X11_191 rfl (rfl : kd 189 = 5) dX11_fault_31 ?_
        refine jr_goto (tgt := 38) dX11_fault_34 (by decide) ?_
        subst h
        exact jr_iret rfl dX11_fault_38
  · replace h := drvT hc h
    refine jr_aload_n dX11_fault_4 rfl 0 rfl ?_
    refine gf_X11_45 (r := 189) rfl (rfl : kd 0 = 10) rfl dX11_fault_5 ?_
    refine gf_X11_160 rfl (rfl : kd 189 = 5) dX11_fault_8 ?_
    subst h
    exact jr_iret rfl dX11_fault_11
set_option maxHeartbeats 4000000 in
set_option maxRecDepth 100000 in
theorem hbX11_feedInt_3 {n : Nat} {p1 : Int32} {w' : jWd} {rec : Int32 → jWd → Option jWd} 
    (hrec : ∀ (x2 : Int32) (w : jWd) , rec x2 w = some w' → J MX11_feedInt 1 w 3 [(0, .ref 0), (1, .int p1), (2, .int x2)] [] none w') : ∀ (x2 : Int32) (w : jWd) , bX11_feedInt_3 n p1 rec x2 w = some w' → J MX11_feedInt 1 w 3 [(0, .ref 0), (1, .int p1), (2, .int x2)] [] none w' := by
  intro x2 w h
  unfold bX11_feedInt_3 at h
  refine jr_iload_n dX11_feedInt_3 rfl 2 rfl ?_
  refine jr_if_lt (tgt := 48) (nxt := 7) dX11_feedInt_4 (by decide) rfl (fun hc => ?_) (fun hc => ?_)
  · replace h := drvT hc h
    obtain rfl := drvS1 h
    exact jr_vret rfl dX11_feedInt_48
  · replace h := drvE hc h
    refine jr_aload_n dX11_feedInt_7 rfl 0 rfl ?_
    refine gf_X11_143 rfl (rfl : kd 0 = 10) dX11_feedInt_8 ?_
    refine jr_aload_n dX11_feedInt_11 rfl 0 rfl ?_
    refine gf_X11_49 (r := 202) rfl (rfl : kd 0 = 10) rfl dX11_feedInt_12 ?_
    refine jr_alenL (v := (400 : Int32)) (rfl : kd 202 = 12) (by decide) (by decide) (by decide) dX11_feedInt_15 ?_
    refine jr_icmp_ge (tgt := 42) (nxt := 19) dX11_feedInt_16 (by decide) rfl (fun hc => ?_) (fun hc => ?_)
    · replace h := drvT hc h
      refine jr_iincN (c := (-8 : Int32)) (lv' := fun (x2_1 : Int32) => [(2, .int x2_1), (0, .ref 0), (1, .int p1)]) dX11_feedInt_42 (by decide) 2 rfl (by decide) (fun _ => rfl) (fun x2_1 e_2 => ?_)
      replace h := drvL e_2 h
      refine jr_goto (tgt := 3) dX11_feedInt_45 (by decide) ?_
      refine jr_sub [1, 2, 0] rfl ?_
      exact hrec _ _ h
    · replace h := drvE hc h
      refine jr_aload_n dX11_feedInt_19 rfl 0 rfl ?_
      refine gf_X11_49 (r := 202) rfl (rfl : kd 0 = 10) rfl dX11_feedInt_20 ?_
      refine jr_aload_n dX11_feedInt_23 rfl 0 rfl ?_
      refine gf_X11_143 rfl (rfl : kd 0 = 10) dX11_feedInt_24 ?_
      refine jr_iload_n dX11_feedInt_27 rfl 1 rfl ?_
      refine jr_iload_n dX11_feedInt_28 rfl 2 rfl ?_
      refine jr_iushr dX11_feedInt_29 ?_
      refine jr_i2b dX11_feedInt_30 ?_
      obtain ⟨hg_5, h⟩ := drvG h
      refine jr_bast (rfl : kd 202 = 12) hg_5 dX11_feedInt_31 ?_
      refine j_nmw (fun w_3 e_4 => ?_)
      replace h := drvL e_4 h
      refine jr_aload_n dX11_feedInt_32 rfl 0 rfl ?_
      refine jr_dup dX11_feedInt_33 rfl ?_
      refine gf_X11_143 rfl (rfl : kd 0 = 10) dX11_feedInt_34 ?_
      refine jr_iconst (v := (1 : Int32)) dX11_feedInt_37 (by decide) ?_
      refine jr_iadd dX11_feedInt_38 ?_
      refine pf_X11_143 rfl (rfl : kd 0 = 10) dX11_feedInt_39 ?_
      refine j_nmw (fun w_6 e_7 => ?_)
      replace h := drvL e_7 h
      refine jr_iincN (c := (-8 : Int32)) (lv' := fun (x2_8 : Int32) => [(2, .int x2_8), (0, .ref 0), (1, .int p1)]) dX11_feedInt_42 (by decide) 2 rfl (by decide) (fun _ => rfl) (fun x2_8 e_9 => ?_)
      replace h := drvL e_9 h
      refine jr_goto (tgt := 3) dX11_feedInt_45 (by decide) ?_
      refine jr_sub [1, 2, 0] rfl ?_
      exact hrec _ _ h
theorem hlX11_feedInt_3 {n : Nat} {p1 : Int32} {w' : jWd}  : ∀ (c : Nat) (x2 : Int32) (w : jWd) , lX11_feedInt_3 n p1 c x2 w = some w' → J MX11_feedInt 1 w 3 [(0, .ref 0), (1, .int p1), (2, .int x2)] [] none w' := by
  intro c
  induction c with
  | zero => intro x2 w h; cases h
  | succ c ih => intro x2 w h; exact hbX11_feedInt_3 (n := n) ih _ _ h
set_option maxHeartbeats 4000000 in
set_option maxRecDepth 100000 in
theorem tX11_feedInt {n : Nat} {a0 : Int32} {w : jWd} {w' : jWd}  (h : fX11_feedInt n a0 w = some w') : JM yX11_feedInt MX11_feedInt 1 [.ref 0, .int a0] w none w' := by
  refine jm_of pl_X11 rfl (Nat.le_of_ble_eq_true rfl) ?_
  show J MX11_feedInt 1 w 0 [(0, .ref 0), (1, .int a0)] [] none w'
  unfold fX11_feedInt at h
  refine jr_bipush (v := (24 : Int32)) dX11_feedInt_0 (by decide) ?_
  refine jr_istore_n (lv' := [(2, .int (24 : Int32)), (0, .ref 0), (1, .int a0)]) dX11_feedInt_2 rfl (by decide) rfl ?_
  refine jr_sub [1, 2, 0] rfl ?_
  refine hlX11_feedInt_3   _ _ _ h
set_option maxHeartbeats 4000000 in
set_option maxRecDepth 100000 in
theorem tX11_feed {n : Nat} {a0 : Int32} {a1 : Int32} {a2 : Int32} {a3 : Int32} {a4 : Int32} {w : jWd} {r : Int32} {w' : jWd}  (h : fX11_feed n a0 a1 a2 a3 a4 w = some (r, w')) : JM yX11_feed MX11_feed 2 [.ref 0, .int a0, .int a1, .int a2, .int a3, .int a4] w (some (.int r)) w' := by
  refine jm_of pl_X11 rfl (Nat.le_of_ble_eq_true rfl) ?_
  show J MX11_feed 2 w 0 [(0, .ref 0), (1, .int a0), (2, .int a1), (3, .int a2), (4, .int a3), (5, .int a4)] [] (some (.int r)) w'
  unfold fX11_feed at h
  refine jr_aload_n dX11_feed_0 rfl 0 rfl ?_
  refine gf_X11_143 rfl (rfl : kd 0 = 10) dX11_feed_1 ?_
  refine jr_bipush (v := (20 : Int32)) dX11_feed_4 (by decide) ?_
  refine jr_iadd dX11_feed_6 ?_
  refine jr_sipush (v := (400 : Int32)) dX11_feed_7 (by decide) ?_
  refine jr_icmp_le (tgt := 20) (nxt := 13) dX11_feed_10 (by decide) rfl (fun hc => ?_) (fun hc => ?_)
  · replace h := drvT hc h
    refine jr_aload_n dX11_feed_20 rfl 0 rfl ?_
    refine jr_iload_n dX11_feed_21 rfl 1 rfl ?_
    obtain ⟨w_2, hq_1, h⟩ := drvB h
    refine j_callVn lk_X11_146 wIM_X11_feedInt wSE_X11_feedInt (rfl : kd 0 = 10) (by decide) rfl (tX11_feedInt  hq_1) (by omega) rfl rfl (Nat.le_of_ble_eq_true rfl) dX11_feed_22 ?_
    refine jr_aload_n dX11_feed_25 rfl 0 rfl ?_
    refine jr_iload_n dX11_feed_26 rfl 2 rfl ?_
    obtain ⟨w_4, hq_3, h⟩ := drvB h
    refine j_callVn lk_X11_146 wIM_X11_feedInt wSE_X11_feedInt (rfl : kd 0 = 10) (by decide) rfl (tX11_feedInt  hq_3) (by omega) rfl rfl (Nat.le_of_ble_eq_true rfl) dX11_feed_27 ?_
    refine jr_aload_n dX11_feed_30 rfl 0 rfl ?_
    refine jr_iload_n dX11_feed_31 rfl 3 rfl ?_
    obtain ⟨w_6, hq_5, h⟩ := drvB h
    refine j_callVn lk_X11_146 wIM_X11_feedInt wSE_X11_feedInt (rfl : kd 0 = 10) (by decide) rfl (tX11_feedInt  hq_5) (by omega) rfl rfl (Nat.le_of_ble_eq_true rfl) dX11_feed_32 ?_
    refine jr_aload_n dX11_feed_35 rfl 0 rfl ?_
    refine jr_iload dX11_feed_36 4 rfl ?_
    obtain ⟨w_8, hq_7, h⟩ := drvB h
    refine j_callVn lk_X11_146 wIM_X11_feedInt wSE_X11_feedInt (rfl : kd 0 = 10) (by decide) rfl (tX11_feedInt  hq_7) (by omega) rfl rfl (Nat.le_of_ble_eq_true rfl) dX11_feed_38 ?_
    refine jr_aload_n dX11_feed_41 rfl 0 rfl ?_
    refine jr_iload dX11_feed_42 5 rfl ?_
    obtain ⟨w_10, hq_9, h⟩ := drvB h
    refine j_callVn lk_X11_146 wIM_X11_feedInt wSE_X11_feedInt (rfl : kd 0 = 10) (by decide) rfl (tX11_feedInt  hq_9) (by omega) rfl rfl (Nat.le_of_ble_eq_true rfl) dX11_feed_44 ?_
    refine jr_aload_n dX11_feed_47 rfl 0 rfl ?_
    refine gf_X11_143 rfl (rfl : kd 0 = 10) dX11_feed_48 ?_
    obtain ⟨rfl, rfl⟩ := drvS2 h
    exact jr_iret rfl dX11_feed_51
  · replace h := drvE hc h
    refine jr_aload_n dX11_feed_13 rfl 0 rfl ?_
    refine jr_bipush (v := (-4 : Int32)) dX11_feed_14 (by decide) ?_
    obtain ⟨r_13, w_12, hq_11, h⟩ := drvB2 h
    refine j_callVv lk_X11_61 wIM_X11_refuse wSE_X11_refuse (rfl : kd 0 = 10) (by decide) rfl (tX11_refuse  hq_11) (by omega) rfl rfl (Nat.le_of_ble_eq_true rfl) dX11_feed_16 ?_
    obtain ⟨rfl, rfl⟩ := drvS2 h
    exact jr_iret rfl dX11_feed_19
set_option maxHeartbeats 4000000 in
set_option maxRecDepth 100000 in
theorem tX11_free {a0 : Int32} {a1 : Int32} {w : jWd} {r : Int32} {w' : jWd}  (h : fX11_free a0 a1 w = some (r, w')) : JM yX11_free MX11_free 2 [.ref 0, .int a0, .int a1] w (some (.int r)) w' := by
  refine jm_of pl_X11 rfl (Nat.le_of_ble_eq_true rfl) ?_
  show J MX11_free 2 w 0 [(0, .ref 0), (1, .int a0), (2, .int a1)] [] (some (.int r)) w'
  unfold fX11_free at h
  refine jr_iload_n dX11_free_0 rfl 2 rfl ?_
  refine jr_i2l dX11_free_1 ?_
  refine jr_lconst (v := (0 : Int64)) dX11_free_2 rfl ?_
  refine jr_ldc2 (v := (9999 : Int64)) wCC_X11_113 dX11_free_3 ?_
  refine j_callSv lk_X11_69 wST_X11_within (tX11_within  (a0 := ((a1).toInt64)) (a1 := (0 : Int64)) (a2 := (9999 : Int64)) (w := w)) (by omega) rfl rfl (Nat.le_of_ble_eq_true rfl) dX11_free_6 ?_
  obtain ⟨j23_1, ej23_1, h⟩ := drvF h
  have hj23_1 : ∀ (_ : Unit), j23_1 = some (r, w') → J MX11_free 2 w 23 [(0, .ref 0)] [] (some (.int r)) w' := by
    intro _ h
    rw [ej23_1] at h
    try dsimp only at h
    refine jr_aload_n dX11_free_23 rfl 0 rfl ?_
    refine jr_bipush (v := (-3 : Int32)) dX11_free_24 (by decide) ?_
    obtain ⟨r_4, w_3, hq_2, h⟩ := drvB2 h
    refine j_callVv lk_X11_61 wIM_X11_refuse wSE_X11_refuse (rfl : kd 0 = 10) (by decide) rfl (tX11_refuse  hq_2) (by omega) rfl rfl (Nat.le_of_ble_eq_true rfl) dX11_free_26 ?_
    obtain ⟨rfl, rfl⟩ := drvS2 h
    exact jr_iret rfl dX11_free_29
  refine jr_if_eq (tgt := 23) (nxt := 12) dX11_free_9 (by decide) rfl (fun hc => ?_) (fun hc => ?_)
  · replace h := drvT hc h
    refine jr_sub [0] rfl ?_
    exact (hj23_1 ()) h
  · replace h := drvE hc h
    refine jr_iload_n dX11_free_12 rfl 1 rfl ?_
    refine jr_i2l dX11_free_13 ?_
    refine jr_lconst (v := (0 : Int64)) dX11_free_14 rfl ?_
    refine jr_iload_n dX11_free_15 rfl 2 rfl ?_
    refine jr_i2l dX11_free_16 ?_
    refine j_callSv lk_X11_69 wST_X11_within (tX11_within  (a0 := ((a0).toInt64)) (a1 := (0 : Int64)) (a2 := ((a1).toInt64)) (w := w)) (by omega) rfl rfl (Nat.le_of_ble_eq_true rfl) dX11_free_17 ?_
    refine jr_if_ne (tgt := 30) (nxt := 23) dX11_free_20 (by decide) rfl (fun hc => ?_) (fun hc => ?_)
    · replace h := drvE hc h
      refine jr_aload_n dX11_free_30 rfl 0 rfl ?_
      refine gf_X11_10 (r := 1) rfl (rfl : kd 0 = 10) rfl dX11_free_31 ?_
      refine gf_X11_319 (r := 48) rfl (rfl : kd 1 = 7) rfl dX11_free_34 ?_
      refine gf_X11_345 rfl (rfl : kd 48 = 8) dX11_free_37 ?_
      refine jr_bipush (v := (8 : Int32)) dX11_free_40 (by decide) ?_
      refine jr_icmp_lt (tgt := 52) (nxt := 45) dX11_free_42 (by decide) rfl (fun hc => ?_) (fun hc => ?_)
      · replace h := drvT hc h
        refine jr_aload_n dX11_free_52 rfl 0 rfl ?_
        refine gf_X11_10 (r := 1) rfl (rfl : kd 0 = 10) rfl dX11_free_53 ?_
        refine gf_X11_319 (r := 48) rfl (rfl : kd 1 = 7) rfl dX11_free_56 ?_
        refine jr_iload_n dX11_free_59 rfl 1 rfl ?_
        refine jr_iload_n dX11_free_60 rfl 2 rfl ?_
        obtain ⟨r_7, w_6, hq_5, h⟩ := drvB2 h
        refine j_callVv lk_X11_348 wIM_X9_leave wSE_X9_leave (rfl : kd 48 = 8) (by decide) rfl (tX9_leave (rfl : kd 48 = 8) hq_5) (by omega) rfl rfl (Nat.le_of_ble_eq_true rfl) dX11_free_61 ?_
        obtain ⟨rfl, rfl⟩ := drvS2 h
        exact jr_iret rfl dX11_free_64
      · replace h := drvE hc h
        refine jr_aload_n dX11_free_45 rfl 0 rfl ?_
        refine jr_bipush (v := (-4 : Int32)) dX11_free_46 (by decide) ?_
        obtain ⟨r_10, w_9, hq_8, h⟩ := drvB2 h
        refine j_callVv lk_X11_61 wIM_X11_refuse wSE_X11_refuse (rfl : kd 0 = 10) (by decide) rfl (tX11_refuse  hq_8) (by omega) rfl rfl (Nat.le_of_ble_eq_true rfl) dX11_free_48 ?_
        obtain ⟨rfl, rfl⟩ := drvS2 h
        exact jr_iret rfl dX11_free_51
    · replace h := drvT hc h
      refine jr_sub [0] rfl ?_
      exact (hj23_1 ()) h
set_option maxHeartbeats 4000000 in
set_option maxRecDepth 100000 in
theorem hbX11_glen_36 {n : Nat} {p1 : Int32} {p2 : Int32} {r : Int32} {w' : jWd} {rec : Int32 → Int32 → jWd → Option (Int32 × jWd)} 
    (hrec : ∀ (x3 : Int32) (x4 : Int32) (w : jWd) , rec x3 x4 w = some (r, w') → J MX11_glen 7 w 36 [(0, .ref 0), (1, .int p1), (2, .int p2), (3, .int x3), (4, .int x4)] [] (some (.int r)) w') : ∀ (x3 : Int32) (x4 : Int32) (w : jWd) , bX11_glen_36 n p1 p2 rec x3 x4 w = some (r, w') → J MX11_glen 7 w 36 [(0, .ref 0), (1, .int p1), (2, .int p2), (3, .int x3), (4, .int x4)] [] (some (.int r)) w' := by
  intro x3 x4 w h
  unfold bX11_glen_36 at h
  refine jr_iload dX11_glen_36 4 rfl ?_
  refine jr_aload_n dX11_glen_38 rfl 0 rfl ?_
  refine gf_X11_10 (r := 1) rfl (rfl : kd 0 = 10) rfl dX11_glen_39 ?_
  refine gf_X11_276 (r := 41) rfl (rfl : kd 1 = 7) rfl dX11_glen_42 ?_
  refine gf_X11_310 rfl (rfl : kd 41 = 0) dX11_glen_45 ?_
  refine jr_icmp_ge (tgt := 90) (nxt := 51) dX11_glen_48 (by decide) rfl (fun hc => ?_) (fun hc => ?_)
  · replace h := drvT hc h
    refine jr_iload_n dX11_glen_90 rfl 3 rfl ?_
    obtain ⟨rfl, rfl⟩ := drvS2 h
    exact jr_iret rfl dX11_glen_91
  · replace h := drvE hc h
    refine jr_aload_n dX11_glen_51 rfl 0 rfl ?_
    refine gf_X11_10 (r := 1) rfl (rfl : kd 0 = 10) rfl dX11_glen_52 ?_
    refine gf_X11_276 (r := 41) rfl (rfl : kd 1 = 7) rfl dX11_glen_55 ?_
    refine gf_X11_311 (r := 42) rfl (rfl : kd 41 = 0) rfl dX11_glen_58 ?_
    refine jr_iload dX11_glen_61 4 rfl ?_
    obtain ⟨hg_5, h⟩ := drvG h
    refine jr_iald (rfl : kd 42 = 13) hg_5 dX11_glen_63 ?_
    refine jr_iload_n dX11_glen_64 rfl 1 rfl ?_
    refine jr_icmp_ne (tgt := 84) (nxt := 68) dX11_glen_65 (by decide) rfl (fun hc => ?_) (fun hc => ?_)
    · replace h := drvE hc h
      refine jr_iincN (c := (1 : Int32)) (lv' := fun (x4_6 : Int32) => [(4, .int x4_6), (0, .ref 0), (1, .int p1), (2, .int p2), (3, .int x3)]) dX11_glen_84 (by decide) 4 rfl (by decide) (fun _ => rfl) (fun x4_6 e_7 => ?_)
      replace h := drvL e_7 h
      refine jr_goto (tgt := 36) dX11_glen_87 (by decide) ?_
      refine jr_sub [1, 2, 3, 4, 0] rfl ?_
      exact hrec _ _ _ h
    · replace h := drvT hc h
      refine jr_aload_n dX11_glen_68 rfl 0 rfl ?_
      refine gf_X11_31 (r := 182) rfl (rfl : kd 0 = 10) rfl dX11_glen_69 ?_
      refine jr_iload dX11_glen_72 4 rfl ?_
      refine jr_iload_n dX11_glen_74 rfl 2 rfl ?_
      obtain ⟨r_10, w_9, hq_8, h⟩ := drvB2 h
      refine j_callVv lk_X11_314 wIM_X2_isCounted wSE_X2_isCounted (rfl : kd 182 = 2) (by decide) rfl (tX2_isCounted  hq_8) (by omega) rfl rfl (Nat.le_of_ble_eq_true rfl) dX11_glen_75 ?_
      refine jr_if_eq (tgt := 84) (nxt := 81) dX11_glen_78 (by decide) rfl (fun hc => ?_) (fun hc => ?_)
      · replace h := drvT hc h
        refine jr_iincN (c := (1 : Int32)) (lv' := fun (x4_11 : Int32) => [(4, .int x4_11), (0, .ref 0), (1, .int p1), (2, .int p2), (3, .int x3)]) dX11_glen_84 (by decide) 4 rfl (by decide) (fun _ => rfl) (fun x4_11 e_12 => ?_)
        replace h := drvL e_12 h
        refine jr_goto (tgt := 36) dX11_glen_87 (by decide) ?_
        refine jr_sub [1, 2, 3, 4, 0] rfl ?_
        exact hrec _ _ _ h
      · replace h := drvE hc h
        refine jr_iincN (c := (1 : Int32)) (lv' := fun (x3_13 : Int32) => [(3, .int x3_13), (0, .ref 0), (1, .int p1), (2, .int p2), (4, .int x4)]) dX11_glen_81 (by decide) 3 rfl (by decide) (fun _ => rfl) (fun x3_13 e_14 => ?_)
        replace h := drvL e_14 h
        refine jr_iincN (c := (1 : Int32)) (lv' := fun (x4_15 : Int32) => [(4, .int x4_15), (3, .int x3_13), (0, .ref 0), (1, .int p1), (2, .int p2)]) dX11_glen_84 (by decide) 4 rfl (by decide) (fun _ => rfl) (fun x4_15 e_16 => ?_)
        replace h := drvL e_16 h
        refine jr_goto (tgt := 36) dX11_glen_87 (by decide) ?_
        refine jr_sub [2, 3, 4, 1, 0] rfl ?_
        exact hrec _ _ _ h
theorem hlX11_glen_36 {n : Nat} {p1 : Int32} {p2 : Int32} {r : Int32} {w' : jWd}  : ∀ (c : Nat) (x3 : Int32) (x4 : Int32) (w : jWd) , lX11_glen_36 n p1 p2 c x3 x4 w = some (r, w') → J MX11_glen 7 w 36 [(0, .ref 0), (1, .int p1), (2, .int p2), (3, .int x3), (4, .int x4)] [] (some (.int r)) w' := by
  intro c
  induction c with
  | zero => intro x3 x4 w h; cases h
  | succ c ih => intro x3 x4 w h; exact hbX11_glen_36 (n := n) ih _ _ _ h
set_option maxHeartbeats 4000000 in
set_option maxRecDepth 100000 in
theorem tX11_glen {n : Nat} {a0 : Int32} {a1 : Int32} {w : jWd} {r : Int32} {w' : jWd}  (h : fX11_glen n a0 a1 w = some (r, w')) : JM yX11_glen MX11_glen 7 [.ref 0, .int a0, .int a1] w (some (.int r)) w' := by
  refine jm_of pl_X11 rfl (Nat.le_of_ble_eq_true rfl) ?_
  show J MX11_glen 7 w 0 [(0, .ref 0), (1, .int a0), (2, .int a1)] [] (some (.int r)) w'
  unfold fX11_glen at h
  refine jr_iload_n dX11_glen_0 rfl 1 rfl ?_
  refine jr_i2l dX11_glen_1 ?_
  refine jr_lconst (v := (0 : Int64)) dX11_glen_2 rfl ?_
  refine jr_ldc2 (v := (15 : Int64)) wCC_X11_306 dX11_glen_3 ?_
  refine j_callSv lk_X11_69 wST_X11_within (tX11_within  (a0 := ((a0).toInt64)) (a1 := (0 : Int64)) (a2 := (15 : Int64)) (w := w)) (by omega) rfl rfl (Nat.le_of_ble_eq_true rfl) dX11_glen_6 ?_
  obtain ⟨j24_1, ej24_1, h⟩ := drvF h
  have hj24_1 : ∀ (_ : Unit), j24_1 = some (r, w') → J MX11_glen 7 w 24 [(0, .ref 0)] [] (some (.int r)) w' := by
    intro _ h
    rw [ej24_1] at h
    try dsimp only at h
    refine jr_aload_n dX11_glen_24 rfl 0 rfl ?_
    refine jr_bipush (v := (-2 : Int32)) dX11_glen_25 (by decide) ?_
    obtain ⟨r_4, w_3, hq_2, h⟩ := drvB2 h
    refine j_callVv lk_X11_61 wIM_X11_refuse wSE_X11_refuse (rfl : kd 0 = 10) (by decide) rfl (tX11_refuse  hq_2) (by omega) rfl rfl (Nat.le_of_ble_eq_true rfl) dX11_glen_27 ?_
    obtain ⟨rfl, rfl⟩ := drvS2 h
    exact jr_iret rfl dX11_glen_30
  refine jr_if_eq (tgt := 24) (nxt := 12) dX11_glen_9 (by decide) rfl (fun hc => ?_) (fun hc => ?_)
  · replace h := drvT hc h
    refine jr_sub [0] rfl ?_
    exact (hj24_1 ()) h
  · replace h := drvE hc h
    refine jr_iload_n dX11_glen_12 rfl 2 rfl ?_
    refine jr_i2l dX11_glen_13 ?_
    refine jr_lconst (v := (0 : Int64)) dX11_glen_14 rfl ?_
    refine jr_ldc2 (v := (3 : Int64)) wCC_X11_308 dX11_glen_15 ?_
    refine j_callSv lk_X11_69 wST_X11_within (tX11_within  (a0 := ((a1).toInt64)) (a1 := (0 : Int64)) (a2 := (3 : Int64)) (w := w)) (by omega) rfl rfl (Nat.le_of_ble_eq_true rfl) dX11_glen_18 ?_
    refine jr_if_ne (tgt := 31) (nxt := 24) dX11_glen_21 (by decide) rfl (fun hc => ?_) (fun hc => ?_)
    · replace h := drvE hc h
      refine jr_iconst (v := (0 : Int32)) dX11_glen_31 (by decide) ?_
      refine jr_istore_n (lv' := [(3, .int (0 : Int32)), (0, .ref 0), (1, .int a0), (2, .int a1)]) dX11_glen_32 rfl (by decide) rfl ?_
      refine jr_iconst (v := (0 : Int32)) dX11_glen_33 (by decide) ?_
      refine jr_istore (lv' := [(4, .int (0 : Int32)), (3, .int (0 : Int32)), (0, .ref 0), (1, .int a0), (2, .int a1)]) dX11_glen_34 (by decide) rfl ?_
      refine jr_sub [2, 3, 4, 1, 0] rfl ?_
      refine hlX11_glen_36   _ _ _ _ h
    · replace h := drvT hc h
      refine jr_sub [0] rfl ?_
      exact (hj24_1 ()) h
set_option maxHeartbeats 4000000 in
set_option maxRecDepth 100000 in
theorem tX11_imageAt {a0 : Int32} {w : jWd}  : JM yX11_imageAt MX11_imageAt 1 [.ref 0, .int a0] w (some (.ref (fX11_imageAt a0))) w := by
  refine jm_of pl_X11 rfl (Nat.le_of_ble_eq_true rfl) ?_
  show J MX11_imageAt 1 w 0 [(0, .ref 0), (1, .int a0)] [] (some (.ref (fX11_imageAt a0))) w
  generalize h : (fX11_imageAt a0) = r
  unfold fX11_imageAt at h
  refine jr_iload_n dX11_imageAt_0 rfl 1 rfl ?_
  refine jr_if_ne (tgt := 11) (nxt := 4) dX11_imageAt_1 (by decide) rfl (fun hc => ?_) (fun hc => ?_)
  · replace h := drvE hc h
    refine jr_aload_n dX11_imageAt_11 rfl 0 rfl ?_
    refine gf_X11_19 (r := 121) rfl (rfl : kd 0 = 10) rfl dX11_imageAt_12 ?_
    subst h
    exact jr_aret rfl (Or.inl ⟨_, rfl⟩) dX11_imageAt_15
  · replace h := drvT hc h
    refine jr_aload_n dX11_imageAt_4 rfl 0 rfl ?_
    refine gf_X11_16 (r := 61) rfl (rfl : kd 0 = 10) rfl dX11_imageAt_5 ?_
    refine jr_goto (tgt := 15) dX11_imageAt_8 (by decide) ?_
    subst h
    exact jr_aret rfl (Or.inl ⟨_, rfl⟩) dX11_imageAt_15
set_option maxHeartbeats 4000000 in
set_option maxRecDepth 100000 in
theorem tX11_image {a0 : Int32} {w : jWd} {r : Int32} {w' : jWd}  (h : fX11_image a0 w = some (r, w')) : JM yX11_image MX11_image 3 [.ref 0, .int a0] w (some (.int r)) w' := by
  refine jm_of pl_X11 rfl (Nat.le_of_ble_eq_true rfl) ?_
  show J MX11_image 3 w 0 [(0, .ref 0), (1, .int a0)] [] (some (.int r)) w'
  unfold fX11_image at h
  refine jr_iload_n dX11_image_0 rfl 1 rfl ?_
  refine j_callSv lk_X11_208 wST_X11_isHalf (tX11_isHalf  (a0 := a0) (w := w)) (by omega) rfl rfl (Nat.le_of_ble_eq_true rfl) dX11_image_1 ?_
  refine jr_if_ne (tgt := 14) (nxt := 7) dX11_image_4 (by decide) rfl (fun hc => ?_) (fun hc => ?_)
  · replace h := drvE hc h
    refine jr_aload_n dX11_image_14 rfl 0 rfl ?_
    refine jr_iload_n dX11_image_15 rfl 1 rfl ?_
    refine j_callVv lk_X11_400 wIM_X11_imageAt wSE_X11_imageAt (rfl : kd 0 = 10) (by decide) rfl (tX11_imageAt  (a0 := a0) (w := w)) (by omega) rfl rfl (Nat.le_of_ble_eq_true rfl) dX11_image_16 ?_
    refine j_nma (fun r_1 e_2 => ?_)
    replace h := drvL e_2 h
    have hk_r_1 : kd r_1 = 7 := by rw [e_2]; exact kqX11_imageAt 
    refine jr_aload_n dX11_image_19 rfl 0 rfl ?_
    refine gf_X11_10 (r := 1) rfl (rfl : kd 0 = 10) rfl dX11_image_20 ?_
    obtain ⟨w_4, hq_3, h⟩ := drvB h
    refine j_callVn lk_X11_404 wIM_X8_copy wSE_X8_copy hk_r_1 (by decide) rfl (tX8_copy hk_r_1 (rfl : kd 1 = 7) hq_3) (by omega) rfl rfl (Nat.le_of_ble_eq_true rfl) dX11_image_23 ?_
    refine jr_aload_n dX11_image_26 rfl 0 rfl ?_
    refine gf_X11_22 (r := 181) rfl (rfl : kd 0 = 10) rfl dX11_image_27 ?_
    refine jr_iload_n dX11_image_30 rfl 1 rfl ?_
    refine jr_iconst (v := (1 : Int32)) dX11_image_31 (by decide) ?_
    obtain ⟨hg_7, h⟩ := drvG h
    refine jr_zast (rfl : kd 181 = 15) hg_7 dX11_image_32 ?_
    refine j_nmw (fun w_5 e_6 => ?_)
    replace h := drvL e_6 h
    refine jr_iconst (v := (0 : Int32)) dX11_image_33 (by decide) ?_
    obtain ⟨rfl, rfl⟩ := drvS2 h
    exact jr_iret rfl dX11_image_34
  · replace h := drvT hc h
    refine jr_aload_n dX11_image_7 rfl 0 rfl ?_
    refine jr_bipush (v := (-2 : Int32)) dX11_image_8 (by decide) ?_
    obtain ⟨r_10, w_9, hq_8, h⟩ := drvB2 h
    refine j_callVv lk_X11_61 wIM_X11_refuse wSE_X11_refuse (rfl : kd 0 = 10) (by decide) rfl (tX11_refuse  hq_8) (by omega) rfl rfl (Nat.le_of_ble_eq_true rfl) dX11_image_10 ?_
    obtain ⟨rfl, rfl⟩ := drvS2 h
    exact jr_iret rfl dX11_image_13
set_option maxHeartbeats 4000000 in
set_option maxRecDepth 100000 in
theorem tX11_late {n : Nat} {a0 : Int32} {a1 : Int32} {w : jWd} {r : Int32} {w' : jWd}  (h : fX11_late n a0 a1 w = some (r, w')) : JM yX11_late MX11_late 5 [.ref 0, .int a0, .int a1] w (some (.int r)) w' := by
  refine jm_of pl_X11 rfl (Nat.le_of_ble_eq_true rfl) ?_
  show J MX11_late 5 w 0 [(0, .ref 0), (1, .int a0), (2, .int a1)] [] (some (.int r)) w'
  unfold fX11_late at h
  refine jr_aload_n dX11_late_0 rfl 0 rfl ?_
  refine gf_X11_10 (r := 1) rfl (rfl : kd 0 = 10) rfl dX11_late_1 ?_
  refine gf_X11_198 (r := 2) rfl (rfl : kd 1 = 7) rfl dX11_late_4 ?_
  refine jr_iload_n dX11_late_7 rfl 1 rfl ?_
  refine jr_iload_n dX11_late_8 rfl 2 rfl ?_
  obtain ⟨r_2, hq_1, h⟩ := drvB h
  refine j_callVv lk_X11_133 wIM_X5_has_ wSE_X5_has_ (rfl : kd 2 = 4) (by decide) rfl (tX5_has_ (rfl : kd 2 = 4) hq_1) (by omega) rfl rfl (Nat.le_of_ble_eq_true rfl) dX11_late_9 ?_
  refine jr_if_ne (tgt := 22) (nxt := 15) dX11_late_12 (by decide) rfl (fun hc => ?_) (fun hc => ?_)
  · replace h := drvE hc h
    refine jr_aload_n dX11_late_22 rfl 0 rfl ?_
    refine gf_X11_10 (r := 1) rfl (rfl : kd 0 = 10) rfl dX11_late_23 ?_
    refine jr_iload_n dX11_late_26 rfl 1 rfl ?_
    obtain ⟨r_4, hq_3, h⟩ := drvB h
    refine j_callVv lk_X11_220 wIM_X8_isEarly wSE_X8_isEarly (rfl : kd 1 = 7) (by decide) rfl (tX8_isEarly (rfl : kd 1 = 7) hq_3) (by omega) rfl rfl (Nat.le_of_ble_eq_true rfl) dX11_late_27 ?_
    refine jr_if_eq (tgt := 40) (nxt := 33) dX11_late_30 (by decide) rfl (fun hc => ?_) (fun hc => ?_)
    · replace h := drvT hc h
      refine jr_aload_n dX11_late_40 rfl 0 rfl ?_
      refine gf_X11_10 (r := 1) rfl (rfl : kd 0 = 10) rfl dX11_late_41 ?_
      refine gf_X11_198 (r := 2) rfl (rfl : kd 1 = 7) rfl dX11_late_44 ?_
      refine jr_iload_n dX11_late_47 rfl 1 rfl ?_
      refine jr_iload_n dX11_late_48 rfl 2 rfl ?_
      obtain ⟨r_6, hq_5, h⟩ := drvB h
      refine j_callVv lk_X11_135 wIM_X5_at wSE_X5_at (rfl : kd 2 = 4) (by decide) rfl (tX5_at (rfl : kd 2 = 4) hq_5) (by omega) rfl rfl (Nat.le_of_ble_eq_true rfl) dX11_late_49 ?_
      refine jr_lstore_n (lv' := [(3, .long r_6), (0, .ref 0), (1, .int a0), (2, .int a1)]) dX11_late_52 rfl (by decide) rfl ?_
      refine jr_aload_n dX11_late_53 rfl 1 rfl ?_
      refine gf_X11_31 (r := 182) rfl (rfl : kd 0 = 10) rfl dX11_late_54 ?_
      refine jr_bipush (v := (6 : Int32)) dX11_late_57 (by decide) ?_
      refine jr_lload_n dX11_late_59 rfl 0 rfl ?_
      refine jr_iconst (v := (-1 : Int32)) dX11_late_60 (by decide) ?_
      obtain ⟨r_9, w_8, hq_7, h⟩ := drvB2 h
      refine j_callVv lk_X11_223 wIM_X2_nearest wSE_X2_nearest (rfl : kd 182 = 2) (by decide) rfl (tX2_nearest  hq_7) (by omega) rfl rfl (Nat.le_of_ble_eq_true rfl) dX11_late_61 ?_
      refine jr_aload_n dX11_late_64 rfl 1 rfl ?_
      refine gf_X11_10 (r := 1) rfl (rfl : kd 0 = 10) rfl dX11_late_65 ?_
      refine gf_X11_124 rfl (rfl : kd 1 = 7) dX11_late_68 ?_
      refine jr_icmp_lt (tgt := 76) (nxt := 74) dX11_late_71 (by decide) rfl (fun hc => ?_) (fun hc => ?_)
      · replace h := drvT hc h
        refine jr_aload_n dX11_late_76 rfl 1 rfl ?_
        refine gf_X11_31 (r := 182) rfl (rfl : kd 0 = 10) rfl dX11_late_77 ?_
        refine jr_bipush (v := (8 : Int32)) dX11_late_80 (by decide) ?_
        refine jr_lload_n dX11_late_82 rfl 0 rfl ?_
        refine jr_iconst (v := (-1 : Int32)) dX11_late_83 (by decide) ?_
        obtain ⟨r_12, w_11, hq_10, h⟩ := drvB2 h
        refine j_callVv lk_X11_223 wIM_X2_nearest wSE_X2_nearest (rfl : kd 182 = 2) (by decide) rfl (tX2_nearest  hq_10) (by omega) rfl rfl (Nat.le_of_ble_eq_true rfl) dX11_late_84 ?_
        refine jr_aload_n dX11_late_87 rfl 1 rfl ?_
        refine gf_X11_10 (r := 1) rfl (rfl : kd 0 = 10) rfl dX11_late_88 ?_
        refine gf_X11_124 rfl (rfl : kd 1 = 7) dX11_late_91 ?_
        refine jr_icmp_lt (tgt := 101) (nxt := 97) dX11_late_94 (by decide) rfl (fun hc => ?_) (fun hc => ?_)
        · replace h := drvT hc h
          refine jr_iconst (v := (0 : Int32)) dX11_late_101 (by decide) ?_
          obtain ⟨rfl, rfl⟩ := drvS2 h
          exact jr_iret rfl dX11_late_102
        · replace h := drvE hc h
          refine jr_iconst (v := (2 : Int32)) dX11_late_97 (by decide) ?_
          refine jr_goto (tgt := 102) dX11_late_98 (by decide) ?_
          obtain ⟨rfl, rfl⟩ := drvS2 h
          exact jr_iret rfl dX11_late_102
      · replace h := drvE hc h
        refine jr_iconst (v := (1 : Int32)) dX11_late_74 (by decide) ?_
        obtain ⟨rfl, rfl⟩ := drvS2 h
        exact jr_iret rfl dX11_late_75
    · replace h := drvE hc h
      refine jr_aload_n dX11_late_33 rfl 0 rfl ?_
      refine jr_bipush (v := (-5 : Int32)) dX11_late_34 (by decide) ?_
      obtain ⟨r_15, w_14, hq_13, h⟩ := drvB2 h
      refine j_callVv lk_X11_61 wIM_X11_refuse wSE_X11_refuse (rfl : kd 0 = 10) (by decide) rfl (tX11_refuse  hq_13) (by omega) rfl rfl (Nat.le_of_ble_eq_true rfl) dX11_late_36 ?_
      obtain ⟨rfl, rfl⟩ := drvS2 h
      exact jr_iret rfl dX11_late_39
  · replace h := drvT hc h
    refine jr_aload_n dX11_late_15 rfl 0 rfl ?_
    refine jr_bipush (v := (-2 : Int32)) dX11_late_16 (by decide) ?_
    obtain ⟨r_18, w_17, hq_16, h⟩ := drvB2 h
    refine j_callVv lk_X11_61 wIM_X11_refuse wSE_X11_refuse (rfl : kd 0 = 10) (by decide) rfl (tX11_refuse  hq_16) (by omega) rfl rfl (Nat.le_of_ble_eq_true rfl) dX11_late_18 ?_
    obtain ⟨rfl, rfl⟩ := drvS2 h
    exact jr_iret rfl dX11_late_21
set_option maxHeartbeats 4000000 in
set_option maxRecDepth 100000 in
theorem tX11_like {n : Nat} {a0 : Int64} {a1 : Int64} {w : jWd} {r : Int32} {w' : jWd}  (h : fX11_like n a0 a1 w = some (r, w')) : JM yX11_like MX11_like 4 [.ref 0, .long a0, .long a1] w (some (.int r)) w' := by
  refine jm_of pl_X11 rfl (Nat.le_of_ble_eq_true rfl) ?_
  show J MX11_like 4 w 0 [(0, .ref 0), (1, .long a0), (3, .long a1)] [] (some (.int r)) w'
  unfold fX11_like at h
  refine jr_lload_n dX11_like_0 rfl 1 rfl ?_
  obtain ⟨r_2, hq_1, h⟩ := drvB h
  refine j_callSv lk_X11_97 wST_X4_clean (tX4_clean  hq_1) (by omega) rfl rfl (Nat.le_of_ble_eq_true rfl) dX11_like_1 ?_
  refine jr_lstore (lv' := [(5, .long r_2), (0, .ref 0), (1, .long a0), (3, .long a1)]) dX11_like_4 (by decide) rfl ?_
  refine jr_lload_n dX11_like_6 rfl 3 rfl ?_
  obtain ⟨r_4, hq_3, h⟩ := drvB h
  refine j_callSv lk_X11_97 wST_X4_clean (tX4_clean  hq_3) (by omega) rfl rfl (Nat.le_of_ble_eq_true rfl) dX11_like_7 ?_
  refine jr_lstore (lv' := [(7, .long r_4), (5, .long r_2), (0, .ref 0), (1, .long a0), (3, .long a1)]) dX11_like_10 (by decide) rfl ?_
  refine jr_lload dX11_like_12 1 rfl ?_
  refine jr_lconst (v := (0 : Int64)) dX11_like_14 rfl ?_
  refine jr_lcmp dX11_like_15 ?_
  obtain ⟨j26_5, ej26_5, h⟩ := drvF h
  have hj26_5 : ∀ (_ : Unit), j26_5 = some (r, w') → J MX11_like 4 w 26 [(0, .ref 0)] [] (some (.int r)) w' := by
    intro _ h
    rw [ej26_5] at h
    try dsimp only at h
    refine jr_aload_n dX11_like_26 rfl 0 rfl ?_
    refine jr_bipush (v := (-3 : Int32)) dX11_like_27 (by decide) ?_
    obtain ⟨r_8, w_7, hq_6, h⟩ := drvB2 h
    refine j_callVv lk_X11_61 wIM_X11_refuse wSE_X11_refuse (rfl : kd 0 = 10) (by decide) rfl (tX11_refuse  hq_6) (by omega) rfl rfl (Nat.le_of_ble_eq_true rfl) dX11_like_29 ?_
    obtain ⟨rfl, rfl⟩ := drvS2 h
    exact jr_iret rfl dX11_like_32
  refine jr_if_eq (tgt := 26) (nxt := 19) dX11_like_16 (by decide) rfl (fun hc => ?_) (fun hc => ?_)
  · replace h := drvT hc h
    refine jr_sub [2] rfl ?_
    exact (hj26_5 ()) h
  · replace h := drvE hc h
    refine jr_lload dX11_like_19 0 rfl ?_
    refine jr_lconst (v := (0 : Int64)) dX11_like_21 rfl ?_
    refine jr_lcmp dX11_like_22 ?_
    refine jr_if_ne (tgt := 33) (nxt := 26) dX11_like_23 (by decide) rfl (fun hc => ?_) (fun hc => ?_)
    · replace h := drvE hc h
      refine jr_lload dX11_like_33 1 rfl ?_
      refine jr_lload dX11_like_35 0 rfl ?_
      obtain ⟨r_10, hq_9, h⟩ := drvB h
      refine j_callSv lk_X11_139 wST_X4_alike (tX4_alike  hq_9) (by omega) rfl rfl (Nat.le_of_ble_eq_true rfl) dX11_like_37 ?_
      obtain ⟨rfl, rfl⟩ := drvS2 h
      exact jr_iret rfl dX11_like_40
    · replace h := drvT hc h
      refine jr_sub [2] rfl ?_
      exact (hj26_5 ()) h
set_option maxHeartbeats 4000000 in
set_option maxRecDepth 100000 in
theorem tX11_line {n : Nat} {a0 : Int32} {a1 : Int32} {a2 : Int32} {a3 : Int64} {w : jWd} {r : Int32} {w' : jWd}  (h : fX11_line n a0 a1 a2 a3 w = some (r, w')) : JM yX11_line MX11_line 8 [.ref 0, .int a0, .int a1, .int a2, .long a3] w (some (.int r)) w' := by
  refine jm_of pl_X11 rfl (Nat.le_of_ble_eq_true rfl) ?_
  show J MX11_line 8 w 0 [(0, .ref 0), (1, .int a0), (2, .int a1), (3, .int a2), (4, .long a3)] [] (some (.int r)) w'
  unfold fX11_line at h
  refine jr_iload_n dX11_line_0 rfl 1 rfl ?_
  refine jr_i2l dX11_line_1 ?_
  refine jr_lconst (v := (0 : Int64)) dX11_line_2 rfl ?_
  refine jr_ldc2 (v := (2 : Int64)) wCC_X11_91 dX11_line_3 ?_
  refine j_callSv lk_X11_69 wST_X11_within (tX11_within  (a0 := ((a0).toInt64)) (a1 := (0 : Int64)) (a2 := (2 : Int64)) (w := w)) (by omega) rfl rfl (Nat.le_of_ble_eq_true rfl) dX11_line_6 ?_
  refine jr_if_ne (tgt := 19) (nxt := 12) dX11_line_9 (by decide) rfl (fun hc => ?_) (fun hc => ?_)
  · replace h := drvE hc h
    refine jr_aload_n dX11_line_19 rfl 0 rfl ?_
    refine gf_X11_10 (r := 1) rfl (rfl : kd 0 = 10) rfl dX11_line_20 ?_
    refine jr_iload_n dX11_line_23 rfl 1 rfl ?_
    refine j_callVv lk_X11_77 wIM_X8_pile wSE_X8_pile (rfl : kd 1 = 7) (by decide) rfl (tX8_pile (rfl : kd 1 = 7) (a0 := a0) (t := 1) (w := w)) (by omega) rfl rfl (Nat.le_of_ble_eq_true rfl) dX11_line_24 ?_
    refine j_nma (fun r_1 e_2 => ?_)
    replace h := drvL e_2 h
    have hk_r_1 : kd r_1 = 4 := by rw [e_2]; exact kqX8_pile (rfl : kd 1 = 7)
    refine jr_astore (lv' := [(6, .ref r_1), (0, .ref 0), (1, .int a0), (2, .int a1), (3, .int a2), (4, .long a3)]) dX11_line_27 (by decide) rfl ?_
    refine jr_iload_n dX11_line_29 rfl 2 rfl ?_
    refine jr_iconst (v := (2 : Int32)) dX11_line_30 (by decide) ?_
    obtain ⟨j39_4, ej39_4, h⟩ := drvF h
    have hj39_4 : ∀ (s_3 : Int32), j39_4 s_3 = some (r, w') → J MX11_line 8 w 39 [(0, .ref 0), (1, .int a0), (3, .int a2), (4, .long a3), (6, .ref r_1)] [.int s_3] (some (.int r)) w' := by
      intro s_3 h
      rw [ej39_4] at h
      try dsimp only at h
      refine jr_istore (lv' := [(7, .int s_3), (0, .ref 0), (1, .int a0), (3, .int a2), (4, .long a3), (6, .ref r_1)]) dX11_line_39 (by decide) rfl ?_
      refine jr_aload dX11_line_41 5 rfl ?_
      refine jr_iload dX11_line_43 0 rfl ?_
      refine j_callVv lk_X11_93 wIM_X5_has wSE_X5_has hk_r_1 (by decide) rfl (tX5_has hk_r_1 (a0 := s_3) (t := r_1) (w := w)) (by omega) rfl rfl (Nat.le_of_ble_eq_true rfl) dX11_line_45 ?_
      refine jr_if_ne (tgt := 58) (nxt := 51) dX11_line_48 (by decide) rfl (fun hc => ?_) (fun hc => ?_)
      · replace h := drvE hc h
        refine jr_iload_n dX11_line_58 rfl 2 rfl ?_
        refine jr_iconst (v := (2 : Int32)) dX11_line_59 (by decide) ?_
        obtain ⟨j82_5, ej82_5, h⟩ := drvF h
        have hj82_5 : ∀ (_ : Unit), j82_5 = some (r, w') → J MX11_line 8 w 82 [(0, .ref 0), (1, .int a0), (3, .int a2), (4, .long a3), (6, .ref r_1), (7, .int s_3)] [] (some (.int r)) w' := by
          intro _ h
          rw [ej82_5] at h
          try dsimp only at h
          refine jr_lload dX11_line_82 3 rfl ?_
          obtain ⟨r_7, hq_6, h⟩ := drvB h
          refine j_callSv lk_X11_97 wST_X4_clean (tX4_clean  hq_6) (by omega) rfl rfl (Nat.le_of_ble_eq_true rfl) dX11_line_84 ?_
          refine jr_lstore (lv' := [(8, .long r_7), (0, .ref 0), (1, .int a0), (3, .int a2), (4, .long a3), (6, .ref r_1), (7, .int s_3)]) dX11_line_87 (by decide) rfl ?_
          refine jr_lload dX11_line_89 0 rfl ?_
          refine jr_lconst (v := (0 : Int64)) dX11_line_91 rfl ?_
          refine jr_lcmp dX11_line_92 ?_
          refine jr_if_ne (tgt := 103) (nxt := 96) dX11_line_93 (by decide) rfl (fun hc => ?_) (fun hc => ?_)
          · replace h := drvE hc h
            refine jr_aload dX11_line_103 5 rfl ?_
            refine jr_iload dX11_line_105 6 rfl ?_
            obtain ⟨r_9, hq_8, h⟩ := drvB h
            refine j_callVv lk_X11_103 wIM_X5_isFull_ wSE_X5_isFull_ hk_r_1 (by decide) rfl (tX5_isFull_ hk_r_1 hq_8) (by omega) rfl rfl (Nat.le_of_ble_eq_true rfl) dX11_line_107 ?_
            refine jr_if_eq (tgt := 120) (nxt := 113) dX11_line_110 (by decide) rfl (fun hc => ?_) (fun hc => ?_)
            · replace h := drvT hc h
              refine jr_iload_n dX11_line_120 rfl 2 rfl ?_
              refine jr_if_ne (tgt := 136) (nxt := 124) dX11_line_121 (by decide) rfl (fun hc => ?_) (fun hc => ?_)
              · replace h := drvE hc h
                refine jr_aload dX11_line_136 5 rfl ?_
                refine jr_iload dX11_line_138 6 rfl ?_
                refine jr_iload_n dX11_line_140 rfl 2 rfl ?_
                refine jr_iconst (v := (2 : Int32)) dX11_line_141 (by decide) ?_
                obtain ⟨j150_11, ej150_11, h⟩ := drvF h
                have hj150_11 : ∀ (s_10 : Int32), j150_11 s_10 = some (r, w') → J MX11_line 8 w 150 [(8, .long r_7)] [.int s_10, .int s_3, .ref r_1] (some (.int r)) w' := by
                  intro s_10 h
                  rw [ej150_11] at h
                  try dsimp only at h
                  refine jr_lload dX11_line_150 0 rfl ?_
                  obtain ⟨r_14, w_13, hq_12, h⟩ := drvB2 h
                  refine j_callVv lk_X11_109 wIM_X5_put wSE_X5_put hk_r_1 (by decide) rfl (tX5_put hk_r_1 hq_12) (by omega) rfl rfl (Nat.le_of_ble_eq_true rfl) dX11_line_152 ?_
                  obtain ⟨rfl, rfl⟩ := drvS2 h
                  exact jr_iret rfl dX11_line_155
                refine jr_icmp_ne (tgt := 149) (nxt := 145) dX11_line_142 (by decide) rfl (fun hc => ?_) (fun hc => ?_)
                · replace h := drvE hc h
                  refine jr_iconst (v := (0 : Int32)) dX11_line_149 (by decide) ?_
                  refine jr_sub [0] rfl ?_
                  exact hj150_11 _ h
                · replace h := drvT hc h
                  refine jr_iload_n dX11_line_145 rfl 3 rfl ?_
                  refine jr_goto (tgt := 150) dX11_line_146 (by decide) ?_
                  refine jr_sub [0] rfl ?_
                  exact hj150_11 _ h
              · replace h := drvT hc h
                refine jr_aload_n dX11_line_124 rfl 1 rfl ?_
                refine gf_X11_10 (r := 1) rfl (rfl : kd 0 = 10) rfl dX11_line_125 ?_
                refine jr_iload dX11_line_128 6 rfl ?_
                refine jr_lload dX11_line_130 0 rfl ?_
                obtain ⟨r_17, w_16, hq_15, h⟩ := drvB2 h
                refine j_callVv lk_X11_105 wIM_X8_putIntoSong wSE_X8_putIntoSong (rfl : kd 1 = 7) (by decide) rfl (tX8_putIntoSong (rfl : kd 1 = 7) hq_15) (by omega) rfl rfl (Nat.le_of_ble_eq_true rfl) dX11_line_132 ?_
                obtain ⟨rfl, rfl⟩ := drvS2 h
                exact jr_iret rfl dX11_line_135
            · replace h := drvE hc h
              refine jr_aload_n dX11_line_113 rfl 1 rfl ?_
              refine jr_bipush (v := (-4 : Int32)) dX11_line_114 (by decide) ?_
              obtain ⟨r_20, w_19, hq_18, h⟩ := drvB2 h
              refine j_callVv lk_X11_61 wIM_X11_refuse wSE_X11_refuse (rfl : kd 0 = 10) (by decide) rfl (tX11_refuse  hq_18) (by omega) rfl rfl (Nat.le_of_ble_eq_true rfl) dX11_line_116 ?_
              obtain ⟨rfl, rfl⟩ := drvS2 h
              exact jr_iret rfl dX11_line_119
          · replace h := drvT hc h
            refine jr_aload_n dX11_line_96 rfl 1 rfl ?_
            refine jr_bipush (v := (-3 : Int32)) dX11_line_97 (by decide) ?_
            obtain ⟨r_23, w_22, hq_21, h⟩ := drvB2 h
            refine j_callVv lk_X11_61 wIM_X11_refuse wSE_X11_refuse (rfl : kd 0 = 10) (by decide) rfl (tX11_refuse  hq_21) (by omega) rfl rfl (Nat.le_of_ble_eq_true rfl) dX11_line_99 ?_
            obtain ⟨rfl, rfl⟩ := drvS2 h
            exact jr_iret rfl dX11_line_102
        refine jr_icmp_ne (tgt := 82) (nxt := 63) dX11_line_60 (by decide) rfl (fun hc => ?_) (fun hc => ?_)
        · replace h := drvE hc h
          refine jr_sub [1, 2, 3, 4, 5, 0] rfl ?_
          exact (hj82_5 ()) h
        · replace h := drvT hc h
          refine jr_iload_n dX11_line_63 rfl 3 rfl ?_
          refine jr_i2l dX11_line_64 ?_
          refine jr_lconst (v := (0 : Int64)) dX11_line_65 rfl ?_
          refine jr_ldc2 (v := (9 : Int64)) wCC_X11_65 dX11_line_66 ?_
          refine j_callSv lk_X11_69 wST_X11_within (tX11_within  (a0 := ((a2).toInt64)) (a1 := (0 : Int64)) (a2 := (9 : Int64)) (w := w)) (by omega) rfl rfl (Nat.le_of_ble_eq_true rfl) dX11_line_69 ?_
          refine jr_if_ne (tgt := 82) (nxt := 75) dX11_line_72 (by decide) rfl (fun hc => ?_) (fun hc => ?_)
          · replace h := drvE hc h
            refine jr_sub [1, 2, 3, 4, 5, 0] rfl ?_
            exact (hj82_5 ()) h
          · replace h := drvT hc h
            refine jr_aload_n dX11_line_75 rfl 1 rfl ?_
            refine jr_bipush (v := (-3 : Int32)) dX11_line_76 (by decide) ?_
            obtain ⟨r_26, w_25, hq_24, h⟩ := drvB2 h
            refine j_callVv lk_X11_61 wIM_X11_refuse wSE_X11_refuse (rfl : kd 0 = 10) (by decide) rfl (tX11_refuse  hq_24) (by omega) rfl rfl (Nat.le_of_ble_eq_true rfl) dX11_line_78 ?_
            obtain ⟨rfl, rfl⟩ := drvS2 h
            exact jr_iret rfl dX11_line_81
      · replace h := drvT hc h
        refine jr_aload_n dX11_line_51 rfl 1 rfl ?_
        refine jr_bipush (v := (-2 : Int32)) dX11_line_52 (by decide) ?_
        obtain ⟨r_29, w_28, hq_27, h⟩ := drvB2 h
        refine j_callVv lk_X11_61 wIM_X11_refuse wSE_X11_refuse (rfl : kd 0 = 10) (by decide) rfl (tX11_refuse  hq_27) (by omega) rfl rfl (Nat.le_of_ble_eq_true rfl) dX11_line_54 ?_
        obtain ⟨rfl, rfl⟩ := drvS2 h
        exact jr_iret rfl dX11_line_57
    refine jr_icmp_ne (tgt := 38) (nxt := 34) dX11_line_31 (by decide) rfl (fun hc => ?_) (fun hc => ?_)
    · replace h := drvE hc h
      refine jr_iload_n dX11_line_38 rfl 3 rfl ?_
      refine jr_sub [1, 2, 4, 5, 0] rfl ?_
      exact hj39_4 _ h
    · replace h := drvT hc h
      refine jr_iconst (v := (0 : Int32)) dX11_line_34 (by decide) ?_
      refine jr_goto (tgt := 39) dX11_line_35 (by decide) ?_
      refine jr_sub [1, 2, 4, 5, 0] rfl ?_
      exact hj39_4 _ h
  · replace h := drvT hc h
    refine jr_aload_n dX11_line_12 rfl 0 rfl ?_
    refine jr_bipush (v := (-2 : Int32)) dX11_line_13 (by decide) ?_
    obtain ⟨r_32, w_31, hq_30, h⟩ := drvB2 h
    refine j_callVv lk_X11_61 wIM_X11_refuse wSE_X11_refuse (rfl : kd 0 = 10) (by decide) rfl (tX11_refuse  hq_30) (by omega) rfl rfl (Nat.le_of_ble_eq_true rfl) dX11_line_15 ?_
    obtain ⟨rfl, rfl⟩ := drvS2 h
    exact jr_iret rfl dX11_line_18
set_option maxHeartbeats 4000000 in
set_option maxRecDepth 100000 in
theorem tX11_matches {n : Nat} {a0 : Int32} {a1 : Int32} {w : jWd} {r : Int32} {w' : jWd}  (h : fX11_matches n a0 a1 w = some (r, w')) : JM yX11_matches MX11_matches 6 [.ref 0, .int a0, .int a1] w (some (.int r)) w' := by
  refine jm_of pl_X11 rfl (Nat.le_of_ble_eq_true rfl) ?_
  show J MX11_matches 6 w 0 [(0, .ref 0), (1, .int a0), (2, .int a1)] [] (some (.int r)) w'
  unfold fX11_matches at h
  refine jr_aload_n dX11_matches_0 rfl 0 rfl ?_
  refine gf_X11_10 (r := 1) rfl (rfl : kd 0 = 10) rfl dX11_matches_1 ?_
  refine gf_X11_250 (r := 9) rfl (rfl : kd 1 = 7) rfl dX11_matches_4 ?_
  refine jr_iload_n dX11_matches_7 rfl 1 rfl ?_
  refine j_callVv lk_X11_93 wIM_X5_has wSE_X5_has (rfl : kd 9 = 4) (by decide) rfl (tX5_has (rfl : kd 9 = 4) (a0 := a0) (t := 9) (w := w)) (by omega) rfl rfl (Nat.le_of_ble_eq_true rfl) dX11_matches_8 ?_
  refine jr_if_ne (tgt := 21) (nxt := 14) dX11_matches_11 (by decide) rfl (fun hc => ?_) (fun hc => ?_)
  · replace h := drvE hc h
    refine jr_iload_n dX11_matches_21 rfl 2 rfl ?_
    refine j_callSv lk_X11_236 wST_X11_isBound (tX11_isBound  (a0 := a1) (w := w)) (by omega) rfl rfl (Nat.le_of_ble_eq_true rfl) dX11_matches_22 ?_
    refine jr_if_ne (tgt := 35) (nxt := 28) dX11_matches_25 (by decide) rfl (fun hc => ?_) (fun hc => ?_)
    · replace h := drvE hc h
      refine jr_aload_n dX11_matches_35 rfl 0 rfl ?_
      refine gf_X11_31 (r := 182) rfl (rfl : kd 0 = 10) rfl dX11_matches_36 ?_
      refine jr_iload_n dX11_matches_39 rfl 1 rfl ?_
      refine jr_iload_n dX11_matches_40 rfl 2 rfl ?_
      obtain ⟨r_2, hq_1, h⟩ := drvB h
      refine j_callVv lk_X11_253 wIM_X2_matchesOf wSE_X2_matchesOf (rfl : kd 182 = 2) (by decide) rfl (tX2_matchesOf  hq_1) (by omega) rfl rfl (Nat.le_of_ble_eq_true rfl) dX11_matches_41 ?_
      obtain ⟨rfl, rfl⟩ := drvS2 h
      exact jr_iret rfl dX11_matches_44
    · replace h := drvT hc h
      refine jr_aload_n dX11_matches_28 rfl 0 rfl ?_
      refine jr_bipush (v := (-3 : Int32)) dX11_matches_29 (by decide) ?_
      obtain ⟨r_5, w_4, hq_3, h⟩ := drvB2 h
      refine j_callVv lk_X11_61 wIM_X11_refuse wSE_X11_refuse (rfl : kd 0 = 10) (by decide) rfl (tX11_refuse  hq_3) (by omega) rfl rfl (Nat.le_of_ble_eq_true rfl) dX11_matches_31 ?_
      obtain ⟨rfl, rfl⟩ := drvS2 h
      exact jr_iret rfl dX11_matches_34
  · replace h := drvT hc h
    refine jr_aload_n dX11_matches_14 rfl 0 rfl ?_
    refine jr_bipush (v := (-2 : Int32)) dX11_matches_15 (by decide) ?_
    obtain ⟨r_8, w_7, hq_6, h⟩ := drvB2 h
    refine j_callVv lk_X11_61 wIM_X11_refuse wSE_X11_refuse (rfl : kd 0 = 10) (by decide) rfl (tX11_refuse  hq_6) (by omega) rfl rfl (Nat.le_of_ble_eq_true rfl) dX11_matches_17 ?_
    obtain ⟨rfl, rfl⟩ := drvS2 h
    exact jr_iret rfl dX11_matches_20
set_option maxHeartbeats 4000000 in
set_option maxRecDepth 100000 in
theorem hbX11_minister_55 {n : Nat} {p1 : Int32} {p2 : Int32} {k96 : (Option (Int32 × jWd))} {k83 : (Option (Int32 × jWd))} {w : jWd} {r : Int32} {w' : jWd} {rec : Int32 → Option (Int32 × jWd)} (hk96 : ∀ (_ : Unit), k96 = some (r, w') → J MX11_minister 3 w 96 [(0, .ref 0), (1, .int p1), (2, .int p2)] [] (some (.int r)) w') (hk83 : ∀ (_ : Unit), k83 = some (r, w') → J MX11_minister 3 w 83 [(0, .ref 0)] [] (some (.int r)) w')
    (hrec : ∀ (x3 : Int32) , rec x3 = some (r, w') → J MX11_minister 3 w 55 [(0, .ref 0), (1, .int p1), (2, .int p2), (3, .int x3)] [] (some (.int r)) w') : ∀ (x3 : Int32) , bX11_minister_55 n p1 p2 k96 k83 w rec x3 = some (r, w') → J MX11_minister 3 w 55 [(0, .ref 0), (1, .int p1), (2, .int p2), (3, .int x3)] [] (some (.int r)) w' := by
  intro x3 h
  unfold bX11_minister_55 at h
  refine jr_iload_n dX11_minister_55 rfl 3 rfl ?_
  refine jr_iload_n dX11_minister_56 rfl 2 rfl ?_
  refine jr_icmp_ge (tgt := 96) (nxt := 60) dX11_minister_57 (by decide) rfl (fun hc => ?_) (fun hc => ?_)
  · replace h := drvT hc h
    refine jr_sub [0, 1, 2] rfl ?_
    exact (hk96 ()) h
  · replace h := drvE hc h
    refine jr_aload_n dX11_minister_60 rfl 0 rfl ?_
    refine gf_X11_38 (r := 185) rfl (rfl : kd 0 = 10) rfl dX11_minister_61 ?_
    refine jr_iload_n dX11_minister_64 rfl 1 rfl ?_
    refine jr_iload_n dX11_minister_65 rfl 3 rfl ?_
    obtain ⟨r_5, hq_4, h⟩ := drvB h
    refine j_callVv lk_X11_393 wIM_X7_at wSE_X7_at (rfl : kd 185 = 6) (by decide) rfl (tX7_at  hq_4) (by omega) rfl rfl (Nat.le_of_ble_eq_true rfl) dX11_minister_66 ?_
    refine jr_lconst (v := (0 : Int64)) dX11_minister_69 rfl ?_
    refine jr_iload_n dX11_minister_70 rfl 3 rfl ?_
    refine jr_iconst (v := (5 : Int32)) dX11_minister_71 (by decide) ?_
    refine jr_irem dX11_minister_72 (by decide) ?_
    refine j_callSv lk_X11_394 wST_X0_greatest (tX0_greatest  (a0 := (i_rem x3 (5 : Int32))) (w := w)) (by omega) rfl rfl (Nat.le_of_ble_eq_true rfl) dX11_minister_73 ?_
    refine jr_i2l dX11_minister_76 ?_
    refine j_callSv lk_X11_69 wST_X11_within (tX11_within  (a0 := r_5) (a1 := (0 : Int64)) (a2 := (((fX0_greatest (i_rem x3 (5 : Int32)))).toInt64)) (w := w)) (by omega) rfl rfl (Nat.le_of_ble_eq_true rfl) dX11_minister_77 ?_
    refine jr_if_ne (tgt := 90) (nxt := 83) dX11_minister_80 (by decide) rfl (fun hc => ?_) (fun hc => ?_)
    · replace h := drvE hc h
      refine jr_iincN (c := (1 : Int32)) (lv' := fun (x3_6 : Int32) => [(3, .int x3_6), (0, .ref 0), (1, .int p1), (2, .int p2)]) dX11_minister_90 (by decide) 3 rfl (by decide) (fun _ => rfl) (fun x3_6 e_7 => ?_)
      replace h := drvL e_7 h
      refine jr_goto (tgt := 55) dX11_minister_93 (by decide) ?_
      refine jr_sub [1, 2, 3, 0] rfl ?_
      exact hrec _ h
    · replace h := drvT hc h
      refine jr_sub [0] rfl ?_
      exact (hk83 ()) h
theorem hlX11_minister_55 {n : Nat} {p1 : Int32} {p2 : Int32} {k96 : (Option (Int32 × jWd))} {k83 : (Option (Int32 × jWd))} {w : jWd} {r : Int32} {w' : jWd} (hk96 : ∀ (_ : Unit), k96 = some (r, w') → J MX11_minister 3 w 96 [(0, .ref 0), (1, .int p1), (2, .int p2)] [] (some (.int r)) w') (hk83 : ∀ (_ : Unit), k83 = some (r, w') → J MX11_minister 3 w 83 [(0, .ref 0)] [] (some (.int r)) w') : ∀ (c : Nat) (x3 : Int32) , lX11_minister_55 n p1 p2 k96 k83 w c x3 = some (r, w') → J MX11_minister 3 w 55 [(0, .ref 0), (1, .int p1), (2, .int p2), (3, .int x3)] [] (some (.int r)) w' := by
  intro c
  induction c with
  | zero => intro x3 h; cases h
  | succ c ih => intro x3 h; exact hbX11_minister_55 (n := n) hk96 hk83 ih _ h
set_option maxHeartbeats 4000000 in
set_option maxRecDepth 100000 in
theorem hbX11_minister_124 {n : Nat} {p1 : Int32} {p3 : Int32} {r : Int32} {w' : jWd} {rec : Int32 → jWd → Option (Int32 × jWd)} 
    (hrec : ∀ (x4 : Int32) (w : jWd) , rec x4 w = some (r, w') → J MX11_minister 3 w 124 [(0, .ref 0), (1, .int p1), (3, .int p3), (4, .int x4)] [] (some (.int r)) w') : ∀ (x4 : Int32) (w : jWd) , bX11_minister_124 n p1 p3 rec x4 w = some (r, w') → J MX11_minister 3 w 124 [(0, .ref 0), (1, .int p1), (3, .int p3), (4, .int x4)] [] (some (.int r)) w' := by
  intro x4 w h
  unfold bX11_minister_124 at h
  refine jr_iload dX11_minister_124 3 rfl ?_
  refine jr_iload_n dX11_minister_126 rfl 2 rfl ?_
  refine jr_icmp_ge (tgt := 230) (nxt := 130) dX11_minister_127 (by decide) rfl (fun hc => ?_) (fun hc => ?_)
  · replace h := drvT hc h
    refine jr_iload_n dX11_minister_230 rfl 2 rfl ?_
    obtain ⟨rfl, rfl⟩ := drvS2 h
    exact jr_iret rfl dX11_minister_231
  · replace h := drvE hc h
    refine jr_iload dX11_minister_130 3 rfl ?_
    refine jr_iconst (v := (5 : Int32)) dX11_minister_132 (by decide) ?_
    refine jr_imul dX11_minister_133 ?_
    refine j_nmi (fun x5_10 e_11 => ?_)
    replace h := drvL e_11 h
    refine jr_istore (lv' := [(5, .int x5_10), (0, .ref 0), (1, .int p1), (3, .int p3), (4, .int x4)]) dX11_minister_134 (by decide) rfl ?_
    refine jr_aload_n dX11_minister_136 rfl 1 rfl ?_
    refine gf_X11_10 (r := 1) rfl (rfl : kd 0 = 10) rfl dX11_minister_137 ?_
    refine gf_X11_276 (r := 41) rfl (rfl : kd 1 = 7) rfl dX11_minister_140 ?_
    refine jr_aload_n dX11_minister_143 rfl 1 rfl ?_
    refine gf_X11_38 (r := 185) rfl (rfl : kd 0 = 10) rfl dX11_minister_144 ?_
    refine jr_iload_n dX11_minister_147 rfl 2 rfl ?_
    refine jr_iload dX11_minister_148 0 rfl ?_
    obtain ⟨r_13, hq_12, h⟩ := drvB h
    refine j_callVv lk_X11_393 wIM_X7_at wSE_X7_at (rfl : kd 185 = 6) (by decide) rfl (tX7_at  hq_12) (by omega) rfl rfl (Nat.le_of_ble_eq_true rfl) dX11_minister_150 ?_
    refine jr_l2i dX11_minister_153 ?_
    refine jr_aload_n dX11_minister_154 rfl 1 rfl ?_
    refine gf_X11_38 (r := 185) rfl (rfl : kd 0 = 10) rfl dX11_minister_155 ?_
    refine jr_iload_n dX11_minister_158 rfl 2 rfl ?_
    refine jr_iload dX11_minister_159 0 rfl ?_
    refine jr_iconst (v := (1 : Int32)) dX11_minister_161 (by decide) ?_
    refine jr_iadd dX11_minister_162 ?_
    obtain ⟨r_15, hq_14, h⟩ := drvB h
    refine j_callVv lk_X11_393 wIM_X7_at wSE_X7_at (rfl : kd 185 = 6) (by decide) rfl (tX7_at  hq_14) (by omega) rfl rfl (Nat.le_of_ble_eq_true rfl) dX11_minister_163 ?_
    refine jr_l2i dX11_minister_166 ?_
    refine jr_aload_n dX11_minister_167 rfl 1 rfl ?_
    refine gf_X11_38 (r := 185) rfl (rfl : kd 0 = 10) rfl dX11_minister_168 ?_
    refine jr_iload_n dX11_minister_171 rfl 2 rfl ?_
    refine jr_iload dX11_minister_172 0 rfl ?_
    refine jr_iconst (v := (2 : Int32)) dX11_minister_174 (by decide) ?_
    refine jr_iadd dX11_minister_175 ?_
    obtain ⟨r_17, hq_16, h⟩ := drvB h
    refine j_callVv lk_X11_393 wIM_X7_at wSE_X7_at (rfl : kd 185 = 6) (by decide) rfl (tX7_at  hq_16) (by omega) rfl rfl (Nat.le_of_ble_eq_true rfl) dX11_minister_176 ?_
    refine jr_l2i dX11_minister_179 ?_
    obtain ⟨r_20, w_19, hq_18, h⟩ := drvB2 h
    refine j_callVv lk_X11_284 wIM_X0_start wSE_X0_start (rfl : kd 41 = 0) (by decide) rfl (tX0_start (rfl : kd 41 = 0) hq_18) (by omega) rfl rfl (Nat.le_of_ble_eq_true rfl) dX11_minister_180 ?_
    refine jr_istore (lv' := [(6, .int r_20), (5, .int x5_10), (0, .ref 0), (1, .int p1), (3, .int p3), (4, .int x4)]) dX11_minister_183 (by decide) rfl ?_
    refine jr_aload_n dX11_minister_185 rfl 2 rfl ?_
    refine gf_X11_10 (r := 1) rfl (rfl : kd 0 = 10) rfl dX11_minister_186 ?_
    refine gf_X11_276 (r := 41) rfl (rfl : kd 1 = 7) rfl dX11_minister_189 ?_
    refine jr_iload dX11_minister_192 0 rfl ?_
    refine jr_aload_n dX11_minister_194 rfl 2 rfl ?_
    refine gf_X11_38 (r := 185) rfl (rfl : kd 0 = 10) rfl dX11_minister_195 ?_
    refine jr_iload_n dX11_minister_198 rfl 3 rfl ?_
    refine jr_iload dX11_minister_199 1 rfl ?_
    refine jr_iconst (v := (3 : Int32)) dX11_minister_201 (by decide) ?_
    refine jr_iadd dX11_minister_202 ?_
    obtain ⟨r_22, hq_21, h⟩ := drvB h
    refine j_callVv lk_X11_393 wIM_X7_at wSE_X7_at (rfl : kd 185 = 6) (by decide) rfl (tX7_at  hq_21) (by omega) rfl rfl (Nat.le_of_ble_eq_true rfl) dX11_minister_203 ?_
    refine jr_l2i dX11_minister_206 ?_
    refine jr_aload_n dX11_minister_207 rfl 2 rfl ?_
    refine gf_X11_38 (r := 185) rfl (rfl : kd 0 = 10) rfl dX11_minister_208 ?_
    refine jr_iload_n dX11_minister_211 rfl 3 rfl ?_
    refine jr_iload dX11_minister_212 1 rfl ?_
    refine jr_iconst (v := (4 : Int32)) dX11_minister_214 (by decide) ?_
    refine jr_iadd dX11_minister_215 ?_
    obtain ⟨r_24, hq_23, h⟩ := drvB h
    refine j_callVv lk_X11_393 wIM_X7_at wSE_X7_at (rfl : kd 185 = 6) (by decide) rfl (tX7_at  hq_23) (by omega) rfl rfl (Nat.le_of_ble_eq_true rfl) dX11_minister_216 ?_
    refine jr_l2i dX11_minister_219 ?_
    refine jr_lconst (v := (0 : Int64)) dX11_minister_220 rfl ?_
    obtain ⟨w_26, hq_25, h⟩ := drvB h
    refine j_callVn lk_X11_285 wIM_X0_hear wSE_X0_hear (rfl : kd 41 = 0) (by decide) rfl (tX0_hear (rfl : kd 41 = 0) hq_25) (by omega) rfl rfl (Nat.le_of_ble_eq_true rfl) dX11_minister_221 ?_
    refine jr_iincN (c := (1 : Int32)) (lv' := fun (x4_27 : Int32) => [(4, .int x4_27), (6, .int r_20), (5, .int x5_10), (0, .ref 0), (1, .int p1), (3, .int p3)]) dX11_minister_224 (by decide) 5 rfl (by decide) (fun _ => rfl) (fun x4_27 e_28 => ?_)
    replace h := drvL e_28 h
    refine jr_goto (tgt := 124) dX11_minister_227 (by decide) ?_
    refine jr_sub [3, 4, 5, 0] rfl ?_
    exact hrec _ _ h
theorem hlX11_minister_124 {n : Nat} {p1 : Int32} {p3 : Int32} {r : Int32} {w' : jWd}  : ∀ (c : Nat) (x4 : Int32) (w : jWd) , lX11_minister_124 n p1 p3 c x4 w = some (r, w') → J MX11_minister 3 w 124 [(0, .ref 0), (1, .int p1), (3, .int p3), (4, .int x4)] [] (some (.int r)) w' := by
  intro c
  induction c with
  | zero => intro x4 w h; cases h
  | succ c ih => intro x4 w h; exact hbX11_minister_124 (n := n) ih _ _ h
set_option maxHeartbeats 4000000 in
set_option maxRecDepth 100000 in
theorem tX11_minister {n : Nat} {a0 : Int32} {w : jWd} {r : Int32} {w' : jWd}  (h : fX11_minister n a0 w = some (r, w')) : JM yX11_minister MX11_minister 3 [.ref 0, .int a0] w (some (.int r)) w' := by
  refine jm_of pl_X11 rfl (Nat.le_of_ble_eq_true rfl) ?_
  show J MX11_minister 3 w 0 [(0, .ref 0), (1, .int a0)] [] (some (.int r)) w'
  unfold fX11_minister at h
  refine jr_aload_n dX11_minister_0 rfl 0 rfl ?_
  refine gf_X11_38 (r := 185) rfl (rfl : kd 0 = 10) rfl dX11_minister_1 ?_
  refine jr_iload_n dX11_minister_4 rfl 1 rfl ?_
  refine j_callVv lk_X11_379 wIM_X7_canBe wSE_X7_canBe (rfl : kd 185 = 6) (by decide) rfl (tX7_canBe  (a0 := a0) (w := w)) (by omega) rfl rfl (Nat.le_of_ble_eq_true rfl) dX11_minister_5 ?_
  refine jr_if_ne (tgt := 18) (nxt := 11) dX11_minister_8 (by decide) rfl (fun hc => ?_) (fun hc => ?_)
  · replace h := drvE hc h
    refine jr_aload_n dX11_minister_18 rfl 0 rfl ?_
    refine gf_X11_38 (r := 185) rfl (rfl : kd 0 = 10) rfl dX11_minister_19 ?_
    refine gf_X11_388 (r := 186) rfl (rfl : kd 185 = 6) rfl dX11_minister_22 ?_
    refine jr_iload_n dX11_minister_25 rfl 1 rfl ?_
    obtain ⟨hg_1, h⟩ := drvG h
    refine jr_iald (rfl : kd 186 = 13) hg_1 dX11_minister_26 ?_
    refine j_nmi (fun x2_2 e_3 => ?_)
    replace h := drvL e_3 h
    refine jr_istore_n (lv' := [(2, .int x2_2), (0, .ref 0), (1, .int a0)]) dX11_minister_27 rfl (by decide) rfl ?_
    refine jr_iload_n dX11_minister_28 rfl 0 rfl ?_
    refine jr_iconst (v := (-1 : Int32)) dX11_minister_29 (by decide) ?_
    refine jr_icmp_ne (tgt := 40) (nxt := 33) dX11_minister_30 (by decide) rfl (fun hc => ?_) (fun hc => ?_)
    · replace h := drvE hc h
      refine jr_iload_n dX11_minister_40 rfl 0 rfl ?_
      refine jr_iconst (v := (5 : Int32)) dX11_minister_41 (by decide) ?_
      refine jr_irem dX11_minister_42 (by decide) ?_
      refine jr_if_eq (tgt := 53) (nxt := 46) dX11_minister_43 (by decide) rfl (fun hc => ?_) (fun hc => ?_)
      · replace h := drvT hc h
        refine jr_iconst (v := (0 : Int32)) dX11_minister_53 (by decide) ?_
        refine jr_istore_n (lv' := [(3, .int (0 : Int32)), (2, .int x2_2), (0, .ref 0), (1, .int a0)]) dX11_minister_54 rfl (by decide) rfl ?_
        refine jr_sub [2, 3, 1, 0] rfl ?_
        refine hlX11_minister_55  ?_ ?_ _ _ h
        · intro _ h
          try dsimp only at h
          refine jr_iload_n dX11_minister_96 rfl 2 rfl ?_
          refine jr_iconst (v := (5 : Int32)) dX11_minister_97 (by decide) ?_
          refine jr_idiv dX11_minister_98 (by decide) ?_
          refine j_nmi (fun x3_8 e_9 => ?_)
          replace h := drvL e_9 h
          refine jr_istore_n (lv' := [(3, .int x3_8), (0, .ref 0), (1, .int a0), (2, .int x2_2)]) dX11_minister_99 rfl (by decide) rfl ?_
          refine jr_iload_n dX11_minister_100 rfl 0 rfl ?_
          refine jr_aload_n dX11_minister_101 rfl 1 rfl ?_
          refine gf_X11_10 (r := 1) rfl (rfl : kd 0 = 10) rfl dX11_minister_102 ?_
          refine gf_X11_276 (r := 41) rfl (rfl : kd 1 = 7) rfl dX11_minister_105 ?_
          refine j_callVv lk_X11_280 wIM_X0_room wSE_X0_room (rfl : kd 41 = 0) (by decide) rfl (tX0_room (rfl : kd 41 = 0)  (t := 41) (w := w)) (by omega) rfl rfl (Nat.le_of_ble_eq_true rfl) dX11_minister_108 ?_
          refine jr_icmp_le (tgt := 121) (nxt := 114) dX11_minister_111 (by decide) rfl (fun hc => ?_) (fun hc => ?_)
          · replace h := drvT hc h
            refine jr_iconst (v := (0 : Int32)) dX11_minister_121 (by decide) ?_
            refine jr_istore (lv' := [(4, .int (0 : Int32)), (3, .int x3_8), (0, .ref 0), (1, .int a0), (2, .int x2_2)]) dX11_minister_122 (by decide) rfl ?_
            refine jr_sub [2, 3, 1, 0] rfl ?_
            refine hlX11_minister_124   _ _ _ h
          · replace h := drvE hc h
            refine jr_aload_n dX11_minister_114 rfl 1 rfl ?_
            refine jr_bipush (v := (-4 : Int32)) dX11_minister_115 (by decide) ?_
            obtain ⟨r_31, w_30, hq_29, h⟩ := drvB2 h
            refine j_callVv lk_X11_61 wIM_X11_refuse wSE_X11_refuse (rfl : kd 0 = 10) (by decide) rfl (tX11_refuse  hq_29) (by omega) rfl rfl (Nat.le_of_ble_eq_true rfl) dX11_minister_117 ?_
            obtain ⟨rfl, rfl⟩ := drvS2 h
            exact jr_iret rfl dX11_minister_120
        · intro _ h
          try dsimp only at h
          refine jr_aload_n dX11_minister_83 rfl 0 rfl ?_
          refine jr_bipush (v := (-3 : Int32)) dX11_minister_84 (by decide) ?_
          obtain ⟨r_34, w_33, hq_32, h⟩ := drvB2 h
          refine j_callVv lk_X11_61 wIM_X11_refuse wSE_X11_refuse (rfl : kd 0 = 10) (by decide) rfl (tX11_refuse  hq_32) (by omega) rfl rfl (Nat.le_of_ble_eq_true rfl) dX11_minister_86 ?_
          obtain ⟨rfl, rfl⟩ := drvS2 h
          exact jr_iret rfl dX11_minister_89
      · replace h := drvE hc h
        refine jr_aload_n dX11_minister_46 rfl 1 rfl ?_
        refine jr_bipush (v := (-7 : Int32)) dX11_minister_47 (by decide) ?_
        obtain ⟨r_37, w_36, hq_35, h⟩ := drvB2 h
        refine j_callVv lk_X11_61 wIM_X11_refuse wSE_X11_refuse (rfl : kd 0 = 10) (by decide) rfl (tX11_refuse  hq_35) (by omega) rfl rfl (Nat.le_of_ble_eq_true rfl) dX11_minister_49 ?_
        obtain ⟨rfl, rfl⟩ := drvS2 h
        exact jr_iret rfl dX11_minister_52
    · replace h := drvT hc h
      refine jr_aload_n dX11_minister_33 rfl 1 rfl ?_
      refine jr_bipush (v := (-6 : Int32)) dX11_minister_34 (by decide) ?_
      obtain ⟨r_40, w_39, hq_38, h⟩ := drvB2 h
      refine j_callVv lk_X11_61 wIM_X11_refuse wSE_X11_refuse (rfl : kd 0 = 10) (by decide) rfl (tX11_refuse  hq_38) (by omega) rfl rfl (Nat.le_of_ble_eq_true rfl) dX11_minister_36 ?_
      obtain ⟨rfl, rfl⟩ := drvS2 h
      exact jr_iret rfl dX11_minister_39
  · replace h := drvT hc h
    refine jr_aload_n dX11_minister_11 rfl 0 rfl ?_
    refine jr_bipush (v := (-2 : Int32)) dX11_minister_12 (by decide) ?_
    obtain ⟨r_43, w_42, hq_41, h⟩ := drvB2 h
    refine j_callVv lk_X11_61 wIM_X11_refuse wSE_X11_refuse (rfl : kd 0 = 10) (by decide) rfl (tX11_refuse  hq_41) (by omega) rfl rfl (Nat.le_of_ble_eq_true rfl) dX11_minister_14 ?_
    obtain ⟨rfl, rfl⟩ := drvS2 h
    exact jr_iret rfl dX11_minister_17
set_option maxHeartbeats 4000000 in
set_option maxRecDepth 100000 in
theorem tX11_more {n : Nat} {a0 : Int32} {a1 : Int32} {w : jWd} {r : Int32} {w' : jWd}  (h : fX11_more n a0 a1 w = some (r, w')) : JM yX11_more MX11_more 3 [.ref 0, .int a0, .int a1] w (some (.int r)) w' := by
  refine jm_of pl_X11 rfl (Nat.le_of_ble_eq_true rfl) ?_
  show J MX11_more 3 w 0 [(0, .ref 0), (1, .int a0), (2, .int a1)] [] (some (.int r)) w'
  unfold fX11_more at h
  refine jr_iload_n dX11_more_0 rfl 1 rfl ?_
  obtain ⟨j16_1, ej16_1, h⟩ := drvF h
  have hj16_1 : ∀ (_ : Unit), j16_1 = some (r, w') → J MX11_more 3 w 16 [(0, .ref 0), (1, .int a0), (2, .int a1)] [] (some (.int r)) w' := by
    intro _ h
    rw [ej16_1] at h
    try dsimp only at h
    refine jr_iload_n dX11_more_16 rfl 1 rfl ?_
    refine jr_iconst (v := (1 : Int32)) dX11_more_17 (by decide) ?_
    refine jr_icmp_ne (tgt := 32) (nxt := 21) dX11_more_18 (by decide) rfl (fun hc => ?_) (fun hc => ?_)
    · replace h := drvE hc h
      refine jr_iload_n dX11_more_32 rfl 2 rfl ?_
      refine jr_i2l dX11_more_33 ?_
      refine jr_lconst (v := (1 : Int64)) dX11_more_34 rfl ?_
      refine jr_ldc2 (v := (999 : Int64)) wCC_X11_317 dX11_more_35 ?_
      refine j_callSv lk_X11_69 wST_X11_within (tX11_within  (a0 := ((a1).toInt64)) (a1 := (1 : Int64)) (a2 := (999 : Int64)) (w := w)) (by omega) rfl rfl (Nat.le_of_ble_eq_true rfl) dX11_more_38 ?_
      refine jr_if_ne (tgt := 51) (nxt := 44) dX11_more_41 (by decide) rfl (fun hc => ?_) (fun hc => ?_)
      · replace h := drvE hc h
        refine jr_aload_n dX11_more_51 rfl 0 rfl ?_
        refine gf_X11_10 (r := 1) rfl (rfl : kd 0 = 10) rfl dX11_more_52 ?_
        refine gf_X11_319 (r := 48) rfl (rfl : kd 1 = 7) rfl dX11_more_55 ?_
        refine jr_iload_n dX11_more_58 rfl 2 rfl ?_
        obtain ⟨r_3, hq_2, h⟩ := drvB h
        refine j_callVv lk_X11_342 wIM_X9_moreBy wSE_X9_moreBy (rfl : kd 48 = 8) (by decide) rfl (tX9_moreBy (rfl : kd 48 = 8) hq_2) (by omega) rfl rfl (Nat.le_of_ble_eq_true rfl) dX11_more_59 ?_
        obtain ⟨rfl, rfl⟩ := drvS2 h
        exact jr_iret rfl dX11_more_62
      · replace h := drvT hc h
        refine jr_aload_n dX11_more_44 rfl 0 rfl ?_
        refine jr_bipush (v := (-3 : Int32)) dX11_more_45 (by decide) ?_
        obtain ⟨r_6, w_5, hq_4, h⟩ := drvB2 h
        refine j_callVv lk_X11_61 wIM_X11_refuse wSE_X11_refuse (rfl : kd 0 = 10) (by decide) rfl (tX11_refuse  hq_4) (by omega) rfl rfl (Nat.le_of_ble_eq_true rfl) dX11_more_47 ?_
        obtain ⟨rfl, rfl⟩ := drvS2 h
        exact jr_iret rfl dX11_more_50
    · replace h := drvT hc h
      refine jr_aload_n dX11_more_21 rfl 0 rfl ?_
      refine gf_X11_10 (r := 1) rfl (rfl : kd 0 = 10) rfl dX11_more_22 ?_
      refine gf_X11_319 (r := 48) rfl (rfl : kd 1 = 7) rfl dX11_more_25 ?_
      obtain ⟨r_8, hq_7, h⟩ := drvB h
      refine j_callVv lk_X11_339 wIM_X9_allPaid wSE_X9_allPaid (rfl : kd 48 = 8) (by decide) rfl (tX9_allPaid (rfl : kd 48 = 8) hq_7) (by omega) rfl rfl (Nat.le_of_ble_eq_true rfl) dX11_more_28 ?_
      obtain ⟨rfl, rfl⟩ := drvS2 h
      exact jr_iret rfl dX11_more_31
  refine jr_if_eq (tgt := 16) (nxt := 4) dX11_more_1 (by decide) rfl (fun hc => ?_) (fun hc => ?_)
  · replace h := drvT hc h
    refine jr_sub [0, 1, 2] rfl ?_
    exact (hj16_1 ()) h
  · replace h := drvE hc h
    refine jr_iload_n dX11_more_4 rfl 1 rfl ?_
    refine jr_iconst (v := (1 : Int32)) dX11_more_5 (by decide) ?_
    refine jr_icmp_eq (tgt := 16) (nxt := 9) dX11_more_6 (by decide) rfl (fun hc => ?_) (fun hc => ?_)
    · replace h := drvT hc h
      refine jr_sub [0, 1, 2] rfl ?_
      exact (hj16_1 ()) h
    · replace h := drvE hc h
      refine jr_aload_n dX11_more_9 rfl 0 rfl ?_
      refine jr_bipush (v := (-2 : Int32)) dX11_more_10 (by decide) ?_
      obtain ⟨r_11, w_10, hq_9, h⟩ := drvB2 h
      refine j_callVv lk_X11_61 wIM_X11_refuse wSE_X11_refuse (rfl : kd 0 = 10) (by decide) rfl (tX11_refuse  hq_9) (by omega) rfl rfl (Nat.le_of_ble_eq_true rfl) dX11_more_12 ?_
      obtain ⟨rfl, rfl⟩ := drvS2 h
      exact jr_iret rfl dX11_more_15
set_option maxHeartbeats 4000000 in
set_option maxRecDepth 100000 in
theorem hbX11_most_67 {n : Nat} {p1 : Int32} {p2 : Int32} {p3 : Int32} {k113 : Int32 → Int32 → Int32 → (Option (Int32 × jWd))} {w : jWd} {r : Int32} {w' : jWd} {rec : Int32 → Int32 → Int32 → Int32 → Option (Int32 × jWd)} (hk113 : ∀ (z4 : Int32) (z5 : Int32) (z6 : Int32), k113 z4 z5 z6 = some (r, w') → J MX11_most 6 w 113 [(2, .int p2), (3, .int p3), (4, .int z4), (5, .int z5), (6, .int z6)] [] (some (.int r)) w')
    (hrec : ∀ (x4 : Int32) (x5 : Int32) (x6 : Int32) (x7 : Int32) , rec x4 x5 x6 x7 = some (r, w') → J MX11_most 6 w 67 [(0, .ref 0), (1, .int p1), (2, .int p2), (3, .int p3), (4, .int x4), (5, .int x5), (6, .int x6), (7, .int x7)] [] (some (.int r)) w') : ∀ (x4 : Int32) (x5 : Int32) (x6 : Int32) (x7 : Int32) , bX11_most_67 n p1 p2 p3 k113 w rec x4 x5 x6 x7 = some (r, w') → J MX11_most 6 w 67 [(0, .ref 0), (1, .int p1), (2, .int p2), (3, .int p3), (4, .int x4), (5, .int x5), (6, .int x6), (7, .int x7)] [] (some (.int r)) w' := by
  intro x4 x5 x6 x7 h
  unfold bX11_most_67 at h
  refine jr_iload dX11_most_67 7 rfl ?_
  refine jr_iload_n dX11_most_69 rfl 3 rfl ?_
  refine jr_icmp_ge (tgt := 113) (nxt := 73) dX11_most_70 (by decide) rfl (fun hc => ?_) (fun hc => ?_)
  · replace h := drvT hc h
    refine jr_sub [2, 3, 4, 5, 6] rfl ?_
    exact hk113 _ _ _ h
  · replace h := drvE hc h
    refine jr_aload_n dX11_most_73 rfl 0 rfl ?_
    refine gf_X11_31 (r := 182) rfl (rfl : kd 0 = 10) rfl dX11_most_74 ?_
    refine jr_iload dX11_most_77 7 rfl ?_
    refine jr_iload_n dX11_most_79 rfl 1 rfl ?_
    obtain ⟨r_4, hq_3, h⟩ := drvB h
    refine j_callVv lk_X11_253 wIM_X2_matchesOf wSE_X2_matchesOf (rfl : kd 182 = 2) (by decide) rfl (tX2_matchesOf  hq_3) (by omega) rfl rfl (Nat.le_of_ble_eq_true rfl) dX11_most_80 ?_
    refine jr_istore (lv' := [(8, .int r_4), (0, .ref 0), (1, .int p1), (2, .int p2), (3, .int p3), (4, .int x4), (5, .int x5), (6, .int x6), (7, .int x7)]) dX11_most_83 (by decide) rfl ?_
    refine jr_iload dX11_most_85 7 rfl ?_
    refine jr_iload dX11_most_87 0 rfl ?_
    refine jr_iadd dX11_most_89 ?_
    refine j_nmi (fun x6_5 e_6 => ?_)
    replace h := drvL e_6 h
    refine jr_istore (lv' := [(6, .int x6_5), (8, .int r_4), (0, .ref 0), (1, .int p1), (2, .int p2), (3, .int p3), (4, .int x4), (5, .int x5), (7, .int x7)]) dX11_most_90 (by decide) rfl ?_
    refine jr_iload dX11_most_92 1 rfl ?_
    refine jr_iload dX11_most_94 7 rfl ?_
    refine jr_icmp_le (tgt := 107) (nxt := 99) dX11_most_96 (by decide) rfl (fun hc => ?_) (fun hc => ?_)
    · replace h := drvT hc h
      refine jr_iincN (c := (1 : Int32)) (lv' := fun (x7_7 : Int32) => [(7, .int x7_7), (6, .int x6_5), (8, .int r_4), (0, .ref 0), (1, .int p1), (2, .int p2), (3, .int p3), (4, .int x4), (5, .int x5)]) dX11_most_107 (by decide) 8 rfl (by decide) (fun _ => rfl) (fun x7_7 e_8 => ?_)
      replace h := drvL e_8 h
      refine jr_goto (tgt := 67) dX11_most_110 (by decide) ?_
      refine jr_sub [3, 4, 5, 6, 7, 8, 1, 0] rfl ?_
      exact hrec _ _ _ _ h
    · replace h := drvE hc h
      refine jr_iload dX11_most_99 1 rfl ?_
      refine jr_istore (lv' := [(5, .int r_4), (6, .int x6_5), (8, .int r_4), (0, .ref 0), (1, .int p1), (2, .int p2), (3, .int p3), (4, .int x4), (7, .int x7)]) dX11_most_101 (by decide) rfl ?_
      refine jr_iload dX11_most_103 8 rfl ?_
      refine jr_istore (lv' := [(4, .int x7), (5, .int r_4), (6, .int x6_5), (8, .int r_4), (0, .ref 0), (1, .int p1), (2, .int p2), (3, .int p3), (7, .int x7)]) dX11_most_105 (by decide) rfl ?_
      refine jr_iincN (c := (1 : Int32)) (lv' := fun (x7_9 : Int32) => [(7, .int x7_9), (4, .int x7), (5, .int r_4), (6, .int x6_5), (8, .int r_4), (0, .ref 0), (1, .int p1), (2, .int p2), (3, .int p3)]) dX11_most_107 (by decide) 8 rfl (by decide) (fun _ => rfl) (fun x7_9 e_10 => ?_)
      replace h := drvL e_10 h
      refine jr_goto (tgt := 67) dX11_most_110 (by decide) ?_
      refine jr_sub [5, 6, 7, 8, 1, 2, 3, 0] rfl ?_
      exact hrec _ _ _ _ h
theorem hlX11_most_67 {n : Nat} {p1 : Int32} {p2 : Int32} {p3 : Int32} {k113 : Int32 → Int32 → Int32 → (Option (Int32 × jWd))} {w : jWd} {r : Int32} {w' : jWd} (hk113 : ∀ (z4 : Int32) (z5 : Int32) (z6 : Int32), k113 z4 z5 z6 = some (r, w') → J MX11_most 6 w 113 [(2, .int p2), (3, .int p3), (4, .int z4), (5, .int z5), (6, .int z6)] [] (some (.int r)) w') : ∀ (c : Nat) (x4 : Int32) (x5 : Int32) (x6 : Int32) (x7 : Int32) , lX11_most_67 n p1 p2 p3 k113 w c x4 x5 x6 x7 = some (r, w') → J MX11_most 6 w 67 [(0, .ref 0), (1, .int p1), (2, .int p2), (3, .int p3), (4, .int x4), (5, .int x5), (6, .int x6), (7, .int x7)] [] (some (.int r)) w' := by
  intro c
  induction c with
  | zero => intro x4 x5 x6 x7 h; cases h
  | succ c ih => intro x4 x5 x6 x7 h; exact hbX11_most_67 (n := n) hk113 ih _ _ _ _ h
set_option maxHeartbeats 4000000 in
set_option maxRecDepth 100000 in
theorem tX11_most {n : Nat} {a0 : Int32} {a1 : Int32} {w : jWd} {r : Int32} {w' : jWd}  (h : fX11_most n a0 a1 w = some (r, w')) : JM yX11_most MX11_most 6 [.ref 0, .int a0, .int a1] w (some (.int r)) w' := by
  refine jm_of pl_X11 rfl (Nat.le_of_ble_eq_true rfl) ?_
  show J MX11_most 6 w 0 [(0, .ref 0), (1, .int a0), (2, .int a1)] [] (some (.int r)) w'
  unfold fX11_most at h
  refine jr_iload_n dX11_most_0 rfl 2 rfl ?_
  refine jr_i2l dX11_most_1 ?_
  refine jr_lconst (v := (0 : Int64)) dX11_most_2 rfl ?_
  refine jr_ldc2 (v := (2 : Int64)) wCC_X11_91 dX11_most_3 ?_
  refine j_callSv lk_X11_69 wST_X11_within (tX11_within  (a0 := ((a1).toInt64)) (a1 := (0 : Int64)) (a2 := (2 : Int64)) (w := w)) (by omega) rfl rfl (Nat.le_of_ble_eq_true rfl) dX11_most_6 ?_
  refine jr_if_ne (tgt := 19) (nxt := 12) dX11_most_9 (by decide) rfl (fun hc => ?_) (fun hc => ?_)
  · replace h := drvE hc h
    refine jr_iload_n dX11_most_19 rfl 1 rfl ?_
    refine j_callSv lk_X11_236 wST_X11_isBound (tX11_isBound  (a0 := a0) (w := w)) (by omega) rfl rfl (Nat.le_of_ble_eq_true rfl) dX11_most_20 ?_
    refine jr_if_ne (tgt := 33) (nxt := 26) dX11_most_23 (by decide) rfl (fun hc => ?_) (fun hc => ?_)
    · replace h := drvE hc h
      refine jr_aload_n dX11_most_33 rfl 0 rfl ?_
      refine gf_X11_10 (r := 1) rfl (rfl : kd 0 = 10) rfl dX11_most_34 ?_
      refine gf_X11_250 (r := 9) rfl (rfl : kd 1 = 7) rfl dX11_most_37 ?_
      refine gf_X11_256 rfl (rfl : kd 9 = 4) dX11_most_40 ?_
      refine j_nmi (fun x3_1 e_2 => ?_)
      replace h := drvL e_2 h
      refine jr_istore_n (lv' := [(3, .int x3_1), (0, .ref 0), (1, .int a0), (2, .int a1)]) dX11_most_43 rfl (by decide) rfl ?_
      refine jr_iload_n dX11_most_44 rfl 0 rfl ?_
      refine jr_if_ne (tgt := 55) (nxt := 48) dX11_most_45 (by decide) rfl (fun hc => ?_) (fun hc => ?_)
      · replace h := drvE hc h
        refine jr_iconst (v := (0 : Int32)) dX11_most_55 (by decide) ?_
        refine jr_istore (lv' := [(4, .int (0 : Int32)), (3, .int x3_1), (0, .ref 0), (1, .int a0), (2, .int a1)]) dX11_most_56 (by decide) rfl ?_
        refine jr_iconst (v := (0 : Int32)) dX11_most_58 (by decide) ?_
        refine jr_istore (lv' := [(5, .int (0 : Int32)), (4, .int (0 : Int32)), (3, .int x3_1), (0, .ref 0), (1, .int a0), (2, .int a1)]) dX11_most_59 (by decide) rfl ?_
        refine jr_iconst (v := (0 : Int32)) dX11_most_61 (by decide) ?_
        refine jr_istore (lv' := [(6, .int (0 : Int32)), (5, .int (0 : Int32)), (4, .int (0 : Int32)), (3, .int x3_1), (0, .ref 0), (1, .int a0), (2, .int a1)]) dX11_most_62 (by decide) rfl ?_
        refine jr_iconst (v := (0 : Int32)) dX11_most_64 (by decide) ?_
        refine jr_istore (lv' := [(7, .int (0 : Int32)), (6, .int (0 : Int32)), (5, .int (0 : Int32)), (4, .int (0 : Int32)), (3, .int x3_1), (0, .ref 0), (1, .int a0), (2, .int a1)]) dX11_most_65 (by decide) rfl ?_
        refine jr_sub [5, 6, 7, 4, 3, 2, 1, 0] rfl ?_
        refine hlX11_most_67  ?_ _ _ _ _ _ h
        · intro z4_11 z5_12 z6_13 h
          try dsimp only at h
          refine jr_iload_n dX11_most_113 rfl 0 rfl ?_
          refine jr_iconst (v := (2 : Int32)) dX11_most_114 (by decide) ?_
          refine jr_icmp_ne (tgt := 123) (nxt := 118) dX11_most_115 (by decide) rfl (fun hc => ?_) (fun hc => ?_)
          · replace h := drvE hc h
            refine jr_iload dX11_most_123 3 rfl ?_
            refine jr_iload_n dX11_most_125 rfl 1 rfl ?_
            refine jr_imul dX11_most_126 ?_
            refine jr_i2l dX11_most_127 ?_
            refine jr_iload dX11_most_128 4 rfl ?_
            refine jr_i2l dX11_most_130 ?_
            refine jr_iload_n dX11_most_131 rfl 0 rfl ?_
            obtain ⟨r_15, hq_14, h⟩ := drvB h
            refine j_callSv lk_X11_246 wST_X2_fraction (tX2_fraction  hq_14) (by omega) rfl rfl (Nat.le_of_ble_eq_true rfl) dX11_most_132 ?_
            refine jr_l2i dX11_most_135 ?_
            obtain ⟨rfl, rfl⟩ := drvS2 h
            exact jr_iret rfl dX11_most_136
          · replace h := drvT hc h
            refine jr_iload dX11_most_118 2 rfl ?_
            refine jr_goto (tgt := 136) dX11_most_120 (by decide) ?_
            obtain ⟨rfl, rfl⟩ := drvS2 h
            exact jr_iret rfl dX11_most_136
      · replace h := drvT hc h
        refine jr_aload_n dX11_most_48 rfl 1 rfl ?_
        refine jr_bipush (v := (-5 : Int32)) dX11_most_49 (by decide) ?_
        obtain ⟨r_18, w_17, hq_16, h⟩ := drvB2 h
        refine j_callVv lk_X11_61 wIM_X11_refuse wSE_X11_refuse (rfl : kd 0 = 10) (by decide) rfl (tX11_refuse  hq_16) (by omega) rfl rfl (Nat.le_of_ble_eq_true rfl) dX11_most_51 ?_
        obtain ⟨rfl, rfl⟩ := drvS2 h
        exact jr_iret rfl dX11_most_54
    · replace h := drvT hc h
      refine jr_aload_n dX11_most_26 rfl 0 rfl ?_
      refine jr_bipush (v := (-3 : Int32)) dX11_most_27 (by decide) ?_
      obtain ⟨r_21, w_20, hq_19, h⟩ := drvB2 h
      refine j_callVv lk_X11_61 wIM_X11_refuse wSE_X11_refuse (rfl : kd 0 = 10) (by decide) rfl (tX11_refuse  hq_19) (by omega) rfl rfl (Nat.le_of_ble_eq_true rfl) dX11_most_29 ?_
      obtain ⟨rfl, rfl⟩ := drvS2 h
      exact jr_iret rfl dX11_most_32
  · replace h := drvT hc h
    refine jr_aload_n dX11_most_12 rfl 0 rfl ?_
    refine jr_bipush (v := (-2 : Int32)) dX11_most_13 (by decide) ?_
    obtain ⟨r_24, w_23, hq_22, h⟩ := drvB2 h
    refine j_callVv lk_X11_61 wIM_X11_refuse wSE_X11_refuse (rfl : kd 0 = 10) (by decide) rfl (tX11_refuse  hq_22) (by omega) rfl rfl (Nat.le_of_ble_eq_true rfl) dX11_most_15 ?_
    obtain ⟨rfl, rfl⟩ := drvS2 h
    exact jr_iret rfl dX11_most_18
set_option maxHeartbeats 4000000 in
set_option maxRecDepth 100000 in
theorem tX11_muddled {n : Nat} {a0 : Int32} {w : jWd} {r : Int32} {w' : jWd}  (h : fX11_muddled n a0 w = some (r, w')) : JM yX11_muddled MX11_muddled 7 [.ref 0, .int a0] w (some (.int r)) w' := by
  refine jm_of pl_X11 rfl (Nat.le_of_ble_eq_true rfl) ?_
  show J MX11_muddled 7 w 0 [(0, .ref 0), (1, .int a0)] [] (some (.int r)) w'
  unfold fX11_muddled at h
  refine jr_aload_n dX11_muddled_0 rfl 0 rfl ?_
  refine gf_X11_31 (r := 182) rfl (rfl : kd 0 = 10) rfl dX11_muddled_1 ?_
  refine jr_iload_n dX11_muddled_4 rfl 1 rfl ?_
  obtain ⟨r_3, w_2, hq_1, h⟩ := drvB2 h
  refine j_callVv lk_X11_303 wIM_X2_muddledAt wSE_X2_muddledAt (rfl : kd 182 = 2) (by decide) rfl (tX2_muddledAt  hq_1) (by omega) rfl rfl (Nat.le_of_ble_eq_true rfl) dX11_muddled_5 ?_
  obtain ⟨rfl, rfl⟩ := drvS2 h
  exact jr_iret rfl dX11_muddled_8
set_option maxHeartbeats 4000000 in
set_option maxRecDepth 100000 in
theorem tX11_odds {n : Nat} {a0 : Int32} {a1 : Int32} {w : jWd} {r : Int64} {w' : jWd}  (h : fX11_odds n a0 a1 w = some (r, w')) : JM yX11_odds MX11_odds 6 [.ref 0, .int a0, .int a1] w (some (.long r)) w' := by
  refine jm_of pl_X11 rfl (Nat.le_of_ble_eq_true rfl) ?_
  show J MX11_odds 6 w 0 [(0, .ref 0), (1, .int a0), (2, .int a1)] [] (some (.long r)) w'
  unfold fX11_odds at h
  refine jr_iload_n dX11_odds_0 rfl 2 rfl ?_
  refine j_callSv lk_X11_208 wST_X11_isHalf (tX11_isHalf  (a0 := a1) (w := w)) (by omega) rfl rfl (Nat.le_of_ble_eq_true rfl) dX11_odds_1 ?_
  refine jr_if_ne (tgt := 15) (nxt := 7) dX11_odds_4 (by decide) rfl (fun hc => ?_) (fun hc => ?_)
  · replace h := drvE hc h
    refine jr_iload_n dX11_odds_15 rfl 1 rfl ?_
    refine j_callSv lk_X11_236 wST_X11_isBound (tX11_isBound  (a0 := a0) (w := w)) (by omega) rfl rfl (Nat.le_of_ble_eq_true rfl) dX11_odds_16 ?_
    refine jr_if_ne (tgt := 30) (nxt := 22) dX11_odds_19 (by decide) rfl (fun hc => ?_) (fun hc => ?_)
    · replace h := drvE hc h
      refine jr_aload_n dX11_odds_30 rfl 0 rfl ?_
      refine gf_X11_31 (r := 182) rfl (rfl : kd 0 = 10) rfl dX11_odds_31 ?_
      refine jr_bipush (v := (6 : Int32)) dX11_odds_34 (by decide) ?_
      refine jr_iload_n dX11_odds_36 rfl 1 rfl ?_
      obtain ⟨r_2, hq_1, h⟩ := drvB h
      refine j_callVv lk_X11_239 wIM_X2_pairsBy wSE_X2_pairsBy (rfl : kd 182 = 2) (by decide) rfl (tX2_pairsBy  hq_1) (by omega) rfl rfl (Nat.le_of_ble_eq_true rfl) dX11_odds_37 ?_
      refine jr_i2l dX11_odds_40 ?_
      refine jr_aload_n dX11_odds_41 rfl 0 rfl ?_
      refine gf_X11_31 (r := 182) rfl (rfl : kd 0 = 10) rfl dX11_odds_42 ?_
      refine jr_bipush (v := (9 : Int32)) dX11_odds_45 (by decide) ?_
      obtain ⟨r_4, hq_3, h⟩ := drvB h
      refine j_callVv lk_X11_243 wIM_X2_pairs wSE_X2_pairs (rfl : kd 182 = 2) (by decide) rfl (tX2_pairs  hq_3) (by omega) rfl rfl (Nat.le_of_ble_eq_true rfl) dX11_odds_47 ?_
      refine jr_i2l dX11_odds_50 ?_
      refine jr_lmul dX11_odds_51 ?_
      refine j_nml (fun x3_5 e_6 => ?_)
      replace h := drvL e_6 h
      refine jr_lstore_n (lv' := [(3, .long x3_5), (0, .ref 0), (1, .int a0), (2, .int a1)]) dX11_odds_52 rfl (by decide) rfl ?_
      refine jr_aload_n dX11_odds_53 rfl 1 rfl ?_
      refine gf_X11_31 (r := 182) rfl (rfl : kd 0 = 10) rfl dX11_odds_54 ?_
      refine jr_bipush (v := (6 : Int32)) dX11_odds_57 (by decide) ?_
      obtain ⟨r_8, hq_7, h⟩ := drvB h
      refine j_callVv lk_X11_243 wIM_X2_pairs wSE_X2_pairs (rfl : kd 182 = 2) (by decide) rfl (tX2_pairs  hq_7) (by omega) rfl rfl (Nat.le_of_ble_eq_true rfl) dX11_odds_59 ?_
      refine jr_i2l dX11_odds_62 ?_
      refine jr_aload_n dX11_odds_63 rfl 1 rfl ?_
      refine gf_X11_31 (r := 182) rfl (rfl : kd 0 = 10) rfl dX11_odds_64 ?_
      refine jr_bipush (v := (9 : Int32)) dX11_odds_67 (by decide) ?_
      refine jr_iload_n dX11_odds_69 rfl 2 rfl ?_
      obtain ⟨r_10, hq_9, h⟩ := drvB h
      refine j_callVv lk_X11_239 wIM_X2_pairsBy wSE_X2_pairsBy (rfl : kd 182 = 2) (by decide) rfl (tX2_pairsBy  hq_9) (by omega) rfl rfl (Nat.le_of_ble_eq_true rfl) dX11_odds_70 ?_
      refine jr_i2l dX11_odds_73 ?_
      refine jr_lmul dX11_odds_74 ?_
      refine j_nml (fun x5_11 e_12 => ?_)
      replace h := drvL e_12 h
      refine jr_lstore (lv' := [(5, .long x5_11), (3, .long x3_5), (0, .ref 0), (1, .int a0), (2, .int a1)]) dX11_odds_75 (by decide) rfl ?_
      refine jr_lload_n dX11_odds_77 rfl 1 rfl ?_
      refine jr_lload dX11_odds_78 0 rfl ?_
      refine jr_iload_n dX11_odds_80 rfl 4 rfl ?_
      obtain ⟨r_14, hq_13, h⟩ := drvB h
      refine j_callSv lk_X11_246 wST_X2_fraction (tX2_fraction  hq_13) (by omega) rfl rfl (Nat.le_of_ble_eq_true rfl) dX11_odds_81 ?_
      obtain ⟨rfl, rfl⟩ := drvS2 h
      exact jr_lret rfl dX11_odds_84
    · replace h := drvT hc h
      refine jr_aload_n dX11_odds_22 rfl 0 rfl ?_
      refine jr_bipush (v := (-3 : Int32)) dX11_odds_23 (by decide) ?_
      obtain ⟨r_17, w_16, hq_15, h⟩ := drvB2 h
      refine j_callVv lk_X11_61 wIM_X11_refuse wSE_X11_refuse (rfl : kd 0 = 10) (by decide) rfl (tX11_refuse  hq_15) (by omega) rfl rfl (Nat.le_of_ble_eq_true rfl) dX11_odds_25 ?_
      refine jr_i2l dX11_odds_28 ?_
      obtain ⟨rfl, rfl⟩ := drvS2 h
      exact jr_lret rfl dX11_odds_29
  · replace h := drvT hc h
    refine jr_aload_n dX11_odds_7 rfl 0 rfl ?_
    refine jr_bipush (v := (-2 : Int32)) dX11_odds_8 (by decide) ?_
    obtain ⟨r_20, w_19, hq_18, h⟩ := drvB2 h
    refine j_callVv lk_X11_61 wIM_X11_refuse wSE_X11_refuse (rfl : kd 0 = 10) (by decide) rfl (tX11_refuse  hq_18) (by omega) rfl rfl (Nat.le_of_ble_eq_true rfl) dX11_odds_10 ?_
    refine jr_i2l dX11_odds_13 ?_
    obtain ⟨rfl, rfl⟩ := drvS2 h
    exact jr_lret rfl dX11_odds_14
set_option maxHeartbeats 4000000 in
set_option maxRecDepth 100000 in
theorem tX11_open {a0 : Int32} {a1 : Int32} {a2 : Int32} {a3 : Int32} {w : jWd} {r : Int32} {w' : jWd}  (h : fX11_open a0 a1 a2 a3 w = some (r, w')) : JM yX11_open MX11_open 3 [.ref 0, .int a0, .int a1, .int a2, .int a3] w (some (.int r)) w' := by
  refine jm_of pl_X11 rfl (Nat.le_of_ble_eq_true rfl) ?_
  show J MX11_open 3 w 0 [(0, .ref 0), (1, .int a0), (2, .int a1), (3, .int a2), (4, .int a3)] [] (some (.int r)) w'
  unfold fX11_open at h
  refine jr_iload_n dX11_open_0 rfl 1 rfl ?_
  obtain ⟨j16_1, ej16_1, h⟩ := drvF h
  have hj16_1 : ∀ (_ : Unit), j16_1 = some (r, w') → J MX11_open 3 w 16 [(0, .ref 0), (1, .int a0), (2, .int a1), (3, .int a2), (4, .int a3)] [] (some (.int r)) w' := by
    intro _ h
    rw [ej16_1] at h
    try dsimp only at h
    refine jr_iload_n dX11_open_16 rfl 2 rfl ?_
    refine jr_i2l dX11_open_17 ?_
    refine jr_lconst (v := (0 : Int64)) dX11_open_18 rfl ?_
    refine jr_iload_n dX11_open_19 rfl 1 rfl ?_
    obtain ⟨j32_3, ej32_3, h⟩ := drvF h
    have hj32_3 : ∀ (s_2 : Int64), j32_3 s_2 = some (r, w') → J MX11_open 3 w 32 [(0, .ref 0), (1, .int a0), (2, .int a1), (3, .int a2), (4, .int a3)] [.long s_2, .long (0 : Int64), .long ((a1).toInt64)] (some (.int r)) w' := by
      intro s_2 h
      rw [ej32_3] at h
      try dsimp only at h
      refine j_callSv lk_X11_69 wST_X11_within (tX11_within  (a0 := ((a1).toInt64)) (a1 := (0 : Int64)) (a2 := s_2) (w := w)) (by omega) rfl rfl (Nat.le_of_ble_eq_true rfl) dX11_open_32 ?_
      refine jr_if_ne (tgt := 45) (nxt := 38) dX11_open_35 (by decide) rfl (fun hc => ?_) (fun hc => ?_)
      · replace h := drvE hc h
        refine jr_iload_n dX11_open_45 rfl 1 rfl ?_
        obtain ⟨j65_4, ej65_4, h⟩ := drvF h
        have hj65_4 : ∀ (_ : Unit), j65_4 = some (r, w') → J MX11_open 3 w 65 [(0, .ref 0), (1, .int a0), (2, .int a1), (3, .int a2), (4, .int a3)] [] (some (.int r)) w' := by
          intro _ h
          rw [ej65_4] at h
          try dsimp only at h
          refine jr_aload_n dX11_open_65 rfl 0 rfl ?_
          refine gf_X11_10 (r := 1) rfl (rfl : kd 0 = 10) rfl dX11_open_66 ?_
          refine jr_iload_n dX11_open_69 rfl 1 rfl ?_
          refine j_callVv lk_X11_77 wIM_X8_pile wSE_X8_pile (rfl : kd 1 = 7) (by decide) rfl (tX8_pile (rfl : kd 1 = 7) (a0 := a0) (t := 1) (w := w)) (by omega) rfl rfl (Nat.le_of_ble_eq_true rfl) dX11_open_70 ?_
          refine j_nma (fun r_5 e_6 => ?_)
          replace h := drvL e_6 h
          have hk_r_5 : kd r_5 = 4 := by rw [e_6]; exact kqX8_pile (rfl : kd 1 = 7)
          refine jr_astore (lv' := [(5, .ref r_5), (0, .ref 0), (1, .int a0), (2, .int a1), (3, .int a2), (4, .int a3)]) dX11_open_73 (by decide) rfl ?_
          refine jr_aload dX11_open_75 0 rfl ?_
          refine j_callVv lk_X11_81 wIM_X5_isFull wSE_X5_isFull hk_r_5 (by decide) rfl (tX5_isFull hk_r_5  (t := r_5) (w := w)) (by omega) rfl rfl (Nat.le_of_ble_eq_true rfl) dX11_open_77 ?_
          refine jr_if_eq (tgt := 90) (nxt := 83) dX11_open_80 (by decide) rfl (fun hc => ?_) (fun hc => ?_)
          · replace h := drvT hc h
            refine jr_iload_n dX11_open_90 rfl 2 rfl ?_
            refine jr_if_ne (tgt := 106) (nxt := 94) dX11_open_91 (by decide) rfl (fun hc => ?_) (fun hc => ?_)
            · replace h := drvE hc h
              refine jr_aload dX11_open_106 0 rfl ?_
              refine jr_iload_n dX11_open_108 rfl 3 rfl ?_
              refine jr_iconst (v := (0 : Int32)) dX11_open_109 (by decide) ?_
              refine jr_iconst (v := (0 : Int32)) dX11_open_110 (by decide) ?_
              obtain ⟨r_9, w_8, hq_7, h⟩ := drvB2 h
              refine j_callVv lk_X11_87 wIM_X5_start wSE_X5_start hk_r_5 (by decide) rfl (tX5_start hk_r_5 hq_7) (by omega) rfl rfl (Nat.le_of_ble_eq_true rfl) dX11_open_111 ?_
              obtain ⟨rfl, rfl⟩ := drvS2 h
              exact jr_iret rfl dX11_open_114
            · replace h := drvT hc h
              refine jr_aload dX11_open_94 0 rfl ?_
              refine jr_iload_n dX11_open_96 rfl 3 rfl ?_
              refine jr_iload_n dX11_open_97 rfl 4 rfl ?_
              refine jr_iload dX11_open_98 5 rfl ?_
              obtain ⟨r_12, w_11, hq_10, h⟩ := drvB2 h
              refine j_callVv lk_X11_87 wIM_X5_start wSE_X5_start hk_r_5 (by decide) rfl (tX5_start hk_r_5 hq_10) (by omega) rfl rfl (Nat.le_of_ble_eq_true rfl) dX11_open_100 ?_
              refine jr_goto (tgt := 114) dX11_open_103 (by decide) ?_
              obtain ⟨rfl, rfl⟩ := drvS2 h
              exact jr_iret rfl dX11_open_114
          · replace h := drvE hc h
            refine jr_aload_n dX11_open_83 rfl 1 rfl ?_
            refine jr_bipush (v := (-4 : Int32)) dX11_open_84 (by decide) ?_
            obtain ⟨r_15, w_14, hq_13, h⟩ := drvB2 h
            refine j_callVv lk_X11_61 wIM_X11_refuse wSE_X11_refuse (rfl : kd 0 = 10) (by decide) rfl (tX11_refuse  hq_13) (by omega) rfl rfl (Nat.le_of_ble_eq_true rfl) dX11_open_86 ?_
            obtain ⟨rfl, rfl⟩ := drvS2 h
            exact jr_iret rfl dX11_open_89
        refine jr_if_ne (tgt := 65) (nxt := 49) dX11_open_46 (by decide) rfl (fun hc => ?_) (fun hc => ?_)
        · replace h := drvE hc h
          refine jr_sub [0, 1, 2, 3, 4] rfl ?_
          exact (hj65_4 ()) h
        · replace h := drvT hc h
          refine jr_iload_n dX11_open_49 rfl 3 rfl ?_
          refine jr_iload dX11_open_50 4 rfl ?_
          refine j_callSv lk_X11_73 wST_X11_isGlenAndDay (tX11_isGlenAndDay  (a0 := a2) (a1 := a3) (w := w)) (by omega) rfl rfl (Nat.le_of_ble_eq_true rfl) dX11_open_52 ?_
          refine jr_if_ne (tgt := 65) (nxt := 58) dX11_open_55 (by decide) rfl (fun hc => ?_) (fun hc => ?_)
          · replace h := drvE hc h
            refine jr_sub [0, 1, 2, 3, 4] rfl ?_
            exact (hj65_4 ()) h
          · replace h := drvT hc h
            refine jr_aload_n dX11_open_58 rfl 0 rfl ?_
            refine jr_bipush (v := (-3 : Int32)) dX11_open_59 (by decide) ?_
            obtain ⟨r_18, w_17, hq_16, h⟩ := drvB2 h
            refine j_callVv lk_X11_61 wIM_X11_refuse wSE_X11_refuse (rfl : kd 0 = 10) (by decide) rfl (tX11_refuse  hq_16) (by omega) rfl rfl (Nat.le_of_ble_eq_true rfl) dX11_open_61 ?_
            obtain ⟨rfl, rfl⟩ := drvS2 h
            exact jr_iret rfl dX11_open_64
      · replace h := drvT hc h
        refine jr_aload_n dX11_open_38 rfl 0 rfl ?_
        refine jr_bipush (v := (-3 : Int32)) dX11_open_39 (by decide) ?_
        obtain ⟨r_21, w_20, hq_19, h⟩ := drvB2 h
        refine j_callVv lk_X11_61 wIM_X11_refuse wSE_X11_refuse (rfl : kd 0 = 10) (by decide) rfl (tX11_refuse  hq_19) (by omega) rfl rfl (Nat.le_of_ble_eq_true rfl) dX11_open_41 ?_
        obtain ⟨rfl, rfl⟩ := drvS2 h
        exact jr_iret rfl dX11_open_44
    refine jr_if_ne (tgt := 29) (nxt := 23) dX11_open_20 (by decide) rfl (fun hc => ?_) (fun hc => ?_)
    · replace h := drvE hc h
      refine jr_ldc2 (v := (5 : Int64)) wCC_X11_67 dX11_open_29 ?_
      refine jr_sub [0, 1, 2, 3, 4] rfl ?_
      exact hj32_3 _ h
    · replace h := drvT hc h
      refine jr_ldc2 (v := (9 : Int64)) wCC_X11_65 dX11_open_23 ?_
      refine jr_goto (tgt := 32) dX11_open_26 (by decide) ?_
      refine jr_sub [0, 1, 2, 3, 4] rfl ?_
      exact hj32_3 _ h
  refine jr_if_eq (tgt := 16) (nxt := 4) dX11_open_1 (by decide) rfl (fun hc => ?_) (fun hc => ?_)
  · replace h := drvT hc h
    refine jr_sub [0, 1, 2, 3, 4] rfl ?_
    exact (hj16_1 ()) h
  · replace h := drvE hc h
    refine jr_iload_n dX11_open_4 rfl 1 rfl ?_
    refine jr_iconst (v := (1 : Int32)) dX11_open_5 (by decide) ?_
    refine jr_icmp_eq (tgt := 16) (nxt := 9) dX11_open_6 (by decide) rfl (fun hc => ?_) (fun hc => ?_)
    · replace h := drvT hc h
      refine jr_sub [0, 1, 2, 3, 4] rfl ?_
      exact (hj16_1 ()) h
    · replace h := drvE hc h
      refine jr_aload_n dX11_open_9 rfl 0 rfl ?_
      refine jr_bipush (v := (-2 : Int32)) dX11_open_10 (by decide) ?_
      obtain ⟨r_24, w_23, hq_22, h⟩ := drvB2 h
      refine j_callVv lk_X11_61 wIM_X11_refuse wSE_X11_refuse (rfl : kd 0 = 10) (by decide) rfl (tX11_refuse  hq_22) (by omega) rfl rfl (Nat.le_of_ble_eq_true rfl) dX11_open_12 ?_
      obtain ⟨rfl, rfl⟩ := drvS2 h
      exact jr_iret rfl dX11_open_15
set_option maxHeartbeats 4000000 in
set_option maxRecDepth 100000 in
theorem tX11_pages {a0 : Int32} {a1 : Int32} {w : jWd} {r : Int32} {w' : jWd}  (h : fX11_pages a0 a1 w = some (r, w')) : JM yX11_pages MX11_pages 2 [.ref 0, .int a0, .int a1] w (some (.int r)) w' := by
  refine jm_of pl_X11 rfl (Nat.le_of_ble_eq_true rfl) ?_
  show J MX11_pages 2 w 0 [(0, .ref 0), (1, .int a0), (2, .int a1)] [] (some (.int r)) w'
  unfold fX11_pages at h
  refine jr_iload_n dX11_pages_0 rfl 1 rfl ?_
  refine jr_i2l dX11_pages_1 ?_
  refine jr_lconst (v := (0 : Int64)) dX11_pages_2 rfl ?_
  refine jr_ldc2 (v := (9999 : Int64)) wCC_X11_113 dX11_pages_3 ?_
  refine j_callSv lk_X11_69 wST_X11_within (tX11_within  (a0 := ((a0).toInt64)) (a1 := (0 : Int64)) (a2 := (9999 : Int64)) (w := w)) (by omega) rfl rfl (Nat.le_of_ble_eq_true rfl) dX11_pages_6 ?_
  obtain ⟨j24_1, ej24_1, h⟩ := drvF h
  have hj24_1 : ∀ (_ : Unit), j24_1 = some (r, w') → J MX11_pages 2 w 24 [(0, .ref 0)] [] (some (.int r)) w' := by
    intro _ h
    rw [ej24_1] at h
    try dsimp only at h
    refine jr_aload_n dX11_pages_24 rfl 0 rfl ?_
    refine jr_bipush (v := (-3 : Int32)) dX11_pages_25 (by decide) ?_
    obtain ⟨r_4, w_3, hq_2, h⟩ := drvB2 h
    refine j_callVv lk_X11_61 wIM_X11_refuse wSE_X11_refuse (rfl : kd 0 = 10) (by decide) rfl (tX11_refuse  hq_2) (by omega) rfl rfl (Nat.le_of_ble_eq_true rfl) dX11_pages_27 ?_
    obtain ⟨rfl, rfl⟩ := drvS2 h
    exact jr_iret rfl dX11_pages_30
  refine jr_if_eq (tgt := 24) (nxt := 12) dX11_pages_9 (by decide) rfl (fun hc => ?_) (fun hc => ?_)
  · replace h := drvT hc h
    refine jr_sub [0] rfl ?_
    exact (hj24_1 ()) h
  · replace h := drvE hc h
    refine jr_iload_n dX11_pages_12 rfl 2 rfl ?_
    refine jr_i2l dX11_pages_13 ?_
    refine jr_lconst (v := (1 : Int64)) dX11_pages_14 rfl ?_
    refine jr_ldc2 (v := (99 : Int64)) wCC_X11_331 dX11_pages_15 ?_
    refine j_callSv lk_X11_69 wST_X11_within (tX11_within  (a0 := ((a1).toInt64)) (a1 := (1 : Int64)) (a2 := (99 : Int64)) (w := w)) (by omega) rfl rfl (Nat.le_of_ble_eq_true rfl) dX11_pages_18 ?_
    refine jr_if_ne (tgt := 31) (nxt := 24) dX11_pages_21 (by decide) rfl (fun hc => ?_) (fun hc => ?_)
    · replace h := drvE hc h
      refine jr_aload_n dX11_pages_31 rfl 0 rfl ?_
      refine gf_X11_10 (r := 1) rfl (rfl : kd 0 = 10) rfl dX11_pages_32 ?_
      refine gf_X11_319 (r := 48) rfl (rfl : kd 1 = 7) rfl dX11_pages_35 ?_
      refine gf_X11_333 rfl (rfl : kd 48 = 8) dX11_pages_38 ?_
      refine jr_bipush (v := (40 : Int32)) dX11_pages_41 (by decide) ?_
      refine jr_icmp_lt (tgt := 53) (nxt := 46) dX11_pages_43 (by decide) rfl (fun hc => ?_) (fun hc => ?_)
      · replace h := drvT hc h
        refine jr_aload_n dX11_pages_53 rfl 0 rfl ?_
        refine gf_X11_10 (r := 1) rfl (rfl : kd 0 = 10) rfl dX11_pages_54 ?_
        refine gf_X11_319 (r := 48) rfl (rfl : kd 1 = 7) rfl dX11_pages_57 ?_
        refine jr_iload_n dX11_pages_60 rfl 1 rfl ?_
        refine jr_iload_n dX11_pages_61 rfl 2 rfl ?_
        obtain ⟨r_7, w_6, hq_5, h⟩ := drvB2 h
        refine j_callVv lk_X11_336 wIM_X9_fill wSE_X9_fill (rfl : kd 48 = 8) (by decide) rfl (tX9_fill (rfl : kd 48 = 8) hq_5) (by omega) rfl rfl (Nat.le_of_ble_eq_true rfl) dX11_pages_62 ?_
        obtain ⟨rfl, rfl⟩ := drvS2 h
        exact jr_iret rfl dX11_pages_65
      · replace h := drvE hc h
        refine jr_aload_n dX11_pages_46 rfl 0 rfl ?_
        refine jr_bipush (v := (-4 : Int32)) dX11_pages_47 (by decide) ?_
        obtain ⟨r_10, w_9, hq_8, h⟩ := drvB2 h
        refine j_callVv lk_X11_61 wIM_X11_refuse wSE_X11_refuse (rfl : kd 0 = 10) (by decide) rfl (tX11_refuse  hq_8) (by omega) rfl rfl (Nat.le_of_ble_eq_true rfl) dX11_pages_49 ?_
        obtain ⟨rfl, rfl⟩ := drvS2 h
        exact jr_iret rfl dX11_pages_52
    · replace h := drvT hc h
      refine jr_sub [0] rfl ?_
      exact (hj24_1 ()) h
set_option maxHeartbeats 4000000 in
set_option maxRecDepth 100000 in
theorem tX11_paid {a0 : Int32} {a1 : Int32} {w : jWd} {r : Int32} {w' : jWd}  (h : fX11_paid a0 a1 w = some (r, w')) : JM yX11_paid MX11_paid 2 [.ref 0, .int a0, .int a1] w (some (.int r)) w' := by
  refine jm_of pl_X11 rfl (Nat.le_of_ble_eq_true rfl) ?_
  show J MX11_paid 2 w 0 [(0, .ref 0), (1, .int a0), (2, .int a1)] [] (some (.int r)) w'
  unfold fX11_paid at h
  refine jr_iload_n dX11_paid_0 rfl 1 rfl ?_
  refine jr_i2l dX11_paid_1 ?_
  refine jr_lconst (v := (0 : Int64)) dX11_paid_2 rfl ?_
  refine jr_ldc2 (v := (9999 : Int64)) wCC_X11_113 dX11_paid_3 ?_
  refine j_callSv lk_X11_69 wST_X11_within (tX11_within  (a0 := ((a0).toInt64)) (a1 := (0 : Int64)) (a2 := (9999 : Int64)) (w := w)) (by omega) rfl rfl (Nat.le_of_ble_eq_true rfl) dX11_paid_6 ?_
  obtain ⟨j24_1, ej24_1, h⟩ := drvF h
  have hj24_1 : ∀ (_ : Unit), j24_1 = some (r, w') → J MX11_paid 2 w 24 [(0, .ref 0)] [] (some (.int r)) w' := by
    intro _ h
    rw [ej24_1] at h
    try dsimp only at h
    refine jr_aload_n dX11_paid_24 rfl 0 rfl ?_
    refine jr_bipush (v := (-3 : Int32)) dX11_paid_25 (by decide) ?_
    obtain ⟨r_4, w_3, hq_2, h⟩ := drvB2 h
    refine j_callVv lk_X11_61 wIM_X11_refuse wSE_X11_refuse (rfl : kd 0 = 10) (by decide) rfl (tX11_refuse  hq_2) (by omega) rfl rfl (Nat.le_of_ble_eq_true rfl) dX11_paid_27 ?_
    obtain ⟨rfl, rfl⟩ := drvS2 h
    exact jr_iret rfl dX11_paid_30
  refine jr_if_eq (tgt := 24) (nxt := 12) dX11_paid_9 (by decide) rfl (fun hc => ?_) (fun hc => ?_)
  · replace h := drvT hc h
    refine jr_sub [0] rfl ?_
    exact (hj24_1 ()) h
  · replace h := drvE hc h
    refine jr_iload_n dX11_paid_12 rfl 2 rfl ?_
    refine jr_i2l dX11_paid_13 ?_
    refine jr_lconst (v := (1 : Int64)) dX11_paid_14 rfl ?_
    refine jr_ldc2 (v := (999 : Int64)) wCC_X11_317 dX11_paid_15 ?_
    refine j_callSv lk_X11_69 wST_X11_within (tX11_within  (a0 := ((a1).toInt64)) (a1 := (1 : Int64)) (a2 := (999 : Int64)) (w := w)) (by omega) rfl rfl (Nat.le_of_ble_eq_true rfl) dX11_paid_18 ?_
    refine jr_if_ne (tgt := 31) (nxt := 24) dX11_paid_21 (by decide) rfl (fun hc => ?_) (fun hc => ?_)
    · replace h := drvE hc h
      refine jr_aload_n dX11_paid_31 rfl 0 rfl ?_
      refine gf_X11_10 (r := 1) rfl (rfl : kd 0 = 10) rfl dX11_paid_32 ?_
      refine gf_X11_319 (r := 48) rfl (rfl : kd 1 = 7) rfl dX11_paid_35 ?_
      refine gf_X11_323 rfl (rfl : kd 48 = 8) dX11_paid_38 ?_
      refine jr_bipush (v := (20 : Int32)) dX11_paid_41 (by decide) ?_
      refine jr_icmp_lt (tgt := 53) (nxt := 46) dX11_paid_43 (by decide) rfl (fun hc => ?_) (fun hc => ?_)
      · replace h := drvT hc h
        refine jr_aload_n dX11_paid_53 rfl 0 rfl ?_
        refine gf_X11_10 (r := 1) rfl (rfl : kd 0 = 10) rfl dX11_paid_54 ?_
        refine gf_X11_319 (r := 48) rfl (rfl : kd 1 = 7) rfl dX11_paid_57 ?_
        refine jr_iload_n dX11_paid_60 rfl 1 rfl ?_
        refine jr_iload_n dX11_paid_61 rfl 2 rfl ?_
        obtain ⟨r_7, w_6, hq_5, h⟩ := drvB2 h
        refine j_callVv lk_X11_328 wIM_X9_pay wSE_X9_pay (rfl : kd 48 = 8) (by decide) rfl (tX9_pay (rfl : kd 48 = 8) hq_5) (by omega) rfl rfl (Nat.le_of_ble_eq_true rfl) dX11_paid_62 ?_
        obtain ⟨rfl, rfl⟩ := drvS2 h
        exact jr_iret rfl dX11_paid_65
      · replace h := drvE hc h
        refine jr_aload_n dX11_paid_46 rfl 0 rfl ?_
        refine jr_bipush (v := (-4 : Int32)) dX11_paid_47 (by decide) ?_
        obtain ⟨r_10, w_9, hq_8, h⟩ := drvB2 h
        refine j_callVv lk_X11_61 wIM_X11_refuse wSE_X11_refuse (rfl : kd 0 = 10) (by decide) rfl (tX11_refuse  hq_8) (by omega) rfl rfl (Nat.le_of_ble_eq_true rfl) dX11_paid_49 ?_
        obtain ⟨rfl, rfl⟩ := drvS2 h
        exact jr_iret rfl dX11_paid_52
    · replace h := drvT hc h
      refine jr_sub [0] rfl ?_
      exact (hj24_1 ()) h
set_option maxHeartbeats 4000000 in
set_option maxRecDepth 100000 in
theorem tX11_parted {n : Nat} {a0 : Int32} {a1 : Int32} {w : jWd} {r : Int32} {w' : jWd}  (h : fX11_parted n a0 a1 w = some (r, w')) : JM yX11_parted MX11_parted 7 [.ref 0, .int a0, .int a1] w (some (.int r)) w' := by
  refine jm_of pl_X11 rfl (Nat.le_of_ble_eq_true rfl) ?_
  show J MX11_parted 7 w 0 [(0, .ref 0), (1, .int a0), (2, .int a1)] [] (some (.int r)) w'
  unfold fX11_parted at h
  refine jr_iload_n dX11_parted_0 rfl 1 rfl ?_
  refine j_callSv lk_X11_208 wST_X11_isHalf (tX11_isHalf  (a0 := a0) (w := w)) (by omega) rfl rfl (Nat.le_of_ble_eq_true rfl) dX11_parted_1 ?_
  refine jr_if_ne (tgt := 14) (nxt := 7) dX11_parted_4 (by decide) rfl (fun hc => ?_) (fun hc => ?_)
  · replace h := drvE hc h
    refine jr_aload_n dX11_parted_14 rfl 0 rfl ?_
    refine gf_X11_31 (r := 182) rfl (rfl : kd 0 = 10) rfl dX11_parted_15 ?_
    refine jr_iload_n dX11_parted_18 rfl 1 rfl ?_
    refine jr_iload_n dX11_parted_19 rfl 2 rfl ?_
    obtain ⟨j28_2, ej28_2, h⟩ := drvF h
    have hj28_2 : ∀ (s_1 : Int32), j28_2 s_1 = some (r, w') → J MX11_parted 7 w 28 [] [.int s_1, .int a0, .ref 182] (some (.int r)) w' := by
      intro s_1 h
      rw [ej28_2] at h
      try dsimp only at h
      obtain ⟨r_5, w_4, hq_3, h⟩ := drvB2 h
      refine j_callVv lk_X11_300 wIM_X2_partedBy wSE_X2_partedBy (rfl : kd 182 = 2) (by decide) rfl (tX2_partedBy  hq_3) (by omega) rfl rfl (Nat.le_of_ble_eq_true rfl) dX11_parted_28 ?_
      obtain ⟨rfl, rfl⟩ := drvS2 h
      exact jr_iret rfl dX11_parted_31
    refine jr_if_eq (tgt := 27) (nxt := 23) dX11_parted_20 (by decide) rfl (fun hc => ?_) (fun hc => ?_)
    · replace h := drvT hc h
      refine jr_iconst (v := (0 : Int32)) dX11_parted_27 (by decide) ?_
      refine jr_sub [] rfl ?_
      exact hj28_2 _ h
    · replace h := drvE hc h
      refine jr_iconst (v := (1 : Int32)) dX11_parted_23 (by decide) ?_
      refine jr_goto (tgt := 28) dX11_parted_24 (by decide) ?_
      refine jr_sub [] rfl ?_
      exact hj28_2 _ h
  · replace h := drvT hc h
    refine jr_aload_n dX11_parted_7 rfl 0 rfl ?_
    refine jr_bipush (v := (-2 : Int32)) dX11_parted_8 (by decide) ?_
    obtain ⟨r_8, w_7, hq_6, h⟩ := drvB2 h
    refine j_callVv lk_X11_61 wIM_X11_refuse wSE_X11_refuse (rfl : kd 0 = 10) (by decide) rfl (tX11_refuse  hq_6) (by omega) rfl rfl (Nat.le_of_ble_eq_true rfl) dX11_parted_10 ?_
    obtain ⟨rfl, rfl⟩ := drvS2 h
    exact jr_iret rfl dX11_parted_13
set_option maxHeartbeats 4000000 in
set_option maxRecDepth 100000 in
theorem tX11_print {a0 : Int32} {w : jWd} {r : Int32} {w' : jWd}  (h : fX11_print a0 w = some (r, w')) : JM yX11_print MX11_print 2 [.ref 0, .int a0] w (some (.int r)) w' := by
  refine jm_of pl_X11 rfl (Nat.le_of_ble_eq_true rfl) ?_
  show J MX11_print 2 w 0 [(0, .ref 0), (1, .int a0)] [] (some (.int r)) w'
  unfold fX11_print at h
  refine jr_iload_n dX11_print_0 rfl 1 rfl ?_
  refine jr_i2l dX11_print_1 ?_
  refine jr_lconst (v := (0 : Int64)) dX11_print_2 rfl ?_
  refine jr_ldc2 (v := (9999 : Int64)) wCC_X11_113 dX11_print_3 ?_
  refine j_callSv lk_X11_69 wST_X11_within (tX11_within  (a0 := ((a0).toInt64)) (a1 := (0 : Int64)) (a2 := (9999 : Int64)) (w := w)) (by omega) rfl rfl (Nat.le_of_ble_eq_true rfl) dX11_print_6 ?_
  refine jr_if_ne (tgt := 19) (nxt := 12) dX11_print_9 (by decide) rfl (fun hc => ?_) (fun hc => ?_)
  · replace h := drvE hc h
    refine jr_aload_n dX11_print_19 rfl 0 rfl ?_
    refine gf_X11_10 (r := 1) rfl (rfl : kd 0 = 10) rfl dX11_print_20 ?_
    refine gf_X11_115 (r := 16) rfl (rfl : kd 1 = 7) rfl dX11_print_23 ?_
    refine gf_X11_119 (r := 19) rfl (rfl : kd 16 = 4) rfl dX11_print_26 ?_
    refine jr_iconst (v := (0 : Int32)) dX11_print_29 (by decide) ?_
    refine jr_ialdL (k := 0) (rfl : kd 19 = 13) (vp_lit (by decide) (by decide)) (by decide) dX11_print_30 ?_
    refine j_nmi (fun x2_1 e_2 => ?_)
    replace h := drvL e_2 h
    refine jr_istore_n (lv' := [(2, .int x2_1), (0, .ref 0), (1, .int a0)]) dX11_print_31 rfl (by decide) rfl ?_
    refine jr_aload_n dX11_print_32 rfl 1 rfl ?_
    refine gf_X11_10 (r := 1) rfl (rfl : kd 0 = 10) rfl dX11_print_33 ?_
    refine gf_X11_115 (r := 16) rfl (rfl : kd 1 = 7) rfl dX11_print_36 ?_
    refine gf_X11_119 (r := 19) rfl (rfl : kd 16 = 4) rfl dX11_print_39 ?_
    refine jr_iconst (v := (0 : Int32)) dX11_print_42 (by decide) ?_
    refine jr_iload_n dX11_print_43 rfl 2 rfl ?_
    refine jr_iastL (k := 0) (rfl : kd 19 = 13) (vp_lit (by decide) (by decide)) (by decide) dX11_print_44 ?_
    refine j_nmw (fun w_3 e_4 => ?_)
    replace h := drvL e_4 h
    refine jr_iload_n dX11_print_45 rfl 0 rfl ?_
    obtain ⟨rfl, rfl⟩ := drvS2 h
    exact jr_iret rfl dX11_print_46
  · replace h := drvT hc h
    refine jr_aload_n dX11_print_12 rfl 0 rfl ?_
    refine jr_bipush (v := (-3 : Int32)) dX11_print_13 (by decide) ?_
    obtain ⟨r_7, w_6, hq_5, h⟩ := drvB2 h
    refine j_callVv lk_X11_61 wIM_X11_refuse wSE_X11_refuse (rfl : kd 0 = 10) (by decide) rfl (tX11_refuse  hq_5) (by omega) rfl rfl (Nat.le_of_ble_eq_true rfl) dX11_print_15 ?_
    obtain ⟨rfl, rfl⟩ := drvS2 h
    exact jr_iret rfl dX11_print_18
set_option maxHeartbeats 4000000 in
set_option maxRecDepth 100000 in
theorem tX11_rate {n : Nat} {w : jWd} {r : Int32} {w' : jWd}  (h : fX11_rate n w = some (r, w')) : JM yX11_rate MX11_rate 4 [.ref 0] w (some (.int r)) w' := by
  refine jm_of pl_X11 rfl (Nat.le_of_ble_eq_true rfl) ?_
  show J MX11_rate 4 w 0 [(0, .ref 0)] [] (some (.int r)) w'
  unfold fX11_rate at h
  refine jr_aload_n dX11_rate_0 rfl 0 rfl ?_
  refine gf_X11_10 (r := 1) rfl (rfl : kd 0 = 10) rfl dX11_rate_1 ?_
  refine gf_X11_319 (r := 48) rfl (rfl : kd 1 = 7) rfl dX11_rate_4 ?_
  refine gf_X11_333 rfl (rfl : kd 48 = 8) dX11_rate_7 ?_
  refine jr_if_ne (tgt := 20) (nxt := 13) dX11_rate_10 (by decide) rfl (fun hc => ?_) (fun hc => ?_)
  · replace h := drvE hc h
    refine jr_aload_n dX11_rate_20 rfl 0 rfl ?_
    refine gf_X11_10 (r := 1) rfl (rfl : kd 0 = 10) rfl dX11_rate_21 ?_
    refine gf_X11_319 (r := 48) rfl (rfl : kd 1 = 7) rfl dX11_rate_24 ?_
    obtain ⟨r_2, hq_1, h⟩ := drvB h
    refine j_callVv lk_X11_351 wIM_X9_leastRate wSE_X9_leastRate (rfl : kd 48 = 8) (by decide) rfl (tX9_leastRate (rfl : kd 48 = 8) hq_1) (by omega) rfl rfl (Nat.le_of_ble_eq_true rfl) dX11_rate_27 ?_
    obtain ⟨rfl, rfl⟩ := drvS2 h
    exact jr_iret rfl dX11_rate_30
  · replace h := drvT hc h
    refine jr_aload_n dX11_rate_13 rfl 0 rfl ?_
    refine jr_bipush (v := (-5 : Int32)) dX11_rate_14 (by decide) ?_
    obtain ⟨r_5, w_4, hq_3, h⟩ := drvB2 h
    refine j_callVv lk_X11_61 wIM_X11_refuse wSE_X11_refuse (rfl : kd 0 = 10) (by decide) rfl (tX11_refuse  hq_3) (by omega) rfl rfl (Nat.le_of_ble_eq_true rfl) dX11_rate_16 ?_
    obtain ⟨rfl, rfl⟩ := drvS2 h
    exact jr_iret rfl dX11_rate_19
set_option maxHeartbeats 4000000 in
set_option maxRecDepth 100000 in
theorem tX11_restore {a0 : Int32} {w : jWd} {r : Int32} {w' : jWd}  (h : fX11_restore a0 w = some (r, w')) : JM yX11_restore MX11_restore 3 [.ref 0, .int a0] w (some (.int r)) w' := by
  refine jm_of pl_X11 rfl (Nat.le_of_ble_eq_true rfl) ?_
  show J MX11_restore 3 w 0 [(0, .ref 0), (1, .int a0)] [] (some (.int r)) w'
  unfold fX11_restore at h
  refine jr_iload_n dX11_restore_0 rfl 1 rfl ?_
  refine j_callSv lk_X11_208 wST_X11_isHalf (tX11_isHalf  (a0 := a0) (w := w)) (by omega) rfl rfl (Nat.le_of_ble_eq_true rfl) dX11_restore_1 ?_
  refine jr_if_ne (tgt := 14) (nxt := 7) dX11_restore_4 (by decide) rfl (fun hc => ?_) (fun hc => ?_)
  · replace h := drvE hc h
    refine jr_aload_n dX11_restore_14 rfl 0 rfl ?_
    refine gf_X11_22 (r := 181) rfl (rfl : kd 0 = 10) rfl dX11_restore_15 ?_
    refine jr_iload_n dX11_restore_18 rfl 1 rfl ?_
    obtain ⟨hg_1, h⟩ := drvG h
    refine jr_zald (rfl : kd 181 = 15) hg_1 dX11_restore_19 ?_
    refine jr_if_ne (tgt := 30) (nxt := 23) dX11_restore_20 (by decide) rfl (fun hc => ?_) (fun hc => ?_)
    · replace h := drvE hc h
      refine jr_aload_n dX11_restore_30 rfl 0 rfl ?_
      refine gf_X11_10 (r := 1) rfl (rfl : kd 0 = 10) rfl dX11_restore_31 ?_
      refine jr_aload_n dX11_restore_34 rfl 0 rfl ?_
      refine jr_iload_n dX11_restore_35 rfl 1 rfl ?_
      refine j_callVv lk_X11_400 wIM_X11_imageAt wSE_X11_imageAt (rfl : kd 0 = 10) (by decide) rfl (tX11_imageAt  (a0 := a0) (w := w)) (by omega) rfl rfl (Nat.le_of_ble_eq_true rfl) dX11_restore_36 ?_
      refine j_nma (fun r_2 e_3 => ?_)
      replace h := drvL e_3 h
      have hk_r_2 : kd r_2 = 7 := by rw [e_3]; exact kqX11_imageAt 
      obtain ⟨w_5, hq_4, h⟩ := drvB h
      refine j_callVn lk_X11_404 wIM_X8_copy wSE_X8_copy (rfl : kd 1 = 7) (by decide) rfl (tX8_copy (rfl : kd 1 = 7) hk_r_2 hq_4) (by omega) rfl rfl (Nat.le_of_ble_eq_true rfl) dX11_restore_39 ?_
      refine jr_iconst (v := (0 : Int32)) dX11_restore_42 (by decide) ?_
      obtain ⟨rfl, rfl⟩ := drvS2 h
      exact jr_iret rfl dX11_restore_43
    · replace h := drvT hc h
      refine jr_aload_n dX11_restore_23 rfl 0 rfl ?_
      refine jr_bipush (v := (-5 : Int32)) dX11_restore_24 (by decide) ?_
      obtain ⟨r_8, w_7, hq_6, h⟩ := drvB2 h
      refine j_callVv lk_X11_61 wIM_X11_refuse wSE_X11_refuse (rfl : kd 0 = 10) (by decide) rfl (tX11_refuse  hq_6) (by omega) rfl rfl (Nat.le_of_ble_eq_true rfl) dX11_restore_26 ?_
      obtain ⟨rfl, rfl⟩ := drvS2 h
      exact jr_iret rfl dX11_restore_29
  · replace h := drvT hc h
    refine jr_aload_n dX11_restore_7 rfl 0 rfl ?_
    refine jr_bipush (v := (-2 : Int32)) dX11_restore_8 (by decide) ?_
    obtain ⟨r_11, w_10, hq_9, h⟩ := drvB2 h
    refine j_callVv lk_X11_61 wIM_X11_refuse wSE_X11_refuse (rfl : kd 0 = 10) (by decide) rfl (tX11_refuse  hq_9) (by omega) rfl rfl (Nat.le_of_ble_eq_true rfl) dX11_restore_10 ?_
    obtain ⟨rfl, rfl⟩ := drvS2 h
    exact jr_iret rfl dX11_restore_13
set_option maxHeartbeats 4000000 in
set_option maxRecDepth 100000 in
theorem tX11_row {n : Nat} {a0 : Int32} {a1 : Int32} {a2 : Int32} {w : jWd} {r : Int32} {w' : jWd}  (h : fX11_row n a0 a1 a2 w = some (r, w')) : JM yX11_row MX11_row 4 [.ref 0, .int a0, .int a1, .int a2] w (some (.int r)) w' := by
  refine jm_of pl_X11 rfl (Nat.le_of_ble_eq_true rfl) ?_
  show J MX11_row 4 w 0 [(0, .ref 0), (1, .int a0), (2, .int a1), (3, .int a2)] [] (some (.int r)) w'
  unfold fX11_row at h
  refine jr_aload_n dX11_row_0 rfl 0 rfl ?_
  refine gf_X11_38 (r := 185) rfl (rfl : kd 0 = 10) rfl dX11_row_1 ?_
  refine jr_iload_n dX11_row_4 rfl 1 rfl ?_
  refine j_callVv lk_X11_379 wIM_X7_canBe wSE_X7_canBe (rfl : kd 185 = 6) (by decide) rfl (tX7_canBe  (a0 := a0) (w := w)) (by omega) rfl rfl (Nat.le_of_ble_eq_true rfl) dX11_row_5 ?_
  obtain ⟨j23_1, ej23_1, h⟩ := drvF h
  have hj23_1 : ∀ (_ : Unit), j23_1 = some (r, w') → J MX11_row 4 w 23 [(0, .ref 0)] [] (some (.int r)) w' := by
    intro _ h
    rw [ej23_1] at h
    try dsimp only at h
    refine jr_aload_n dX11_row_23 rfl 0 rfl ?_
    refine jr_bipush (v := (-2 : Int32)) dX11_row_24 (by decide) ?_
    obtain ⟨r_4, w_3, hq_2, h⟩ := drvB2 h
    refine j_callVv lk_X11_61 wIM_X11_refuse wSE_X11_refuse (rfl : kd 0 = 10) (by decide) rfl (tX11_refuse  hq_2) (by omega) rfl rfl (Nat.le_of_ble_eq_true rfl) dX11_row_26 ?_
    obtain ⟨rfl, rfl⟩ := drvS2 h
    exact jr_iret rfl dX11_row_29
  refine jr_if_eq (tgt := 23) (nxt := 11) dX11_row_8 (by decide) rfl (fun hc => ?_) (fun hc => ?_)
  · replace h := drvT hc h
    refine jr_sub [0] rfl ?_
    exact (hj23_1 ()) h
  · replace h := drvE hc h
    refine jr_iload_n dX11_row_11 rfl 2 rfl ?_
    refine jr_i2l dX11_row_12 ?_
    refine jr_lconst (v := (0 : Int64)) dX11_row_13 rfl ?_
    refine jr_ldc2 (v := (3 : Int64)) wCC_X11_308 dX11_row_14 ?_
    refine j_callSv lk_X11_69 wST_X11_within (tX11_within  (a0 := ((a1).toInt64)) (a1 := (0 : Int64)) (a2 := (3 : Int64)) (w := w)) (by omega) rfl rfl (Nat.le_of_ble_eq_true rfl) dX11_row_17 ?_
    refine jr_if_ne (tgt := 30) (nxt := 23) dX11_row_20 (by decide) rfl (fun hc => ?_) (fun hc => ?_)
    · replace h := drvE hc h
      refine jr_iload_n dX11_row_30 rfl 3 rfl ?_
      refine jr_i2l dX11_row_31 ?_
      refine jr_lconst (v := (0 : Int64)) dX11_row_32 rfl ?_
      refine jr_ldc2 (v := (60 : Int64)) wCC_X11_382 dX11_row_33 ?_
      refine j_callSv lk_X11_69 wST_X11_within (tX11_within  (a0 := ((a2).toInt64)) (a1 := (0 : Int64)) (a2 := (60 : Int64)) (w := w)) (by omega) rfl rfl (Nat.le_of_ble_eq_true rfl) dX11_row_36 ?_
      refine jr_if_ne (tgt := 49) (nxt := 42) dX11_row_39 (by decide) rfl (fun hc => ?_) (fun hc => ?_)
      · replace h := drvE hc h
        refine jr_aload_n dX11_row_49 rfl 0 rfl ?_
        refine gf_X11_38 (r := 185) rfl (rfl : kd 0 = 10) rfl dX11_row_50 ?_
        refine jr_iload_n dX11_row_53 rfl 1 rfl ?_
        refine jr_iload_n dX11_row_54 rfl 2 rfl ?_
        refine jr_iload_n dX11_row_55 rfl 3 rfl ?_
        obtain ⟨w_6, hq_5, h⟩ := drvB h
        refine j_callVn lk_X11_384 wIM_X7_lay wSE_X7_lay (rfl : kd 185 = 6) (by decide) rfl (tX7_lay  hq_5) (by omega) rfl rfl (Nat.le_of_ble_eq_true rfl) dX11_row_56 ?_
        refine jr_iconst (v := (0 : Int32)) dX11_row_59 (by decide) ?_
        obtain ⟨rfl, rfl⟩ := drvS2 h
        exact jr_iret rfl dX11_row_60
      · replace h := drvT hc h
        refine jr_aload_n dX11_row_42 rfl 0 rfl ?_
        refine jr_bipush (v := (-3 : Int32)) dX11_row_43 (by decide) ?_
        obtain ⟨r_9, w_8, hq_7, h⟩ := drvB2 h
        refine j_callVv lk_X11_61 wIM_X11_refuse wSE_X11_refuse (rfl : kd 0 = 10) (by decide) rfl (tX11_refuse  hq_7) (by omega) rfl rfl (Nat.le_of_ble_eq_true rfl) dX11_row_45 ?_
        obtain ⟨rfl, rfl⟩ := drvS2 h
        exact jr_iret rfl dX11_row_48
    · replace h := drvT hc h
      refine jr_sub [0] rfl ?_
      exact (hj23_1 ()) h
set_option maxHeartbeats 4000000 in
set_option maxRecDepth 100000 in
theorem tX11_say {n : Nat} {a0 : Int32} {w : jWd} {r : Int32} {w' : jWd}  (h : fX11_say n a0 w = some (r, w')) : JM yX11_say MX11_say 6 [.ref 0, .int a0] w (some (.int r)) w' := by
  refine jm_of pl_X11 rfl (Nat.le_of_ble_eq_true rfl) ?_
  show J MX11_say 6 w 0 [(0, .ref 0), (1, .int a0)] [] (some (.int r)) w'
  unfold fX11_say at h
  refine jr_aload_n dX11_say_0 rfl 0 rfl ?_
  refine gf_X11_10 (r := 1) rfl (rfl : kd 0 = 10) rfl dX11_say_1 ?_
  refine gf_X11_115 (r := 16) rfl (rfl : kd 1 = 7) rfl dX11_say_4 ?_
  refine jr_iconst (v := (0 : Int32)) dX11_say_7 (by decide) ?_
  refine jr_iload_n dX11_say_8 rfl 1 rfl ?_
  obtain ⟨r_2, hq_1, h⟩ := drvB h
  refine j_callVv lk_X11_133 wIM_X5_has_ wSE_X5_has_ (rfl : kd 16 = 4) (by decide) rfl (tX5_has_ (rfl : kd 16 = 4) hq_1) (by omega) rfl rfl (Nat.le_of_ble_eq_true rfl) dX11_say_9 ?_
  refine jr_if_ne (tgt := 22) (nxt := 15) dX11_say_12 (by decide) rfl (fun hc => ?_) (fun hc => ?_)
  · replace h := drvE hc h
    refine jr_aload_n dX11_say_22 rfl 0 rfl ?_
    refine gf_X11_10 (r := 1) rfl (rfl : kd 0 = 10) rfl dX11_say_23 ?_
    obtain ⟨r_4, hq_3, h⟩ := drvB h
    refine j_callVv lk_X11_397 wIM_X8_hasEarly wSE_X8_hasEarly (rfl : kd 1 = 7) (by decide) rfl (tX8_hasEarly (rfl : kd 1 = 7) hq_3) (by omega) rfl rfl (Nat.le_of_ble_eq_true rfl) dX11_say_26 ?_
    obtain ⟨j47_5, ej47_5, h⟩ := drvF h
    have hj47_5 : ∀ (_ : Unit), j47_5 = some (r, w') → J MX11_say 6 w 47 [(0, .ref 0), (1, .int a0)] [] (some (.int r)) w' := by
      intro _ h
      rw [ej47_5] at h
      try dsimp only at h
      refine jr_aload_n dX11_say_47 rfl 0 rfl ?_
      refine gf_X11_31 (r := 182) rfl (rfl : kd 0 = 10) rfl dX11_say_48 ?_
      refine jr_iload_n dX11_say_51 rfl 1 rfl ?_
      obtain ⟨w_7, hq_6, h⟩ := drvB h
      refine j_callVn lk_X11_211 wIM_X2_look wSE_X2_look (rfl : kd 182 = 2) (by decide) rfl (tX2_look  hq_6) (by omega) rfl rfl (Nat.le_of_ble_eq_true rfl) dX11_say_52 ?_
      refine jr_aload_n dX11_say_55 rfl 0 rfl ?_
      refine gf_X11_31 (r := 182) rfl (rfl : kd 0 = 10) rfl dX11_say_56 ?_
      refine gf_X11_214 rfl (rfl : kd 182 = 2) dX11_say_59 ?_
      by_cases hs_8 : (wI w_7 182 3) = (0 : Int32)
      · replace h := drvT hs_8 h
        refine jr_tableK (tgt := 96) dX11_say_62 hs_8 (by decide) (by decide) rfl (by decide) ?_
        refine jr_iconst (v := (1 : Int32)) dX11_say_96 (by decide) ?_
        obtain ⟨rfl, rfl⟩ := drvS2 h
        exact jr_iret rfl dX11_say_97
      replace h := drvE hs_8 h
      by_cases hs_9 : (wI w_7 182 3) = (1 : Int32)
      · replace h := drvT hs_9 h
        refine jr_tableK (tgt := 96) dX11_say_62 hs_9 (by decide) (by decide) rfl (by decide) ?_
        refine jr_iconst (v := (1 : Int32)) dX11_say_96 (by decide) ?_
        obtain ⟨rfl, rfl⟩ := drvS2 h
        exact jr_iret rfl dX11_say_97
      replace h := drvE hs_9 h
      by_cases hs_10 : (wI w_7 182 3) = (2 : Int32)
      · replace h := drvT hs_10 h
        refine jr_tableK (tgt := 98) dX11_say_62 hs_10 (by decide) (by decide) rfl (by decide) ?_
        refine jr_iconst (v := (2 : Int32)) dX11_say_98 (by decide) ?_
        obtain ⟨rfl, rfl⟩ := drvS2 h
        exact jr_iret rfl dX11_say_99
      replace h := drvE hs_10 h
      by_cases hs_11 : (wI w_7 182 3) = (3 : Int32)
      · replace h := drvT hs_11 h
        refine jr_tableK (tgt := 100) dX11_say_62 hs_11 (by decide) (by decide) rfl (by decide) ?_
        refine jr_iconst (v := (3 : Int32)) dX11_say_100 (by decide) ?_
        obtain ⟨rfl, rfl⟩ := drvS2 h
        exact jr_iret rfl dX11_say_101
      replace h := drvE hs_11 h
      by_cases hs_12 : (wI w_7 182 3) = (4 : Int32)
      · replace h := drvT hs_12 h
        refine jr_tableK (tgt := 102) dX11_say_62 hs_12 (by decide) (by decide) rfl (by decide) ?_
        refine jr_iconst (v := (4 : Int32)) dX11_say_102 (by decide) ?_
        obtain ⟨rfl, rfl⟩ := drvS2 h
        exact jr_iret rfl dX11_say_103
      replace h := drvE hs_12 h
      refine jr_tableOut (tgt := 104) dX11_say_62 (by have a0 := lv_neT hs_8 (show (0 : Int32).toInt = 0 from rfl); have a1 := lv_neT hs_9 (show (1 : Int32).toInt = 1 from rfl); have a2 := lv_neT hs_10 (show (2 : Int32).toInt = 2 from rfl); have a3 := lv_neT hs_11 (show (3 : Int32).toInt = 3 from rfl); have a4 := lv_neT hs_12 (show (4 : Int32).toInt = 4 from rfl); omega) (by decide) ?_
      refine jr_aload_n dX11_say_104 rfl 0 rfl ?_
      refine gf_X11_31 (r := 182) rfl (rfl : kd 0 = 10) rfl dX11_say_105 ?_
      refine jr_bipush (v := (7 : Int32)) dX11_say_108 (by decide) ?_
      refine jr_aload_n dX11_say_110 rfl 0 rfl ?_
      refine gf_X11_10 (r := 1) rfl (rfl : kd 0 = 10) rfl dX11_say_111 ?_
      refine gf_X11_115 (r := 16) rfl (rfl : kd 1 = 7) rfl dX11_say_114 ?_
      refine jr_iconst (v := (0 : Int32)) dX11_say_117 (by decide) ?_
      refine jr_iload_n dX11_say_118 rfl 1 rfl ?_
      obtain ⟨r_14, hq_13, h⟩ := drvB h
      refine j_callVv lk_X11_135 wIM_X5_at wSE_X5_at (rfl : kd 16 = 4) (by decide) rfl (tX5_at (rfl : kd 16 = 4) hq_13) (by omega) rfl rfl (Nat.le_of_ble_eq_true rfl) dX11_say_119 ?_
      refine jr_iconst (v := (-1 : Int32)) dX11_say_122 (by decide) ?_
      obtain ⟨r_17, w_16, hq_15, h⟩ := drvB2 h
      refine j_callVv lk_X11_223 wIM_X2_nearest wSE_X2_nearest (rfl : kd 182 = 2) (by decide) rfl (tX2_nearest  hq_15) (by omega) rfl rfl (Nat.le_of_ble_eq_true rfl) dX11_say_123 ?_
      refine jr_aload_n dX11_say_126 rfl 0 rfl ?_
      refine gf_X11_10 (r := 1) rfl (rfl : kd 0 = 10) rfl dX11_say_127 ?_
      refine gf_X11_124 rfl (rfl : kd 1 = 7) dX11_say_130 ?_
      refine jr_icmp_lt (tgt := 140) (nxt := 136) dX11_say_133 (by decide) rfl (fun hc => ?_) (fun hc => ?_)
      · replace h := drvT hc h
        refine jr_bipush (v := (6 : Int32)) dX11_say_140 (by decide) ?_
        obtain ⟨rfl, rfl⟩ := drvS2 h
        exact jr_iret rfl dX11_say_142
      · replace h := drvE hc h
        refine jr_iconst (v := (5 : Int32)) dX11_say_136 (by decide) ?_
        refine jr_goto (tgt := 142) dX11_say_137 (by decide) ?_
        obtain ⟨rfl, rfl⟩ := drvS2 h
        exact jr_iret rfl dX11_say_142
    refine jr_if_ne (tgt := 47) (nxt := 32) dX11_say_29 (by decide) rfl (fun hc => ?_) (fun hc => ?_)
    · replace h := drvE hc h
      refine jr_sub [0, 1] rfl ?_
      exact (hj47_5 ()) h
    · replace h := drvT hc h
      refine jr_aload_n dX11_say_32 rfl 0 rfl ?_
      refine gf_X11_10 (r := 1) rfl (rfl : kd 0 = 10) rfl dX11_say_33 ?_
      refine gf_X11_250 (r := 9) rfl (rfl : kd 1 = 7) rfl dX11_say_36 ?_
      refine gf_X11_256 rfl (rfl : kd 9 = 4) dX11_say_39 ?_
      refine jr_if_ne (tgt := 47) (nxt := 45) dX11_say_42 (by decide) rfl (fun hc => ?_) (fun hc => ?_)
      · replace h := drvE hc h
        refine jr_sub [0, 1] rfl ?_
        exact (hj47_5 ()) h
      · replace h := drvT hc h
        refine jr_iconst (v := (0 : Int32)) dX11_say_45 (by decide) ?_
        obtain ⟨rfl, rfl⟩ := drvS2 h
        exact jr_iret rfl dX11_say_46
  · replace h := drvT hc h
    refine jr_aload_n dX11_say_15 rfl 0 rfl ?_
    refine jr_bipush (v := (-2 : Int32)) dX11_say_16 (by decide) ?_
    obtain ⟨r_20, w_19, hq_18, h⟩ := drvB2 h
    refine j_callVv lk_X11_61 wIM_X11_refuse wSE_X11_refuse (rfl : kd 0 = 10) (by decide) rfl (tX11_refuse  hq_18) (by omega) rfl rfl (Nat.le_of_ble_eq_true rfl) dX11_say_18 ?_
    obtain ⟨rfl, rfl⟩ := drvS2 h
    exact jr_iret rfl dX11_say_21
set_option maxHeartbeats 4000000 in
set_option maxRecDepth 100000 in
theorem tX11_says {a0 : Int32} {a1 : Int32} {a2 : Int32} {w : jWd} {r : Int32} {w' : jWd}  (h : fX11_says a0 a1 a2 w = some (r, w')) : JM yX11_says MX11_says 3 [.ref 0, .int a0, .int a1, .int a2] w (some (.int r)) w' := by
  refine jm_of pl_X11 rfl (Nat.le_of_ble_eq_true rfl) ?_
  show J MX11_says 3 w 0 [(0, .ref 0), (1, .int a0), (2, .int a1), (3, .int a2)] [] (some (.int r)) w'
  unfold fX11_says at h
  refine jr_aload_n dX11_says_0 rfl 0 rfl ?_
  refine gf_X11_10 (r := 1) rfl (rfl : kd 0 = 10) rfl dX11_says_1 ?_
  refine gf_X11_354 (r := 55) rfl (rfl : kd 1 = 7) rfl dX11_says_4 ?_
  refine jr_iload_n dX11_says_7 rfl 1 rfl ?_
  refine j_callVv lk_X11_363 wIM_X10_has wSE_X10_has (rfl : kd 55 = 9) (by decide) rfl (tX10_has (rfl : kd 55 = 9) (a0 := a0) (t := 55) (w := w)) (by omega) rfl rfl (Nat.le_of_ble_eq_true rfl) dX11_says_8 ?_
  obtain ⟨j26_1, ej26_1, h⟩ := drvF h
  have hj26_1 : ∀ (_ : Unit), j26_1 = some (r, w') → J MX11_says 3 w 26 [(0, .ref 0)] [] (some (.int r)) w' := by
    intro _ h
    rw [ej26_1] at h
    try dsimp only at h
    refine jr_aload_n dX11_says_26 rfl 0 rfl ?_
    refine jr_bipush (v := (-2 : Int32)) dX11_says_27 (by decide) ?_
    obtain ⟨r_4, w_3, hq_2, h⟩ := drvB2 h
    refine j_callVv lk_X11_61 wIM_X11_refuse wSE_X11_refuse (rfl : kd 0 = 10) (by decide) rfl (tX11_refuse  hq_2) (by omega) rfl rfl (Nat.le_of_ble_eq_true rfl) dX11_says_29 ?_
    obtain ⟨rfl, rfl⟩ := drvS2 h
    exact jr_iret rfl dX11_says_32
  refine jr_if_eq (tgt := 26) (nxt := 14) dX11_says_11 (by decide) rfl (fun hc => ?_) (fun hc => ?_)
  · replace h := drvT hc h
    refine jr_sub [0] rfl ?_
    exact (hj26_1 ()) h
  · replace h := drvE hc h
    refine jr_iload_n dX11_says_14 rfl 2 rfl ?_
    refine jr_i2l dX11_says_15 ?_
    refine jr_lconst (v := (0 : Int64)) dX11_says_16 rfl ?_
    refine jr_ldc2 (v := (15 : Int64)) wCC_X11_306 dX11_says_17 ?_
    refine j_callSv lk_X11_69 wST_X11_within (tX11_within  (a0 := ((a1).toInt64)) (a1 := (0 : Int64)) (a2 := (15 : Int64)) (w := w)) (by omega) rfl rfl (Nat.le_of_ble_eq_true rfl) dX11_says_20 ?_
    refine jr_if_ne (tgt := 33) (nxt := 26) dX11_says_23 (by decide) rfl (fun hc => ?_) (fun hc => ?_)
    · replace h := drvE hc h
      refine jr_iload_n dX11_says_33 rfl 3 rfl ?_
      refine jr_i2l dX11_says_34 ?_
      refine jr_lconst (v := (0 : Int64)) dX11_says_35 rfl ?_
      refine jr_ldc2 (v := (3 : Int64)) wCC_X11_308 dX11_says_36 ?_
      refine j_callSv lk_X11_69 wST_X11_within (tX11_within  (a0 := ((a2).toInt64)) (a1 := (0 : Int64)) (a2 := (3 : Int64)) (w := w)) (by omega) rfl rfl (Nat.le_of_ble_eq_true rfl) dX11_says_39 ?_
      refine jr_if_ne (tgt := 52) (nxt := 45) dX11_says_42 (by decide) rfl (fun hc => ?_) (fun hc => ?_)
      · replace h := drvE hc h
        refine jr_aload_n dX11_says_52 rfl 0 rfl ?_
        refine gf_X11_10 (r := 1) rfl (rfl : kd 0 = 10) rfl dX11_says_53 ?_
        refine gf_X11_354 (r := 55) rfl (rfl : kd 1 = 7) rfl dX11_says_56 ?_
        refine jr_iload_n dX11_says_59 rfl 1 rfl ?_
        refine jr_iload_n dX11_says_60 rfl 2 rfl ?_
        refine jr_iload_n dX11_says_61 rfl 3 rfl ?_
        obtain ⟨r_7, w_6, hq_5, h⟩ := drvB2 h
        refine j_callVv lk_X11_364 wIM_X10_tell wSE_X10_tell (rfl : kd 55 = 9) (by decide) rfl (tX10_tell (rfl : kd 55 = 9) hq_5) (by omega) rfl rfl (Nat.le_of_ble_eq_true rfl) dX11_says_62 ?_
        obtain ⟨rfl, rfl⟩ := drvS2 h
        exact jr_iret rfl dX11_says_65
      · replace h := drvT hc h
        refine jr_aload_n dX11_says_45 rfl 0 rfl ?_
        refine jr_bipush (v := (-3 : Int32)) dX11_says_46 (by decide) ?_
        obtain ⟨r_10, w_9, hq_8, h⟩ := drvB2 h
        refine j_callVv lk_X11_61 wIM_X11_refuse wSE_X11_refuse (rfl : kd 0 = 10) (by decide) rfl (tX11_refuse  hq_8) (by omega) rfl rfl (Nat.le_of_ble_eq_true rfl) dX11_says_48 ?_
        obtain ⟨rfl, rfl⟩ := drvS2 h
        exact jr_iret rfl dX11_says_51
    · replace h := drvT hc h
      refine jr_sub [0] rfl ?_
      exact (hj26_1 ()) h
set_option maxHeartbeats 4000000 in
set_option maxRecDepth 100000 in
theorem tX11_share {n : Nat} {a0 : Int32} {a1 : Int32} {w : jWd} {r : Int32} {w' : jWd}  (h : fX11_share n a0 a1 w = some (r, w')) : JM yX11_share MX11_share 7 [.ref 0, .int a0, .int a1] w (some (.int r)) w' := by
  refine jm_of pl_X11 rfl (Nat.le_of_ble_eq_true rfl) ?_
  show J MX11_share 7 w 0 [(0, .ref 0), (1, .int a0), (2, .int a1)] [] (some (.int r)) w'
  unfold fX11_share at h
  refine jr_iload_n dX11_share_0 rfl 1 rfl ?_
  refine jr_i2l dX11_share_1 ?_
  refine jr_lconst (v := (0 : Int64)) dX11_share_2 rfl ?_
  refine jr_ldc2 (v := (5 : Int64)) wCC_X11_67 dX11_share_3 ?_
  refine j_callSv lk_X11_69 wST_X11_within (tX11_within  (a0 := ((a0).toInt64)) (a1 := (0 : Int64)) (a2 := (5 : Int64)) (w := w)) (by omega) rfl rfl (Nat.le_of_ble_eq_true rfl) dX11_share_6 ?_
  obtain ⟨j19_1, ej19_1, h⟩ := drvF h
  have hj19_1 : ∀ (_ : Unit), j19_1 = some (r, w') → J MX11_share 7 w 19 [(0, .ref 0)] [] (some (.int r)) w' := by
    intro _ h
    rw [ej19_1] at h
    try dsimp only at h
    refine jr_aload_n dX11_share_19 rfl 0 rfl ?_
    refine jr_bipush (v := (-2 : Int32)) dX11_share_20 (by decide) ?_
    obtain ⟨r_4, w_3, hq_2, h⟩ := drvB2 h
    refine j_callVv lk_X11_61 wIM_X11_refuse wSE_X11_refuse (rfl : kd 0 = 10) (by decide) rfl (tX11_refuse  hq_2) (by omega) rfl rfl (Nat.le_of_ble_eq_true rfl) dX11_share_22 ?_
    obtain ⟨rfl, rfl⟩ := drvS2 h
    exact jr_iret rfl dX11_share_25
  refine jr_if_eq (tgt := 19) (nxt := 12) dX11_share_9 (by decide) rfl (fun hc => ?_) (fun hc => ?_)
  · replace h := drvT hc h
    refine jr_sub [0] rfl ?_
    exact (hj19_1 ()) h
  · replace h := drvE hc h
    refine jr_iload_n dX11_share_12 rfl 2 rfl ?_
    refine j_callSv lk_X11_208 wST_X11_isHalf (tX11_isHalf  (a0 := a1) (w := w)) (by omega) rfl rfl (Nat.le_of_ble_eq_true rfl) dX11_share_13 ?_
    refine jr_if_ne (tgt := 26) (nxt := 19) dX11_share_16 (by decide) rfl (fun hc => ?_) (fun hc => ?_)
    · replace h := drvE hc h
      refine jr_aload_n dX11_share_26 rfl 0 rfl ?_
      refine gf_X11_10 (r := 1) rfl (rfl : kd 0 = 10) rfl dX11_share_27 ?_
      refine gf_X11_115 (r := 16) rfl (rfl : kd 1 = 7) rfl dX11_share_30 ?_
      refine gf_X11_227 (r := 20) rfl (rfl : kd 16 = 4) rfl dX11_share_33 ?_
      refine jr_iconst (v := (0 : Int32)) dX11_share_36 (by decide) ?_
      refine jr_ialdL (k := 0) (rfl : kd 20 = 13) (vp_lit (by decide) (by decide)) (by decide) dX11_share_37 ?_
      refine j_nmi (fun x3_5 e_6 => ?_)
      replace h := drvL e_6 h
      refine jr_istore_n (lv' := [(3, .int x3_5), (0, .ref 0), (1, .int a0), (2, .int a1)]) dX11_share_38 rfl (by decide) rfl ?_
      refine jr_iload_n dX11_share_39 rfl 0 rfl ?_
      refine jr_if_ne (tgt := 50) (nxt := 43) dX11_share_40 (by decide) rfl (fun hc => ?_) (fun hc => ?_)
      · replace h := drvE hc h
        refine jr_aload_n dX11_share_50 rfl 1 rfl ?_
        refine gf_X11_31 (r := 182) rfl (rfl : kd 0 = 10) rfl dX11_share_51 ?_
        obtain ⟨w_8, hq_7, h⟩ := drvB h
        refine j_callVn lk_X11_230 wIM_X2_countKinds wSE_X2_countKinds (rfl : kd 182 = 2) (by decide) rfl (tX2_countKinds  hq_7) (by omega) rfl rfl (Nat.le_of_ble_eq_true rfl) dX11_share_54 ?_
        refine jr_aload_n dX11_share_57 rfl 1 rfl ?_
        refine gf_X11_31 (r := 182) rfl (rfl : kd 0 = 10) rfl dX11_share_58 ?_
        refine gf_X11_233 (r := 184) rfl (rfl : kd 182 = 2) rfl dX11_share_61 ?_
        refine jr_iload_n dX11_share_64 rfl 2 rfl ?_
        obtain ⟨hg_9, h⟩ := drvG h
        refine jr_iald (rfl : kd 184 = 13) hg_9 dX11_share_65 ?_
        refine j_nmi (fun x4_10 e_11 => ?_)
        replace h := drvL e_11 h
        refine jr_istore (lv' := [(4, .int x4_10), (3, .int x3_5), (0, .ref 0), (1, .int a0), (2, .int a1)]) dX11_share_66 (by decide) rfl ?_
        refine jr_iload_n dX11_share_68 rfl 4 rfl ?_
        refine jr_if_ne (tgt := 77) (nxt := 72) dX11_share_69 (by decide) rfl (fun hc => ?_) (fun hc => ?_)
        · replace h := drvE hc h
          refine jr_sipush (v := (1000 : Int32)) dX11_share_77 (by decide) ?_
          refine jr_iload dX11_share_80 0 rfl ?_
          refine jr_imul dX11_share_82 ?_
          refine jr_iload_n dX11_share_83 rfl 1 rfl ?_
          obtain ⟨hz_12, h⟩ := drvZi h
          refine jr_idiv dX11_share_84 hz_12 ?_
          obtain ⟨rfl, rfl⟩ := drvS2 h
          exact jr_iret rfl dX11_share_85
        · replace h := drvT hc h
          refine jr_iload dX11_share_72 0 rfl ?_
          refine jr_goto (tgt := 85) dX11_share_74 (by decide) ?_
          obtain ⟨rfl, rfl⟩ := drvS2 h
          exact jr_iret rfl dX11_share_85
      · replace h := drvT hc h
        refine jr_aload_n dX11_share_43 rfl 1 rfl ?_
        refine jr_bipush (v := (-5 : Int32)) dX11_share_44 (by decide) ?_
        obtain ⟨r_15, w_14, hq_13, h⟩ := drvB2 h
        refine j_callVv lk_X11_61 wIM_X11_refuse wSE_X11_refuse (rfl : kd 0 = 10) (by decide) rfl (tX11_refuse  hq_13) (by omega) rfl rfl (Nat.le_of_ble_eq_true rfl) dX11_share_46 ?_
        obtain ⟨rfl, rfl⟩ := drvS2 h
        exact jr_iret rfl dX11_share_49
    · replace h := drvT hc h
      refine jr_sub [0] rfl ?_
      exact (hj19_1 ()) h
set_option maxHeartbeats 4000000 in
set_option maxRecDepth 100000 in
theorem tX11_smoothed {n : Nat} {a0 : Int64} {a1 : Int32} {w : jWd} {r : Int64} {w' : jWd}  (h : fX11_smoothed n a0 a1 w = some (r, w')) : JM yX11_smoothed MX11_smoothed 7 [.ref 0, .long a0, .int a1] w (some (.long r)) w' := by
  refine jm_of pl_X11 rfl (Nat.le_of_ble_eq_true rfl) ?_
  show J MX11_smoothed 7 w 0 [(0, .ref 0), (1, .long a0), (3, .int a1)] [] (some (.long r)) w'
  unfold fX11_smoothed at h
  refine jr_lload_n dX11_smoothed_0 rfl 1 rfl ?_
  obtain ⟨r_2, hq_1, h⟩ := drvB h
  refine j_callSv lk_X11_97 wST_X4_clean (tX4_clean  hq_1) (by omega) rfl rfl (Nat.le_of_ble_eq_true rfl) dX11_smoothed_1 ?_
  refine jr_lstore (lv' := [(4, .long r_2), (0, .ref 0), (1, .long a0), (3, .int a1)]) dX11_smoothed_4 (by decide) rfl ?_
  refine jr_lload dX11_smoothed_6 0 rfl ?_
  refine jr_lconst (v := (0 : Int64)) dX11_smoothed_8 rfl ?_
  refine jr_lcmp dX11_smoothed_9 ?_
  obtain ⟨j25_3, ej25_3, h⟩ := drvF h
  have hj25_3 : ∀ (_ : Unit), j25_3 = some (r, w') → J MX11_smoothed 7 w 25 [(0, .ref 0)] [] (some (.long r)) w' := by
    intro _ h
    rw [ej25_3] at h
    try dsimp only at h
    refine jr_aload_n dX11_smoothed_25 rfl 0 rfl ?_
    refine jr_bipush (v := (-3 : Int32)) dX11_smoothed_26 (by decide) ?_
    obtain ⟨r_6, w_5, hq_4, h⟩ := drvB2 h
    refine j_callVv lk_X11_61 wIM_X11_refuse wSE_X11_refuse (rfl : kd 0 = 10) (by decide) rfl (tX11_refuse  hq_4) (by omega) rfl rfl (Nat.le_of_ble_eq_true rfl) dX11_smoothed_28 ?_
    refine jr_i2l dX11_smoothed_31 ?_
    obtain ⟨rfl, rfl⟩ := drvS2 h
    exact jr_lret rfl dX11_smoothed_32
  refine jr_if_eq (tgt := 25) (nxt := 13) dX11_smoothed_10 (by decide) rfl (fun hc => ?_) (fun hc => ?_)
  · replace h := drvT hc h
    refine jr_sub [1] rfl ?_
    exact (hj25_3 ()) h
  · replace h := drvE hc h
    refine jr_iload_n dX11_smoothed_13 rfl 3 rfl ?_
    refine jr_i2l dX11_smoothed_14 ?_
    refine jr_lconst (v := (0 : Int64)) dX11_smoothed_15 rfl ?_
    refine jr_ldc2 (v := (9 : Int64)) wCC_X11_65 dX11_smoothed_16 ?_
    refine j_callSv lk_X11_69 wST_X11_within (tX11_within  (a0 := ((a1).toInt64)) (a1 := (0 : Int64)) (a2 := (9 : Int64)) (w := w)) (by omega) rfl rfl (Nat.le_of_ble_eq_true rfl) dX11_smoothed_19 ?_
    refine jr_if_ne (tgt := 33) (nxt := 25) dX11_smoothed_22 (by decide) rfl (fun hc => ?_) (fun hc => ?_)
    · replace h := drvE hc h
      refine jr_aload_n dX11_smoothed_33 rfl 1 rfl ?_
      refine gf_X11_10 (r := 1) rfl (rfl : kd 0 = 10) rfl dX11_smoothed_34 ?_
      refine gf_X11_171 (r := 32) rfl (rfl : kd 1 = 7) rfl dX11_smoothed_37 ?_
      refine jr_lload dX11_smoothed_40 0 rfl ?_
      refine jr_iload_n dX11_smoothed_42 rfl 3 rfl ?_
      obtain ⟨r_8, hq_7, h⟩ := drvB h
      refine j_callVv lk_X11_194 wIM_X1_smooth wSE_X1_smooth (rfl : kd 32 = 1) (by decide) rfl (tX1_smooth (rfl : kd 32 = 1) hq_7) (by omega) rfl rfl (Nat.le_of_ble_eq_true rfl) dX11_smoothed_43 ?_
      obtain ⟨rfl, rfl⟩ := drvS2 h
      exact jr_lret rfl dX11_smoothed_46
    · replace h := drvT hc h
      refine jr_sub [1] rfl ?_
      exact (hj25_3 ()) h
set_option maxHeartbeats 4000000 in
set_option maxRecDepth 100000 in
theorem tX11_span {n : Nat} {a0 : Int32} {w : jWd} {r : Int32} {w' : jWd}  (h : fX11_span n a0 w = some (r, w')) : JM yX11_span MX11_span 7 [.ref 0, .int a0] w (some (.int r)) w' := by
  refine jm_of pl_X11 rfl (Nat.le_of_ble_eq_true rfl) ?_
  show J MX11_span 7 w 0 [(0, .ref 0), (1, .int a0)] [] (some (.int r)) w'
  unfold fX11_span at h
  refine jr_iload_n dX11_span_0 rfl 1 rfl ?_
  refine j_callSv lk_X11_208 wST_X11_isHalf (tX11_isHalf  (a0 := a0) (w := w)) (by omega) rfl rfl (Nat.le_of_ble_eq_true rfl) dX11_span_1 ?_
  refine jr_if_ne (tgt := 14) (nxt := 7) dX11_span_4 (by decide) rfl (fun hc => ?_) (fun hc => ?_)
  · replace h := drvE hc h
    refine jr_aload_n dX11_span_14 rfl 0 rfl ?_
    refine gf_X11_10 (r := 1) rfl (rfl : kd 0 = 10) rfl dX11_span_15 ?_
    refine gf_X11_115 (r := 16) rfl (rfl : kd 1 = 7) rfl dX11_span_18 ?_
    refine gf_X11_227 (r := 20) rfl (rfl : kd 16 = 4) rfl dX11_span_21 ?_
    refine jr_iconst (v := (0 : Int32)) dX11_span_24 (by decide) ?_
    refine jr_ialdL (k := 0) (rfl : kd 20 = 13) (vp_lit (by decide) (by decide)) (by decide) dX11_span_25 ?_
    refine j_nmi (fun x2_1 e_2 => ?_)
    replace h := drvL e_2 h
    refine jr_istore_n (lv' := [(2, .int x2_1), (0, .ref 0), (1, .int a0)]) dX11_span_26 rfl (by decide) rfl ?_
    refine jr_iload_n dX11_span_27 rfl 0 rfl ?_
    refine jr_if_ne (tgt := 38) (nxt := 31) dX11_span_28 (by decide) rfl (fun hc => ?_) (fun hc => ?_)
    · replace h := drvE hc h
      refine jr_aload_n dX11_span_38 rfl 1 rfl ?_
      refine gf_X11_31 (r := 182) rfl (rfl : kd 0 = 10) rfl dX11_span_39 ?_
      obtain ⟨w_4, hq_3, h⟩ := drvB h
      refine j_callVn lk_X11_230 wIM_X2_countKinds wSE_X2_countKinds (rfl : kd 182 = 2) (by decide) rfl (tX2_countKinds  hq_3) (by omega) rfl rfl (Nat.le_of_ble_eq_true rfl) dX11_span_42 ?_
      refine jr_aload_n dX11_span_45 rfl 1 rfl ?_
      refine gf_X11_31 (r := 182) rfl (rfl : kd 0 = 10) rfl dX11_span_46 ?_
      refine gf_X11_233 (r := 184) rfl (rfl : kd 182 = 2) rfl dX11_span_49 ?_
      refine jr_iconst (v := (0 : Int32)) dX11_span_52 (by decide) ?_
      refine jr_ialdL (k := 0) (rfl : kd 184 = 13) (vp_lit (by decide) (by decide)) (by decide) dX11_span_53 ?_
      refine jr_aload_n dX11_span_54 rfl 1 rfl ?_
      refine gf_X11_31 (r := 182) rfl (rfl : kd 0 = 10) rfl dX11_span_55 ?_
      refine gf_X11_233 (r := 184) rfl (rfl : kd 182 = 2) rfl dX11_span_58 ?_
      refine jr_iconst (v := (1 : Int32)) dX11_span_61 (by decide) ?_
      refine jr_ialdL (k := 1) (rfl : kd 184 = 13) (vp_lit (by decide) (by decide)) (by decide) dX11_span_62 ?_
      refine jr_iadd dX11_span_63 ?_
      refine jr_aload_n dX11_span_64 rfl 1 rfl ?_
      refine gf_X11_31 (r := 182) rfl (rfl : kd 0 = 10) rfl dX11_span_65 ?_
      refine gf_X11_233 (r := 184) rfl (rfl : kd 182 = 2) rfl dX11_span_68 ?_
      refine jr_iconst (v := (2 : Int32)) dX11_span_71 (by decide) ?_
      refine jr_ialdL (k := 2) (rfl : kd 184 = 13) (vp_lit (by decide) (by decide)) (by decide) dX11_span_72 ?_
      refine jr_iadd dX11_span_73 ?_
      refine j_nmi (fun x3_5 e_6 => ?_)
      replace h := drvL e_6 h
      refine jr_istore_n (lv' := [(3, .int x3_5), (2, .int x2_1), (0, .ref 0), (1, .int a0)]) dX11_span_74 rfl (by decide) rfl ?_
      refine jr_iload_n dX11_span_75 rfl 3 rfl ?_
      refine jr_iconst (v := (1 : Int32)) dX11_span_76 (by decide) ?_
      obtain ⟨j92_8, ej92_8, h⟩ := drvF h
      have hj92_8 : ∀ (y3_7 : Int32), j92_8 y3_7 = some (r, w') → J MX11_span 7 w_4 92 [(2, .int x2_1), (3, .int y3_7)] [] (some (.int r)) w' := by
        intro y3_7 h
        rw [ej92_8] at h
        try dsimp only at h
        refine jr_sipush (v := (1000 : Int32)) dX11_span_92 (by decide) ?_
        refine jr_iload_n dX11_span_95 rfl 1 rfl ?_
        refine jr_imul dX11_span_96 ?_
        refine jr_iload_n dX11_span_97 rfl 0 rfl ?_
        obtain ⟨hz_9, h⟩ := drvZi h
        refine jr_idiv dX11_span_98 hz_9 ?_
        obtain ⟨rfl, rfl⟩ := drvS2 h
        exact jr_iret rfl dX11_span_99
      refine jr_icmp_ne (tgt := 92) (nxt := 80) dX11_span_77 (by decide) rfl (fun hc => ?_) (fun hc => ?_)
      · replace h := drvE hc h
        refine jr_sub [1, 0] rfl ?_
        exact hj92_8 _ h
      · replace h := drvT hc h
        refine jr_iload_n dX11_span_80 rfl 0 rfl ?_
        refine jr_aload_n dX11_span_81 rfl 2 rfl ?_
        refine gf_X11_31 (r := 182) rfl (rfl : kd 0 = 10) rfl dX11_span_82 ?_
        refine gf_X11_233 (r := 184) rfl (rfl : kd 182 = 2) rfl dX11_span_85 ?_
        refine jr_iconst (v := (4 : Int32)) dX11_span_88 (by decide) ?_
        refine jr_ialdL (k := 4) (rfl : kd 184 = 13) (vp_lit (by decide) (by decide)) (by decide) dX11_span_89 ?_
        refine jr_iadd dX11_span_90 ?_
        refine j_nmi (fun x3_10 e_11 => ?_)
        replace h := drvL e_11 h
        refine jr_istore_n (lv' := [(3, .int x3_10), (2, .int x2_1), (0, .ref 0), (1, .int a0)]) dX11_span_91 rfl (by decide) rfl ?_
        refine jr_sub [1, 0] rfl ?_
        exact hj92_8 _ h
    · replace h := drvT hc h
      refine jr_aload_n dX11_span_31 rfl 1 rfl ?_
      refine jr_bipush (v := (-5 : Int32)) dX11_span_32 (by decide) ?_
      obtain ⟨r_14, w_13, hq_12, h⟩ := drvB2 h
      refine j_callVv lk_X11_61 wIM_X11_refuse wSE_X11_refuse (rfl : kd 0 = 10) (by decide) rfl (tX11_refuse  hq_12) (by omega) rfl rfl (Nat.le_of_ble_eq_true rfl) dX11_span_34 ?_
      obtain ⟨rfl, rfl⟩ := drvS2 h
      exact jr_iret rfl dX11_span_37
  · replace h := drvT hc h
    refine jr_aload_n dX11_span_7 rfl 0 rfl ?_
    refine jr_bipush (v := (-2 : Int32)) dX11_span_8 (by decide) ?_
    obtain ⟨r_17, w_16, hq_15, h⟩ := drvB2 h
    refine j_callVv lk_X11_61 wIM_X11_refuse wSE_X11_refuse (rfl : kd 0 = 10) (by decide) rfl (tX11_refuse  hq_15) (by omega) rfl rfl (Nat.le_of_ble_eq_true rfl) dX11_span_10 ?_
    obtain ⟨rfl, rfl⟩ := drvS2 h
    exact jr_iret rfl dX11_span_13
set_option maxHeartbeats 4000000 in
set_option maxRecDepth 100000 in
theorem tX11_status {a0 : Int32} {w : jWd} {r : Int32}  (h : fX11_status a0 w = some r) : JM yX11_status MX11_status 2 [.ref 0, .int a0] w (some (.int r)) w := by
  refine jm_of pl_X11 rfl (Nat.le_of_ble_eq_true rfl) ?_
  show J MX11_status 2 w 0 [(0, .ref 0), (1, .int a0)] [] (some (.int r)) w
  unfold fX11_status at h
  refine jr_iload_n dX11_status_0 rfl 1 rfl ?_
  refine jr_i2l dX11_status_1 ?_
  refine jr_lconst (v := (1 : Int64)) dX11_status_2 rfl ?_
  refine jr_ldc2 (v := (7 : Int64)) wCC_X11_406 dX11_status_3 ?_
  refine j_callSv lk_X11_69 wST_X11_within (tX11_within  (a0 := ((a0).toInt64)) (a1 := (1 : Int64)) (a2 := (7 : Int64)) (w := w)) (by omega) rfl rfl (Nat.le_of_ble_eq_true rfl) dX11_status_6 ?_
  refine jr_if_eq (tgt := 21) (nxt := 12) dX11_status_9 (by decide) rfl (fun hc => ?_) (fun hc => ?_)
  · replace h := drvT hc h
    refine jr_iconst (v := (-1 : Int32)) dX11_status_21 (by decide) ?_
    obtain rfl := drvS1 h
    exact jr_iret rfl dX11_status_22
  · replace h := drvE hc h
    refine jr_aload_n dX11_status_12 rfl 0 rfl ?_
    refine gf_X11_57 (r := 204) rfl (rfl : kd 0 = 10) rfl dX11_status_13 ?_
    refine jr_iload_n dX11_status_16 rfl 1 rfl ?_
    obtain ⟨hg_1, h⟩ := drvG h
    refine jr_iald (rfl : kd 204 = 13) hg_1 dX11_status_17 ?_
    refine jr_goto (tgt := 22) dX11_status_18 (by decide) ?_
    obtain rfl := drvS1 h
    exact jr_iret rfl dX11_status_22
set_option maxHeartbeats 4000000 in
set_option maxRecDepth 100000 in
theorem tX11_text {n : Nat} {a0 : Int32} {a1 : Int32} {w : jWd} {r : Int32} {w' : jWd}  (h : fX11_text n a0 a1 w = some (r, w')) : JM yX11_text MX11_text 44 [.ref 0, .int a0, .int a1] w (some (.int r)) w' := by
  refine jm_of pl_X11 rfl (Nat.le_of_ble_eq_true rfl) ?_
  show J MX11_text 44 w 0 [(0, .ref 0), (1, .int a0), (2, .int a1)] [] (some (.int r)) w'
  unfold fX11_text at h
  refine jr_iload_n dX11_text_0 rfl 1 rfl ?_
  obtain ⟨j16_1, ej16_1, h⟩ := drvF h
  have hj16_1 : ∀ (_ : Unit), j16_1 = some (r, w') → J MX11_text 44 w 16 [(0, .ref 0), (1, .int a0), (2, .int a1)] [] (some (.int r)) w' := by
    intro _ h
    rw [ej16_1] at h
    try dsimp only at h
    refine jr_iload_n dX11_text_16 rfl 2 rfl ?_
    refine jr_i2l dX11_text_17 ?_
    refine jr_lconst (v := (0 : Int64)) dX11_text_18 rfl ?_
    refine jr_aload_n dX11_text_19 rfl 0 rfl ?_
    refine gf_X11_143 rfl (rfl : kd 0 = 10) dX11_text_20 ?_
    refine jr_i2l dX11_text_23 ?_
    refine j_callSv lk_X11_69 wST_X11_within (tX11_within  (a0 := ((a1).toInt64)) (a1 := (0 : Int64)) (a2 := (((wI w 0 8)).toInt64)) (w := w)) (by omega) rfl rfl (Nat.le_of_ble_eq_true rfl) dX11_text_24 ?_
    refine jr_if_ne (tgt := 37) (nxt := 30) dX11_text_27 (by decide) rfl (fun hc => ?_) (fun hc => ?_)
    · replace h := drvE hc h
      refine jr_aload_n dX11_text_37 rfl 0 rfl ?_
      refine jr_iconst (v := (0 : Int32)) dX11_text_38 (by decide) ?_
      refine pf_X11_143 rfl (rfl : kd 0 = 10) dX11_text_39 ?_
      refine j_nmw (fun w_2 e_3 => ?_)
      replace h := drvL e_3 h
      refine jr_aload_n dX11_text_42 rfl 0 rfl ?_
      refine gf_X11_45 (r := 189) rfl (rfl : kd 0 = 10) rfl dX11_text_43 ?_
      refine jr_aload_n dX11_text_46 rfl 0 rfl ?_
      refine gf_X11_49 (r := 202) rfl (rfl : kd 0 = 10) rfl dX11_text_47 ?_
      refine jr_iload_n dX11_text_50 rfl 2 rfl ?_
      obtain ⟨w_5, hq_4, h⟩ := drvB h
      refine j_callVn lk_X11_150 wIM_X6_scan wSE_X6_scan (rfl : kd 189 = 5) (by decide) rfl (tX6_scan (rfl : kd 202 = 12) hq_4) (by omega) rfl rfl (Nat.le_of_ble_eq_true rfl) dX11_text_51 ?_
      refine jr_iload_n dX11_text_54 rfl 1 rfl ?_
      obtain ⟨j75_7, ej75_7, h⟩ := drvF h
      have hj75_7 : ∀ (w_6 : jWd), j75_7 w_6 = some (r, w') → J MX11_text 44 w_6 75 [(0, .ref 0), (1, .int a0)] [] (some (.int r)) w' := by
        intro w_6 h
        rw [ej75_7] at h
        try dsimp only at h
        refine jr_aload_n dX11_text_75 rfl 0 rfl ?_
        refine gf_X11_45 (r := 189) rfl (rfl : kd 0 = 10) rfl dX11_text_76 ?_
        refine gf_X11_160 rfl (rfl : kd 189 = 5) dX11_text_79 ?_
        refine jr_if_eq (tgt := 100) (nxt := 85) dX11_text_82 (by decide) rfl (fun hc => ?_) (fun hc => ?_)
        · replace h := drvT hc h
          refine jr_iload_n dX11_text_100 rfl 1 rfl ?_
          refine jr_if_ne (tgt := 129) (nxt := 104) dX11_text_101 (by decide) rfl (fun hc => ?_) (fun hc => ?_)
          · replace h := drvE hc h
            refine jr_aload_n dX11_text_129 rfl 0 rfl ?_
            refine gf_X11_10 (r := 1) rfl (rfl : kd 0 = 10) rfl dX11_text_130 ?_
            refine gf_X11_177 (r := 39) rfl (rfl : kd 1 = 7) rfl dX11_text_133 ?_
            refine jr_aload_n dX11_text_136 rfl 0 rfl ?_
            refine gf_X11_45 (r := 189) rfl (rfl : kd 0 = 10) rfl dX11_text_137 ?_
            refine gf_X11_181 (r := 197) rfl (rfl : kd 189 = 5) rfl dX11_text_140 ?_
            obtain ⟨w_9, hq_8, h⟩ := drvB h
            refine j_callVn lk_X11_182 wIM_X3_copy wSE_X3_copy (rfl : kd 39 = 3) (by decide) rfl (tX3_copy (rfl : kd 39 = 3) (rfl : kd 197 = 3) hq_8) (by omega) rfl rfl (Nat.le_of_ble_eq_true rfl) dX11_text_143 ?_
            refine jr_aload_n dX11_text_146 rfl 0 rfl ?_
            refine gf_X11_10 (r := 1) rfl (rfl : kd 0 = 10) rfl dX11_text_147 ?_
            refine gf_X11_177 (r := 39) rfl (rfl : kd 1 = 7) rfl dX11_text_150 ?_
            refine gf_X11_188 rfl (rfl : kd 39 = 3) dX11_text_153 ?_
            obtain ⟨rfl, rfl⟩ := drvS2 h
            exact jr_iret rfl dX11_text_156
          · replace h := drvT hc h
            refine jr_aload_n dX11_text_104 rfl 0 rfl ?_
            refine gf_X11_10 (r := 1) rfl (rfl : kd 0 = 10) rfl dX11_text_105 ?_
            refine jr_aload_n dX11_text_108 rfl 0 rfl ?_
            refine gf_X11_45 (r := 189) rfl (rfl : kd 0 = 10) rfl dX11_text_109 ?_
            refine gf_X11_163 (r := 190) rfl (rfl : kd 189 = 5) rfl dX11_text_112 ?_
            obtain ⟨w_11, hq_10, h⟩ := drvB h
            refine j_callVn lk_X11_167 wIM_X8_follow wSE_X8_follow (rfl : kd 1 = 7) (by decide) rfl (tX8_follow (rfl : kd 1 = 7) (rfl : kd 190 = 1) hq_10) (by omega) rfl rfl (Nat.le_of_ble_eq_true rfl) dX11_text_115 ?_
            refine jr_aload_n dX11_text_118 rfl 0 rfl ?_
            refine gf_X11_10 (r := 1) rfl (rfl : kd 0 = 10) rfl dX11_text_119 ?_
            refine gf_X11_171 (r := 32) rfl (rfl : kd 1 = 7) rfl dX11_text_122 ?_
            refine gf_X11_172 rfl (rfl : kd 32 = 1) dX11_text_125 ?_
            obtain ⟨rfl, rfl⟩ := drvS2 h
            exact jr_iret rfl dX11_text_128
        · replace h := drvE hc h
          refine jr_aload_n dX11_text_85 rfl 0 rfl ?_
          refine jr_bipush (v := (-10 : Int32)) dX11_text_86 (by decide) ?_
          refine jr_aload_n dX11_text_88 rfl 0 rfl ?_
          refine gf_X11_45 (r := 189) rfl (rfl : kd 0 = 10) rfl dX11_text_89 ?_
          refine gf_X11_160 rfl (rfl : kd 189 = 5) dX11_text_92 ?_
          refine jr_isub dX11_text_95 ?_
          obtain ⟨r_14, w_13, hq_12, h⟩ := drvB2 h
          refine j_callVv lk_X11_61 wIM_X11_refuse wSE_X11_refuse (rfl : kd 0 = 10) (by decide) rfl (tX11_refuse  hq_12) (by omega) rfl rfl (Nat.le_of_ble_eq_true rfl) dX11_text_96 ?_
          obtain ⟨rfl, rfl⟩ := drvS2 h
          exact jr_iret rfl dX11_text_99
      refine jr_if_ne (tgt := 68) (nxt := 58) dX11_text_55 (by decide) rfl (fun hc => ?_) (fun hc => ?_)
      · replace h := drvE hc h
        refine jr_aload_n dX11_text_68 rfl 0 rfl ?_
        refine gf_X11_45 (r := 189) rfl (rfl : kd 0 = 10) rfl dX11_text_69 ?_
        obtain ⟨w_16, hq_15, h⟩ := drvB h
        refine j_callVn lk_X11_157 wIM_X6_readLaw wSE_X6_readLaw (rfl : kd 189 = 5) (by decide) rfl (tX6_readLaw  hq_15) (by omega) rfl rfl (Nat.le_of_ble_eq_true rfl) dX11_text_72 ?_
        refine jr_sub [0, 1] rfl ?_
        exact hj75_7 _ h
      · replace h := drvT hc h
        refine jr_aload_n dX11_text_58 rfl 0 rfl ?_
        refine gf_X11_45 (r := 189) rfl (rfl : kd 0 = 10) rfl dX11_text_59 ?_
        obtain ⟨w_18, hq_17, h⟩ := drvB h
        refine j_callVn lk_X11_154 wIM_X6_readFashion wSE_X6_readFashion (rfl : kd 189 = 5) (by decide) rfl (tX6_readFashion  hq_17) (by omega) rfl rfl (Nat.le_of_ble_eq_true rfl) dX11_text_62 ?_
        refine jr_goto (tgt := 75) dX11_text_65 (by decide) ?_
        refine jr_sub [0, 1] rfl ?_
        exact hj75_7 _ h
    · replace h := drvT hc h
      refine jr_aload_n dX11_text_30 rfl 0 rfl ?_
      refine jr_bipush (v := (-3 : Int32)) dX11_text_31 (by decide) ?_
      obtain ⟨r_21, w_20, hq_19, h⟩ := drvB2 h
      refine j_callVv lk_X11_61 wIM_X11_refuse wSE_X11_refuse (rfl : kd 0 = 10) (by decide) rfl (tX11_refuse  hq_19) (by omega) rfl rfl (Nat.le_of_ble_eq_true rfl) dX11_text_33 ?_
      obtain ⟨rfl, rfl⟩ := drvS2 h
      exact jr_iret rfl dX11_text_36
  refine jr_if_eq (tgt := 16) (nxt := 4) dX11_text_1 (by decide) rfl (fun hc => ?_) (fun hc => ?_)
  · replace h := drvT hc h
    refine jr_sub [0, 1, 2] rfl ?_
    exact (hj16_1 ()) h
  · replace h := drvE hc h
    refine jr_iload_n dX11_text_4 rfl 1 rfl ?_
    refine jr_iconst (v := (1 : Int32)) dX11_text_5 (by decide) ?_
    refine jr_icmp_eq (tgt := 16) (nxt := 9) dX11_text_6 (by decide) rfl (fun hc => ?_) (fun hc => ?_)
    · replace h := drvT hc h
      refine jr_sub [0, 1, 2] rfl ?_
      exact (hj16_1 ()) h
    · replace h := drvE hc h
      refine jr_aload_n dX11_text_9 rfl 0 rfl ?_
      refine jr_bipush (v := (-2 : Int32)) dX11_text_10 (by decide) ?_
      obtain ⟨r_24, w_23, hq_22, h⟩ := drvB2 h
      refine j_callVv lk_X11_61 wIM_X11_refuse wSE_X11_refuse (rfl : kd 0 = 10) (by decide) rfl (tX11_refuse  hq_22) (by omega) rfl rfl (Nat.le_of_ble_eq_true rfl) dX11_text_12 ?_
      obtain ⟨rfl, rfl⟩ := drvS2 h
      exact jr_iret rfl dX11_text_15
set_option maxHeartbeats 4000000 in
set_option maxRecDepth 100000 in
theorem hbX11_told_113 {n : Nat} {p5 : Int32} {p6 : Int32} {r : Int32} {w' : jWd} {rec : Int32 → jWd → Option (Int32 × jWd)} 
    (hrec : ∀ (x7 : Int32) (w : jWd) , rec x7 w = some (r, w') → J MX11_told 8 w 113 [(0, .ref 0), (5, .int p5), (6, .int p6), (7, .int x7)] [] (some (.int r)) w') : ∀ (x7 : Int32) (w : jWd) , bX11_told_113 n p5 p6 rec x7 w = some (r, w') → J MX11_told 8 w 113 [(0, .ref 0), (5, .int p5), (6, .int p6), (7, .int x7)] [] (some (.int r)) w' := by
  intro x7 w h
  unfold bX11_told_113 at h
  refine jr_iload dX11_told_113 3 rfl ?_
  refine jr_iload dX11_told_115 1 rfl ?_
  refine jr_icmp_ge (tgt := 153) (nxt := 120) dX11_told_117 (by decide) rfl (fun hc => ?_) (fun hc => ?_)
  · replace h := drvT hc h
    refine jr_iload dX11_told_153 2 rfl ?_
    obtain ⟨rfl, rfl⟩ := drvS2 h
    exact jr_iret rfl dX11_told_155
  · replace h := drvE hc h
    refine jr_iload dX11_told_120 3 rfl ?_
    refine jr_aload_n dX11_told_122 rfl 0 rfl ?_
    refine gf_X11_53 (r := 203) rfl (rfl : kd 0 = 10) rfl dX11_told_123 ?_
    refine jr_alenL (v := (12 : Int32)) (rfl : kd 203 = 14) (by decide) (by decide) (by decide) dX11_told_126 ?_
    refine jr_icmp_ge (tgt := 153) (nxt := 130) dX11_told_127 (by decide) rfl (fun hc => ?_) (fun hc => ?_)
    · replace h := drvT hc h
      refine jr_iload dX11_told_153 2 rfl ?_
      obtain ⟨rfl, rfl⟩ := drvS2 h
      exact jr_iret rfl dX11_told_155
    · replace h := drvE hc h
      refine jr_aload_n dX11_told_130 rfl 0 rfl ?_
      refine gf_X11_10 (r := 1) rfl (rfl : kd 0 = 10) rfl dX11_told_131 ?_
      refine jr_iload dX11_told_134 2 rfl ?_
      refine jr_aload_n dX11_told_136 rfl 0 rfl ?_
      refine gf_X11_53 (r := 203) rfl (rfl : kd 0 = 10) rfl dX11_told_137 ?_
      refine jr_iload dX11_told_140 3 rfl ?_
      obtain ⟨hg_8, h⟩ := drvG h
      refine jr_lald (rfl : kd 203 = 14) hg_8 dX11_told_142 ?_
      obtain ⟨r_11, w_10, hq_9, h⟩ := drvB2 h
      refine j_callVv lk_X11_105 wIM_X8_putIntoSong wSE_X8_putIntoSong (rfl : kd 1 = 7) (by decide) rfl (tX8_putIntoSong (rfl : kd 1 = 7) hq_9) (by omega) rfl rfl (Nat.le_of_ble_eq_true rfl) dX11_told_143 ?_
      refine jr_pop dX11_told_146 rfl ?_
      refine jr_iincN (c := (1 : Int32)) (lv' := fun (x7_12 : Int32) => [(7, .int x7_12), (0, .ref 0), (5, .int p5), (6, .int p6)]) dX11_told_147 (by decide) 3 rfl (by decide) (fun _ => rfl) (fun x7_12 e_13 => ?_)
      replace h := drvL e_13 h
      refine jr_goto (tgt := 113) dX11_told_150 (by decide) ?_
      refine jr_sub [1, 2, 3, 0] rfl ?_
      exact hrec _ _ h
theorem hlX11_told_113 {n : Nat} {p5 : Int32} {p6 : Int32} {r : Int32} {w' : jWd}  : ∀ (c : Nat) (x7 : Int32) (w : jWd) , lX11_told_113 n p5 p6 c x7 w = some (r, w') → J MX11_told 8 w 113 [(0, .ref 0), (5, .int p5), (6, .int p6), (7, .int x7)] [] (some (.int r)) w' := by
  intro c
  induction c with
  | zero => intro x7 w h; cases h
  | succ c ih => intro x7 w h; exact hbX11_told_113 (n := n) ih _ _ h
set_option maxHeartbeats 4000000 in
set_option maxRecDepth 100000 in
theorem tX11_told {n : Nat} {a0 : Int32} {a1 : Int32} {a2 : Int32} {a3 : Int32} {w : jWd} {r : Int32} {w' : jWd}  (h : fX11_told n a0 a1 a2 a3 w = some (r, w')) : JM yX11_told MX11_told 8 [.ref 0, .int a0, .int a1, .int a2, .int a3] w (some (.int r)) w' := by
  refine jm_of pl_X11 rfl (Nat.le_of_ble_eq_true rfl) ?_
  show J MX11_told 8 w 0 [(0, .ref 0), (1, .int a0), (2, .int a1), (3, .int a2), (4, .int a3)] [] (some (.int r)) w'
  unfold fX11_told at h
  refine jr_aload_n dX11_told_0 rfl 0 rfl ?_
  refine gf_X11_10 (r := 1) rfl (rfl : kd 0 = 10) rfl dX11_told_1 ?_
  refine gf_X11_198 (r := 2) rfl (rfl : kd 1 = 7) rfl dX11_told_4 ?_
  refine jr_iload_n dX11_told_7 rfl 1 rfl ?_
  refine j_callVv lk_X11_93 wIM_X5_has wSE_X5_has (rfl : kd 2 = 4) (by decide) rfl (tX5_has (rfl : kd 2 = 4) (a0 := a0) (t := 2) (w := w)) (by omega) rfl rfl (Nat.le_of_ble_eq_true rfl) dX11_told_8 ?_
  refine jr_if_ne (tgt := 21) (nxt := 14) dX11_told_11 (by decide) rfl (fun hc => ?_) (fun hc => ?_)
  · replace h := drvE hc h
    refine jr_iload_n dX11_told_21 rfl 2 rfl ?_
    refine jr_iload_n dX11_told_22 rfl 3 rfl ?_
    refine j_callSv lk_X11_73 wST_X11_isGlenAndDay (tX11_isGlenAndDay  (a0 := a1) (a1 := a2) (w := w)) (by omega) rfl rfl (Nat.le_of_ble_eq_true rfl) dX11_told_23 ?_
    refine jr_if_ne (tgt := 36) (nxt := 29) dX11_told_26 (by decide) rfl (fun hc => ?_) (fun hc => ?_)
    · replace h := drvE hc h
      refine jr_aload_n dX11_told_36 rfl 0 rfl ?_
      refine gf_X11_10 (r := 1) rfl (rfl : kd 0 = 10) rfl dX11_told_37 ?_
      refine gf_X11_198 (r := 2) rfl (rfl : kd 1 = 7) rfl dX11_told_40 ?_
      refine j_callVv lk_X11_81 wIM_X5_isFull wSE_X5_isFull (rfl : kd 2 = 4) (by decide) rfl (tX5_isFull (rfl : kd 2 = 4)  (t := 2) (w := w)) (by omega) rfl rfl (Nat.le_of_ble_eq_true rfl) dX11_told_43 ?_
      refine jr_if_eq (tgt := 56) (nxt := 49) dX11_told_46 (by decide) rfl (fun hc => ?_) (fun hc => ?_)
      · replace h := drvT hc h
        refine jr_aload_n dX11_told_56 rfl 0 rfl ?_
        refine gf_X11_10 (r := 1) rfl (rfl : kd 0 = 10) rfl dX11_told_57 ?_
        refine jr_iload_n dX11_told_60 rfl 1 rfl ?_
        refine jr_iload dX11_told_61 4 rfl ?_
        refine jr_aload_n dX11_told_63 rfl 0 rfl ?_
        refine gf_X11_53 (r := 203) rfl (rfl : kd 0 = 10) rfl dX11_told_64 ?_
        obtain ⟨r_3, w_2, hq_1, h⟩ := drvB2 h
        refine j_callVv lk_X11_201 wIM_X8_tellOn wSE_X8_tellOn (rfl : kd 1 = 7) (by decide) rfl (tX8_tellOn (rfl : kd 1 = 7) (rfl : kd 203 = 14) hq_1) (by omega) rfl rfl (Nat.le_of_ble_eq_true rfl) dX11_told_67 ?_
        refine jr_istore (lv' := [(5, .int r_3), (0, .ref 0), (1, .int a0), (2, .int a1), (3, .int a2), (4, .int a3)]) dX11_told_70 (by decide) rfl ?_
        refine jr_iload dX11_told_72 0 rfl ?_
        refine jr_if_ne (tgt := 84) (nxt := 77) dX11_told_74 (by decide) rfl (fun hc => ?_) (fun hc => ?_)
        · replace h := drvE hc h
          refine jr_aload_n dX11_told_84 rfl 1 rfl ?_
          refine gf_X11_10 (r := 1) rfl (rfl : kd 0 = 10) rfl dX11_told_85 ?_
          refine gf_X11_198 (r := 2) rfl (rfl : kd 1 = 7) rfl dX11_told_88 ?_
          refine jr_aload_n dX11_told_91 rfl 1 rfl ?_
          refine gf_X11_10 (r := 1) rfl (rfl : kd 0 = 10) rfl dX11_told_92 ?_
          refine gf_X11_198 (r := 2) rfl (rfl : kd 1 = 7) rfl dX11_told_95 ?_
          refine gf_X11_205 (r := 3) rfl (rfl : kd 2 = 4) rfl dX11_told_98 ?_
          refine jr_iload_n dX11_told_101 rfl 2 rfl ?_
          obtain ⟨hg_4, h⟩ := drvG h
          refine jr_iald (rfl : kd 3 = 13) hg_4 dX11_told_102 ?_
          refine jr_iload_n dX11_told_103 rfl 3 rfl ?_
          refine jr_iload_n dX11_told_104 rfl 4 rfl ?_
          obtain ⟨r_7, w_6, hq_5, h⟩ := drvB2 h
          refine j_callVv lk_X11_87 wIM_X5_start wSE_X5_start (rfl : kd 2 = 4) (by decide) rfl (tX5_start (rfl : kd 2 = 4) hq_5) (by omega) rfl rfl (Nat.le_of_ble_eq_true rfl) dX11_told_105 ?_
          refine jr_istore (lv' := [(6, .int r_7), (5, .int r_3), (0, .ref 0), (1, .int a0), (2, .int a1), (3, .int a2), (4, .int a3)]) dX11_told_108 (by decide) rfl ?_
          refine jr_iconst (v := (0 : Int32)) dX11_told_110 (by decide) ?_
          refine jr_istore (lv' := [(7, .int (0 : Int32)), (6, .int r_7), (5, .int r_3), (0, .ref 0), (1, .int a0), (2, .int a1), (3, .int a2), (4, .int a3)]) dX11_told_111 (by decide) rfl ?_
          refine jr_sub [3, 2, 1, 0] rfl ?_
          refine hlX11_told_113   _ _ _ h
        · replace h := drvT hc h
          refine jr_aload_n dX11_told_77 rfl 1 rfl ?_
          refine jr_bipush (v := (-5 : Int32)) dX11_told_78 (by decide) ?_
          obtain ⟨r_16, w_15, hq_14, h⟩ := drvB2 h
          refine j_callVv lk_X11_61 wIM_X11_refuse wSE_X11_refuse (rfl : kd 0 = 10) (by decide) rfl (tX11_refuse  hq_14) (by omega) rfl rfl (Nat.le_of_ble_eq_true rfl) dX11_told_80 ?_
          obtain ⟨rfl, rfl⟩ := drvS2 h
          exact jr_iret rfl dX11_told_83
      · replace h := drvE hc h
        refine jr_aload_n dX11_told_49 rfl 0 rfl ?_
        refine jr_bipush (v := (-4 : Int32)) dX11_told_50 (by decide) ?_
        obtain ⟨r_19, w_18, hq_17, h⟩ := drvB2 h
        refine j_callVv lk_X11_61 wIM_X11_refuse wSE_X11_refuse (rfl : kd 0 = 10) (by decide) rfl (tX11_refuse  hq_17) (by omega) rfl rfl (Nat.le_of_ble_eq_true rfl) dX11_told_52 ?_
        obtain ⟨rfl, rfl⟩ := drvS2 h
        exact jr_iret rfl dX11_told_55
    · replace h := drvT hc h
      refine jr_aload_n dX11_told_29 rfl 0 rfl ?_
      refine jr_bipush (v := (-3 : Int32)) dX11_told_30 (by decide) ?_
      obtain ⟨r_22, w_21, hq_20, h⟩ := drvB2 h
      refine j_callVv lk_X11_61 wIM_X11_refuse wSE_X11_refuse (rfl : kd 0 = 10) (by decide) rfl (tX11_refuse  hq_20) (by omega) rfl rfl (Nat.le_of_ble_eq_true rfl) dX11_told_32 ?_
      obtain ⟨rfl, rfl⟩ := drvS2 h
      exact jr_iret rfl dX11_told_35
  · replace h := drvT hc h
    refine jr_aload_n dX11_told_14 rfl 0 rfl ?_
    refine jr_bipush (v := (-2 : Int32)) dX11_told_15 (by decide) ?_
    obtain ⟨r_25, w_24, hq_23, h⟩ := drvB2 h
    refine j_callVv lk_X11_61 wIM_X11_refuse wSE_X11_refuse (rfl : kd 0 = 10) (by decide) rfl (tX11_refuse  hq_23) (by omega) rfl rfl (Nat.le_of_ble_eq_true rfl) dX11_told_17 ?_
    obtain ⟨rfl, rfl⟩ := drvS2 h
    exact jr_iret rfl dX11_told_20
set_option maxHeartbeats 4000000 in
set_option maxRecDepth 100000 in
theorem tX11_version {n : Nat} {a0 : Int64} {a1 : Int64} {a2 : Int32} {a3 : Int32} {w : jWd} {r : Int32} {w' : jWd}  (h : fX11_version n a0 a1 a2 a3 w = some (r, w')) : JM yX11_version MX11_version 4 [.ref 0, .long a0, .long a1, .int a2, .int a3] w (some (.int r)) w' := by
  refine jm_of pl_X11 rfl (Nat.le_of_ble_eq_true rfl) ?_
  show J MX11_version 4 w 0 [(0, .ref 0), (1, .long a0), (3, .long a1), (5, .int a2), (6, .int a3)] [] (some (.int r)) w'
  unfold fX11_version at h
  refine jr_lload_n dX11_version_0 rfl 1 rfl ?_
  obtain ⟨r_2, hq_1, h⟩ := drvB h
  refine j_callSv lk_X11_97 wST_X4_clean (tX4_clean  hq_1) (by omega) rfl rfl (Nat.le_of_ble_eq_true rfl) dX11_version_1 ?_
  refine jr_lstore (lv' := [(7, .long r_2), (0, .ref 0), (1, .long a0), (3, .long a1), (5, .int a2), (6, .int a3)]) dX11_version_4 (by decide) rfl ?_
  refine jr_lload_n dX11_version_6 rfl 3 rfl ?_
  obtain ⟨r_4, hq_3, h⟩ := drvB h
  refine j_callSv lk_X11_97 wST_X4_clean (tX4_clean  hq_3) (by omega) rfl rfl (Nat.le_of_ble_eq_true rfl) dX11_version_7 ?_
  refine jr_lstore (lv' := [(9, .long r_4), (7, .long r_2), (0, .ref 0), (1, .long a0), (3, .long a1), (5, .int a2), (6, .int a3)]) dX11_version_10 (by decide) rfl ?_
  refine jr_lload dX11_version_12 1 rfl ?_
  refine jr_lconst (v := (0 : Int64)) dX11_version_14 rfl ?_
  refine jr_lcmp dX11_version_15 ?_
  obtain ⟨j26_5, ej26_5, h⟩ := drvF h
  have hj26_5 : ∀ (_ : Unit), j26_5 = some (r, w') → J MX11_version 4 w 26 [(0, .ref 0)] [] (some (.int r)) w' := by
    intro _ h
    rw [ej26_5] at h
    try dsimp only at h
    refine jr_aload_n dX11_version_26 rfl 0 rfl ?_
    refine jr_bipush (v := (-3 : Int32)) dX11_version_27 (by decide) ?_
    obtain ⟨r_8, w_7, hq_6, h⟩ := drvB2 h
    refine j_callVv lk_X11_61 wIM_X11_refuse wSE_X11_refuse (rfl : kd 0 = 10) (by decide) rfl (tX11_refuse  hq_6) (by omega) rfl rfl (Nat.le_of_ble_eq_true rfl) dX11_version_29 ?_
    obtain ⟨rfl, rfl⟩ := drvS2 h
    exact jr_iret rfl dX11_version_32
  refine jr_if_eq (tgt := 26) (nxt := 19) dX11_version_16 (by decide) rfl (fun hc => ?_) (fun hc => ?_)
  · replace h := drvT hc h
    refine jr_sub [2] rfl ?_
    exact (hj26_5 ()) h
  · replace h := drvE hc h
    refine jr_lload dX11_version_19 0 rfl ?_
    refine jr_lconst (v := (0 : Int64)) dX11_version_21 rfl ?_
    refine jr_lcmp dX11_version_22 ?_
    refine jr_if_ne (tgt := 33) (nxt := 26) dX11_version_23 (by decide) rfl (fun hc => ?_) (fun hc => ?_)
    · replace h := drvE hc h
      refine jr_iload dX11_version_33 5 rfl ?_
      refine jr_i2l dX11_version_35 ?_
      refine jr_lconst (v := (0 : Int64)) dX11_version_36 rfl ?_
      refine jr_ldc2 (v := (9999 : Int64)) wCC_X11_113 dX11_version_37 ?_
      refine j_callSv lk_X11_69 wST_X11_within (tX11_within  (a0 := ((a2).toInt64)) (a1 := (0 : Int64)) (a2 := (9999 : Int64)) (w := w)) (by omega) rfl rfl (Nat.le_of_ble_eq_true rfl) dX11_version_40 ?_
      obtain ⟨j59_9, ej59_9, h⟩ := drvF h
      have hj59_9 : ∀ (_ : Unit), j59_9 = some (r, w') → J MX11_version 4 w 59 [(0, .ref 0)] [] (some (.int r)) w' := by
        intro _ h
        rw [ej59_9] at h
        try dsimp only at h
        refine jr_aload_n dX11_version_59 rfl 0 rfl ?_
        refine jr_bipush (v := (-3 : Int32)) dX11_version_60 (by decide) ?_
        obtain ⟨r_12, w_11, hq_10, h⟩ := drvB2 h
        refine j_callVv lk_X11_61 wIM_X11_refuse wSE_X11_refuse (rfl : kd 0 = 10) (by decide) rfl (tX11_refuse  hq_10) (by omega) rfl rfl (Nat.le_of_ble_eq_true rfl) dX11_version_62 ?_
        obtain ⟨rfl, rfl⟩ := drvS2 h
        exact jr_iret rfl dX11_version_65
      refine jr_if_eq (tgt := 59) (nxt := 46) dX11_version_43 (by decide) rfl (fun hc => ?_) (fun hc => ?_)
      · replace h := drvT hc h
        refine jr_sub [2] rfl ?_
        exact (hj59_9 ()) h
      · replace h := drvE hc h
        refine jr_iload dX11_version_46 6 rfl ?_
        refine jr_i2l dX11_version_48 ?_
        refine jr_lconst (v := (0 : Int64)) dX11_version_49 rfl ?_
        refine jr_ldc2 (v := (9 : Int64)) wCC_X11_65 dX11_version_50 ?_
        refine j_callSv lk_X11_69 wST_X11_within (tX11_within  (a0 := ((a3).toInt64)) (a1 := (0 : Int64)) (a2 := (9 : Int64)) (w := w)) (by omega) rfl rfl (Nat.le_of_ble_eq_true rfl) dX11_version_53 ?_
        refine jr_if_ne (tgt := 66) (nxt := 59) dX11_version_56 (by decide) rfl (fun hc => ?_) (fun hc => ?_)
        · replace h := drvE hc h
          refine jr_aload_n dX11_version_66 rfl 2 rfl ?_
          refine gf_X11_10 (r := 1) rfl (rfl : kd 0 = 10) rfl dX11_version_67 ?_
          refine gf_X11_267 (r := 23) rfl (rfl : kd 1 = 7) rfl dX11_version_70 ?_
          refine j_callVv lk_X11_81 wIM_X5_isFull wSE_X5_isFull (rfl : kd 23 = 4) (by decide) rfl (tX5_isFull (rfl : kd 23 = 4)  (t := 23) (w := w)) (by omega) rfl rfl (Nat.le_of_ble_eq_true rfl) dX11_version_73 ?_
          refine jr_if_eq (tgt := 86) (nxt := 79) dX11_version_76 (by decide) rfl (fun hc => ?_) (fun hc => ?_)
          · replace h := drvT hc h
            refine jr_aload_n dX11_version_86 rfl 2 rfl ?_
            refine gf_X11_10 (r := 1) rfl (rfl : kd 0 = 10) rfl dX11_version_87 ?_
            refine gf_X11_267 (r := 23) rfl (rfl : kd 1 = 7) rfl dX11_version_90 ?_
            refine jr_iload dX11_version_93 6 rfl ?_
            refine jr_iconst (v := (0 : Int32)) dX11_version_95 (by decide) ?_
            refine jr_iload dX11_version_96 5 rfl ?_
            obtain ⟨r_15, w_14, hq_13, h⟩ := drvB2 h
            refine j_callVv lk_X11_87 wIM_X5_start wSE_X5_start (rfl : kd 23 = 4) (by decide) rfl (tX5_start (rfl : kd 23 = 4) hq_13) (by omega) rfl rfl (Nat.le_of_ble_eq_true rfl) dX11_version_98 ?_
            refine jr_istore (lv' := [(11, .int r_15), (9, .long r_4), (7, .long r_2), (0, .ref 0), (1, .long a0), (3, .long a1), (5, .int a2), (6, .int a3)]) dX11_version_101 (by decide) rfl ?_
            refine jr_aload_n dX11_version_103 rfl 3 rfl ?_
            refine gf_X11_10 (r := 1) rfl (rfl : kd 0 = 10) rfl dX11_version_104 ?_
            refine gf_X11_267 (r := 23) rfl (rfl : kd 1 = 7) rfl dX11_version_107 ?_
            refine jr_iload dX11_version_110 0 rfl ?_
            refine jr_iload dX11_version_112 7 rfl ?_
            refine jr_lload dX11_version_114 2 rfl ?_
            obtain ⟨r_18, w_17, hq_16, h⟩ := drvB2 h
            refine j_callVv lk_X11_109 wIM_X5_put wSE_X5_put (rfl : kd 23 = 4) (by decide) rfl (tX5_put (rfl : kd 23 = 4) hq_16) (by omega) rfl rfl (Nat.le_of_ble_eq_true rfl) dX11_version_116 ?_
            refine jr_pop dX11_version_119 rfl ?_
            refine jr_aload_n dX11_version_120 rfl 3 rfl ?_
            refine gf_X11_10 (r := 1) rfl (rfl : kd 0 = 10) rfl dX11_version_121 ?_
            refine gf_X11_267 (r := 23) rfl (rfl : kd 1 = 7) rfl dX11_version_124 ?_
            refine jr_iload dX11_version_127 0 rfl ?_
            refine jr_iload dX11_version_129 7 rfl ?_
            refine jr_lload dX11_version_131 1 rfl ?_
            obtain ⟨r_21, w_20, hq_19, h⟩ := drvB2 h
            refine j_callVv lk_X11_109 wIM_X5_put wSE_X5_put (rfl : kd 23 = 4) (by decide) rfl (tX5_put (rfl : kd 23 = 4) hq_19) (by omega) rfl rfl (Nat.le_of_ble_eq_true rfl) dX11_version_133 ?_
            refine jr_pop dX11_version_136 rfl ?_
            refine jr_iload dX11_version_137 0 rfl ?_
            obtain ⟨rfl, rfl⟩ := drvS2 h
            exact jr_iret rfl dX11_version_139
          · replace h := drvE hc h
            refine jr_aload_n dX11_version_79 rfl 2 rfl ?_
            refine jr_bipush (v := (-4 : Int32)) dX11_version_80 (by decide) ?_
            obtain ⟨r_24, w_23, hq_22, h⟩ := drvB2 h
            refine j_callVv lk_X11_61 wIM_X11_refuse wSE_X11_refuse (rfl : kd 0 = 10) (by decide) rfl (tX11_refuse  hq_22) (by omega) rfl rfl (Nat.le_of_ble_eq_true rfl) dX11_version_82 ?_
            obtain ⟨rfl, rfl⟩ := drvS2 h
            exact jr_iret rfl dX11_version_85
        · replace h := drvT hc h
          refine jr_sub [2] rfl ?_
          exact (hj59_9 ()) h
    · replace h := drvT hc h
      refine jr_sub [2] rfl ?_
      exact (hj26_5 ()) h
set_option maxHeartbeats 4000000 in
set_option maxRecDepth 100000 in
theorem tX11_which {n : Nat} {a0 : Int32} {w : jWd} {r : Int32} {w' : jWd}  (h : fX11_which n a0 w = some (r, w')) : JM yX11_which MX11_which 7 [.ref 0, .int a0] w (some (.int r)) w' := by
  refine jm_of pl_X11 rfl (Nat.le_of_ble_eq_true rfl) ?_
  show J MX11_which 7 w 0 [(0, .ref 0), (1, .int a0)] [] (some (.int r)) w'
  unfold fX11_which at h
  refine jr_aload_n dX11_which_0 rfl 0 rfl ?_
  refine gf_X11_10 (r := 1) rfl (rfl : kd 0 = 10) rfl dX11_which_1 ?_
  refine gf_X11_267 (r := 23) rfl (rfl : kd 1 = 7) rfl dX11_which_4 ?_
  refine jr_iload_n dX11_which_7 rfl 1 rfl ?_
  refine jr_iconst (v := (1 : Int32)) dX11_which_8 (by decide) ?_
  obtain ⟨r_2, hq_1, h⟩ := drvB h
  refine j_callVv lk_X11_133 wIM_X5_has_ wSE_X5_has_ (rfl : kd 23 = 4) (by decide) rfl (tX5_has_ (rfl : kd 23 = 4) hq_1) (by omega) rfl rfl (Nat.le_of_ble_eq_true rfl) dX11_which_9 ?_
  refine jr_if_ne (tgt := 22) (nxt := 15) dX11_which_12 (by decide) rfl (fun hc => ?_) (fun hc => ?_)
  · replace h := drvE hc h
    refine jr_aload_n dX11_which_22 rfl 0 rfl ?_
    refine gf_X11_10 (r := 1) rfl (rfl : kd 0 = 10) rfl dX11_which_23 ?_
    refine gf_X11_267 (r := 23) rfl (rfl : kd 1 = 7) rfl dX11_which_26 ?_
    refine jr_iload_n dX11_which_29 rfl 1 rfl ?_
    refine jr_iconst (v := (0 : Int32)) dX11_which_30 (by decide) ?_
    obtain ⟨r_4, hq_3, h⟩ := drvB h
    refine j_callVv lk_X11_135 wIM_X5_at wSE_X5_at (rfl : kd 23 = 4) (by decide) rfl (tX5_at (rfl : kd 23 = 4) hq_3) (by omega) rfl rfl (Nat.le_of_ble_eq_true rfl) dX11_which_31 ?_
    refine jr_lstore_n (lv' := [(2, .long r_4), (0, .ref 0), (1, .int a0)]) dX11_which_34 rfl (by decide) rfl ?_
    refine jr_aload_n dX11_which_35 rfl 1 rfl ?_
    refine gf_X11_10 (r := 1) rfl (rfl : kd 0 = 10) rfl dX11_which_36 ?_
    refine gf_X11_267 (r := 23) rfl (rfl : kd 1 = 7) rfl dX11_which_39 ?_
    refine jr_iload_n dX11_which_42 rfl 2 rfl ?_
    refine jr_iconst (v := (1 : Int32)) dX11_which_43 (by decide) ?_
    obtain ⟨r_6, hq_5, h⟩ := drvB h
    refine j_callVv lk_X11_135 wIM_X5_at wSE_X5_at (rfl : kd 23 = 4) (by decide) rfl (tX5_at (rfl : kd 23 = 4) hq_5) (by omega) rfl rfl (Nat.le_of_ble_eq_true rfl) dX11_which_44 ?_
    refine jr_lstore (lv' := [(4, .long r_6), (2, .long r_4), (0, .ref 0), (1, .int a0)]) dX11_which_47 (by decide) rfl ?_
    refine jr_aload_n dX11_which_49 rfl 2 rfl ?_
    refine gf_X11_10 (r := 1) rfl (rfl : kd 0 = 10) rfl dX11_which_50 ?_
    refine gf_X11_267 (r := 23) rfl (rfl : kd 1 = 7) rfl dX11_which_53 ?_
    refine gf_X11_205 (r := 24) rfl (rfl : kd 23 = 4) rfl dX11_which_56 ?_
    refine jr_iload_n dX11_which_59 rfl 3 rfl ?_
    obtain ⟨hg_7, h⟩ := drvG h
    refine jr_iald (rfl : kd 24 = 13) hg_7 dX11_which_60 ?_
    refine j_nmi (fun x6_8 e_9 => ?_)
    replace h := drvL e_9 h
    refine jr_istore (lv' := [(6, .int x6_8), (4, .long r_6), (2, .long r_4), (0, .ref 0), (1, .int a0)]) dX11_which_61 (by decide) rfl ?_
    refine jr_aload_n dX11_which_63 rfl 3 rfl ?_
    refine gf_X11_10 (r := 1) rfl (rfl : kd 0 = 10) rfl dX11_which_64 ?_
    refine jr_lload_n dX11_which_67 rfl 2 rfl ?_
    refine jr_aload_n dX11_which_68 rfl 3 rfl ?_
    refine gf_X11_10 (r := 1) rfl (rfl : kd 0 = 10) rfl dX11_which_69 ?_
    refine gf_X11_267 (r := 23) rfl (rfl : kd 1 = 7) rfl dX11_which_72 ?_
    refine gf_X11_119 (r := 26) rfl (rfl : kd 23 = 4) rfl dX11_which_75 ?_
    refine jr_iload_n dX11_which_78 rfl 4 rfl ?_
    obtain ⟨hg_10, h⟩ := drvG h
    refine jr_iald (rfl : kd 26 = 13) hg_10 dX11_which_79 ?_
    obtain ⟨r_12, hq_11, h⟩ := drvB h
    refine j_callVv lk_X11_270 wIM_X8_hasWordAfter wSE_X8_hasWordAfter (rfl : kd 1 = 7) (by decide) rfl (tX8_hasWordAfter (rfl : kd 1 = 7) hq_11) (by omega) rfl rfl (Nat.le_of_ble_eq_true rfl) dX11_which_80 ?_
    refine jr_if_eq (tgt := 88) (nxt := 86) dX11_which_83 (by decide) rfl (fun hc => ?_) (fun hc => ?_)
    · replace h := drvT hc h
      refine jr_aload_n dX11_which_88 rfl 3 rfl ?_
      refine gf_X11_10 (r := 1) rfl (rfl : kd 0 = 10) rfl dX11_which_89 ?_
      refine gf_X11_171 (r := 32) rfl (rfl : kd 1 = 7) rfl dX11_which_92 ?_
      refine jr_lload_n dX11_which_95 rfl 2 rfl ?_
      refine jr_iload dX11_which_96 0 rfl ?_
      obtain ⟨r_14, hq_13, h⟩ := drvB h
      refine j_callVv lk_X11_194 wIM_X1_smooth wSE_X1_smooth (rfl : kd 32 = 1) (by decide) rfl (tX1_smooth (rfl : kd 32 = 1) hq_13) (by omega) rfl rfl (Nat.le_of_ble_eq_true rfl) dX11_which_98 ?_
      refine jr_lload dX11_which_101 1 rfl ?_
      refine jr_lcmp dX11_which_103 ?_
      refine jr_if_ne (tgt := 109) (nxt := 107) dX11_which_104 (by decide) rfl (fun hc => ?_) (fun hc => ?_)
      · replace h := drvE hc h
        refine jr_aload_n dX11_which_109 rfl 3 rfl ?_
        refine gf_X11_10 (r := 1) rfl (rfl : kd 0 = 10) rfl dX11_which_110 ?_
        refine gf_X11_171 (r := 32) rfl (rfl : kd 1 = 7) rfl dX11_which_113 ?_
        refine jr_lload dX11_which_116 1 rfl ?_
        refine jr_iload dX11_which_118 0 rfl ?_
        obtain ⟨r_16, hq_15, h⟩ := drvB h
        refine j_callVv lk_X11_194 wIM_X1_smooth wSE_X1_smooth (rfl : kd 32 = 1) (by decide) rfl (tX1_smooth (rfl : kd 32 = 1) hq_15) (by omega) rfl rfl (Nat.le_of_ble_eq_true rfl) dX11_which_120 ?_
        refine jr_lload_n dX11_which_123 rfl 2 rfl ?_
        refine jr_lcmp dX11_which_124 ?_
        refine jr_if_ne (tgt := 132) (nxt := 128) dX11_which_125 (by decide) rfl (fun hc => ?_) (fun hc => ?_)
        · replace h := drvE hc h
          refine jr_iconst (v := (2 : Int32)) dX11_which_132 (by decide) ?_
          obtain ⟨rfl, rfl⟩ := drvS2 h
          exact jr_iret rfl dX11_which_133
        · replace h := drvT hc h
          refine jr_iconst (v := (1 : Int32)) dX11_which_128 (by decide) ?_
          refine jr_goto (tgt := 133) dX11_which_129 (by decide) ?_
          obtain ⟨rfl, rfl⟩ := drvS2 h
          exact jr_iret rfl dX11_which_133
      · replace h := drvT hc h
        refine jr_iconst (v := (0 : Int32)) dX11_which_107 (by decide) ?_
        obtain ⟨rfl, rfl⟩ := drvS2 h
        exact jr_iret rfl dX11_which_108
    · replace h := drvE hc h
      refine jr_iconst (v := (1 : Int32)) dX11_which_86 (by decide) ?_
      obtain ⟨rfl, rfl⟩ := drvS2 h
      exact jr_iret rfl dX11_which_87
  · replace h := drvT hc h
    refine jr_aload_n dX11_which_15 rfl 0 rfl ?_
    refine jr_bipush (v := (-2 : Int32)) dX11_which_16 (by decide) ?_
    obtain ⟨r_19, w_18, hq_17, h⟩ := drvB2 h
    refine j_callVv lk_X11_61 wIM_X11_refuse wSE_X11_refuse (rfl : kd 0 = 10) (by decide) rfl (tX11_refuse  hq_17) (by omega) rfl rfl (Nat.le_of_ble_eq_true rfl) dX11_which_18 ?_
    obtain ⟨rfl, rfl⟩ := drvS2 h
    exact jr_iret rfl dX11_which_21
set_option maxHeartbeats 4000000 in
set_option maxRecDepth 100000 in
theorem tX11_whose {n : Nat} {a0 : Int32} {a1 : Int32} {w : jWd} {r : Int32} {w' : jWd}  (h : fX11_whose n a0 a1 w = some (r, w')) : JM yX11_whose MX11_whose 6 [.ref 0, .int a0, .int a1] w (some (.int r)) w' := by
  refine jm_of pl_X11 rfl (Nat.le_of_ble_eq_true rfl) ?_
  show J MX11_whose 6 w 0 [(0, .ref 0), (1, .int a0), (2, .int a1)] [] (some (.int r)) w'
  unfold fX11_whose at h
  refine jr_aload_n dX11_whose_0 rfl 0 rfl ?_
  refine gf_X11_10 (r := 1) rfl (rfl : kd 0 = 10) rfl dX11_whose_1 ?_
  refine gf_X11_115 (r := 16) rfl (rfl : kd 1 = 7) rfl dX11_whose_4 ?_
  refine jr_iconst (v := (0 : Int32)) dX11_whose_7 (by decide) ?_
  refine jr_iload_n dX11_whose_8 rfl 1 rfl ?_
  obtain ⟨r_2, hq_1, h⟩ := drvB h
  refine j_callVv lk_X11_133 wIM_X5_has_ wSE_X5_has_ (rfl : kd 16 = 4) (by decide) rfl (tX5_has_ (rfl : kd 16 = 4) hq_1) (by omega) rfl rfl (Nat.le_of_ble_eq_true rfl) dX11_whose_9 ?_
  obtain ⟨j22_3, ej22_3, h⟩ := drvF h
  have hj22_3 : ∀ (_ : Unit), j22_3 = some (r, w') → J MX11_whose 6 w 22 [(0, .ref 0)] [] (some (.int r)) w' := by
    intro _ h
    rw [ej22_3] at h
    try dsimp only at h
    refine jr_aload_n dX11_whose_22 rfl 0 rfl ?_
    refine jr_bipush (v := (-2 : Int32)) dX11_whose_23 (by decide) ?_
    obtain ⟨r_6, w_5, hq_4, h⟩ := drvB2 h
    refine j_callVv lk_X11_61 wIM_X11_refuse wSE_X11_refuse (rfl : kd 0 = 10) (by decide) rfl (tX11_refuse  hq_4) (by omega) rfl rfl (Nat.le_of_ble_eq_true rfl) dX11_whose_25 ?_
    obtain ⟨rfl, rfl⟩ := drvS2 h
    exact jr_iret rfl dX11_whose_28
  refine jr_if_eq (tgt := 22) (nxt := 15) dX11_whose_12 (by decide) rfl (fun hc => ?_) (fun hc => ?_)
  · replace h := drvT hc h
    refine jr_sub [0] rfl ?_
    exact (hj22_3 ()) h
  · replace h := drvE hc h
    refine jr_iload_n dX11_whose_15 rfl 2 rfl ?_
    refine j_callSv lk_X11_208 wST_X11_isHalf (tX11_isHalf  (a0 := a1) (w := w)) (by omega) rfl rfl (Nat.le_of_ble_eq_true rfl) dX11_whose_16 ?_
    refine jr_if_ne (tgt := 29) (nxt := 22) dX11_whose_19 (by decide) rfl (fun hc => ?_) (fun hc => ?_)
    · replace h := drvE hc h
      refine jr_aload_n dX11_whose_29 rfl 0 rfl ?_
      refine gf_X11_31 (r := 182) rfl (rfl : kd 0 = 10) rfl dX11_whose_30 ?_
      refine jr_iload_n dX11_whose_33 rfl 1 rfl ?_
      obtain ⟨w_8, hq_7, h⟩ := drvB h
      refine j_callVn lk_X11_211 wIM_X2_look wSE_X2_look (rfl : kd 182 = 2) (by decide) rfl (tX2_look  hq_7) (by omega) rfl rfl (Nat.le_of_ble_eq_true rfl) dX11_whose_34 ?_
      refine jr_iload_n dX11_whose_37 rfl 2 rfl ?_
      refine jr_if_ne (tgt := 51) (nxt := 41) dX11_whose_38 (by decide) rfl (fun hc => ?_) (fun hc => ?_)
      · replace h := drvE hc h
        refine jr_aload_n dX11_whose_51 rfl 0 rfl ?_
        refine gf_X11_31 (r := 182) rfl (rfl : kd 0 = 10) rfl dX11_whose_52 ?_
        refine gf_X11_217 rfl (rfl : kd 182 = 2) dX11_whose_55 ?_
        obtain ⟨rfl, rfl⟩ := drvS2 h
        exact jr_iret rfl dX11_whose_58
      · replace h := drvT hc h
        refine jr_aload_n dX11_whose_41 rfl 0 rfl ?_
        refine gf_X11_31 (r := 182) rfl (rfl : kd 0 = 10) rfl dX11_whose_42 ?_
        refine gf_X11_214 rfl (rfl : kd 182 = 2) dX11_whose_45 ?_
        refine jr_goto (tgt := 58) dX11_whose_48 (by decide) ?_
        obtain ⟨rfl, rfl⟩ := drvS2 h
        exact jr_iret rfl dX11_whose_58
    · replace h := drvT hc h
      refine jr_sub [0] rfl ?_
      exact (hj22_3 ()) h
set_option maxHeartbeats 4000000 in
set_option maxRecDepth 100000 in
theorem tX11_words {a0 : Int32} {a1 : Int32} {a2 : Int32} {w : jWd} {r : Int64} {w' : jWd}  (h : fX11_words a0 a1 a2 w = some (r, w')) : JM yX11_words MX11_words 4 [.ref 0, .int a0, .int a1, .int a2] w (some (.long r)) w' := by
  refine jm_of pl_X11 rfl (Nat.le_of_ble_eq_true rfl) ?_
  show J MX11_words 4 w 0 [(0, .ref 0), (1, .int a0), (2, .int a1), (3, .int a2)] [] (some (.long r)) w'
  unfold fX11_words at h
  refine jr_iload_n dX11_words_0 rfl 1 rfl ?_
  refine jr_i2l dX11_words_1 ?_
  refine jr_lconst (v := (0 : Int64)) dX11_words_2 rfl ?_
  refine jr_ldc2 (v := (4 : Int64)) wCC_X11_131 dX11_words_3 ?_
  refine j_callSv lk_X11_69 wST_X11_within (tX11_within  (a0 := ((a0).toInt64)) (a1 := (0 : Int64)) (a2 := (4 : Int64)) (w := w)) (by omega) rfl rfl (Nat.le_of_ble_eq_true rfl) dX11_words_6 ?_
  refine jr_if_ne (tgt := 20) (nxt := 12) dX11_words_9 (by decide) rfl (fun hc => ?_) (fun hc => ?_)
  · replace h := drvE hc h
    refine jr_aload_n dX11_words_20 rfl 0 rfl ?_
    refine gf_X11_10 (r := 1) rfl (rfl : kd 0 = 10) rfl dX11_words_21 ?_
    refine jr_iload_n dX11_words_24 rfl 1 rfl ?_
    refine j_callVv lk_X11_77 wIM_X8_pile wSE_X8_pile (rfl : kd 1 = 7) (by decide) rfl (tX8_pile (rfl : kd 1 = 7) (a0 := a0) (t := 1) (w := w)) (by omega) rfl rfl (Nat.le_of_ble_eq_true rfl) dX11_words_25 ?_
    refine j_nma (fun r_1 e_2 => ?_)
    replace h := drvL e_2 h
    have hk_r_1 : kd r_1 = 4 := by rw [e_2]; exact kqX8_pile (rfl : kd 1 = 7)
    refine jr_astore (lv' := [(4, .ref r_1), (0, .ref 0), (1, .int a0), (2, .int a1), (3, .int a2)]) dX11_words_28 (by decide) rfl ?_
    refine jr_iload_n dX11_words_30 rfl 2 rfl ?_
    refine jr_iconst (v := (2 : Int32)) dX11_words_31 (by decide) ?_
    obtain ⟨j40_4, ej40_4, h⟩ := drvF h
    have hj40_4 : ∀ (s_3 : Int32), j40_4 s_3 = some (r, w') → J MX11_words 4 w 40 [(0, .ref 0), (1, .int a0), (3, .int a2), (4, .ref r_1)] [.int s_3] (some (.long r)) w' := by
      intro s_3 h
      rw [ej40_4] at h
      try dsimp only at h
      refine jr_istore (lv' := [(5, .int s_3), (0, .ref 0), (1, .int a0), (3, .int a2), (4, .ref r_1)]) dX11_words_40 (by decide) rfl ?_
      refine jr_iload_n dX11_words_42 rfl 2 rfl ?_
      refine jr_iconst (v := (3 : Int32)) dX11_words_43 (by decide) ?_
      obtain ⟨j61_6, ej61_6, h⟩ := drvF h
      have hj61_6 : ∀ (s_5 : Int32), j61_6 s_5 = some (r, w') → J MX11_words 4 w 61 [(0, .ref 0), (4, .ref r_1), (5, .int s_3)] [.int s_5] (some (.long r)) w' := by
        intro s_5 h
        rw [ej61_6] at h
        try dsimp only at h
        refine jr_istore (lv' := [(6, .int s_5), (0, .ref 0), (4, .ref r_1), (5, .int s_3)]) dX11_words_61 (by decide) rfl ?_
        refine jr_aload dX11_words_63 2 rfl ?_
        refine jr_iload dX11_words_65 3 rfl ?_
        refine jr_iload dX11_words_67 0 rfl ?_
        obtain ⟨r_8, hq_7, h⟩ := drvB h
        refine j_callVv lk_X11_133 wIM_X5_has_ wSE_X5_has_ hk_r_1 (by decide) rfl (tX5_has_ hk_r_1 hq_7) (by omega) rfl rfl (Nat.le_of_ble_eq_true rfl) dX11_words_69 ?_
        refine jr_if_ne (tgt := 83) (nxt := 75) dX11_words_72 (by decide) rfl (fun hc => ?_) (fun hc => ?_)
        · replace h := drvE hc h
          refine jr_aload dX11_words_83 2 rfl ?_
          refine jr_iload dX11_words_85 3 rfl ?_
          refine jr_iload dX11_words_87 0 rfl ?_
          obtain ⟨r_10, hq_9, h⟩ := drvB h
          refine j_callVv lk_X11_135 wIM_X5_at wSE_X5_at hk_r_1 (by decide) rfl (tX5_at hk_r_1 hq_9) (by omega) rfl rfl (Nat.le_of_ble_eq_true rfl) dX11_words_89 ?_
          obtain ⟨rfl, rfl⟩ := drvS2 h
          exact jr_lret rfl dX11_words_92
        · replace h := drvT hc h
          refine jr_aload_n dX11_words_75 rfl 1 rfl ?_
          refine jr_bipush (v := (-2 : Int32)) dX11_words_76 (by decide) ?_
          obtain ⟨r_13, w_12, hq_11, h⟩ := drvB2 h
          refine j_callVv lk_X11_61 wIM_X11_refuse wSE_X11_refuse (rfl : kd 0 = 10) (by decide) rfl (tX11_refuse  hq_11) (by omega) rfl rfl (Nat.le_of_ble_eq_true rfl) dX11_words_78 ?_
          refine jr_i2l dX11_words_81 ?_
          obtain ⟨rfl, rfl⟩ := drvS2 h
          exact jr_lret rfl dX11_words_82
      refine jr_icmp_ne (tgt := 51) (nxt := 47) dX11_words_44 (by decide) rfl (fun hc => ?_) (fun hc => ?_)
      · replace h := drvE hc h
        refine jr_iload_n dX11_words_51 rfl 2 rfl ?_
        refine jr_iconst (v := (4 : Int32)) dX11_words_52 (by decide) ?_
        refine jr_icmp_ne (tgt := 60) (nxt := 56) dX11_words_53 (by decide) rfl (fun hc => ?_) (fun hc => ?_)
        · replace h := drvE hc h
          refine jr_iload_n dX11_words_60 rfl 3 rfl ?_
          refine jr_sub [1, 4, 0] rfl ?_
          exact hj61_6 _ h
        · replace h := drvT hc h
          refine jr_iconst (v := (1 : Int32)) dX11_words_56 (by decide) ?_
          refine jr_goto (tgt := 61) dX11_words_57 (by decide) ?_
          refine jr_sub [1, 4, 0] rfl ?_
          exact hj61_6 _ h
      · replace h := drvT hc h
        refine jr_iconst (v := (0 : Int32)) dX11_words_47 (by decide) ?_
        refine jr_goto (tgt := 61) dX11_words_48 (by decide) ?_
        refine jr_sub [1, 4, 0] rfl ?_
        exact hj61_6 _ h
    refine jr_icmp_ne (tgt := 39) (nxt := 35) dX11_words_32 (by decide) rfl (fun hc => ?_) (fun hc => ?_)
    · replace h := drvE hc h
      refine jr_iload_n dX11_words_39 rfl 3 rfl ?_
      refine jr_sub [1, 2, 4, 0] rfl ?_
      exact hj40_4 _ h
    · replace h := drvT hc h
      refine jr_iconst (v := (0 : Int32)) dX11_words_35 (by decide) ?_
      refine jr_goto (tgt := 40) dX11_words_36 (by decide) ?_
      refine jr_sub [1, 2, 4, 0] rfl ?_
      exact hj40_4 _ h
  · replace h := drvT hc h
    refine jr_aload_n dX11_words_12 rfl 0 rfl ?_
    refine jr_bipush (v := (-2 : Int32)) dX11_words_13 (by decide) ?_
    obtain ⟨r_16, w_15, hq_14, h⟩ := drvB2 h
    refine j_callVv lk_X11_61 wIM_X11_refuse wSE_X11_refuse (rfl : kd 0 = 10) (by decide) rfl (tX11_refuse  hq_14) (by omega) rfl rfl (Nat.le_of_ble_eq_true rfl) dX11_words_15 ?_
    refine jr_i2l dX11_words_18 ?_
    obtain ⟨rfl, rfl⟩ := drvS2 h
    exact jr_lret rfl dX11_words_19
set_option maxHeartbeats 4000000 in
set_option maxRecDepth 100000 in
theorem tX11_world {a0 : Int32} {w : jWd} {r : Int32} {w' : jWd}  (h : fX11_world a0 w = some (r, w')) : JM yX11_world MX11_world 2 [.ref 0, .int a0] w (some (.int r)) w' := by
  refine jm_of pl_X11 rfl (Nat.le_of_ble_eq_true rfl) ?_
  show J MX11_world 2 w 0 [(0, .ref 0), (1, .int a0)] [] (some (.int r)) w'
  unfold fX11_world at h
  refine jr_iload_n dX11_world_0 rfl 1 rfl ?_
  refine jr_i2l dX11_world_1 ?_
  refine jr_lconst (v := (1 : Int64)) dX11_world_2 rfl ?_
  refine jr_ldc2 (v := (99 : Int64)) wCC_X11_331 dX11_world_3 ?_
  refine j_callSv lk_X11_69 wST_X11_within (tX11_within  (a0 := ((a0).toInt64)) (a1 := (1 : Int64)) (a2 := (99 : Int64)) (w := w)) (by omega) rfl rfl (Nat.le_of_ble_eq_true rfl) dX11_world_6 ?_
  refine jr_if_ne (tgt := 19) (nxt := 12) dX11_world_9 (by decide) rfl (fun hc => ?_) (fun hc => ?_)
  · replace h := drvE hc h
    refine jr_aload_n dX11_world_19 rfl 0 rfl ?_
    refine gf_X11_10 (r := 1) rfl (rfl : kd 0 = 10) rfl dX11_world_20 ?_
    refine gf_X11_354 (r := 55) rfl (rfl : kd 1 = 7) rfl dX11_world_23 ?_
    refine gf_X11_358 rfl (rfl : kd 55 = 9) dX11_world_26 ?_
    refine jr_bipush (v := (8 : Int32)) dX11_world_29 (by decide) ?_
    refine jr_icmp_lt (tgt := 41) (nxt := 34) dX11_world_31 (by decide) rfl (fun hc => ?_) (fun hc => ?_)
    · replace h := drvT hc h
      refine jr_aload_n dX11_world_41 rfl 0 rfl ?_
      refine gf_X11_10 (r := 1) rfl (rfl : kd 0 = 10) rfl dX11_world_42 ?_
      refine gf_X11_354 (r := 55) rfl (rfl : kd 1 = 7) rfl dX11_world_45 ?_
      refine jr_iload_n dX11_world_48 rfl 1 rfl ?_
      obtain ⟨r_3, w_2, hq_1, h⟩ := drvB2 h
      refine j_callVv lk_X11_361 wIM_X10_start wSE_X10_start (rfl : kd 55 = 9) (by decide) rfl (tX10_start (rfl : kd 55 = 9) hq_1) (by omega) rfl rfl (Nat.le_of_ble_eq_true rfl) dX11_world_49 ?_
      obtain ⟨rfl, rfl⟩ := drvS2 h
      exact jr_iret rfl dX11_world_52
    · replace h := drvE hc h
      refine jr_aload_n dX11_world_34 rfl 0 rfl ?_
      refine jr_bipush (v := (-4 : Int32)) dX11_world_35 (by decide) ?_
      obtain ⟨r_6, w_5, hq_4, h⟩ := drvB2 h
      refine j_callVv lk_X11_61 wIM_X11_refuse wSE_X11_refuse (rfl : kd 0 = 10) (by decide) rfl (tX11_refuse  hq_4) (by omega) rfl rfl (Nat.le_of_ble_eq_true rfl) dX11_world_37 ?_
      obtain ⟨rfl, rfl⟩ := drvS2 h
      exact jr_iret rfl dX11_world_40
  · replace h := drvT hc h
    refine jr_aload_n dX11_world_12 rfl 0 rfl ?_
    refine jr_bipush (v := (-3 : Int32)) dX11_world_13 (by decide) ?_
    obtain ⟨r_9, w_8, hq_7, h⟩ := drvB2 h
    refine j_callVv lk_X11_61 wIM_X11_refuse wSE_X11_refuse (rfl : kd 0 = 10) (by decide) rfl (tX11_refuse  hq_7) (by omega) rfl rfl (Nat.le_of_ble_eq_true rfl) dX11_world_15 ?_
    obtain ⟨rfl, rfl⟩ := drvS2 h
    exact jr_iret rfl dX11_world_18
set_option maxHeartbeats 4000000 in
set_option maxRecDepth 100000 in
theorem tX11_write {a0 : Int32} {a1 : Int32} {a2 : Int64} {w : jWd} {r : Int64} {w' : jWd}  (h : fX11_write a0 a1 a2 w = some (r, w')) : JM yX11_write MX11_write 3 [.ref 0, .int a0, .int a1, .long a2] w (some (.long r)) w' := by
  refine jm_of pl_X11 rfl (Nat.le_of_ble_eq_true rfl) ?_
  show J MX11_write 3 w 0 [(0, .ref 0), (1, .int a0), (2, .int a1), (3, .long a2)] [] (some (.long r)) w'
  unfold fX11_write at h
  refine jr_aload_n dX11_write_0 rfl 0 rfl ?_
  refine gf_X11_38 (r := 185) rfl (rfl : kd 0 = 10) rfl dX11_write_1 ?_
  refine jr_iload_n dX11_write_4 rfl 1 rfl ?_
  refine j_callVv lk_X11_379 wIM_X7_canBe wSE_X7_canBe (rfl : kd 185 = 6) (by decide) rfl (tX7_canBe  (a0 := a0) (w := w)) (by omega) rfl rfl (Nat.le_of_ble_eq_true rfl) dX11_write_5 ?_
  refine jr_if_ne (tgt := 19) (nxt := 11) dX11_write_8 (by decide) rfl (fun hc => ?_) (fun hc => ?_)
  · replace h := drvE hc h
    refine jr_aload_n dX11_write_19 rfl 0 rfl ?_
    refine gf_X11_38 (r := 185) rfl (rfl : kd 0 = 10) rfl dX11_write_20 ?_
    refine gf_X11_388 (r := 186) rfl (rfl : kd 185 = 6) rfl dX11_write_23 ?_
    refine jr_iload_n dX11_write_26 rfl 1 rfl ?_
    obtain ⟨hg_1, h⟩ := drvG h
    refine jr_iald (rfl : kd 186 = 13) hg_1 dX11_write_27 ?_
    refine jr_iconst (v := (-1 : Int32)) dX11_write_28 (by decide) ?_
    refine jr_icmp_ne (tgt := 40) (nxt := 32) dX11_write_29 (by decide) rfl (fun hc => ?_) (fun hc => ?_)
    · replace h := drvE hc h
      refine jr_iload_n dX11_write_40 rfl 2 rfl ?_
      refine jr_i2l dX11_write_41 ?_
      refine jr_lconst (v := (0 : Int64)) dX11_write_42 rfl ?_
      refine jr_aload_n dX11_write_43 rfl 0 rfl ?_
      refine gf_X11_38 (r := 185) rfl (rfl : kd 0 = 10) rfl dX11_write_44 ?_
      refine gf_X11_388 (r := 186) rfl (rfl : kd 185 = 6) rfl dX11_write_47 ?_
      refine jr_iload_n dX11_write_50 rfl 1 rfl ?_
      obtain ⟨hg_2, h⟩ := drvG h
      refine jr_iald (rfl : kd 186 = 13) hg_2 dX11_write_51 ?_
      refine jr_iconst (v := (1 : Int32)) dX11_write_52 (by decide) ?_
      refine jr_isub dX11_write_53 ?_
      refine jr_i2l dX11_write_54 ?_
      refine j_callSv lk_X11_69 wST_X11_within (tX11_within  (a0 := ((a1).toInt64)) (a1 := (0 : Int64)) (a2 := ((((wI w 186 (a0).toNatClampNeg) - (1 : Int32))).toInt64)) (w := w)) (by omega) rfl rfl (Nat.le_of_ble_eq_true rfl) dX11_write_55 ?_
      refine jr_if_ne (tgt := 69) (nxt := 61) dX11_write_58 (by decide) rfl (fun hc => ?_) (fun hc => ?_)
      · replace h := drvE hc h
        refine jr_aload_n dX11_write_69 rfl 0 rfl ?_
        refine gf_X11_38 (r := 185) rfl (rfl : kd 0 = 10) rfl dX11_write_70 ?_
        refine jr_iload_n dX11_write_73 rfl 1 rfl ?_
        refine jr_iload_n dX11_write_74 rfl 2 rfl ?_
        refine jr_lload_n dX11_write_75 rfl 3 rfl ?_
        obtain ⟨r_5, w_4, hq_3, h⟩ := drvB2 h
        refine j_callVv lk_X11_390 wIM_X7_put wSE_X7_put (rfl : kd 185 = 6) (by decide) rfl (tX7_put  hq_3) (by omega) rfl rfl (Nat.le_of_ble_eq_true rfl) dX11_write_76 ?_
        obtain ⟨rfl, rfl⟩ := drvS2 h
        exact jr_lret rfl dX11_write_79
      · replace h := drvT hc h
        refine jr_aload_n dX11_write_61 rfl 0 rfl ?_
        refine jr_bipush (v := (-7 : Int32)) dX11_write_62 (by decide) ?_
        obtain ⟨r_8, w_7, hq_6, h⟩ := drvB2 h
        refine j_callVv lk_X11_61 wIM_X11_refuse wSE_X11_refuse (rfl : kd 0 = 10) (by decide) rfl (tX11_refuse  hq_6) (by omega) rfl rfl (Nat.le_of_ble_eq_true rfl) dX11_write_64 ?_
        refine jr_i2l dX11_write_67 ?_
        obtain ⟨rfl, rfl⟩ := drvS2 h
        exact jr_lret rfl dX11_write_68
    · replace h := drvT hc h
      refine jr_aload_n dX11_write_32 rfl 0 rfl ?_
      refine jr_bipush (v := (-6 : Int32)) dX11_write_33 (by decide) ?_
      obtain ⟨r_11, w_10, hq_9, h⟩ := drvB2 h
      refine j_callVv lk_X11_61 wIM_X11_refuse wSE_X11_refuse (rfl : kd 0 = 10) (by decide) rfl (tX11_refuse  hq_9) (by omega) rfl rfl (Nat.le_of_ble_eq_true rfl) dX11_write_35 ?_
      refine jr_i2l dX11_write_38 ?_
      obtain ⟨rfl, rfl⟩ := drvS2 h
      exact jr_lret rfl dX11_write_39
  · replace h := drvT hc h
    refine jr_aload_n dX11_write_11 rfl 0 rfl ?_
    refine jr_bipush (v := (-2 : Int32)) dX11_write_12 (by decide) ?_
    obtain ⟨r_14, w_13, hq_12, h⟩ := drvB2 h
    refine j_callVv lk_X11_61 wIM_X11_refuse wSE_X11_refuse (rfl : kd 0 = 10) (by decide) rfl (tX11_refuse  hq_12) (by omega) rfl rfl (Nat.le_of_ble_eq_true rfl) dX11_write_14 ?_
    refine jr_i2l dX11_write_17 ?_
    obtain ⟨rfl, rfl⟩ := drvS2 h
    exact jr_lret rfl dX11_write_18
set_option maxHeartbeats 4000000 in
set_option maxRecDepth 100000 in
theorem tX11_year {a0 : Int32} {a1 : Int32} {w : jWd} {r : Int32} {w' : jWd}  (h : fX11_year a0 a1 w = some (r, w')) : JM yX11_year MX11_year 2 [.ref 0, .int a0, .int a1] w (some (.int r)) w' := by
  refine jm_of pl_X11 rfl (Nat.le_of_ble_eq_true rfl) ?_
  show J MX11_year 2 w 0 [(0, .ref 0), (1, .int a0), (2, .int a1)] [] (some (.int r)) w'
  unfold fX11_year at h
  refine jr_iload_n dX11_year_0 rfl 1 rfl ?_
  refine jr_i2l dX11_year_1 ?_
  refine jr_lconst (v := (1 : Int64)) dX11_year_2 rfl ?_
  refine jr_ldc2 (v := (255 : Int64)) wCC_X11_262 dX11_year_3 ?_
  refine j_callSv lk_X11_69 wST_X11_within (tX11_within  (a0 := ((a0).toInt64)) (a1 := (1 : Int64)) (a2 := (255 : Int64)) (w := w)) (by omega) rfl rfl (Nat.le_of_ble_eq_true rfl) dX11_year_6 ?_
  refine jr_if_ne (tgt := 19) (nxt := 12) dX11_year_9 (by decide) rfl (fun hc => ?_) (fun hc => ?_)
  · replace h := drvE hc h
    refine jr_iload_n dX11_year_19 rfl 2 rfl ?_
    refine jr_i2l dX11_year_20 ?_
    refine jr_lconst (v := (0 : Int64)) dX11_year_21 rfl ?_
    refine jr_ldc2 (v := (9999 : Int64)) wCC_X11_113 dX11_year_22 ?_
    refine j_callSv lk_X11_69 wST_X11_within (tX11_within  (a0 := ((a1).toInt64)) (a1 := (0 : Int64)) (a2 := (9999 : Int64)) (w := w)) (by omega) rfl rfl (Nat.le_of_ble_eq_true rfl) dX11_year_25 ?_
    refine jr_if_ne (tgt := 38) (nxt := 31) dX11_year_28 (by decide) rfl (fun hc => ?_) (fun hc => ?_)
    · replace h := drvE hc h
      refine jr_aload_n dX11_year_38 rfl 0 rfl ?_
      refine gf_X11_10 (r := 1) rfl (rfl : kd 0 = 10) rfl dX11_year_39 ?_
      refine gf_X11_264 (r := 31) rfl (rfl : kd 1 = 7) rfl dX11_year_42 ?_
      refine jr_iload_n dX11_year_45 rfl 1 rfl ?_
      obtain ⟨hg_1, h⟩ := drvG h
      refine jr_iald (rfl : kd 31 = 13) hg_1 dX11_year_46 ?_
      refine j_nmi (fun x3_2 e_3 => ?_)
      replace h := drvL e_3 h
      refine jr_istore_n (lv' := [(3, .int x3_2), (0, .ref 0), (1, .int a0), (2, .int a1)]) dX11_year_47 rfl (by decide) rfl ?_
      refine jr_aload_n dX11_year_48 rfl 1 rfl ?_
      refine gf_X11_10 (r := 1) rfl (rfl : kd 0 = 10) rfl dX11_year_49 ?_
      refine gf_X11_264 (r := 31) rfl (rfl : kd 1 = 7) rfl dX11_year_52 ?_
      refine jr_iload_n dX11_year_55 rfl 2 rfl ?_
      refine jr_iload_n dX11_year_56 rfl 3 rfl ?_
      obtain ⟨hg_6, h⟩ := drvG h
      refine jr_iast (rfl : kd 31 = 13) hg_6 dX11_year_57 ?_
      refine j_nmw (fun w_4 e_5 => ?_)
      replace h := drvL e_5 h
      refine jr_iload_n dX11_year_58 rfl 0 rfl ?_
      obtain ⟨rfl, rfl⟩ := drvS2 h
      exact jr_iret rfl dX11_year_59
    · replace h := drvT hc h
      refine jr_aload_n dX11_year_31 rfl 0 rfl ?_
      refine jr_bipush (v := (-3 : Int32)) dX11_year_32 (by decide) ?_
      obtain ⟨r_9, w_8, hq_7, h⟩ := drvB2 h
      refine j_callVv lk_X11_61 wIM_X11_refuse wSE_X11_refuse (rfl : kd 0 = 10) (by decide) rfl (tX11_refuse  hq_7) (by omega) rfl rfl (Nat.le_of_ble_eq_true rfl) dX11_year_34 ?_
      obtain ⟨rfl, rfl⟩ := drvS2 h
      exact jr_iret rfl dX11_year_37
  · replace h := drvT hc h
    refine jr_aload_n dX11_year_12 rfl 0 rfl ?_
    refine jr_bipush (v := (-2 : Int32)) dX11_year_13 (by decide) ?_
    obtain ⟨r_12, w_11, hq_10, h⟩ := drvB2 h
    refine j_callVv lk_X11_61 wIM_X11_refuse wSE_X11_refuse (rfl : kd 0 = 10) (by decide) rfl (tX11_refuse  hq_10) (by omega) rfl rfl (Nat.le_of_ble_eq_true rfl) dX11_year_15 ?_
    obtain ⟨rfl, rfl⟩ := drvS2 h
    exact jr_iret rfl dX11_year_18
set_option maxHeartbeats 4000000 in
set_option maxRecDepth 100000 in
theorem tX12_within {a0 : Int64} {a1 : Int64} {a2 : Int64} {w : jWd}  : JM yX12_within MX12_within 1 [.long a0, .long a1, .long a2] w (some (.int (fX12_within a0 a1 a2))) w := by
  refine jm_of pl_X12 rfl (Nat.le_of_ble_eq_true rfl) ?_
  show J MX12_within 1 w 0 [(0, .long a0), (2, .long a1), (4, .long a2)] [] (some (.int (fX12_within a0 a1 a2))) w
  generalize h : (fX12_within a0 a1 a2) = r
  unfold fX12_within at h
  refine jr_lload_n dX12_within_0 rfl 0 rfl ?_
  refine jr_lload_n dX12_within_1 rfl 1 rfl ?_
  refine jr_lcmp dX12_within_2 ?_
  refine jr_if_lt (tgt := 17) (nxt := 6) dX12_within_3 (by decide) rfl (fun hc => ?_) (fun hc => ?_)
  · replace h := drvT hc h
    refine jr_iconst (v := (0 : Int32)) dX12_within_17 (by decide) ?_
    subst h
    exact jr_zret (ty := .boolean) rfl rfl dX12_within_18
  · replace h := drvE hc h
    refine jr_lload_n dX12_within_6 rfl 0 rfl ?_
    refine jr_lload dX12_within_7 2 rfl ?_
    refine jr_lcmp dX12_within_9 ?_
    refine jr_if_gt (tgt := 17) (nxt := 13) dX12_within_10 (by decide) rfl (fun hc => ?_) (fun hc => ?_)
    · replace h := drvT hc h
      refine jr_iconst (v := (0 : Int32)) dX12_within_17 (by decide) ?_
      subst h
      exact jr_zret (ty := .boolean) rfl rfl dX12_within_18
    · replace h := drvE hc h
      refine jr_iconst (v := (1 : Int32)) dX12_within_13 (by decide) ?_
      refine jr_goto (tgt := 18) dX12_within_14 (by decide) ?_
      subst h
      exact jr_zret (ty := .boolean) rfl rfl dX12_within_18
set_option maxHeartbeats 4000000 in
set_option maxRecDepth 100000 in
theorem tX12_no {a0 : Int32} {w : jWd} {r : Int32} {w' : jWd}  (h : fX12_no a0 w = some (r, w')) : JM yX12_no MX12_no 1 [.ref 205, .int a0] w (some (.int r)) w' := by
  refine jm_of pl_X12 rfl (Nat.le_of_ble_eq_true rfl) ?_
  show J MX12_no 1 w 0 [(0, .ref 205), (1, .int a0)] [] (some (.int r)) w'
  unfold fX12_no at h
  refine jr_aload_n dX12_no_0 rfl 0 rfl ?_
  refine gf_X12_7 (r := 206) rfl (rfl : kd 205 = 11) rfl dX12_no_1 ?_
  refine jr_iload_n dX12_no_4 rfl 1 rfl ?_
  refine jr_ineg dX12_no_5 ?_
  refine jr_dup2_11 dX12_no_6 rfl rfl ?_
  obtain ⟨hg_1, h⟩ := drvG h
  refine jr_iald (rfl : kd 206 = 13) hg_1 dX12_no_7 ?_
  refine jr_iconst (v := (1 : Int32)) dX12_no_8 (by decide) ?_
  refine jr_iadd dX12_no_9 ?_
  obtain ⟨hg_4, h⟩ := drvG h
  refine jr_iast (rfl : kd 206 = 13) hg_4 dX12_no_10 ?_
  refine j_nmw (fun w_2 e_3 => ?_)
  replace h := drvL e_3 h
  refine jr_iload_n dX12_no_11 rfl 1 rfl ?_
  obtain ⟨rfl, rfl⟩ := drvS2 h
  exact jr_iret rfl dX12_no_12
set_option maxHeartbeats 4000000 in
set_option maxRecDepth 100000 in
theorem tX12_isEarly {a0 : Int32} {w : jWd} {r : Int32}  (h : fX12_isEarly a0 w = some r) : JM yX12_isEarly MX12_isEarly 1 [.ref 205, .int a0] w (some (.int r)) w := by
  refine jm_of pl_X12 rfl (Nat.le_of_ble_eq_true rfl) ?_
  show J MX12_isEarly 1 w 0 [(0, .ref 205), (1, .int a0)] [] (some (.int r)) w
  unfold fX12_isEarly at h
  refine jr_aload_n dX12_isEarly_0 rfl 0 rfl ?_
  refine gf_X12_17 (r := 207) rfl (rfl : kd 205 = 11) rfl dX12_isEarly_1 ?_
  refine jr_bipush (v := (81 : Int32)) dX12_isEarly_4 (by decide) ?_
  refine jr_iload_n dX12_isEarly_6 rfl 1 rfl ?_
  refine jr_iadd dX12_isEarly_7 ?_
  obtain ⟨hg_1, h⟩ := drvG h
  refine jr_iald (rfl : kd 207 = 13) hg_1 dX12_isEarly_8 ?_
  refine jr_aload_n dX12_isEarly_9 rfl 0 rfl ?_
  refine gf_X12_17 (r := 207) rfl (rfl : kd 205 = 11) rfl dX12_isEarly_10 ?_
  refine jr_sipush (v := (161 : Int32)) dX12_isEarly_13 (by decide) ?_
  refine jr_ialdL (k := 161) (rfl : kd 207 = 13) (vp_lit (by decide) (by decide)) (by decide) dX12_isEarly_16 ?_
  refine jr_icmp_gt (tgt := 24) (nxt := 20) dX12_isEarly_17 (by decide) rfl (fun hc => ?_) (fun hc => ?_)
  · replace h := drvT hc h
    refine jr_iconst (v := (0 : Int32)) dX12_isEarly_24 (by decide) ?_
    obtain rfl := drvS1 h
    exact jr_zret (ty := .boolean) rfl rfl dX12_isEarly_25
  · replace h := drvE hc h
    refine jr_iconst (v := (1 : Int32)) dX12_isEarly_20 (by decide) ?_
    refine jr_goto (tgt := 25) dX12_isEarly_21 (by decide) ?_
    obtain rfl := drvS1 h
    exact jr_zret (ty := .boolean) rfl rfl dX12_isEarly_25
set_option maxHeartbeats 4000000 in
set_option maxRecDepth 100000 in
theorem tX12_wordAt {a0 : Int64} {a1 : Int32} {w : jWd}  : JM yX12_wordAt MX12_wordAt 1 [.long a0, .int a1] w (some (.int (fX12_wordAt a0 a1))) w := by
  refine jm_of pl_X12 rfl (Nat.le_of_ble_eq_true rfl) ?_
  show J MX12_wordAt 1 w 0 [(0, .long a0), (2, .int a1)] [] (some (.int (fX12_wordAt a0 a1))) w
  generalize h : (fX12_wordAt a0 a1) = r
  unfold fX12_wordAt at h
  refine jr_iload_n dX12_wordAt_0 rfl 1 rfl ?_
  refine jr_bipush (v := (7 : Int32)) dX12_wordAt_1 (by decide) ?_
  refine jr_icmp_le (tgt := 10) (nxt := 6) dX12_wordAt_3 (by decide) rfl (fun hc => ?_) (fun hc => ?_)
  · replace h := drvT hc h
    refine jr_lload_n dX12_wordAt_10 rfl 0 rfl ?_
    refine jr_bipush (v := (56 : Int32)) dX12_wordAt_11 (by decide) ?_
    refine jr_bipush (v := (8 : Int32)) dX12_wordAt_13 (by decide) ?_
    refine jr_iload_n dX12_wordAt_15 rfl 1 rfl ?_
    refine jr_imul dX12_wordAt_16 ?_
    refine jr_isub dX12_wordAt_17 ?_
    refine jr_lushr dX12_wordAt_18 ?_
    refine jr_l2i dX12_wordAt_19 ?_
    refine jr_sipush (v := (255 : Int32)) dX12_wordAt_20 (by decide) ?_
    refine jr_iand dX12_wordAt_23 ?_
    subst h
    exact jr_iret rfl dX12_wordAt_24
  · replace h := drvE hc h
    refine jr_iconst (v := (0 : Int32)) dX12_wordAt_6 (by decide) ?_
    refine jr_goto (tgt := 24) dX12_wordAt_7 (by decide) ?_
    subst h
    exact jr_iret rfl dX12_wordAt_24
set_option maxHeartbeats 4000000 in
set_option maxRecDepth 100000 in
theorem hbX12_lengthOf_2 {n : Nat} {p0 : Int64} {w : jWd} {r : Int32} {rec : Int32 → Option Int32} 
    (hrec : ∀ (x2 : Int32) , rec x2 = some r → J MX12_lengthOf 2 w 2 [(0, .long p0), (2, .int x2)] [] (some (.int r)) w) : ∀ (x2 : Int32) , bX12_lengthOf_2 n p0 rec x2 = some r → J MX12_lengthOf 2 w 2 [(0, .long p0), (2, .int x2)] [] (some (.int r)) w := by
  intro x2 h
  unfold bX12_lengthOf_2 at h
  refine jr_iload_n dX12_lengthOf_2 rfl 1 rfl ?_
  refine jr_bipush (v := (8 : Int32)) dX12_lengthOf_3 (by decide) ?_
  refine jr_icmp_ge (tgt := 22) (nxt := 8) dX12_lengthOf_5 (by decide) rfl (fun hc => ?_) (fun hc => ?_)
  · replace h := drvT hc h
    refine jr_iload_n dX12_lengthOf_22 rfl 1 rfl ?_
    obtain rfl := drvS1 h
    exact jr_iret rfl dX12_lengthOf_23
  · replace h := drvE hc h
    refine jr_lload_n dX12_lengthOf_8 rfl 0 rfl ?_
    refine jr_iload_n dX12_lengthOf_9 rfl 1 rfl ?_
    refine j_callSv lk_X12_73 wST_X12_wordAt (tX12_wordAt  (a0 := p0) (a1 := x2) (w := w)) (by omega) rfl rfl (Nat.le_of_ble_eq_true rfl) dX12_lengthOf_10 ?_
    refine jr_if_eq (tgt := 22) (nxt := 16) dX12_lengthOf_13 (by decide) rfl (fun hc => ?_) (fun hc => ?_)
    · replace h := drvT hc h
      refine jr_iload_n dX12_lengthOf_22 rfl 1 rfl ?_
      obtain rfl := drvS1 h
      exact jr_iret rfl dX12_lengthOf_23
    · replace h := drvE hc h
      refine jr_iincN (c := (1 : Int32)) (lv' := fun (x2_1 : Int32) => [(2, .int x2_1), (0, .long p0)]) dX12_lengthOf_16 (by decide) 1 rfl (by decide) (fun _ => rfl) (fun x2_1 e_2 => ?_)
      replace h := drvL e_2 h
      refine jr_goto (tgt := 2) dX12_lengthOf_19 (by decide) ?_
      refine jr_sub [1, 0] rfl ?_
      exact hrec _ h
theorem hlX12_lengthOf_2 {n : Nat} {p0 : Int64} {w : jWd} {r : Int32}  : ∀ (c : Nat) (x2 : Int32) , lX12_lengthOf_2 n p0 c x2 = some r → J MX12_lengthOf 2 w 2 [(0, .long p0), (2, .int x2)] [] (some (.int r)) w := by
  intro c
  induction c with
  | zero => intro x2 h; cases h
  | succ c ih => intro x2 h; exact hbX12_lengthOf_2 (n := n) ih _ h
set_option maxHeartbeats 4000000 in
set_option maxRecDepth 100000 in
theorem tX12_lengthOf {n : Nat} {a0 : Int64} {w : jWd} {r : Int32}  (h : fX12_lengthOf n a0 = some r) : JM yX12_lengthOf MX12_lengthOf 2 [.long a0] w (some (.int r)) w := by
  refine jm_of pl_X12 rfl (Nat.le_of_ble_eq_true rfl) ?_
  show J MX12_lengthOf 2 w 0 [(0, .long a0)] [] (some (.int r)) w
  unfold fX12_lengthOf at h
  refine jr_iconst (v := (0 : Int32)) dX12_lengthOf_0 (by decide) ?_
  refine jr_istore_n (lv' := [(2, .int (0 : Int32)), (0, .long a0)]) dX12_lengthOf_1 rfl (by decide) rfl ?_
  refine jr_sub [1, 0] rfl ?_
  refine hlX12_lengthOf_2   _ _ h
set_option maxHeartbeats 4000000 in
set_option maxRecDepth 100000 in
theorem hbX12_hasWord_4 {n : Nat} {p1 : Int32} {w : jWd} {r : Int32} {rec : Int32 → Int32 → Option Int32} 
    (hrec : ∀ (x2 : Int32) (x3 : Int32) , rec x2 x3 = some r → J MX12_hasWord 1 w 4 [(0, .ref 205), (1, .int p1), (2, .int x2), (3, .int x3)] [] (some (.int r)) w) : ∀ (x2 : Int32) (x3 : Int32) , bX12_hasWord_4 n p1 w rec x2 x3 = some r → J MX12_hasWord 1 w 4 [(0, .ref 205), (1, .int p1), (2, .int x2), (3, .int x3)] [] (some (.int r)) w := by
  intro x2 x3 h
  unfold bX12_hasWord_4 at h
  refine jr_iload_n dX12_hasWord_4 rfl 3 rfl ?_
  refine jr_aload_n dX12_hasWord_5 rfl 0 rfl ?_
  refine gf_X12_220 rfl (rfl : kd 205 = 11) dX12_hasWord_6 ?_
  refine jr_icmp_ge (tgt := 38) (nxt := 12) dX12_hasWord_9 (by decide) rfl (fun hc => ?_) (fun hc => ?_)
  · replace h := drvT hc h
    refine jr_iload_n dX12_hasWord_38 rfl 2 rfl ?_
    obtain rfl := drvS1 h
    exact jr_bret rfl dX12_hasWord_39
  · replace h := drvE hc h
    refine jr_iload_n dX12_hasWord_12 rfl 2 rfl ?_
    refine jr_if_ne (tgt := 26) (nxt := 16) dX12_hasWord_13 (by decide) rfl (fun hc => ?_) (fun hc => ?_)
    · replace h := drvE hc h
      refine jr_iconst (v := (1 : Int32)) dX12_hasWord_26 (by decide) ?_
      refine jr_goto (tgt := 31) dX12_hasWord_27 (by decide) ?_
      refine jr_istore_n (lv' := [(2, .int (1 : Int32)), (0, .ref 205), (1, .int p1), (3, .int x3)]) dX12_hasWord_31 rfl (by decide) rfl ?_
      refine jr_iincN (c := (1 : Int32)) (lv' := fun (x3_1 : Int32) => [(3, .int x3_1), (2, .int (1 : Int32)), (0, .ref 205), (1, .int p1)]) dX12_hasWord_32 (by decide) 3 rfl (by decide) (fun _ => rfl) (fun x3_1 e_2 => ?_)
      replace h := drvL e_2 h
      refine jr_goto (tgt := 4) dX12_hasWord_35 (by decide) ?_
      refine jr_sub [2, 3, 1, 0] rfl ?_
      exact hrec _ _ h
    · replace h := drvT hc h
      refine jr_aload_n dX12_hasWord_16 rfl 0 rfl ?_
      refine gf_X12_43 (r := 214) rfl (rfl : kd 205 = 11) rfl dX12_hasWord_17 ?_
      refine jr_iload_n dX12_hasWord_20 rfl 3 rfl ?_
      obtain ⟨hg_3, h⟩ := drvG h
      refine jr_iald (rfl : kd 214 = 13) hg_3 dX12_hasWord_21 ?_
      refine jr_iload_n dX12_hasWord_22 rfl 1 rfl ?_
      refine jr_icmp_ne (tgt := 30) (nxt := 26) dX12_hasWord_23 (by decide) rfl (fun hc => ?_) (fun hc => ?_)
      · replace h := drvE hc h
        refine jr_iconst (v := (0 : Int32)) dX12_hasWord_30 (by decide) ?_
        refine jr_istore_n (lv' := [(2, .int (0 : Int32)), (0, .ref 205), (1, .int p1), (3, .int x3)]) dX12_hasWord_31 rfl (by decide) rfl ?_
        refine jr_iincN (c := (1 : Int32)) (lv' := fun (x3_4 : Int32) => [(3, .int x3_4), (2, .int (0 : Int32)), (0, .ref 205), (1, .int p1)]) dX12_hasWord_32 (by decide) 3 rfl (by decide) (fun _ => rfl) (fun x3_4 e_5 => ?_)
        replace h := drvL e_5 h
        refine jr_goto (tgt := 4) dX12_hasWord_35 (by decide) ?_
        refine jr_sub [2, 3, 1, 0] rfl ?_
        exact hrec _ _ h
      · replace h := drvT hc h
        refine jr_iconst (v := (1 : Int32)) dX12_hasWord_26 (by decide) ?_
        refine jr_goto (tgt := 31) dX12_hasWord_27 (by decide) ?_
        refine jr_istore_n (lv' := [(2, .int (1 : Int32)), (0, .ref 205), (1, .int p1), (3, .int x3)]) dX12_hasWord_31 rfl (by decide) rfl ?_
        refine jr_iincN (c := (1 : Int32)) (lv' := fun (x3_6 : Int32) => [(3, .int x3_6), (2, .int (1 : Int32)), (0, .ref 205), (1, .int p1)]) dX12_hasWord_32 (by decide) 3 rfl (by decide) (fun _ => rfl) (fun x3_6 e_7 => ?_)
        replace h := drvL e_7 h
        refine jr_goto (tgt := 4) dX12_hasWord_35 (by decide) ?_
        refine jr_sub [2, 3, 1, 0] rfl ?_
        exact hrec _ _ h
theorem hlX12_hasWord_4 {n : Nat} {p1 : Int32} {w : jWd} {r : Int32}  : ∀ (c : Nat) (x2 : Int32) (x3 : Int32) , lX12_hasWord_4 n p1 w c x2 x3 = some r → J MX12_hasWord 1 w 4 [(0, .ref 205), (1, .int p1), (2, .int x2), (3, .int x3)] [] (some (.int r)) w := by
  intro c
  induction c with
  | zero => intro x2 x3 h; cases h
  | succ c ih => intro x2 x3 h; exact hbX12_hasWord_4 (n := n) ih _ _ h
set_option maxHeartbeats 4000000 in
set_option maxRecDepth 100000 in
theorem tX12_hasWord {n : Nat} {a0 : Int32} {w : jWd} {r : Int32}  (h : fX12_hasWord n a0 w = some r) : JM yX12_hasWord MX12_hasWord 1 [.ref 205, .int a0] w (some (.int r)) w := by
  refine jm_of pl_X12 rfl (Nat.le_of_ble_eq_true rfl) ?_
  show J MX12_hasWord 1 w 0 [(0, .ref 205), (1, .int a0)] [] (some (.int r)) w
  unfold fX12_hasWord at h
  refine jr_iconst (v := (0 : Int32)) dX12_hasWord_0 (by decide) ?_
  refine jr_istore_n (lv' := [(2, .int (0 : Int32)), (0, .ref 205), (1, .int a0)]) dX12_hasWord_1 rfl (by decide) rfl ?_
  refine jr_iconst (v := (0 : Int32)) dX12_hasWord_2 (by decide) ?_
  refine jr_istore_n (lv' := [(3, .int (0 : Int32)), (2, .int (0 : Int32)), (0, .ref 205), (1, .int a0)]) dX12_hasWord_3 rfl (by decide) rfl ?_
  refine jr_sub [2, 3, 1, 0] rfl ?_
  refine hlX12_hasWord_4   _ _ _ h
