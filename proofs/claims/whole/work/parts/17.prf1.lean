/-! each function is what its method does (by program) -/
set_option maxHeartbeats 4000000 in
set_option maxRecDepth 100000 in
theorem tJ6_bitCount_0f7a4 {a0 : Int32} {w : jWd}  : JM yJ6_bitCount_0f7a4 MJ6_bitCount_0f7a4 1 [.int a0] w (some (.int (fJ6_bitCount_0f7a4 a0))) w := by
  refine jm_of pl_J6 rfl (Nat.le_of_ble_eq_true rfl) ?_
  show J MJ6_bitCount_0f7a4 1 w 0 [(0, .int a0)] [] (some (.int (fJ6_bitCount_0f7a4 a0))) w
  generalize h : (fJ6_bitCount_0f7a4 a0) = r
  unfold fJ6_bitCount_0f7a4 at h
  refine jr_iload_n dJ6_bitCount_0f7a4_0 rfl 0 rfl ?_
  refine jr_iload_n dJ6_bitCount_0f7a4_1 rfl 0 rfl ?_
  refine jr_iconst (v := (1 : Int32)) dJ6_bitCount_0f7a4_2 (by decide) ?_
  refine jr_iushr dJ6_bitCount_0f7a4_3 ?_
  refine jr_ldcw (v := (1431655765 : Int32)) wCC_J6_265 dJ6_bitCount_0f7a4_4 ?_
  refine jr_iand dJ6_bitCount_0f7a4_7 ?_
  refine jr_isub dJ6_bitCount_0f7a4_8 ?_
  refine j_nmi (fun x0_1 e_2 => ?_)
  replace h := drvL e_2 h
  refine jr_istore_n (lv' := [(0, .int x0_1)]) dJ6_bitCount_0f7a4_9 rfl (by decide) rfl ?_
  refine jr_iload_n dJ6_bitCount_0f7a4_10 rfl 0 rfl ?_
  refine jr_ldcw (v := (858993459 : Int32)) wCC_J6_266 dJ6_bitCount_0f7a4_11 ?_
  refine jr_iand dJ6_bitCount_0f7a4_14 ?_
  refine jr_iload_n dJ6_bitCount_0f7a4_15 rfl 0 rfl ?_
  refine jr_iconst (v := (2 : Int32)) dJ6_bitCount_0f7a4_16 (by decide) ?_
  refine jr_iushr dJ6_bitCount_0f7a4_17 ?_
  refine jr_ldcw (v := (858993459 : Int32)) wCC_J6_266 dJ6_bitCount_0f7a4_18 ?_
  refine jr_iand dJ6_bitCount_0f7a4_21 ?_
  refine jr_iadd dJ6_bitCount_0f7a4_22 ?_
  refine j_nmi (fun x0_3 e_4 => ?_)
  replace h := drvL e_4 h
  refine jr_istore_n (lv' := [(0, .int x0_3)]) dJ6_bitCount_0f7a4_23 rfl (by decide) rfl ?_
  refine jr_iload_n dJ6_bitCount_0f7a4_24 rfl 0 rfl ?_
  refine jr_iload_n dJ6_bitCount_0f7a4_25 rfl 0 rfl ?_
  refine jr_iconst (v := (4 : Int32)) dJ6_bitCount_0f7a4_26 (by decide) ?_
  refine jr_iushr dJ6_bitCount_0f7a4_27 ?_
  refine jr_iadd dJ6_bitCount_0f7a4_28 ?_
  refine jr_ldcw (v := (252645135 : Int32)) wCC_J6_267 dJ6_bitCount_0f7a4_29 ?_
  refine jr_iand dJ6_bitCount_0f7a4_32 ?_
  refine j_nmi (fun x0_5 e_6 => ?_)
  replace h := drvL e_6 h
  refine jr_istore_n (lv' := [(0, .int x0_5)]) dJ6_bitCount_0f7a4_33 rfl (by decide) rfl ?_
  refine jr_iload_n dJ6_bitCount_0f7a4_34 rfl 0 rfl ?_
  refine jr_iload_n dJ6_bitCount_0f7a4_35 rfl 0 rfl ?_
  refine jr_bipush (v := (8 : Int32)) dJ6_bitCount_0f7a4_36 (by decide) ?_
  refine jr_iushr dJ6_bitCount_0f7a4_38 ?_
  refine jr_iadd dJ6_bitCount_0f7a4_39 ?_
  refine j_nmi (fun x0_7 e_8 => ?_)
  replace h := drvL e_8 h
  refine jr_istore_n (lv' := [(0, .int x0_7)]) dJ6_bitCount_0f7a4_40 rfl (by decide) rfl ?_
  refine jr_iload_n dJ6_bitCount_0f7a4_41 rfl 0 rfl ?_
  refine jr_iload_n dJ6_bitCount_0f7a4_42 rfl 0 rfl ?_
  refine jr_bipush (v := (16 : Int32)) dJ6_bitCount_0f7a4_43 (by decide) ?_
  refine jr_iushr dJ6_bitCount_0f7a4_45 ?_
  refine jr_iadd dJ6_bitCount_0f7a4_46 ?_
  refine j_nmi (fun x0_9 e_10 => ?_)
  replace h := drvL e_10 h
  refine jr_istore_n (lv' := [(0, .int x0_9)]) dJ6_bitCount_0f7a4_47 rfl (by decide) rfl ?_
  refine jr_iload_n dJ6_bitCount_0f7a4_48 rfl 0 rfl ?_
  refine jr_bipush (v := (63 : Int32)) dJ6_bitCount_0f7a4_49 (by decide) ?_
  refine jr_iand dJ6_bitCount_0f7a4_51 ?_
  subst h
  exact jr_iret rfl dJ6_bitCount_0f7a4_52
set_option maxHeartbeats 4000000 in
set_option maxRecDepth 100000 in
theorem hbJ7_fill_53178_5 {n : Nat} {p0 : Nat} {p1 : Int32} {p3 : Int32} {w' : jWd} {rec : Int32 → jWd → Option jWd} (hk_p0 : kd p0 = 13) 
    (hrec : ∀ (x2 : Int32) (w : jWd) , rec x2 w = some w' → J MJ7_fill_53178 1 w 5 [(0, .ref p0), (1, .int p1), (2, .int x2), (3, .int p3)] [] none w') : ∀ (x2 : Int32) (w : jWd) , bJ7_fill_53178_5 n p0 p1 p3 rec x2 w = some w' → J MJ7_fill_53178 1 w 5 [(0, .ref p0), (1, .int p1), (2, .int x2), (3, .int p3)] [] none w' := by
  intro x2 w h
  unfold bJ7_fill_53178_5 at h
  refine jr_iload_n dJ7_fill_53178_5 rfl 2 rfl ?_
  refine jr_iload_n dJ7_fill_53178_6 rfl 3 rfl ?_
  refine jr_icmp_ge (tgt := 20) (nxt := 10) dJ7_fill_53178_7 (by decide) rfl (fun hc => ?_) (fun hc => ?_)
  · replace h := drvT hc h
    obtain rfl := drvS1 h
    exact jr_vret rfl dJ7_fill_53178_20
  · replace h := drvE hc h
    refine jr_aload_n dJ7_fill_53178_10 rfl 0 rfl ?_
    refine jr_iload_n dJ7_fill_53178_11 rfl 2 rfl ?_
    refine jr_iload_n dJ7_fill_53178_12 rfl 1 rfl ?_
    obtain ⟨hg_5, h⟩ := drvG h
    refine jr_iast hk_p0 hg_5 dJ7_fill_53178_13 ?_
    refine j_nmw (fun w_3 e_4 => ?_)
    replace h := drvL e_4 h
    refine jr_iincN (c := (1 : Int32)) (lv' := fun (x2_6 : Int32) => [(2, .int x2_6), (0, .ref p0), (1, .int p1), (3, .int p3)]) dJ7_fill_53178_14 (by decide) 2 rfl (by decide) (fun _ => rfl) (fun x2_6 e_7 => ?_)
    replace h := drvL e_7 h
    refine jr_goto (tgt := 5) dJ7_fill_53178_17 (by decide) ?_
    refine jr_sub [1, 2, 0, 3] rfl ?_
    exact hrec _ _ h
theorem hlJ7_fill_53178_5 {n : Nat} {p0 : Nat} {p1 : Int32} {p3 : Int32} {w' : jWd} (hk_p0 : kd p0 = 13)  : ∀ (c : Nat) (x2 : Int32) (w : jWd) , lJ7_fill_53178_5 n p0 p1 p3 c x2 w = some w' → J MJ7_fill_53178 1 w 5 [(0, .ref p0), (1, .int p1), (2, .int x2), (3, .int p3)] [] none w' := by
  intro c
  induction c with
  | zero => intro x2 w h; cases h
  | succ c ih => intro x2 w h; exact hbJ7_fill_53178_5 (n := n) hk_p0 ih _ _ h
set_option maxHeartbeats 4000000 in
set_option maxRecDepth 100000 in
theorem tJ7_fill_53178 {n : Nat} {a0 : Nat} {a1 : Int32} {w : jWd} {w' : jWd} (hk_a0 : kd a0 = 13) (h : fJ7_fill_53178 n a0 a1 w = some w') : JM yJ7_fill_53178 MJ7_fill_53178 1 [.ref a0, .int a1] w none w' := by
  refine jm_of pl_J7 rfl (Nat.le_of_ble_eq_true rfl) ?_
  show J MJ7_fill_53178 1 w 0 [(0, .ref a0), (1, .int a1)] [] none w'
  unfold fJ7_fill_53178 at h
  refine jr_iconst (v := (0 : Int32)) dJ7_fill_53178_0 (by decide) ?_
  refine jr_istore_n (lv' := [(2, .int (0 : Int32)), (0, .ref a0), (1, .int a1)]) dJ7_fill_53178_1 rfl (by decide) rfl ?_
  refine jr_aload_n dJ7_fill_53178_2 rfl 1 rfl ?_
  refine jr_alen hk_a0 (by decide) (by decide) dJ7_fill_53178_3 ?_
  refine j_nmi (fun x3_1 e_2 => ?_)
  replace h := drvL e_2 h
  refine jr_istore_n (lv' := [(3, .int x3_1), (2, .int (0 : Int32)), (0, .ref a0), (1, .int a1)]) dJ7_fill_53178_4 rfl (by decide) rfl ?_
  refine jr_sub [2, 3, 1, 0] rfl ?_
  refine hlJ7_fill_53178_5 hk_a0  _ _ _ h
set_option maxHeartbeats 4000000 in
set_option maxRecDepth 100000 in
theorem tJ7_rangeCheck_23922 {a0 : Int32} {a1 : Int32} {a2 : Int32} {w : jWd} {w' : jWd}  (h : fJ7_rangeCheck_23922 a0 a1 a2 w = some w') : JM yJ7_rangeCheck_23922 MJ7_rangeCheck_23922 1 [.int a0, .int a1, .int a2] w none w' := by
  refine jm_of pl_J7 rfl (Nat.le_of_ble_eq_true rfl) ?_
  show J MJ7_rangeCheck_23922 1 w 0 [(0, .int a0), (1, .int a1), (2, .int a2)] [] none w'
  unfold fJ7_rangeCheck_23922 at h
  refine jr_iload_n dJ7_rangeCheck_23922_0 rfl 1 rfl ?_
  refine jr_iload_n dJ7_rangeCheck_23922_1 rfl 2 rfl ?_
  refine jr_icmp_le (tgt := 46) (nxt := 5) dJ7_rangeCheck_23922_2 (by decide) rfl (fun hc => ?_) (fun hc => ?_)
  · replace h := drvT hc h
    refine jr_iload_n dJ7_rangeCheck_23922_46 rfl 1 rfl ?_
    refine jr_if_ge (tgt := 59) (nxt := 50) dJ7_rangeCheck_23922_47 (by decide) rfl (fun hc => ?_) (fun hc => ?_)
    · replace h := drvT hc h
      refine jr_iload_n dJ7_rangeCheck_23922_59 rfl 2 rfl ?_
      refine jr_iload_n dJ7_rangeCheck_23922_60 rfl 0 rfl ?_
      refine jr_icmp_le (tgt := 73) (nxt := 64) dJ7_rangeCheck_23922_61 (by decide) rfl (fun hc => ?_) (fun hc => ?_)
      · replace h := drvT hc h
        obtain rfl := drvS1 h
        exact jr_vret rfl dJ7_rangeCheck_23922_73
      · replace h := drvE hc h
        cases h
    · replace h := drvE hc h
      cases h
  · replace h := drvE hc h
    cases h
set_option maxHeartbeats 4000000 in
set_option maxRecDepth 100000 in
theorem hbJ7_fill_bad5a_10 {n : Nat} {p0 : Nat} {p2 : Int32} {p3 : Int64} {w' : jWd} {rec : Int32 → jWd → Option jWd} (hk_p0 : kd p0 = 14) 
    (hrec : ∀ (x5 : Int32) (w : jWd) , rec x5 w = some w' → J MJ7_fill_bad5a 2 w 10 [(0, .ref p0), (2, .int p2), (3, .long p3), (5, .int x5)] [] none w') : ∀ (x5 : Int32) (w : jWd) , bJ7_fill_bad5a_10 n p0 p2 p3 rec x5 w = some w' → J MJ7_fill_bad5a 2 w 10 [(0, .ref p0), (2, .int p2), (3, .long p3), (5, .int x5)] [] none w' := by
  intro x5 w h
  unfold bJ7_fill_bad5a_10 at h
  refine jr_iload dJ7_fill_bad5a_10 3 rfl ?_
  refine jr_iload_n dJ7_fill_bad5a_12 rfl 1 rfl ?_
  refine jr_icmp_ge (tgt := 27) (nxt := 16) dJ7_fill_bad5a_13 (by decide) rfl (fun hc => ?_) (fun hc => ?_)
  · replace h := drvT hc h
    obtain rfl := drvS1 h
    exact jr_vret rfl dJ7_fill_bad5a_27
  · replace h := drvE hc h
    refine jr_aload_n dJ7_fill_bad5a_16 rfl 0 rfl ?_
    refine jr_iload dJ7_fill_bad5a_17 3 rfl ?_
    refine jr_lload_n dJ7_fill_bad5a_19 rfl 2 rfl ?_
    obtain ⟨hg_5, h⟩ := drvG h
    refine jr_last hk_p0 hg_5 dJ7_fill_bad5a_20 ?_
    refine j_nmw (fun w_3 e_4 => ?_)
    replace h := drvL e_4 h
    refine jr_iincN (c := (1 : Int32)) (lv' := fun (x5_6 : Int32) => [(5, .int x5_6), (0, .ref p0), (2, .int p2), (3, .long p3)]) dJ7_fill_bad5a_21 (by decide) 3 rfl (by decide) (fun _ => rfl) (fun x5_6 e_7 => ?_)
    replace h := drvL e_7 h
    refine jr_goto (tgt := 10) dJ7_fill_bad5a_24 (by decide) ?_
    refine jr_sub [1, 2, 3, 0] rfl ?_
    exact hrec _ _ h
theorem hlJ7_fill_bad5a_10 {n : Nat} {p0 : Nat} {p2 : Int32} {p3 : Int64} {w' : jWd} (hk_p0 : kd p0 = 14)  : ∀ (c : Nat) (x5 : Int32) (w : jWd) , lJ7_fill_bad5a_10 n p0 p2 p3 c x5 w = some w' → J MJ7_fill_bad5a 2 w 10 [(0, .ref p0), (2, .int p2), (3, .long p3), (5, .int x5)] [] none w' := by
  intro c
  induction c with
  | zero => intro x5 w h; cases h
  | succ c ih => intro x5 w h; exact hbJ7_fill_bad5a_10 (n := n) hk_p0 ih _ _ h
set_option maxHeartbeats 4000000 in
set_option maxRecDepth 100000 in
theorem tJ7_fill_bad5a {n : Nat} {a0 : Nat} {a1 : Int32} {a2 : Int32} {a3 : Int64} {w : jWd} {w' : jWd} (hk_a0 : kd a0 = 14) (h : fJ7_fill_bad5a n a0 a1 a2 a3 w = some w') : JM yJ7_fill_bad5a MJ7_fill_bad5a 2 [.ref a0, .int a1, .int a2, .long a3] w none w' := by
  refine jm_of pl_J7 rfl (Nat.le_of_ble_eq_true rfl) ?_
  show J MJ7_fill_bad5a 2 w 0 [(0, .ref a0), (1, .int a1), (2, .int a2), (3, .long a3)] [] none w'
  unfold fJ7_fill_bad5a at h
  refine jr_aload_n dJ7_fill_bad5a_0 rfl 0 rfl ?_
  refine jr_alen hk_a0 (by decide) (by decide) dJ7_fill_bad5a_1 ?_
  refine jr_iload_n dJ7_fill_bad5a_2 rfl 1 rfl ?_
  refine jr_iload_n dJ7_fill_bad5a_3 rfl 2 rfl ?_
  obtain ⟨w_2, hq_1, h⟩ := drvB h
  refine j_callSn lk_J7_13 wST_J7_rangeCheck_23922 (tJ7_rangeCheck_23922  hq_1) (by omega) rfl rfl (Nat.le_of_ble_eq_true rfl) dJ7_fill_bad5a_4 ?_
  refine jr_iload_n dJ7_fill_bad5a_7 rfl 1 rfl ?_
  refine jr_istore (lv' := [(5, .int a1), (0, .ref a0), (1, .int a1), (2, .int a2), (3, .long a3)]) dJ7_fill_bad5a_8 (by decide) rfl ?_
  refine jr_sub [1, 3, 4, 0] rfl ?_
  refine hlJ7_fill_bad5a_10 hk_a0  _ _ _ h
set_option maxHeartbeats 4000000 in
set_option maxRecDepth 100000 in
theorem tX0_copy {t : Nat} {a0 : Nat} {w : jWd} {w' : jWd} (h0 : kd t = 0) (hk_a0 : kd a0 = 0) (h : fX0_copy t a0 w = some w') : JM yX0_copy MX0_copy 1 [.ref t, .ref a0] w none w' := by
  refine jm_of pl_X0 rfl (Nat.le_of_ble_eq_true rfl) ?_
  show J MX0_copy 1 w 0 [(0, .ref t), (1, .ref a0)] [] none w'
  unfold fX0_copy at h
  refine jr_aload_n dX0_copy_0 rfl 0 rfl ?_
  refine jr_aload_n dX0_copy_1 rfl 1 rfl ?_
  refine gf_X0_31 rfl hk_a0 dX0_copy_2 ?_
  refine pf_X0_31 rfl h0 dX0_copy_5 ?_
  refine j_nmw (fun w_1 e_2 => ?_)
  replace h := drvL e_2 h
  refine jr_aload_n dX0_copy_8 rfl 1 rfl ?_
  refine gf_X0_11 (r := (a0 + 1)) rfl hk_a0 rfl dX0_copy_9 ?_
  refine jr_iconst (v := (0 : Int32)) dX0_copy_12 (by decide) ?_
  refine jr_aload_n dX0_copy_13 rfl 0 rfl ?_
  refine gf_X0_11 (r := (t + 1)) rfl h0 rfl dX0_copy_14 ?_
  refine jr_iconst (v := (0 : Int32)) dX0_copy_17 (by decide) ?_
  refine jr_bipush (v := (60 : Int32)) dX0_copy_18 (by decide) ?_
  obtain ⟨hg_5, h⟩ := drvC h
  refine jr_copyI wML_X0_39 (by decide) (Nat.le_of_ble_eq_true rfl) (kr_0_1 hk_a0) (kr_0_1 h0) hg_5 dX0_copy_20 ?_
  refine j_nmw (fun w_3 e_4 => ?_)
  replace h := drvL e_4 h
  refine jr_aload_n dX0_copy_23 rfl 1 rfl ?_
  refine gf_X0_15 (r := (a0 + 2)) rfl hk_a0 rfl dX0_copy_24 ?_
  refine jr_iconst (v := (0 : Int32)) dX0_copy_27 (by decide) ?_
  refine jr_aload_n dX0_copy_28 rfl 0 rfl ?_
  refine gf_X0_15 (r := (t + 2)) rfl h0 rfl dX0_copy_29 ?_
  refine jr_iconst (v := (0 : Int32)) dX0_copy_32 (by decide) ?_
  refine jr_bipush (v := (60 : Int32)) dX0_copy_33 (by decide) ?_
  obtain ⟨hg_8, h⟩ := drvC h
  refine jr_copyI wML_X0_39 (by decide) (Nat.le_of_ble_eq_true rfl) (kr_0_2 hk_a0) (kr_0_2 h0) hg_8 dX0_copy_35 ?_
  refine j_nmw (fun w_6 e_7 => ?_)
  replace h := drvL e_7 h
  refine jr_aload_n dX0_copy_38 rfl 1 rfl ?_
  refine gf_X0_18 (r := (a0 + 3)) rfl hk_a0 rfl dX0_copy_39 ?_
  refine jr_iconst (v := (0 : Int32)) dX0_copy_42 (by decide) ?_
  refine jr_aload_n dX0_copy_43 rfl 0 rfl ?_
  refine gf_X0_18 (r := (t + 3)) rfl h0 rfl dX0_copy_44 ?_
  refine jr_iconst (v := (0 : Int32)) dX0_copy_47 (by decide) ?_
  refine jr_bipush (v := (60 : Int32)) dX0_copy_48 (by decide) ?_
  obtain ⟨hg_11, h⟩ := drvC h
  refine jr_copyI wML_X0_39 (by decide) (Nat.le_of_ble_eq_true rfl) (kr_0_3 hk_a0) (kr_0_3 h0) hg_11 dX0_copy_50 ?_
  refine j_nmw (fun w_9 e_10 => ?_)
  replace h := drvL e_10 h
  refine jr_aload_n dX0_copy_53 rfl 1 rfl ?_
  refine gf_X0_21 (r := (a0 + 4)) rfl hk_a0 rfl dX0_copy_54 ?_
  refine jr_iconst (v := (0 : Int32)) dX0_copy_57 (by decide) ?_
  refine jr_aload_n dX0_copy_58 rfl 0 rfl ?_
  refine gf_X0_21 (r := (t + 4)) rfl h0 rfl dX0_copy_59 ?_
  refine jr_iconst (v := (0 : Int32)) dX0_copy_62 (by decide) ?_
  refine jr_bipush (v := (60 : Int32)) dX0_copy_63 (by decide) ?_
  obtain ⟨hg_14, h⟩ := drvC h
  refine jr_copyI wML_X0_39 (by decide) (Nat.le_of_ble_eq_true rfl) (kr_0_4 hk_a0) (kr_0_4 h0) hg_14 dX0_copy_65 ?_
  refine j_nmw (fun w_12 e_13 => ?_)
  replace h := drvL e_13 h
  refine jr_aload_n dX0_copy_68 rfl 1 rfl ?_
  refine gf_X0_24 (r := (a0 + 5)) rfl hk_a0 rfl dX0_copy_69 ?_
  refine jr_iconst (v := (0 : Int32)) dX0_copy_72 (by decide) ?_
  refine jr_aload_n dX0_copy_73 rfl 0 rfl ?_
  refine gf_X0_24 (r := (t + 5)) rfl h0 rfl dX0_copy_74 ?_
  refine jr_iconst (v := (0 : Int32)) dX0_copy_77 (by decide) ?_
  refine jr_bipush (v := (60 : Int32)) dX0_copy_78 (by decide) ?_
  obtain ⟨hg_17, h⟩ := drvC h
  refine jr_copyI wML_X0_39 (by decide) (Nat.le_of_ble_eq_true rfl) (kr_0_5 hk_a0) (kr_0_5 h0) hg_17 dX0_copy_80 ?_
  refine j_nmw (fun w_15 e_16 => ?_)
  replace h := drvL e_16 h
  refine jr_aload_n dX0_copy_83 rfl 1 rfl ?_
  refine gf_X0_27 (r := (a0 + 6)) rfl hk_a0 rfl dX0_copy_84 ?_
  refine jr_iconst (v := (0 : Int32)) dX0_copy_87 (by decide) ?_
  refine jr_aload_n dX0_copy_88 rfl 0 rfl ?_
  refine gf_X0_27 (r := (t + 6)) rfl h0 rfl dX0_copy_89 ?_
  refine jr_iconst (v := (0 : Int32)) dX0_copy_92 (by decide) ?_
  refine jr_bipush (v := (60 : Int32)) dX0_copy_93 (by decide) ?_
  obtain ⟨hg_20, h⟩ := drvC h
  refine jr_copyJ wML_X0_39 (by decide) (Nat.le_of_ble_eq_true rfl) (kr_0_6 hk_a0) (kr_0_6 h0) hg_20 dX0_copy_95 ?_
  refine j_nmw (fun w_18 e_19 => ?_)
  replace h := drvL e_19 h
  obtain rfl := drvS1 h
  exact jr_vret rfl dX0_copy_98
set_option maxHeartbeats 4000000 in
set_option maxRecDepth 100000 in
theorem tX0_greatest {a0 : Int32} {w : jWd}  : JM yX0_greatest MX0_greatest 1 [.int a0] w (some (.int (fX0_greatest a0))) w := by
  refine jm_of pl_X0 rfl (Nat.le_of_ble_eq_true rfl) ?_
  show J MX0_greatest 1 w 0 [(0, .int a0)] [] (some (.int (fX0_greatest a0))) w
  generalize h : (fX0_greatest a0) = r
  unfold fX0_greatest at h
  refine jr_iload_n dX0_greatest_0 rfl 0 rfl ?_
  by_cases hs_1 : a0 = (0 : Int32)
  · replace h := drvT hs_1 h
    refine jr_tableK (tgt := 28) dX0_greatest_1 hs_1 (by decide) (by decide) rfl (by decide) ?_
    refine jr_bipush (v := (15 : Int32)) dX0_greatest_28 (by decide) ?_
    subst h
    exact jr_iret rfl dX0_greatest_30
  replace h := drvE hs_1 h
  by_cases hs_2 : a0 = (1 : Int32)
  · replace h := drvT hs_2 h
    refine jr_tableK (tgt := 31) dX0_greatest_1 hs_2 (by decide) (by decide) rfl (by decide) ?_
    refine jr_sipush (v := (9999 : Int32)) dX0_greatest_31 (by decide) ?_
    subst h
    exact jr_iret rfl dX0_greatest_34
  replace h := drvE hs_2 h
  by_cases hs_3 : a0 = (2 : Int32)
  · replace h := drvT hs_3 h
    refine jr_tableK (tgt := 35) dX0_greatest_1 hs_3 (by decide) (by decide) rfl (by decide) ?_
    refine jr_bipush (v := (9 : Int32)) dX0_greatest_35 (by decide) ?_
    subst h
    exact jr_iret rfl dX0_greatest_37
  replace h := drvE hs_3 h
  refine jr_tableOut (tgt := 38) dX0_greatest_1 (by have a0 := lv_neT hs_1 (show (0 : Int32).toInt = 0 from rfl); have a1 := lv_neT hs_2 (show (1 : Int32).toInt = 1 from rfl); have a2 := lv_neT hs_3 (show (2 : Int32).toInt = 2 from rfl); omega) (by decide) ?_
  refine jr_iconst (v := (2 : Int32)) dX0_greatest_38 (by decide) ?_
  subst h
  exact jr_iret rfl dX0_greatest_39
set_option maxHeartbeats 4000000 in
set_option maxRecDepth 100000 in
theorem tX0_has {t : Nat} {a0 : Int32} {w : jWd} (h0 : kd t = 0) : JM yX0_has MX0_has 1 [.ref t, .int a0] w (some (.int (fX0_has t a0 w))) w := by
  refine jm_of pl_X0 rfl (Nat.le_of_ble_eq_true rfl) ?_
  show J MX0_has 1 w 0 [(0, .ref t), (1, .int a0)] [] (some (.int (fX0_has t a0 w))) w
  generalize h : (fX0_has t a0 w) = r
  unfold fX0_has at h
  refine jr_iload_n dX0_has_0 rfl 1 rfl ?_
  refine jr_if_lt (tgt := 16) (nxt := 4) dX0_has_1 (by decide) rfl (fun hc => ?_) (fun hc => ?_)
  · replace h := drvT hc h
    refine jr_iconst (v := (0 : Int32)) dX0_has_16 (by decide) ?_
    subst h
    exact jr_zret (ty := .boolean) rfl rfl dX0_has_17
  · replace h := drvE hc h
    refine jr_iload_n dX0_has_4 rfl 1 rfl ?_
    refine jr_aload_n dX0_has_5 rfl 0 rfl ?_
    refine gf_X0_31 rfl h0 dX0_has_6 ?_
    refine jr_icmp_ge (tgt := 16) (nxt := 12) dX0_has_9 (by decide) rfl (fun hc => ?_) (fun hc => ?_)
    · replace h := drvT hc h
      refine jr_iconst (v := (0 : Int32)) dX0_has_16 (by decide) ?_
      subst h
      exact jr_zret (ty := .boolean) rfl rfl dX0_has_17
    · replace h := drvE hc h
      refine jr_iconst (v := (1 : Int32)) dX0_has_12 (by decide) ?_
      refine jr_goto (tgt := 17) dX0_has_13 (by decide) ?_
      subst h
      exact jr_zret (ty := .boolean) rfl rfl dX0_has_17
set_option maxHeartbeats 4000000 in
set_option maxRecDepth 100000 in
theorem tX0_hear {t : Nat} {a0 : Int32} {a1 : Int32} {a2 : Int32} {a3 : Int64} {w : jWd} {w' : jWd} (h0 : kd t = 0) (h : fX0_hear t a0 a1 a2 a3 w = some w') : JM yX0_hear MX0_hear 2 [.ref t, .int a0, .int a1, .int a2, .long a3] w none w' := by
  refine jm_of pl_X0 rfl (Nat.le_of_ble_eq_true rfl) ?_
  show J MX0_hear 2 w 0 [(0, .ref t), (1, .int a0), (2, .int a1), (3, .int a2), (4, .long a3)] [] none w'
  unfold fX0_hear at h
  refine jr_aload_n dX0_hear_0 rfl 0 rfl ?_
  refine jr_iload_n dX0_hear_1 rfl 1 rfl ?_
  refine j_callVv lk_X0_35 wIM_X0_has wSE_X0_has h0 (by decide) rfl (tX0_has h0 (a0 := a0) (t := t) (w := w)) (by omega) rfl rfl (Nat.le_of_ble_eq_true rfl) dX0_hear_2 ?_
  refine jr_if_ne (tgt := 9) (nxt := 8) dX0_hear_5 (by decide) rfl (fun hc => ?_) (fun hc => ?_)
  · replace h := drvE hc h
    refine jr_aload_n dX0_hear_9 rfl 0 rfl ?_
    refine gf_X0_21 (r := (t + 4)) rfl h0 rfl dX0_hear_10 ?_
    refine jr_iload_n dX0_hear_13 rfl 1 rfl ?_
    refine jr_iload_n dX0_hear_14 rfl 2 rfl ?_
    obtain ⟨hg_3, h⟩ := drvG h
    refine jr_iast (kr_0_4 h0) hg_3 dX0_hear_15 ?_
    refine j_nmw (fun w_1 e_2 => ?_)
    replace h := drvL e_2 h
    refine jr_aload_n dX0_hear_16 rfl 0 rfl ?_
    refine gf_X0_24 (r := (t + 5)) rfl h0 rfl dX0_hear_17 ?_
    refine jr_iload_n dX0_hear_20 rfl 1 rfl ?_
    refine jr_iload_n dX0_hear_21 rfl 3 rfl ?_
    obtain ⟨hg_6, h⟩ := drvG h
    refine jr_iast (kr_0_5 h0) hg_6 dX0_hear_22 ?_
    refine j_nmw (fun w_4 e_5 => ?_)
    replace h := drvL e_5 h
    refine jr_aload_n dX0_hear_23 rfl 0 rfl ?_
    refine gf_X0_27 (r := (t + 6)) rfl h0 rfl dX0_hear_24 ?_
    refine jr_iload_n dX0_hear_27 rfl 1 rfl ?_
    refine jr_lload dX0_hear_28 4 rfl ?_
    obtain ⟨hg_9, h⟩ := drvG h
    refine jr_last (kr_0_6 h0) hg_9 dX0_hear_30 ?_
    refine j_nmw (fun w_7 e_8 => ?_)
    replace h := drvL e_8 h
    obtain rfl := drvS1 h
    exact jr_vret rfl dX0_hear_31
  · replace h := drvT hc h
    obtain rfl := drvS1 h
    exact jr_vret rfl dX0_hear_8
set_option maxHeartbeats 4000000 in
set_option maxRecDepth 100000 in
theorem tX0_heard {t : Nat} {a0 : Int32} {a1 : Int32} {w : jWd} {r : Int32} (h0 : kd t = 0) (h : fX0_heard t a0 a1 w = some r) : JM yX0_heard MX0_heard 2 [.ref t, .int a0, .int a1] w (some (.int r)) w := by
  refine jm_of pl_X0 rfl (Nat.le_of_ble_eq_true rfl) ?_
  show J MX0_heard 2 w 0 [(0, .ref t), (1, .int a0), (2, .int a1)] [] (some (.int r)) w
  unfold fX0_heard at h
  refine jr_aload_n dX0_heard_0 rfl 0 rfl ?_
  refine jr_iload_n dX0_heard_1 rfl 1 rfl ?_
  refine j_callVv lk_X0_35 wIM_X0_has wSE_X0_has h0 (by decide) rfl (tX0_has h0 (a0 := a0) (t := t) (w := w)) (by omega) rfl rfl (Nat.le_of_ble_eq_true rfl) dX0_heard_2 ?_
  refine jr_if_ne (tgt := 10) (nxt := 8) dX0_heard_5 (by decide) rfl (fun hc => ?_) (fun hc => ?_)
  · replace h := drvE hc h
    refine jr_iload_n dX0_heard_10 rfl 2 rfl ?_
    refine jr_if_ne (tgt := 23) (nxt := 14) dX0_heard_11 (by decide) rfl (fun hc => ?_) (fun hc => ?_)
    · replace h := drvE hc h
      refine jr_aload_n dX0_heard_23 rfl 0 rfl ?_
      refine gf_X0_24 (r := (t + 5)) rfl h0 rfl dX0_heard_24 ?_
      refine jr_iload_n dX0_heard_27 rfl 1 rfl ?_
      obtain ⟨hg_1, h⟩ := drvG h
      refine jr_iald (kr_0_5 h0) hg_1 dX0_heard_28 ?_
      obtain rfl := drvS1 h
      exact jr_iret rfl dX0_heard_29
    · replace h := drvT hc h
      refine jr_aload_n dX0_heard_14 rfl 0 rfl ?_
      refine gf_X0_21 (r := (t + 4)) rfl h0 rfl dX0_heard_15 ?_
      refine jr_iload_n dX0_heard_18 rfl 1 rfl ?_
      obtain ⟨hg_2, h⟩ := drvG h
      refine jr_iald (kr_0_4 h0) hg_2 dX0_heard_19 ?_
      refine jr_goto (tgt := 29) dX0_heard_20 (by decide) ?_
      obtain rfl := drvS1 h
      exact jr_iret rfl dX0_heard_29
  · replace h := drvT hc h
    refine jr_iconst (v := (2 : Int32)) dX0_heard_8 (by decide) ?_
    obtain rfl := drvS1 h
    exact jr_iret rfl dX0_heard_9
set_option maxHeartbeats 4000000 in
set_option maxRecDepth 100000 in
theorem tX0_room {t : Nat} {w : jWd} (h0 : kd t = 0) : JM yX0_room MX0_room 1 [.ref t] w (some (.int (fX0_room t w))) w := by
  refine jm_of pl_X0 rfl (Nat.le_of_ble_eq_true rfl) ?_
  show J MX0_room 1 w 0 [(0, .ref t)] [] (some (.int (fX0_room t w))) w
  generalize h : (fX0_room t w) = r
  unfold fX0_room at h
  refine jr_bipush (v := (60 : Int32)) dX0_room_0 (by decide) ?_
  refine jr_aload_n dX0_room_2 rfl 0 rfl ?_
  refine gf_X0_31 rfl h0 dX0_room_3 ?_
  refine jr_isub dX0_room_6 ?_
  subst h
  exact jr_iret rfl dX0_room_7
set_option maxHeartbeats 4000000 in
set_option maxRecDepth 100000 in
theorem tX0_start {t : Nat} {a0 : Int32} {a1 : Int32} {a2 : Int32} {w : jWd} {r : Int32} {w' : jWd} (h0 : kd t = 0) (h : fX0_start t a0 a1 a2 w = some (r, w')) : JM yX0_start MX0_start 1 [.ref t, .int a0, .int a1, .int a2] w (some (.int r)) w' := by
  refine jm_of pl_X0 rfl (Nat.le_of_ble_eq_true rfl) ?_
  show J MX0_start 1 w 0 [(0, .ref t), (1, .int a0), (2, .int a1), (3, .int a2)] [] (some (.int r)) w'
  unfold fX0_start at h
  refine jr_aload_n dX0_start_0 rfl 0 rfl ?_
  refine gf_X0_31 rfl h0 dX0_start_1 ?_
  refine jr_bipush (v := (60 : Int32)) dX0_start_4 (by decide) ?_
  refine jr_icmp_lt (tgt := 11) (nxt := 9) dX0_start_6 (by decide) rfl (fun hc => ?_) (fun hc => ?_)
  · replace h := drvT hc h
    refine jr_aload_n dX0_start_11 rfl 0 rfl ?_
    refine gf_X0_11 (r := (t + 1)) rfl h0 rfl dX0_start_12 ?_
    refine jr_aload_n dX0_start_15 rfl 0 rfl ?_
    refine gf_X0_31 rfl h0 dX0_start_16 ?_
    refine jr_iload_n dX0_start_19 rfl 1 rfl ?_
    obtain ⟨hg_3, h⟩ := drvG h
    refine jr_iast (kr_0_1 h0) hg_3 dX0_start_20 ?_
    refine j_nmw (fun w_1 e_2 => ?_)
    replace h := drvL e_2 h
    refine jr_aload_n dX0_start_21 rfl 0 rfl ?_
    refine gf_X0_15 (r := (t + 2)) rfl h0 rfl dX0_start_22 ?_
    refine jr_aload_n dX0_start_25 rfl 0 rfl ?_
    refine gf_X0_31 rfl h0 dX0_start_26 ?_
    refine jr_iload_n dX0_start_29 rfl 2 rfl ?_
    obtain ⟨hg_6, h⟩ := drvG h
    refine jr_iast (kr_0_2 h0) hg_6 dX0_start_30 ?_
    refine j_nmw (fun w_4 e_5 => ?_)
    replace h := drvL e_5 h
    refine jr_aload_n dX0_start_31 rfl 0 rfl ?_
    refine gf_X0_18 (r := (t + 3)) rfl h0 rfl dX0_start_32 ?_
    refine jr_aload_n dX0_start_35 rfl 0 rfl ?_
    refine gf_X0_31 rfl h0 dX0_start_36 ?_
    refine jr_iload_n dX0_start_39 rfl 3 rfl ?_
    obtain ⟨hg_9, h⟩ := drvG h
    refine jr_iast (kr_0_3 h0) hg_9 dX0_start_40 ?_
    refine j_nmw (fun w_7 e_8 => ?_)
    replace h := drvL e_8 h
    refine jr_aload_n dX0_start_41 rfl 0 rfl ?_
    refine jr_dup dX0_start_42 rfl ?_
    refine gf_X0_31 rfl h0 dX0_start_43 ?_
    refine jr_dup_x1 dX0_start_46 rfl rfl ?_
    refine jr_iconst (v := (1 : Int32)) dX0_start_47 (by decide) ?_
    refine jr_iadd dX0_start_48 ?_
    refine pf_X0_31 rfl h0 dX0_start_49 ?_
    refine j_nmw (fun w_10 e_11 => ?_)
    replace h := drvL e_11 h
    obtain ⟨rfl, rfl⟩ := drvS2 h
    exact jr_iret rfl dX0_start_52
  · replace h := drvE hc h
    refine jr_iconst (v := (-1 : Int32)) dX0_start_9 (by decide) ?_
    obtain ⟨rfl, rfl⟩ := drvS2 h
    exact jr_iret rfl dX0_start_10
set_option maxHeartbeats 4000000 in
set_option maxRecDepth 100000 in
theorem tX10_copy {t : Nat} {a0 : Nat} {w : jWd} {w' : jWd} (h0 : kd t = 9) (hk_a0 : kd a0 = 9) (h : fX10_copy t a0 w = some w') : JM yX10_copy MX10_copy 1 [.ref t, .ref a0] w none w' := by
  refine jm_of pl_X10 rfl (Nat.le_of_ble_eq_true rfl) ?_
  show J MX10_copy 1 w 0 [(0, .ref t), (1, .ref a0)] [] none w'
  unfold fX10_copy at h
  refine jr_aload_n dX10_copy_0 rfl 0 rfl ?_
  refine jr_aload_n dX10_copy_1 rfl 1 rfl ?_
  refine gf_X10_27 rfl hk_a0 dX10_copy_2 ?_
  refine pf_X10_27 rfl h0 dX10_copy_5 ?_
  refine j_nmw (fun w_1 e_2 => ?_)
  replace h := drvL e_2 h
  refine jr_aload_n dX10_copy_8 rfl 1 rfl ?_
  refine gf_X10_11 (r := (a0 + 1)) rfl hk_a0 rfl dX10_copy_9 ?_
  refine jr_iconst (v := (0 : Int32)) dX10_copy_12 (by decide) ?_
  refine jr_aload_n dX10_copy_13 rfl 0 rfl ?_
  refine gf_X10_11 (r := (t + 1)) rfl h0 rfl dX10_copy_14 ?_
  refine jr_iconst (v := (0 : Int32)) dX10_copy_17 (by decide) ?_
  refine jr_bipush (v := (8 : Int32)) dX10_copy_18 (by decide) ?_
  obtain ⟨hg_5, h⟩ := drvC h
  refine jr_copyI wML_X10_59 (by decide) (Nat.le_of_ble_eq_true rfl) (kr_9_1 hk_a0) (kr_9_1 h0) hg_5 dX10_copy_20 ?_
  refine j_nmw (fun w_3 e_4 => ?_)
  replace h := drvL e_4 h
  refine jr_aload_n dX10_copy_23 rfl 1 rfl ?_
  refine gf_X10_15 (r := (a0 + 2)) rfl hk_a0 rfl dX10_copy_24 ?_
  refine jr_iconst (v := (0 : Int32)) dX10_copy_27 (by decide) ?_
  refine jr_aload_n dX10_copy_28 rfl 0 rfl ?_
  refine gf_X10_15 (r := (t + 2)) rfl h0 rfl dX10_copy_29 ?_
  refine jr_iconst (v := (0 : Int32)) dX10_copy_32 (by decide) ?_
  refine jr_sipush (v := (128 : Int32)) dX10_copy_33 (by decide) ?_
  obtain ⟨hg_8, h⟩ := drvC h
  refine jr_copyI wML_X10_59 (by decide) (Nat.le_of_ble_eq_true rfl) (kr_9_2 hk_a0) (kr_9_2 h0) hg_8 dX10_copy_36 ?_
  refine j_nmw (fun w_6 e_7 => ?_)
  replace h := drvL e_7 h
  obtain rfl := drvS1 h
  exact jr_vret rfl dX10_copy_39
set_option maxHeartbeats 4000000 in
set_option maxRecDepth 100000 in
theorem hbX10_costOfParts_5 {n : Nat} {t : Nat} {p1 : Int32} {p2 : Int32} {w : jWd} {r : Int32} {rec : Int32 → Int32 → Option Int32} (h0 : kd t = 9) 
    (hrec : ∀ (x3 : Int32) (x4 : Int32) , rec x3 x4 = some r → J MX10_costOfParts 1 w 5 [(0, .ref t), (1, .int p1), (2, .int p2), (3, .int x3), (4, .int x4)] [] (some (.int r)) w) : ∀ (x3 : Int32) (x4 : Int32) , bX10_costOfParts_5 n t p1 p2 w rec x3 x4 = some r → J MX10_costOfParts 1 w 5 [(0, .ref t), (1, .int p1), (2, .int p2), (3, .int x3), (4, .int x4)] [] (some (.int r)) w := by
  intro x3 x4 h
  unfold bX10_costOfParts_5 at h
  refine jr_iload dX10_costOfParts_5 4 rfl ?_
  refine jr_iconst (v := (4 : Int32)) dX10_costOfParts_7 (by decide) ?_
  refine jr_icmp_ge (tgt := 50) (nxt := 11) dX10_costOfParts_8 (by decide) rfl (fun hc => ?_) (fun hc => ?_)
  · replace h := drvT hc h
    refine jr_iload_n dX10_costOfParts_50 rfl 3 rfl ?_
    obtain rfl := drvS1 h
    exact jr_iret rfl dX10_costOfParts_51
  · replace h := drvE hc h
    refine jr_iload_n dX10_costOfParts_11 rfl 1 rfl ?_
    refine jr_aload_n dX10_costOfParts_12 rfl 0 rfl ?_
    refine gf_X10_18 (r := (t + 3)) rfl h0 rfl dX10_costOfParts_13 ?_
    refine jr_iload_n dX10_costOfParts_16 rfl 2 rfl ?_
    refine jr_iconst (v := (4 : Int32)) dX10_costOfParts_17 (by decide) ?_
    refine jr_imul dX10_costOfParts_18 ?_
    refine jr_iload dX10_costOfParts_19 4 rfl ?_
    refine jr_iadd dX10_costOfParts_21 ?_
    obtain ⟨hg_1, h⟩ := drvG h
    refine jr_iald (kr_9_3 h0) hg_1 dX10_costOfParts_22 ?_
    refine jr_iand dX10_costOfParts_23 ?_
    refine j_nmi (fun x5_2 e_3 => ?_)
    replace h := drvL e_3 h
    refine jr_istore (lv' := [(5, .int x5_2), (0, .ref t), (1, .int p1), (2, .int p2), (3, .int x3), (4, .int x4)]) dX10_costOfParts_24 (by decide) rfl ?_
    refine jr_iload dX10_costOfParts_26 0 rfl ?_
    refine jr_iload_n dX10_costOfParts_28 rfl 2 rfl ?_
    refine jr_icmp_ne (tgt := 34) (nxt := 32) dX10_costOfParts_29 (by decide) rfl (fun hc => ?_) (fun hc => ?_)
    · replace h := drvE hc h
      refine jr_iload_n dX10_costOfParts_34 rfl 4 rfl ?_
      refine jr_aload_n dX10_costOfParts_35 rfl 1 rfl ?_
      refine gf_X10_21 (r := (t + 4)) rfl h0 rfl dX10_costOfParts_36 ?_
      refine jr_iload dX10_costOfParts_39 0 rfl ?_
      obtain ⟨hg_4, h⟩ := drvG h
      refine jr_iald (kr_9_4 h0) hg_4 dX10_costOfParts_41 ?_
      refine jr_iadd dX10_costOfParts_42 ?_
      refine j_nmi (fun x3_5 e_6 => ?_)
      replace h := drvL e_6 h
      refine jr_istore_n (lv' := [(3, .int x3_5), (5, .int x5_2), (0, .ref t), (1, .int p1), (2, .int p2), (4, .int x4)]) dX10_costOfParts_43 rfl (by decide) rfl ?_
      refine jr_iincN (c := (1 : Int32)) (lv' := fun (x4_7 : Int32) => [(4, .int x4_7), (3, .int x3_5), (5, .int x5_2), (0, .ref t), (1, .int p1), (2, .int p2)]) dX10_costOfParts_44 (by decide) 5 rfl (by decide) (fun _ => rfl) (fun x4_7 e_8 => ?_)
      replace h := drvL e_8 h
      refine jr_goto (tgt := 5) dX10_costOfParts_47 (by decide) ?_
      refine jr_sub [3, 4, 5, 1, 0] rfl ?_
      exact hrec _ _ h
    · replace h := drvT hc h
      refine jr_iconst (v := (-1 : Int32)) dX10_costOfParts_32 (by decide) ?_
      obtain rfl := drvS1 h
      exact jr_iret rfl dX10_costOfParts_33
theorem hlX10_costOfParts_5 {n : Nat} {t : Nat} {p1 : Int32} {p2 : Int32} {w : jWd} {r : Int32} (h0 : kd t = 9)  : ∀ (c : Nat) (x3 : Int32) (x4 : Int32) , lX10_costOfParts_5 n t p1 p2 w c x3 x4 = some r → J MX10_costOfParts 1 w 5 [(0, .ref t), (1, .int p1), (2, .int p2), (3, .int x3), (4, .int x4)] [] (some (.int r)) w := by
  intro c
  induction c with
  | zero => intro x3 x4 h; cases h
  | succ c ih => intro x3 x4 h; exact hbX10_costOfParts_5 (n := n) h0 ih _ _ h
set_option maxHeartbeats 4000000 in
set_option maxRecDepth 100000 in
theorem tX10_costOfParts {n : Nat} {t : Nat} {a0 : Int32} {a1 : Int32} {w : jWd} {r : Int32} (h0 : kd t = 9) (h : fX10_costOfParts n t a0 a1 w = some r) : JM yX10_costOfParts MX10_costOfParts 1 [.ref t, .int a0, .int a1] w (some (.int r)) w := by
  refine jm_of pl_X10 rfl (Nat.le_of_ble_eq_true rfl) ?_
  show J MX10_costOfParts 1 w 0 [(0, .ref t), (1, .int a0), (2, .int a1)] [] (some (.int r)) w
  unfold fX10_costOfParts at h
  refine jr_iconst (v := (0 : Int32)) dX10_costOfParts_0 (by decide) ?_
  refine jr_istore_n (lv' := [(3, .int (0 : Int32)), (0, .ref t), (1, .int a0), (2, .int a1)]) dX10_costOfParts_1 rfl (by decide) rfl ?_
  refine jr_iconst (v := (0 : Int32)) dX10_costOfParts_2 (by decide) ?_
  refine jr_istore (lv' := [(4, .int (0 : Int32)), (3, .int (0 : Int32)), (0, .ref t), (1, .int a0), (2, .int a1)]) dX10_costOfParts_3 (by decide) rfl ?_
  refine jr_sub [2, 3, 4, 1, 0] rfl ?_
  refine hlX10_costOfParts_5 h0  _ _ _ h
set_option maxHeartbeats 4000000 in
set_option maxRecDepth 100000 in
theorem hbX10_gatherSayings_20 {n : Nat} {t : Nat} {p1 : Int32} {k62 : jWd → (Option jWd)} {w' : jWd} {rec : Int32 → jWd → Option jWd} (h0 : kd t = 9) (hk62 : ∀ (w9 : jWd), k62 w9 = some w' → J MX10_gatherSayings 2 w9 62 [(0, .ref t), (1, .int p1)] [] none w')
    (hrec : ∀ (x2 : Int32) (w : jWd) , rec x2 w = some w' → J MX10_gatherSayings 2 w 20 [(0, .ref t), (1, .int p1), (2, .int x2)] [] none w') : ∀ (x2 : Int32) (w : jWd) , bX10_gatherSayings_20 n t p1 k62 rec x2 w = some w' → J MX10_gatherSayings 2 w 20 [(0, .ref t), (1, .int p1), (2, .int x2)] [] none w' := by
  intro x2 w h
  unfold bX10_gatherSayings_20 at h
  refine jr_iload_n dX10_gatherSayings_20 rfl 2 rfl ?_
  refine jr_bipush (v := (16 : Int32)) dX10_gatherSayings_21 (by decide) ?_
  refine jr_icmp_ge (tgt := 62) (nxt := 26) dX10_gatherSayings_23 (by decide) rfl (fun hc => ?_) (fun hc => ?_)
  · replace h := drvT hc h
    refine jr_sub [0, 1] rfl ?_
    exact hk62 _ h
  · replace h := drvE hc h
    refine jr_aload_n dX10_gatherSayings_26 rfl 0 rfl ?_
    refine gf_X10_15 (r := (t + 2)) rfl h0 rfl dX10_gatherSayings_27 ?_
    refine jr_iload_n dX10_gatherSayings_30 rfl 1 rfl ?_
    refine jr_bipush (v := (16 : Int32)) dX10_gatherSayings_31 (by decide) ?_
    refine jr_imul dX10_gatherSayings_33 ?_
    refine jr_iload_n dX10_gatherSayings_34 rfl 2 rfl ?_
    refine jr_iadd dX10_gatherSayings_35 ?_
    obtain ⟨hg_3, h⟩ := drvG h
    refine jr_iald (kr_9_2 h0) hg_3 dX10_gatherSayings_36 ?_
    refine jr_iconst (v := (3 : Int32)) dX10_gatherSayings_37 (by decide) ?_
    refine jr_iand dX10_gatherSayings_38 ?_
    refine j_nmi (fun x3_4 e_5 => ?_)
    replace h := drvL e_5 h
    refine jr_istore_n (lv' := [(3, .int x3_4), (0, .ref t), (1, .int p1), (2, .int x2)]) dX10_gatherSayings_39 rfl (by decide) rfl ?_
    refine jr_aload_n dX10_gatherSayings_40 rfl 1 rfl ?_
    refine gf_X10_18 (r := (t + 3)) rfl h0 rfl dX10_gatherSayings_41 ?_
    refine jr_iload_n dX10_gatherSayings_44 rfl 3 rfl ?_
    refine jr_iconst (v := (4 : Int32)) dX10_gatherSayings_45 (by decide) ?_
    refine jr_imul dX10_gatherSayings_46 ?_
    refine jr_iload_n dX10_gatherSayings_47 rfl 0 rfl ?_
    refine jr_iadd dX10_gatherSayings_48 ?_
    refine jr_dup2_11 dX10_gatherSayings_49 rfl rfl ?_
    obtain ⟨hg_6, h⟩ := drvG h
    refine jr_iald (kr_9_3 h0) hg_6 dX10_gatherSayings_50 ?_
    refine jr_iconst (v := (1 : Int32)) dX10_gatherSayings_51 (by decide) ?_
    refine jr_iload_n dX10_gatherSayings_52 rfl 2 rfl ?_
    refine jr_ishl dX10_gatherSayings_53 ?_
    refine jr_ior dX10_gatherSayings_54 ?_
    obtain ⟨hg_9, h⟩ := drvG h
    refine jr_iast (kr_9_3 h0) hg_9 dX10_gatherSayings_55 ?_
    refine j_nmw (fun w_7 e_8 => ?_)
    replace h := drvL e_8 h
    refine jr_iincN (c := (1 : Int32)) (lv' := fun (x2_10 : Int32) => [(2, .int x2_10), (3, .int x3_4), (0, .ref t), (1, .int p1)]) dX10_gatherSayings_56 (by decide) 3 rfl (by decide) (fun _ => rfl) (fun x2_10 e_11 => ?_)
    replace h := drvL e_11 h
    refine jr_goto (tgt := 20) dX10_gatherSayings_59 (by decide) ?_
    refine jr_sub [2, 3, 0] rfl ?_
    exact hrec _ _ h
theorem hlX10_gatherSayings_20 {n : Nat} {t : Nat} {p1 : Int32} {k62 : jWd → (Option jWd)} {w' : jWd} (h0 : kd t = 9) (hk62 : ∀ (w9 : jWd), k62 w9 = some w' → J MX10_gatherSayings 2 w9 62 [(0, .ref t), (1, .int p1)] [] none w') : ∀ (c : Nat) (x2 : Int32) (w : jWd) , lX10_gatherSayings_20 n t p1 k62 c x2 w = some w' → J MX10_gatherSayings 2 w 20 [(0, .ref t), (1, .int p1), (2, .int x2)] [] none w' := by
  intro c
  induction c with
  | zero => intro x2 w h; cases h
  | succ c ih => intro x2 w h; exact hbX10_gatherSayings_20 (n := n) h0 hk62 ih _ _ h
set_option maxHeartbeats 4000000 in
set_option maxRecDepth 100000 in
theorem hbX10_gatherSayings_10 {n : Nat} {t : Nat} {w' : jWd} {rec : Int32 → jWd → Option jWd} (h0 : kd t = 9) 
    (hrec : ∀ (x1 : Int32) (w : jWd) , rec x1 w = some w' → J MX10_gatherSayings 2 w 10 [(0, .ref t), (1, .int x1)] [] none w') : ∀ (x1 : Int32) (w : jWd) , bX10_gatherSayings_10 n t rec x1 w = some w' → J MX10_gatherSayings 2 w 10 [(0, .ref t), (1, .int x1)] [] none w' := by
  intro x1 w h
  unfold bX10_gatherSayings_10 at h
  refine jr_iload_n dX10_gatherSayings_10 rfl 1 rfl ?_
  refine jr_aload_n dX10_gatherSayings_11 rfl 0 rfl ?_
  refine gf_X10_27 rfl h0 dX10_gatherSayings_12 ?_
  refine jr_icmp_ge (tgt := 68) (nxt := 18) dX10_gatherSayings_15 (by decide) rfl (fun hc => ?_) (fun hc => ?_)
  · replace h := drvT hc h
    obtain rfl := drvS1 h
    exact jr_vret rfl dX10_gatherSayings_68
  · replace h := drvE hc h
    refine jr_iconst (v := (0 : Int32)) dX10_gatherSayings_18 (by decide) ?_
    refine jr_istore_n (lv' := [(2, .int (0 : Int32)), (0, .ref t), (1, .int x1)]) dX10_gatherSayings_19 rfl (by decide) rfl ?_
    refine jr_sub [1, 2, 0] rfl ?_
    refine hlX10_gatherSayings_20 h0 ?_ _ _ _ h
    · intro w_12 h
      try dsimp only at h
      refine jr_iincN (c := (1 : Int32)) (lv' := fun (x1_13 : Int32) => [(1, .int x1_13), (0, .ref t)]) dX10_gatherSayings_62 (by decide) 1 rfl (by decide) (fun _ => rfl) (fun x1_13 e_14 => ?_)
      replace h := drvL e_14 h
      refine jr_goto (tgt := 10) dX10_gatherSayings_65 (by decide) ?_
      refine jr_sub [1, 0] rfl ?_
      exact hrec _ _ h
theorem hlX10_gatherSayings_10 {n : Nat} {t : Nat} {w' : jWd} (h0 : kd t = 9)  : ∀ (c : Nat) (x1 : Int32) (w : jWd) , lX10_gatherSayings_10 n t c x1 w = some w' → J MX10_gatherSayings 2 w 10 [(0, .ref t), (1, .int x1)] [] none w' := by
  intro c
  induction c with
  | zero => intro x1 w h; cases h
  | succ c ih => intro x1 w h; exact hbX10_gatherSayings_10 (n := n) h0 ih _ _ h
set_option maxHeartbeats 4000000 in
set_option maxRecDepth 100000 in
theorem tX10_gatherSayings {n : Nat} {t : Nat} {w : jWd} {w' : jWd} (h0 : kd t = 9) (h : fX10_gatherSayings n t w = some w') : JM yX10_gatherSayings MX10_gatherSayings 2 [.ref t] w none w' := by
  refine jm_of pl_X10 rfl (Nat.le_of_ble_eq_true rfl) ?_
  show J MX10_gatherSayings 2 w 0 [(0, .ref t)] [] none w'
  unfold fX10_gatherSayings at h
  refine jr_aload_n dX10_gatherSayings_0 rfl 0 rfl ?_
  refine gf_X10_18 (r := (t + 3)) rfl h0 rfl dX10_gatherSayings_1 ?_
  refine jr_iconst (v := (0 : Int32)) dX10_gatherSayings_4 (by decide) ?_
  obtain ⟨w_2, hq_1, h⟩ := drvB h
  refine j_callSn lk_X10_45 wST_J7_fill_53178 (tJ7_fill_53178 (kr_9_3 h0) hq_1) (by omega) rfl rfl (Nat.le_of_ble_eq_true rfl) dX10_gatherSayings_5 ?_
  refine jr_iconst (v := (0 : Int32)) dX10_gatherSayings_8 (by decide) ?_
  refine jr_istore_n (lv' := [(1, .int (0 : Int32)), (0, .ref t)]) dX10_gatherSayings_9 rfl (by decide) rfl ?_
  refine jr_sub [1, 0] rfl ?_
  refine hlX10_gatherSayings_10 h0  _ _ _ h
set_option maxHeartbeats 4000000 in
set_option maxRecDepth 100000 in
theorem tX10_has {t : Nat} {a0 : Int32} {w : jWd} (h0 : kd t = 9) : JM yX10_has MX10_has 1 [.ref t, .int a0] w (some (.int (fX10_has t a0 w))) w := by
  refine jm_of pl_X10 rfl (Nat.le_of_ble_eq_true rfl) ?_
  show J MX10_has 1 w 0 [(0, .ref t), (1, .int a0)] [] (some (.int (fX10_has t a0 w))) w
  generalize h : (fX10_has t a0 w) = r
  unfold fX10_has at h
  refine jr_iload_n dX10_has_0 rfl 1 rfl ?_
  refine jr_if_lt (tgt := 16) (nxt := 4) dX10_has_1 (by decide) rfl (fun hc => ?_) (fun hc => ?_)
  · replace h := drvT hc h
    refine jr_iconst (v := (0 : Int32)) dX10_has_16 (by decide) ?_
    subst h
    exact jr_zret (ty := .boolean) rfl rfl dX10_has_17
  · replace h := drvE hc h
    refine jr_iload_n dX10_has_4 rfl 1 rfl ?_
    refine jr_aload_n dX10_has_5 rfl 0 rfl ?_
    refine gf_X10_27 rfl h0 dX10_has_6 ?_
    refine jr_icmp_ge (tgt := 16) (nxt := 12) dX10_has_9 (by decide) rfl (fun hc => ?_) (fun hc => ?_)
    · replace h := drvT hc h
      refine jr_iconst (v := (0 : Int32)) dX10_has_16 (by decide) ?_
      subst h
      exact jr_zret (ty := .boolean) rfl rfl dX10_has_17
    · replace h := drvE hc h
      refine jr_iconst (v := (1 : Int32)) dX10_has_12 (by decide) ?_
      refine jr_goto (tgt := 17) dX10_has_13 (by decide) ?_
      subst h
      exact jr_zret (ty := .boolean) rfl rfl dX10_has_17
set_option maxHeartbeats 4000000 in
set_option maxRecDepth 100000 in
theorem tX10_hasAll {t : Nat} {a0 : Int32} {w : jWd} (h0 : kd t = 9) : JM yX10_hasAll MX10_hasAll 1 [.ref t, .int a0] w (some (.int (fX10_hasAll t a0 w))) w := by
  refine jm_of pl_X10 rfl (Nat.le_of_ble_eq_true rfl) ?_
  show J MX10_hasAll 1 w 0 [(0, .ref t), (1, .int a0)] [] (some (.int (fX10_hasAll t a0 w))) w
  generalize h : (fX10_hasAll t a0 w) = r
  unfold fX10_hasAll at h
  refine jr_iload_n dX10_hasAll_0 rfl 1 rfl ?_
  refine jr_if_lt (tgt := 18) (nxt := 4) dX10_hasAll_1 (by decide) rfl (fun hc => ?_) (fun hc => ?_)
  · replace h := drvT hc h
    refine jr_iconst (v := (0 : Int32)) dX10_hasAll_18 (by decide) ?_
    subst h
    exact jr_zret (ty := .boolean) rfl rfl dX10_hasAll_19
  · replace h := drvE hc h
    refine jr_iload_n dX10_hasAll_4 rfl 1 rfl ?_
    refine jr_iconst (v := (1 : Int32)) dX10_hasAll_5 (by decide) ?_
    refine jr_aload_n dX10_hasAll_6 rfl 0 rfl ?_
    refine gf_X10_27 rfl h0 dX10_hasAll_7 ?_
    refine jr_ishl dX10_hasAll_10 ?_
    refine jr_icmp_ge (tgt := 18) (nxt := 14) dX10_hasAll_11 (by decide) rfl (fun hc => ?_) (fun hc => ?_)
    · replace h := drvT hc h
      refine jr_iconst (v := (0 : Int32)) dX10_hasAll_18 (by decide) ?_
      subst h
      exact jr_zret (ty := .boolean) rfl rfl dX10_hasAll_19
    · replace h := drvE hc h
      refine jr_iconst (v := (1 : Int32)) dX10_hasAll_14 (by decide) ?_
      refine jr_goto (tgt := 19) dX10_hasAll_15 (by decide) ?_
      subst h
      exact jr_zret (ty := .boolean) rfl rfl dX10_hasAll_19
set_option maxHeartbeats 4000000 in
set_option maxRecDepth 100000 in
theorem tX10_start {t : Nat} {a0 : Int32} {w : jWd} {r : Int32} {w' : jWd} (h0 : kd t = 9) (h : fX10_start t a0 w = some (r, w')) : JM yX10_start MX10_start 1 [.ref t, .int a0] w (some (.int r)) w' := by
  refine jm_of pl_X10 rfl (Nat.le_of_ble_eq_true rfl) ?_
  show J MX10_start 1 w 0 [(0, .ref t), (1, .int a0)] [] (some (.int r)) w'
  unfold fX10_start at h
  refine jr_aload_n dX10_start_0 rfl 0 rfl ?_
  refine gf_X10_27 rfl h0 dX10_start_1 ?_
  refine jr_bipush (v := (8 : Int32)) dX10_start_4 (by decide) ?_
  refine jr_icmp_lt (tgt := 11) (nxt := 9) dX10_start_6 (by decide) rfl (fun hc => ?_) (fun hc => ?_)
  · replace h := drvT hc h
    refine jr_aload_n dX10_start_11 rfl 0 rfl ?_
    refine gf_X10_11 (r := (t + 1)) rfl h0 rfl dX10_start_12 ?_
    refine jr_aload_n dX10_start_15 rfl 0 rfl ?_
    refine gf_X10_27 rfl h0 dX10_start_16 ?_
    refine jr_iload_n dX10_start_19 rfl 1 rfl ?_
    obtain ⟨hg_3, h⟩ := drvG h
    refine jr_iast (kr_9_1 h0) hg_3 dX10_start_20 ?_
    refine j_nmw (fun w_1 e_2 => ?_)
    replace h := drvL e_2 h
    refine jr_aload_n dX10_start_21 rfl 0 rfl ?_
    refine jr_dup dX10_start_22 rfl ?_
    refine gf_X10_27 rfl h0 dX10_start_23 ?_
    refine jr_dup_x1 dX10_start_26 rfl rfl ?_
    refine jr_iconst (v := (1 : Int32)) dX10_start_27 (by decide) ?_
    refine jr_iadd dX10_start_28 ?_
    refine pf_X10_27 rfl h0 dX10_start_29 ?_
    refine j_nmw (fun w_4 e_5 => ?_)
    replace h := drvL e_5 h
    obtain ⟨rfl, rfl⟩ := drvS2 h
    exact jr_iret rfl dX10_start_32
  · replace h := drvE hc h
    refine jr_iconst (v := (-1 : Int32)) dX10_start_9 (by decide) ?_
    obtain ⟨rfl, rfl⟩ := drvS2 h
    exact jr_iret rfl dX10_start_10
set_option maxHeartbeats 4000000 in
set_option maxRecDepth 100000 in
theorem tX10_tell {t : Nat} {a0 : Int32} {a1 : Int32} {a2 : Int32} {w : jWd} {r : Int32} {w' : jWd} (h0 : kd t = 9) (h : fX10_tell t a0 a1 a2 w = some (r, w')) : JM yX10_tell MX10_tell 2 [.ref t, .int a0, .int a1, .int a2] w (some (.int r)) w' := by
  refine jm_of pl_X10 rfl (Nat.le_of_ble_eq_true rfl) ?_
  show J MX10_tell 2 w 0 [(0, .ref t), (1, .int a0), (2, .int a1), (3, .int a2)] [] (some (.int r)) w'
  unfold fX10_tell at h
  refine jr_iload_n dX10_tell_0 rfl 1 rfl ?_
  refine jr_bipush (v := (16 : Int32)) dX10_tell_1 (by decide) ?_
  refine jr_imul dX10_tell_3 ?_
  refine jr_iload_n dX10_tell_4 rfl 2 rfl ?_
  refine jr_iadd dX10_tell_5 ?_
  refine j_nmi (fun x4_1 e_2 => ?_)
  replace h := drvL e_2 h
  refine jr_istore (lv' := [(4, .int x4_1), (0, .ref t), (1, .int a0), (2, .int a1), (3, .int a2)]) dX10_tell_6 (by decide) rfl ?_
  refine jr_aload_n dX10_tell_8 rfl 1 rfl ?_
  refine jr_iload_n dX10_tell_9 rfl 2 rfl ?_
  refine j_callVv lk_X10_31 wIM_X10_has wSE_X10_has h0 (by decide) rfl (tX10_has h0 (a0 := a0) (t := t) (w := w)) (by omega) rfl rfl (Nat.le_of_ble_eq_true rfl) dX10_tell_10 ?_
  refine jr_if_eq (tgt := 26) (nxt := 16) dX10_tell_13 (by decide) rfl (fun hc => ?_) (fun hc => ?_)
  · replace h := drvT hc h
    refine jr_iconst (v := (-1 : Int32)) dX10_tell_26 (by decide) ?_
    obtain ⟨rfl, rfl⟩ := drvS2 h
    exact jr_iret rfl dX10_tell_27
  · replace h := drvE hc h
    refine jr_iload_n dX10_tell_16 rfl 3 rfl ?_
    refine jr_if_lt (tgt := 26) (nxt := 20) dX10_tell_17 (by decide) rfl (fun hc => ?_) (fun hc => ?_)
    · replace h := drvT hc h
      refine jr_iconst (v := (-1 : Int32)) dX10_tell_26 (by decide) ?_
      obtain ⟨rfl, rfl⟩ := drvS2 h
      exact jr_iret rfl dX10_tell_27
    · replace h := drvE hc h
      refine jr_iload_n dX10_tell_20 rfl 3 rfl ?_
      refine jr_bipush (v := (16 : Int32)) dX10_tell_21 (by decide) ?_
      refine jr_icmp_lt (tgt := 28) (nxt := 26) dX10_tell_23 (by decide) rfl (fun hc => ?_) (fun hc => ?_)
      · replace h := drvT hc h
        refine jr_aload_n dX10_tell_28 rfl 1 rfl ?_
        refine gf_X10_15 (r := (t + 2)) rfl h0 rfl dX10_tell_29 ?_
        refine jr_iload dX10_tell_32 0 rfl ?_
        obtain ⟨hg_3, h⟩ := drvG h
        refine jr_iald (kr_9_2 h0) hg_3 dX10_tell_34 ?_
        refine j_nmi (fun x5_4 e_5 => ?_)
        replace h := drvL e_5 h
        refine jr_istore (lv' := [(5, .int x5_4), (4, .int x4_1), (0, .ref t), (1, .int a0), (2, .int a1), (3, .int a2)]) dX10_tell_35 (by decide) rfl ?_
        refine jr_aload_n dX10_tell_37 rfl 2 rfl ?_
        refine gf_X10_15 (r := (t + 2)) rfl h0 rfl dX10_tell_38 ?_
        refine jr_iload dX10_tell_41 1 rfl ?_
        refine jr_iload_n dX10_tell_43 rfl 5 rfl ?_
        obtain ⟨hg_8, h⟩ := drvG h
        refine jr_iast (kr_9_2 h0) hg_8 dX10_tell_44 ?_
        refine j_nmw (fun w_6 e_7 => ?_)
        replace h := drvL e_7 h
        refine jr_iload dX10_tell_45 0 rfl ?_
        obtain ⟨rfl, rfl⟩ := drvS2 h
        exact jr_iret rfl dX10_tell_47
      · replace h := drvE hc h
        refine jr_iconst (v := (-1 : Int32)) dX10_tell_26 (by decide) ?_
        obtain ⟨rfl, rfl⟩ := drvS2 h
        exact jr_iret rfl dX10_tell_27
set_option maxHeartbeats 4000000 in
set_option maxRecDepth 100000 in
theorem hbX10_weightOf_4 {n : Nat} {t : Nat} {p1 : Int32} {w : jWd} {r : Int32} {rec : Int32 → Int32 → Option Int32} (h0 : kd t = 9) 
    (hrec : ∀ (x2 : Int32) (x3 : Int32) , rec x2 x3 = some r → J MX10_weightOf 1 w 4 [(0, .ref t), (1, .int p1), (2, .int x2), (3, .int x3)] [] (some (.int r)) w) : ∀ (x2 : Int32) (x3 : Int32) , bX10_weightOf_4 n t p1 w rec x2 x3 = some r → J MX10_weightOf 1 w 4 [(0, .ref t), (1, .int p1), (2, .int x2), (3, .int x3)] [] (some (.int r)) w := by
  intro x2 x3 h
  unfold bX10_weightOf_4 at h
  refine jr_iload_n dX10_weightOf_4 rfl 3 rfl ?_
  refine jr_aload_n dX10_weightOf_5 rfl 0 rfl ?_
  refine gf_X10_27 rfl h0 dX10_weightOf_6 ?_
  refine jr_icmp_ge (tgt := 36) (nxt := 12) dX10_weightOf_9 (by decide) rfl (fun hc => ?_) (fun hc => ?_)
  · replace h := drvT hc h
    refine jr_iload_n dX10_weightOf_36 rfl 2 rfl ?_
    obtain rfl := drvS1 h
    exact jr_iret rfl dX10_weightOf_37
  · replace h := drvE hc h
    refine jr_iload_n dX10_weightOf_12 rfl 1 rfl ?_
    refine jr_iload_n dX10_weightOf_13 rfl 3 rfl ?_
    refine jr_ishr dX10_weightOf_14 ?_
    refine jr_iconst (v := (1 : Int32)) dX10_weightOf_15 (by decide) ?_
    refine jr_iand dX10_weightOf_16 ?_
    refine jr_iconst (v := (1 : Int32)) dX10_weightOf_17 (by decide) ?_
    refine jr_icmp_ne (tgt := 30) (nxt := 21) dX10_weightOf_18 (by decide) rfl (fun hc => ?_) (fun hc => ?_)
    · replace h := drvE hc h
      refine jr_iincN (c := (1 : Int32)) (lv' := fun (x3_1 : Int32) => [(3, .int x3_1), (0, .ref t), (1, .int p1), (2, .int x2)]) dX10_weightOf_30 (by decide) 3 rfl (by decide) (fun _ => rfl) (fun x3_1 e_2 => ?_)
      replace h := drvL e_2 h
      refine jr_goto (tgt := 4) dX10_weightOf_33 (by decide) ?_
      refine jr_sub [1, 2, 3, 0] rfl ?_
      exact hrec _ _ h
    · replace h := drvT hc h
      refine jr_iload_n dX10_weightOf_21 rfl 2 rfl ?_
      refine jr_aload_n dX10_weightOf_22 rfl 0 rfl ?_
      refine gf_X10_11 (r := (t + 1)) rfl h0 rfl dX10_weightOf_23 ?_
      refine jr_iload_n dX10_weightOf_26 rfl 3 rfl ?_
      obtain ⟨hg_3, h⟩ := drvG h
      refine jr_iald (kr_9_1 h0) hg_3 dX10_weightOf_27 ?_
      refine jr_iadd dX10_weightOf_28 ?_
      refine j_nmi (fun x2_4 e_5 => ?_)
      replace h := drvL e_5 h
      refine jr_istore_n (lv' := [(2, .int x2_4), (0, .ref t), (1, .int p1), (3, .int x3)]) dX10_weightOf_29 rfl (by decide) rfl ?_
      refine jr_iincN (c := (1 : Int32)) (lv' := fun (x3_6 : Int32) => [(3, .int x3_6), (2, .int x2_4), (0, .ref t), (1, .int p1)]) dX10_weightOf_30 (by decide) 3 rfl (by decide) (fun _ => rfl) (fun x3_6 e_7 => ?_)
      replace h := drvL e_7 h
      refine jr_goto (tgt := 4) dX10_weightOf_33 (by decide) ?_
      refine jr_sub [2, 3, 1, 0] rfl ?_
      exact hrec _ _ h
theorem hlX10_weightOf_4 {n : Nat} {t : Nat} {p1 : Int32} {w : jWd} {r : Int32} (h0 : kd t = 9)  : ∀ (c : Nat) (x2 : Int32) (x3 : Int32) , lX10_weightOf_4 n t p1 w c x2 x3 = some r → J MX10_weightOf 1 w 4 [(0, .ref t), (1, .int p1), (2, .int x2), (3, .int x3)] [] (some (.int r)) w := by
  intro c
  induction c with
  | zero => intro x2 x3 h; cases h
  | succ c ih => intro x2 x3 h; exact hbX10_weightOf_4 (n := n) h0 ih _ _ h
set_option maxHeartbeats 4000000 in
set_option maxRecDepth 100000 in
theorem tX10_weightOf {n : Nat} {t : Nat} {a0 : Int32} {w : jWd} {r : Int32} (h0 : kd t = 9) (h : fX10_weightOf n t a0 w = some r) : JM yX10_weightOf MX10_weightOf 1 [.ref t, .int a0] w (some (.int r)) w := by
  refine jm_of pl_X10 rfl (Nat.le_of_ble_eq_true rfl) ?_
  show J MX10_weightOf 1 w 0 [(0, .ref t), (1, .int a0)] [] (some (.int r)) w
  unfold fX10_weightOf at h
  refine jr_iconst (v := (0 : Int32)) dX10_weightOf_0 (by decide) ?_
  refine jr_istore_n (lv' := [(2, .int (0 : Int32)), (0, .ref t), (1, .int a0)]) dX10_weightOf_1 rfl (by decide) rfl ?_
  refine jr_iconst (v := (0 : Int32)) dX10_weightOf_2 (by decide) ?_
  refine jr_istore_n (lv' := [(3, .int (0 : Int32)), (2, .int (0 : Int32)), (0, .ref t), (1, .int a0)]) dX10_weightOf_3 rfl (by decide) rfl ?_
  refine jr_sub [2, 3, 1, 0] rfl ?_
  refine hlX10_weightOf_4 h0  _ _ _ h
set_option maxHeartbeats 4000000 in
set_option maxRecDepth 100000 in
theorem hbX10_weighOne_22 {n : Nat} {t : Nat} {p1 : Int32} {p2 : Int32} {w' : jWd} {rec : Int32 → jWd → Option jWd} (h0 : kd t = 9) 
    (hrec : ∀ (x3 : Int32) (w : jWd) , rec x3 w = some w' → J MX10_weighOne 2 w 22 [(0, .ref t), (1, .int p1), (2, .int p2), (3, .int x3)] [] none w') : ∀ (x3 : Int32) (w : jWd) , bX10_weighOne_22 n t p1 p2 rec x3 w = some w' → J MX10_weighOne 2 w 22 [(0, .ref t), (1, .int p1), (2, .int p2), (3, .int x3)] [] none w' := by
  intro x3 w h
  unfold bX10_weighOne_22 at h
  refine jr_iload_n dX10_weighOne_22 rfl 3 rfl ?_
  refine jr_bipush (v := (16 : Int32)) dX10_weighOne_23 (by decide) ?_
  refine jr_icmp_ge (tgt := 91) (nxt := 28) dX10_weighOne_25 (by decide) rfl (fun hc => ?_) (fun hc => ?_)
  · replace h := drvT hc h
    obtain rfl := drvS1 h
    exact jr_vret rfl dX10_weighOne_91
  · replace h := drvE hc h
    refine jr_aload_n dX10_weighOne_28 rfl 0 rfl ?_
    refine jr_iload_n dX10_weighOne_29 rfl 1 rfl ?_
    refine jr_iload_n dX10_weighOne_30 rfl 3 rfl ?_
    obtain ⟨r_10, hq_9, h⟩ := drvB h
    refine j_callVv lk_X10_55 wIM_X10_costOfParts wSE_X10_costOfParts h0 (by decide) rfl (tX10_costOfParts h0 hq_9) (by omega) rfl rfl (Nat.le_of_ble_eq_true rfl) dX10_weighOne_31 ?_
    refine jr_istore (lv' := [(4, .int r_10), (0, .ref t), (1, .int p1), (2, .int p2), (3, .int x3)]) dX10_weighOne_34 (by decide) rfl ?_
    refine jr_iload dX10_weighOne_36 0 rfl ?_
    refine jr_iconst (v := (-1 : Int32)) dX10_weighOne_38 (by decide) ?_
    refine jr_icmp_ne (tgt := 45) (nxt := 42) dX10_weighOne_39 (by decide) rfl (fun hc => ?_) (fun hc => ?_)
    · replace h := drvE hc h
      refine jr_aload_n dX10_weighOne_45 rfl 1 rfl ?_
      refine gf_X10_24 (r := (t + 5)) rfl h0 rfl dX10_weighOne_46 ?_
      refine jr_iload_n dX10_weighOne_49 rfl 2 rfl ?_
      obtain ⟨hg_11, h⟩ := drvG h
      refine jr_iald (kr_9_5 h0) hg_11 dX10_weighOne_50 ?_
      refine jr_iconst (v := (-1 : Int32)) dX10_weighOne_51 (by decide) ?_
      obtain ⟨j68_12, ej68_12, h⟩ := drvF h
      have hj68_12 : ∀ (_ : Unit), j68_12 = some w' → J MX10_weighOne 2 w 68 [(0, .ref t), (1, .int p1), (2, .int p2), (3, .int x3), (4, .int r_10)] [] none w' := by
        intro _ h
        rw [ej68_12] at h
        try dsimp only at h
        refine jr_aload_n dX10_weighOne_68 rfl 0 rfl ?_
        refine gf_X10_21 (r := (t + 4)) rfl h0 rfl dX10_weighOne_69 ?_
        refine jr_iload_n dX10_weighOne_72 rfl 1 rfl ?_
        refine jr_iload_n dX10_weighOne_73 rfl 2 rfl ?_
        refine jr_iload dX10_weighOne_74 4 rfl ?_
        refine jr_iadd dX10_weighOne_76 ?_
        obtain ⟨hg_15, h⟩ := drvG h
        refine jr_iast (kr_9_4 h0) hg_15 dX10_weighOne_77 ?_
        refine j_nmw (fun w_13 e_14 => ?_)
        replace h := drvL e_14 h
        refine jr_aload_n dX10_weighOne_78 rfl 0 rfl ?_
        refine gf_X10_24 (r := (t + 5)) rfl h0 rfl dX10_weighOne_79 ?_
        refine jr_iload_n dX10_weighOne_82 rfl 1 rfl ?_
        refine jr_iload_n dX10_weighOne_83 rfl 3 rfl ?_
        obtain ⟨hg_18, h⟩ := drvG h
        refine jr_iast (kr_9_5 h0) hg_18 dX10_weighOne_84 ?_
        refine j_nmw (fun w_16 e_17 => ?_)
        replace h := drvL e_17 h
        refine jr_iincN (c := (1 : Int32)) (lv' := fun (x3_19 : Int32) => [(3, .int x3_19), (0, .ref t), (1, .int p1), (2, .int p2), (4, .int r_10)]) dX10_weighOne_85 (by decide) 3 rfl (by decide) (fun _ => rfl) (fun x3_19 e_20 => ?_)
        replace h := drvL e_20 h
        refine jr_goto (tgt := 22) dX10_weighOne_88 (by decide) ?_
        refine jr_sub [1, 2, 3, 0] rfl ?_
        exact hrec _ _ h
      refine jr_icmp_eq (tgt := 68) (nxt := 55) dX10_weighOne_52 (by decide) rfl (fun hc => ?_) (fun hc => ?_)
      · replace h := drvT hc h
        refine jr_sub [1, 2, 3, 4, 0] rfl ?_
        exact (hj68_12 ()) h
      · replace h := drvE hc h
        refine jr_iload_n dX10_weighOne_55 rfl 3 rfl ?_
        refine jr_iload dX10_weighOne_56 0 rfl ?_
        refine jr_iadd dX10_weighOne_58 ?_
        refine jr_aload_n dX10_weighOne_59 rfl 1 rfl ?_
        refine gf_X10_21 (r := (t + 4)) rfl h0 rfl dX10_weighOne_60 ?_
        refine jr_iload_n dX10_weighOne_63 rfl 2 rfl ?_
        obtain ⟨hg_21, h⟩ := drvG h
        refine jr_iald (kr_9_4 h0) hg_21 dX10_weighOne_64 ?_
        refine jr_icmp_ge (tgt := 85) (nxt := 68) dX10_weighOne_65 (by decide) rfl (fun hc => ?_) (fun hc => ?_)
        · replace h := drvT hc h
          refine jr_iincN (c := (1 : Int32)) (lv' := fun (x3_22 : Int32) => [(3, .int x3_22), (4, .int r_10), (0, .ref t), (1, .int p1), (2, .int p2)]) dX10_weighOne_85 (by decide) 4 rfl (by decide) (fun _ => rfl) (fun x3_22 e_23 => ?_)
          replace h := drvL e_23 h
          refine jr_goto (tgt := 22) dX10_weighOne_88 (by decide) ?_
          refine jr_sub [2, 3, 4, 0] rfl ?_
          exact hrec _ _ h
        · replace h := drvE hc h
          refine jr_sub [1, 2, 3, 4, 0] rfl ?_
          exact (hj68_12 ()) h
    · replace h := drvT hc h
      refine jr_goto (tgt := 85) dX10_weighOne_42 (by decide) ?_
      refine jr_iincN (c := (1 : Int32)) (lv' := fun (x3_24 : Int32) => [(3, .int x3_24), (4, .int r_10), (0, .ref t), (1, .int p1), (2, .int p2)]) dX10_weighOne_85 (by decide) 4 rfl (by decide) (fun _ => rfl) (fun x3_24 e_25 => ?_)
      replace h := drvL e_25 h
      refine jr_goto (tgt := 22) dX10_weighOne_88 (by decide) ?_
      refine jr_sub [2, 3, 4, 0] rfl ?_
      exact hrec _ _ h
theorem hlX10_weighOne_22 {n : Nat} {t : Nat} {p1 : Int32} {p2 : Int32} {w' : jWd} (h0 : kd t = 9)  : ∀ (c : Nat) (x3 : Int32) (w : jWd) , lX10_weighOne_22 n t p1 p2 c x3 w = some w' → J MX10_weighOne 2 w 22 [(0, .ref t), (1, .int p1), (2, .int p2), (3, .int x3)] [] none w' := by
  intro c
  induction c with
  | zero => intro x3 w h; cases h
  | succ c ih => intro x3 w h; exact hbX10_weighOne_22 (n := n) h0 ih _ _ h
set_option maxHeartbeats 4000000 in
set_option maxRecDepth 100000 in
theorem tX10_weighOne {n : Nat} {t : Nat} {a0 : Int32} {w : jWd} {w' : jWd} (h0 : kd t = 9) (h : fX10_weighOne n t a0 w = some w') : JM yX10_weighOne MX10_weighOne 2 [.ref t, .int a0] w none w' := by
  refine jm_of pl_X10 rfl (Nat.le_of_ble_eq_true rfl) ?_
  show J MX10_weighOne 2 w 0 [(0, .ref t), (1, .int a0)] [] none w'
  unfold fX10_weighOne at h
  refine jr_aload_n dX10_weighOne_0 rfl 0 rfl ?_
  refine gf_X10_21 (r := (t + 4)) rfl h0 rfl dX10_weighOne_1 ?_
  refine jr_iload_n dX10_weighOne_4 rfl 1 rfl ?_
  refine jr_iconst (v := (0 : Int32)) dX10_weighOne_5 (by decide) ?_
  obtain ⟨hg_3, h⟩ := drvG h
  refine jr_iast (kr_9_4 h0) hg_3 dX10_weighOne_6 ?_
  refine j_nmw (fun w_1 e_2 => ?_)
  replace h := drvL e_2 h
  refine jr_aload_n dX10_weighOne_7 rfl 0 rfl ?_
  refine gf_X10_24 (r := (t + 5)) rfl h0 rfl dX10_weighOne_8 ?_
  refine jr_iload_n dX10_weighOne_11 rfl 1 rfl ?_
  refine jr_iconst (v := (-1 : Int32)) dX10_weighOne_12 (by decide) ?_
  obtain ⟨hg_6, h⟩ := drvG h
  refine jr_iast (kr_9_5 h0) hg_6 dX10_weighOne_13 ?_
  refine j_nmw (fun w_4 e_5 => ?_)
  replace h := drvL e_5 h
  refine jr_aload_n dX10_weighOne_14 rfl 0 rfl ?_
  refine jr_iload_n dX10_weighOne_15 rfl 1 rfl ?_
  obtain ⟨r_8, hq_7, h⟩ := drvB h
  refine j_callVv lk_X10_51 wIM_X10_weightOf wSE_X10_weightOf h0 (by decide) rfl (tX10_weightOf h0 hq_7) (by omega) rfl rfl (Nat.le_of_ble_eq_true rfl) dX10_weighOne_16 ?_
  refine jr_istore_n (lv' := [(2, .int r_8), (0, .ref t), (1, .int a0)]) dX10_weighOne_19 rfl (by decide) rfl ?_
  refine jr_iconst (v := (0 : Int32)) dX10_weighOne_20 (by decide) ?_
  refine jr_istore_n (lv' := [(3, .int (0 : Int32)), (2, .int r_8), (0, .ref t), (1, .int a0)]) dX10_weighOne_21 rfl (by decide) rfl ?_
  refine jr_sub [2, 3, 1, 0] rfl ?_
  refine hlX10_weighOne_22 h0  _ _ _ h
set_option maxHeartbeats 4000000 in
set_option maxRecDepth 100000 in
theorem hbX10_weigh_15 {n : Nat} {t : Nat} {p1 : Int32} {w' : jWd} {rec : Int32 → jWd → Option jWd} (h0 : kd t = 9) 
    (hrec : ∀ (x2 : Int32) (w : jWd) , rec x2 w = some w' → J MX10_weigh 3 w 15 [(0, .ref t), (1, .int p1), (2, .int x2)] [] none w') : ∀ (x2 : Int32) (w : jWd) , bX10_weigh_15 n t p1 rec x2 w = some w' → J MX10_weigh 3 w 15 [(0, .ref t), (1, .int p1), (2, .int x2)] [] none w' := by
  intro x2 w h
  unfold bX10_weigh_15 at h
  refine jr_iload_n dX10_weigh_15 rfl 2 rfl ?_
  refine jr_iload_n dX10_weigh_16 rfl 1 rfl ?_
  refine jr_icmp_gt (tgt := 48) (nxt := 20) dX10_weigh_17 (by decide) rfl (fun hc => ?_) (fun hc => ?_)
  · replace h := drvT hc h
    obtain rfl := drvS1 h
    exact jr_vret rfl dX10_weigh_48
  · replace h := drvE hc h
    refine jr_iload_n dX10_weigh_20 rfl 2 rfl ?_
    refine jr_aload_n dX10_weigh_21 rfl 0 rfl ?_
    refine gf_X10_21 (r := (t + 4)) rfl h0 rfl dX10_weigh_22 ?_
    refine jr_alen (kr_9_4 h0) (by decide) (by decide) dX10_weigh_25 ?_
    refine jr_icmp_ge (tgt := 48) (nxt := 29) dX10_weigh_26 (by decide) rfl (fun hc => ?_) (fun hc => ?_)
    · replace h := drvT hc h
      obtain rfl := drvS1 h
      exact jr_vret rfl dX10_weigh_48
    · replace h := drvE hc h
      refine jr_iload_n dX10_weigh_29 rfl 2 rfl ?_
      refine jr_iload_n dX10_weigh_30 rfl 1 rfl ?_
      refine jr_iconst (v := (-1 : Int32)) dX10_weigh_31 (by decide) ?_
      refine jr_ixor dX10_weigh_32 ?_
      refine jr_iand dX10_weigh_33 ?_
      refine jr_if_ne (tgt := 42) (nxt := 37) dX10_weigh_34 (by decide) rfl (fun hc => ?_) (fun hc => ?_)
      · replace h := drvE hc h
        refine jr_iincN (c := (1 : Int32)) (lv' := fun (x2_3 : Int32) => [(2, .int x2_3), (0, .ref t), (1, .int p1)]) dX10_weigh_42 (by decide) 2 rfl (by decide) (fun _ => rfl) (fun x2_3 e_4 => ?_)
        replace h := drvL e_4 h
        refine jr_goto (tgt := 15) dX10_weigh_45 (by decide) ?_
        refine jr_sub [1, 2, 0] rfl ?_
        exact hrec _ _ h
      · replace h := drvT hc h
        refine jr_aload_n dX10_weigh_37 rfl 0 rfl ?_
        refine jr_iload_n dX10_weigh_38 rfl 2 rfl ?_
        obtain ⟨w_6, hq_5, h⟩ := drvB h
        refine j_callVn lk_X10_41 wIM_X10_weighOne wSE_X10_weighOne h0 (by decide) rfl (tX10_weighOne h0 hq_5) (by omega) rfl rfl (Nat.le_of_ble_eq_true rfl) dX10_weigh_39 ?_
        refine jr_iincN (c := (1 : Int32)) (lv' := fun (x2_7 : Int32) => [(2, .int x2_7), (0, .ref t), (1, .int p1)]) dX10_weigh_42 (by decide) 2 rfl (by decide) (fun _ => rfl) (fun x2_7 e_8 => ?_)
        replace h := drvL e_8 h
        refine jr_goto (tgt := 15) dX10_weigh_45 (by decide) ?_
        refine jr_sub [1, 2, 0] rfl ?_
        exact hrec _ _ h
theorem hlX10_weigh_15 {n : Nat} {t : Nat} {p1 : Int32} {w' : jWd} (h0 : kd t = 9)  : ∀ (c : Nat) (x2 : Int32) (w : jWd) , lX10_weigh_15 n t p1 c x2 w = some w' → J MX10_weigh 3 w 15 [(0, .ref t), (1, .int p1), (2, .int x2)] [] none w' := by
  intro c
  induction c with
  | zero => intro x2 w h; cases h
  | succ c ih => intro x2 w h; exact hbX10_weigh_15 (n := n) h0 ih _ _ h
set_option maxHeartbeats 4000000 in
set_option maxRecDepth 100000 in
theorem tX10_weigh {n : Nat} {t : Nat} {a0 : Int32} {w : jWd} {w' : jWd} (h0 : kd t = 9) (h : fX10_weigh n t a0 w = some w') : JM yX10_weigh MX10_weigh 3 [.ref t, .int a0] w none w' := by
  refine jm_of pl_X10 rfl (Nat.le_of_ble_eq_true rfl) ?_
  show J MX10_weigh 3 w 0 [(0, .ref t), (1, .int a0)] [] none w'
  unfold fX10_weigh at h
  refine jr_aload_n dX10_weigh_0 rfl 0 rfl ?_
  refine jr_iload_n dX10_weigh_1 rfl 1 rfl ?_
  refine j_callVv lk_X10_35 wIM_X10_hasAll wSE_X10_hasAll h0 (by decide) rfl (tX10_hasAll h0 (a0 := a0) (t := t) (w := w)) (by omega) rfl rfl (Nat.le_of_ble_eq_true rfl) dX10_weigh_2 ?_
  refine jr_if_ne (tgt := 9) (nxt := 8) dX10_weigh_5 (by decide) rfl (fun hc => ?_) (fun hc => ?_)
  · replace h := drvE hc h
    refine jr_aload_n dX10_weigh_9 rfl 0 rfl ?_
    obtain ⟨w_2, hq_1, h⟩ := drvB h
    refine j_callVn lk_X10_38 wIM_X10_gatherSayings wSE_X10_gatherSayings h0 (by decide) rfl (tX10_gatherSayings h0 hq_1) (by omega) rfl rfl (Nat.le_of_ble_eq_true rfl) dX10_weigh_10 ?_
    refine jr_iconst (v := (0 : Int32)) dX10_weigh_13 (by decide) ?_
    refine jr_istore_n (lv' := [(2, .int (0 : Int32)), (0, .ref t), (1, .int a0)]) dX10_weigh_14 rfl (by decide) rfl ?_
    refine jr_sub [1, 2, 0] rfl ?_
    refine hlX10_weigh_15 h0  _ _ _ h
  · replace h := drvT hc h
    obtain rfl := drvS1 h
    exact jr_vret rfl dX10_weigh_8
set_option maxHeartbeats 4000000 in
set_option maxRecDepth 100000 in
theorem tX1_clear {t : Nat} {w : jWd} {w' : jWd} (h0 : kd t = 1) (h : fX1_clear t w = some w') : JM yX1_clear MX1_clear 1 [.ref t] w none w' := by
  refine jm_of pl_X1 rfl (Nat.le_of_ble_eq_true rfl) ?_
  show J MX1_clear 1 w 0 [(0, .ref t)] [] none w'
  unfold fX1_clear at h
  refine jr_aload_n dX1_clear_0 rfl 0 rfl ?_
  refine jr_iconst (v := (0 : Int32)) dX1_clear_1 (by decide) ?_
  refine pf_X1_31 rfl h0 dX1_clear_2 ?_
  refine j_nmw (fun w_1 e_2 => ?_)
  replace h := drvL e_2 h
  refine jr_aload_n dX1_clear_5 rfl 0 rfl ?_
  refine jr_iconst (v := (0 : Int32)) dX1_clear_6 (by decide) ?_
  refine pf_X1_35 rfl h0 dX1_clear_7 ?_
  refine j_nmw (fun w_3 e_4 => ?_)
  replace h := drvL e_4 h
  obtain rfl := drvS1 h
  exact jr_vret rfl dX1_clear_10
set_option maxHeartbeats 4000000 in
set_option maxRecDepth 100000 in
theorem tX1_copy {t : Nat} {a0 : Nat} {w : jWd} {w' : jWd} (h0 : kd t = 1) (hk_a0 : kd a0 = 1) (h : fX1_copy t a0 w = some w') : JM yX1_copy MX1_copy 1 [.ref t, .ref a0] w none w' := by
  refine jm_of pl_X1 rfl (Nat.le_of_ble_eq_true rfl) ?_
  show J MX1_copy 1 w 0 [(0, .ref t), (1, .ref a0)] [] none w'
  unfold fX1_copy at h
  refine jr_aload_n dX1_copy_0 rfl 0 rfl ?_
  refine jr_aload_n dX1_copy_1 rfl 1 rfl ?_
  refine gf_X1_31 rfl hk_a0 dX1_copy_2 ?_
  refine pf_X1_31 rfl h0 dX1_copy_5 ?_
  refine j_nmw (fun w_1 e_2 => ?_)
  replace h := drvL e_2 h
  refine jr_aload_n dX1_copy_8 rfl 0 rfl ?_
  refine jr_aload_n dX1_copy_9 rfl 1 rfl ?_
  refine gf_X1_35 rfl hk_a0 dX1_copy_10 ?_
  refine pf_X1_35 rfl h0 dX1_copy_13 ?_
  refine j_nmw (fun w_3 e_4 => ?_)
  replace h := drvL e_4 h
  refine jr_aload_n dX1_copy_16 rfl 1 rfl ?_
  refine gf_X1_11 (r := (a0 + 1)) rfl hk_a0 rfl dX1_copy_17 ?_
  refine jr_iconst (v := (0 : Int32)) dX1_copy_20 (by decide) ?_
  refine jr_aload_n dX1_copy_21 rfl 0 rfl ?_
  refine gf_X1_11 (r := (t + 1)) rfl h0 rfl dX1_copy_22 ?_
  refine jr_iconst (v := (0 : Int32)) dX1_copy_25 (by decide) ?_
  refine jr_bipush (v := (12 : Int32)) dX1_copy_26 (by decide) ?_
  obtain ⟨hg_7, h⟩ := drvC h
  refine jr_copyJ wML_X1_38 (by decide) (Nat.le_of_ble_eq_true rfl) (kr_1_1 hk_a0) (kr_1_1 h0) hg_7 dX1_copy_28 ?_
  refine j_nmw (fun w_5 e_6 => ?_)
  replace h := drvL e_6 h
  refine jr_aload_n dX1_copy_31 rfl 1 rfl ?_
  refine gf_X1_15 (r := (a0 + 2)) rfl hk_a0 rfl dX1_copy_32 ?_
  refine jr_iconst (v := (0 : Int32)) dX1_copy_35 (by decide) ?_
  refine jr_aload_n dX1_copy_36 rfl 0 rfl ?_
  refine gf_X1_15 (r := (t + 2)) rfl h0 rfl dX1_copy_37 ?_
  refine jr_iconst (v := (0 : Int32)) dX1_copy_40 (by decide) ?_
  refine jr_bipush (v := (12 : Int32)) dX1_copy_41 (by decide) ?_
  obtain ⟨hg_10, h⟩ := drvC h
  refine jr_copyJ wML_X1_38 (by decide) (Nat.le_of_ble_eq_true rfl) (kr_1_2 hk_a0) (kr_1_2 h0) hg_10 dX1_copy_43 ?_
  refine j_nmw (fun w_8 e_9 => ?_)
  replace h := drvL e_9 h
  refine jr_aload_n dX1_copy_46 rfl 1 rfl ?_
  refine gf_X1_18 (r := (a0 + 3)) rfl hk_a0 rfl dX1_copy_47 ?_
  refine jr_iconst (v := (0 : Int32)) dX1_copy_50 (by decide) ?_
  refine jr_aload_n dX1_copy_51 rfl 0 rfl ?_
  refine gf_X1_18 (r := (t + 3)) rfl h0 rfl dX1_copy_52 ?_
  refine jr_iconst (v := (0 : Int32)) dX1_copy_55 (by decide) ?_
  refine jr_bipush (v := (12 : Int32)) dX1_copy_56 (by decide) ?_
  obtain ⟨hg_13, h⟩ := drvC h
  refine jr_copyI wML_X1_38 (by decide) (Nat.le_of_ble_eq_true rfl) (kr_1_3 hk_a0) (kr_1_3 h0) hg_13 dX1_copy_58 ?_
  refine j_nmw (fun w_11 e_12 => ?_)
  replace h := drvL e_12 h
  refine jr_aload_n dX1_copy_61 rfl 1 rfl ?_
  refine gf_X1_22 (r := (a0 + 4)) rfl hk_a0 rfl dX1_copy_62 ?_
  refine jr_iconst (v := (0 : Int32)) dX1_copy_65 (by decide) ?_
  refine jr_aload_n dX1_copy_66 rfl 0 rfl ?_
  refine gf_X1_22 (r := (t + 4)) rfl h0 rfl dX1_copy_67 ?_
  refine jr_iconst (v := (0 : Int32)) dX1_copy_70 (by decide) ?_
  refine jr_bipush (v := (12 : Int32)) dX1_copy_71 (by decide) ?_
  obtain ⟨hg_16, h⟩ := drvC h
  refine jr_copyI wML_X1_38 (by decide) (Nat.le_of_ble_eq_true rfl) (kr_1_4 hk_a0) (kr_1_4 h0) hg_16 dX1_copy_73 ?_
  refine j_nmw (fun w_14 e_15 => ?_)
  replace h := drvL e_15 h
  refine jr_aload_n dX1_copy_76 rfl 1 rfl ?_
  refine gf_X1_25 (r := (a0 + 5)) rfl hk_a0 rfl dX1_copy_77 ?_
  refine jr_iconst (v := (0 : Int32)) dX1_copy_80 (by decide) ?_
  refine jr_aload_n dX1_copy_81 rfl 0 rfl ?_
  refine gf_X1_25 (r := (t + 5)) rfl h0 rfl dX1_copy_82 ?_
  refine jr_iconst (v := (0 : Int32)) dX1_copy_85 (by decide) ?_
  refine jr_sipush (v := (200 : Int32)) dX1_copy_86 (by decide) ?_
  obtain ⟨hg_19, h⟩ := drvC h
  refine jr_copyI wML_X1_38 (by decide) (Nat.le_of_ble_eq_true rfl) (kr_1_5 hk_a0) (kr_1_5 h0) hg_19 dX1_copy_89 ?_
  refine j_nmw (fun w_17 e_18 => ?_)
  replace h := drvL e_18 h
  refine jr_aload_n dX1_copy_92 rfl 1 rfl ?_
  refine gf_X1_28 (r := (a0 + 6)) rfl hk_a0 rfl dX1_copy_93 ?_
  refine jr_iconst (v := (0 : Int32)) dX1_copy_96 (by decide) ?_
  refine jr_aload_n dX1_copy_97 rfl 0 rfl ?_
  refine gf_X1_28 (r := (t + 6)) rfl h0 rfl dX1_copy_98 ?_
  refine jr_iconst (v := (0 : Int32)) dX1_copy_101 (by decide) ?_
  refine jr_sipush (v := (200 : Int32)) dX1_copy_102 (by decide) ?_
  obtain ⟨hg_22, h⟩ := drvC h
  refine jr_copyI wML_X1_38 (by decide) (Nat.le_of_ble_eq_true rfl) (kr_1_6 hk_a0) (kr_1_6 h0) hg_22 dX1_copy_105 ?_
  refine j_nmw (fun w_20 e_21 => ?_)
  replace h := drvL e_21 h
  obtain rfl := drvS1 h
  exact jr_vret rfl dX1_copy_108
set_option maxHeartbeats 4000000 in
set_option maxRecDepth 100000 in
theorem tX1_emit {t : Nat} {a0 : Int32} {a1 : Int32} {w : jWd} {w' : jWd} (h0 : kd t = 1) (h : fX1_emit t a0 a1 w = some w') : JM yX1_emit MX1_emit 1 [.ref t, .int a0, .int a1] w none w' := by
  refine jm_of pl_X1 rfl (Nat.le_of_ble_eq_true rfl) ?_
  show J MX1_emit 1 w 0 [(0, .ref t), (1, .int a0), (2, .int a1)] [] none w'
  unfold fX1_emit at h
  refine jr_aload_n dX1_emit_0 rfl 0 rfl ?_
  refine gf_X1_35 rfl h0 dX1_emit_1 ?_
  refine jr_sipush (v := (200 : Int32)) dX1_emit_4 (by decide) ?_
  refine jr_icmp_lt (tgt := 11) (nxt := 10) dX1_emit_7 (by decide) rfl (fun hc => ?_) (fun hc => ?_)
  · replace h := drvT hc h
    refine jr_aload_n dX1_emit_11 rfl 0 rfl ?_
    refine gf_X1_25 (r := (t + 5)) rfl h0 rfl dX1_emit_12 ?_
    refine jr_aload_n dX1_emit_15 rfl 0 rfl ?_
    refine gf_X1_35 rfl h0 dX1_emit_16 ?_
    refine jr_iload_n dX1_emit_19 rfl 1 rfl ?_
    obtain ⟨hg_3, h⟩ := drvG h
    refine jr_iast (kr_1_5 h0) hg_3 dX1_emit_20 ?_
    refine j_nmw (fun w_1 e_2 => ?_)
    replace h := drvL e_2 h
    refine jr_aload_n dX1_emit_21 rfl 0 rfl ?_
    refine gf_X1_28 (r := (t + 6)) rfl h0 rfl dX1_emit_22 ?_
    refine jr_aload_n dX1_emit_25 rfl 0 rfl ?_
    refine gf_X1_35 rfl h0 dX1_emit_26 ?_
    refine jr_iload_n dX1_emit_29 rfl 2 rfl ?_
    obtain ⟨hg_6, h⟩ := drvG h
    refine jr_iast (kr_1_6 h0) hg_6 dX1_emit_30 ?_
    refine j_nmw (fun w_4 e_5 => ?_)
    replace h := drvL e_5 h
    refine jr_aload_n dX1_emit_31 rfl 0 rfl ?_
    refine jr_dup dX1_emit_32 rfl ?_
    refine gf_X1_35 rfl h0 dX1_emit_33 ?_
    refine jr_iconst (v := (1 : Int32)) dX1_emit_36 (by decide) ?_
    refine jr_iadd dX1_emit_37 ?_
    refine pf_X1_35 rfl h0 dX1_emit_38 ?_
    refine j_nmw (fun w_7 e_8 => ?_)
    replace h := drvL e_8 h
    obtain rfl := drvS1 h
    exact jr_vret rfl dX1_emit_41
  · replace h := drvE hc h
    obtain rfl := drvS1 h
    exact jr_vret rfl dX1_emit_10
set_option maxHeartbeats 4000000 in
set_option maxRecDepth 100000 in
theorem hbX4_places_8 {n : Nat} {p2 : Int32} {w : jWd} {r : Int32} {rec : Int32 → Int64 → Int32 → Option Int32} 
    (hrec : ∀ (x3 : Int32) (x4 : Int64) (x6 : Int32) , rec x3 x4 x6 = some r → J MX4_places 1 w 8 [(2, .int p2), (3, .int x3), (4, .long x4), (6, .int x6)] [] (some (.int r)) w) : ∀ (x3 : Int32) (x4 : Int64) (x6 : Int32) , bX4_places_8 n p2 rec x3 x4 x6 = some r → J MX4_places 1 w 8 [(2, .int p2), (3, .int x3), (4, .long x4), (6, .int x6)] [] (some (.int r)) w := by
  intro x3 x4 x6 h
  unfold bX4_places_8 at h
  refine jr_iload dX4_places_8 3 rfl ?_
  refine jr_bipush (v := (8 : Int32)) dX4_places_10 (by decide) ?_
  refine jr_icmp_ge (tgt := 52) (nxt := 15) dX4_places_12 (by decide) rfl (fun hc => ?_) (fun hc => ?_)
  · replace h := drvT hc h
    refine jr_iload_n dX4_places_52 rfl 1 rfl ?_
    obtain rfl := drvS1 h
    exact jr_iret rfl dX4_places_53
  · replace h := drvE hc h
    refine jr_lload dX4_places_15 2 rfl ?_
    refine jr_lconst (v := (0 : Int64)) dX4_places_17 rfl ?_
    refine jr_lcmp dX4_places_18 ?_
    refine jr_if_eq (tgt := 52) (nxt := 22) dX4_places_19 (by decide) rfl (fun hc => ?_) (fun hc => ?_)
    · replace h := drvT hc h
      refine jr_iload_n dX4_places_52 rfl 1 rfl ?_
      obtain rfl := drvS1 h
      exact jr_iret rfl dX4_places_53
    · replace h := drvE hc h
      refine jr_lload dX4_places_22 2 rfl ?_
      refine jr_bipush (v := (56 : Int32)) dX4_places_24 (by decide) ?_
      refine jr_lushr dX4_places_26 ?_
      refine jr_l2i dX4_places_27 ?_
      refine jr_iload_n dX4_places_28 rfl 0 rfl ?_
      obtain ⟨j39_2, ej39_2, h⟩ := drvF h
      have hj39_2 : ∀ (y3_1 : Int32), j39_2 y3_1 = some r → J MX4_places 1 w 39 [(2, .int p2), (3, .int y3_1), (4, .long x4), (6, .int x6)] [] (some (.int r)) w := by
        intro y3_1 h
        rw [ej39_2] at h
        try dsimp only at h
        refine jr_lload dX4_places_39 2 rfl ?_
        refine jr_bipush (v := (8 : Int32)) dX4_places_41 (by decide) ?_
        refine jr_lshl dX4_places_43 ?_
        refine j_nml (fun x4_3 e_4 => ?_)
        replace h := drvL e_4 h
        refine jr_lstore (lv' := [(4, .long x4_3), (2, .int p2), (3, .int y3_1), (6, .int x6)]) dX4_places_44 (by decide) rfl ?_
        refine jr_iincN (c := (1 : Int32)) (lv' := fun (x6_5 : Int32) => [(6, .int x6_5), (4, .long x4_3), (2, .int p2), (3, .int y3_1)]) dX4_places_46 (by decide) 3 rfl (by decide) (fun _ => rfl) (fun x6_5 e_6 => ?_)
        replace h := drvL e_6 h
        refine jr_goto (tgt := 8) dX4_places_49 (by decide) ?_
        refine jr_sub [2, 3, 1, 0] rfl ?_
        exact hrec _ _ _ h
      refine jr_icmp_ne (tgt := 39) (nxt := 32) dX4_places_29 (by decide) rfl (fun hc => ?_) (fun hc => ?_)
      · replace h := drvE hc h
        refine jr_sub [0, 1, 2, 3] rfl ?_
        exact hj39_2 _ h
      · replace h := drvT hc h
        refine jr_iload_n dX4_places_32 rfl 1 rfl ?_
        refine jr_iconst (v := (1 : Int32)) dX4_places_33 (by decide) ?_
        refine jr_iload dX4_places_34 3 rfl ?_
        refine jr_ishl dX4_places_36 ?_
        refine jr_ior dX4_places_37 ?_
        refine j_nmi (fun x3_7 e_8 => ?_)
        replace h := drvL e_8 h
        refine jr_istore_n (lv' := [(3, .int x3_7), (2, .int p2), (4, .long x4), (6, .int x6)]) dX4_places_38 rfl (by decide) rfl ?_
        refine jr_sub [1, 0, 2, 3] rfl ?_
        exact hj39_2 _ h
theorem hlX4_places_8 {n : Nat} {p2 : Int32} {w : jWd} {r : Int32}  : ∀ (c : Nat) (x3 : Int32) (x4 : Int64) (x6 : Int32) , lX4_places_8 n p2 c x3 x4 x6 = some r → J MX4_places 1 w 8 [(2, .int p2), (3, .int x3), (4, .long x4), (6, .int x6)] [] (some (.int r)) w := by
  intro c
  induction c with
  | zero => intro x3 x4 x6 h; cases h
  | succ c ih => intro x3 x4 x6 h; exact hbX4_places_8 (n := n) ih _ _ _ h
set_option maxHeartbeats 4000000 in
set_option maxRecDepth 100000 in
theorem tX4_places {n : Nat} {a0 : Int64} {a1 : Int32} {w : jWd} {r : Int32}  (h : fX4_places n a0 a1 = some r) : JM yX4_places MX4_places 1 [.long a0, .int a1] w (some (.int r)) w := by
  refine jm_of pl_X4 rfl (Nat.le_of_ble_eq_true rfl) ?_
  show J MX4_places 1 w 0 [(0, .long a0), (2, .int a1)] [] (some (.int r)) w
  unfold fX4_places at h
  refine jr_iconst (v := (0 : Int32)) dX4_places_0 (by decide) ?_
  refine jr_istore_n (lv' := [(3, .int (0 : Int32)), (0, .long a0), (2, .int a1)]) dX4_places_1 rfl (by decide) rfl ?_
  refine jr_lload_n dX4_places_2 rfl 1 rfl ?_
  refine jr_lstore (lv' := [(4, .long a0), (3, .int (0 : Int32)), (0, .long a0), (2, .int a1)]) dX4_places_3 (by decide) rfl ?_
  refine jr_iconst (v := (0 : Int32)) dX4_places_5 (by decide) ?_
  refine jr_istore (lv' := [(6, .int (0 : Int32)), (4, .long a0), (3, .int (0 : Int32)), (0, .long a0), (2, .int a1)]) dX4_places_6 (by decide) rfl ?_
  refine jr_sub [4, 2, 1, 0] rfl ?_
  refine hlX4_places_8   _ _ _ _ h
set_option maxHeartbeats 4000000 in
set_option maxRecDepth 100000 in
theorem tX4_word {a0 : Int64} {a1 : Int32} {w : jWd}  : JM yX4_word MX4_word 1 [.long a0, .int a1] w (some (.int (fX4_word a0 a1))) w := by
  refine jm_of pl_X4 rfl (Nat.le_of_ble_eq_true rfl) ?_
  show J MX4_word 1 w 0 [(0, .long a0), (2, .int a1)] [] (some (.int (fX4_word a0 a1))) w
  generalize h : (fX4_word a0 a1) = r
  unfold fX4_word at h
  refine jr_lload_n dX4_word_0 rfl 0 rfl ?_
  refine jr_bipush (v := (56 : Int32)) dX4_word_1 (by decide) ?_
  refine jr_bipush (v := (8 : Int32)) dX4_word_3 (by decide) ?_
  refine jr_iload_n dX4_word_5 rfl 1 rfl ?_
  refine jr_imul dX4_word_6 ?_
  refine jr_isub dX4_word_7 ?_
  refine jr_lushr dX4_word_8 ?_
  refine jr_l2i dX4_word_9 ?_
  refine jr_sipush (v := (255 : Int32)) dX4_word_10 (by decide) ?_
  refine jr_iand dX4_word_13 ?_
  subst h
  exact jr_iret rfl dX4_word_14
set_option maxHeartbeats 4000000 in
set_option maxRecDepth 100000 in
theorem hbX4_length_2 {n : Nat} {p0 : Int64} {w : jWd} {r : Int32} {rec : Int32 → Option Int32} 
    (hrec : ∀ (x2 : Int32) , rec x2 = some r → J MX4_length 2 w 2 [(0, .long p0), (2, .int x2)] [] (some (.int r)) w) : ∀ (x2 : Int32) , bX4_length_2 n p0 rec x2 = some r → J MX4_length 2 w 2 [(0, .long p0), (2, .int x2)] [] (some (.int r)) w := by
  intro x2 h
  unfold bX4_length_2 at h
  refine jr_iload_n dX4_length_2 rfl 1 rfl ?_
  refine jr_bipush (v := (8 : Int32)) dX4_length_3 (by decide) ?_
  refine jr_icmp_ge (tgt := 24) (nxt := 8) dX4_length_5 (by decide) rfl (fun hc => ?_) (fun hc => ?_)
  · replace h := drvT hc h
    refine jr_bipush (v := (8 : Int32)) dX4_length_24 (by decide) ?_
    obtain rfl := drvS1 h
    exact jr_iret rfl dX4_length_26
  · replace h := drvE hc h
    refine jr_lload_n dX4_length_8 rfl 0 rfl ?_
    refine jr_iload_n dX4_length_9 rfl 1 rfl ?_
    refine j_callSv lk_X4_9 wST_X4_word (tX4_word  (a0 := p0) (a1 := x2) (w := w)) (by omega) rfl rfl (Nat.le_of_ble_eq_true rfl) dX4_length_10 ?_
    refine jr_if_ne (tgt := 18) (nxt := 16) dX4_length_13 (by decide) rfl (fun hc => ?_) (fun hc => ?_)
    · replace h := drvE hc h
      refine jr_iincN (c := (1 : Int32)) (lv' := fun (x2_1 : Int32) => [(2, .int x2_1), (0, .long p0)]) dX4_length_18 (by decide) 1 rfl (by decide) (fun _ => rfl) (fun x2_1 e_2 => ?_)
      replace h := drvL e_2 h
      refine jr_goto (tgt := 2) dX4_length_21 (by decide) ?_
      refine jr_sub [1, 0] rfl ?_
      exact hrec _ h
    · replace h := drvT hc h
      refine jr_iload_n dX4_length_16 rfl 1 rfl ?_
      obtain rfl := drvS1 h
      exact jr_iret rfl dX4_length_17
theorem hlX4_length_2 {n : Nat} {p0 : Int64} {w : jWd} {r : Int32}  : ∀ (c : Nat) (x2 : Int32) , lX4_length_2 n p0 c x2 = some r → J MX4_length 2 w 2 [(0, .long p0), (2, .int x2)] [] (some (.int r)) w := by
  intro c
  induction c with
  | zero => intro x2 h; cases h
  | succ c ih => intro x2 h; exact hbX4_length_2 (n := n) ih _ h
set_option maxHeartbeats 4000000 in
set_option maxRecDepth 100000 in
theorem tX4_length {n : Nat} {a0 : Int64} {w : jWd} {r : Int32}  (h : fX4_length n a0 = some r) : JM yX4_length MX4_length 2 [.long a0] w (some (.int r)) w := by
  refine jm_of pl_X4 rfl (Nat.le_of_ble_eq_true rfl) ?_
  show J MX4_length 2 w 0 [(0, .long a0)] [] (some (.int r)) w
  unfold fX4_length at h
  refine jr_iconst (v := (0 : Int32)) dX4_length_0 (by decide) ?_
  refine jr_istore_n (lv' := [(2, .int (0 : Int32)), (0, .long a0)]) dX4_length_1 rfl (by decide) rfl ?_
  refine jr_sub [1, 0] rfl ?_
  refine hlX4_length_2   _ _ h
set_option maxHeartbeats 4000000 in
set_option maxRecDepth 100000 in
theorem tX1_taken {n : Nat} {t : Nat} {a0 : Int64} {a1 : Int32} {a2 : Int64} {a3 : Int32} {w : jWd} {r : Int64} (h0 : kd t = 1) (h : fX1_taken n t a0 a1 a2 a3 w = some r) : JM yX1_taken MX1_taken 3 [.ref t, .long a0, .int a1, .long a2, .int a3] w (some (.long r)) w := by
  refine jm_of pl_X1 rfl (Nat.le_of_ble_eq_true rfl) ?_
  show J MX1_taken 3 w 0 [(0, .ref t), (1, .long a0), (3, .int a1), (4, .long a2), (6, .int a3)] [] (some (.long r)) w
  unfold fX1_taken at h
  refine jr_aload_n dX1_taken_0 rfl 0 rfl ?_
  refine gf_X1_25 (r := (t + 5)) rfl h0 rfl dX1_taken_1 ?_
  refine jr_iload_n dX1_taken_4 rfl 2 rfl ?_
  obtain ⟨hg_1, h⟩ := drvG h
  refine jr_iald (kr_1_5 h0) hg_1 dX1_taken_5 ?_
  by_cases hs_2 : (wI w (t + 5) (a1).toNatClampNeg) = (8 : Int32)
  · replace h := drvT hs_2 h
    refine jr_tableK (tgt := 54) dX1_taken_6 hs_2 (by decide) (by decide) rfl (by decide) ?_
    refine jr_lload_n dX1_taken_54 rfl 1 rfl ?_
    refine jr_iconst (v := (1 : Int32)) dX1_taken_55 (by decide) ?_
    refine jr_lushr dX1_taken_56 ?_
    refine jr_lload_n dX1_taken_57 rfl 1 rfl ?_
    refine jr_lconst (v := (1 : Int64)) dX1_taken_58 rfl ?_
    refine jr_land dX1_taken_59 ?_
    refine jr_lor dX1_taken_60 ?_
    obtain rfl := drvS1 h
    exact jr_lret rfl dX1_taken_61
  replace h := drvE hs_2 h
  by_cases hs_3 : (wI w (t + 5) (a1).toNatClampNeg) = (9 : Int32)
  · replace h := drvT hs_3 h
    refine jr_tableK (tgt := 44) dX1_taken_6 hs_3 (by decide) (by decide) rfl (by decide) ?_
    refine jr_lload_n dX1_taken_44 rfl 1 rfl ?_
    refine jr_iconst (v := (1 : Int32)) dX1_taken_45 (by decide) ?_
    refine jr_lushr dX1_taken_46 ?_
    refine jr_lload_n dX1_taken_47 rfl 1 rfl ?_
    refine jr_ldc2 (v := (-2 : Int64)) wCC_X1_75 dX1_taken_48 ?_
    refine jr_lor dX1_taken_51 ?_
    refine jr_land dX1_taken_52 ?_
    obtain rfl := drvS1 h
    exact jr_lret rfl dX1_taken_53
  replace h := drvE hs_3 h
  by_cases hs_4 : (wI w (t + 5) (a1).toNatClampNeg) = (10 : Int32)
  · replace h := drvT hs_4 h
    refine jr_tableK (tgt := 40) dX1_taken_6 hs_4 (by decide) (by decide) rfl (by decide) ?_
    refine jr_lload_n dX1_taken_40 rfl 1 rfl ?_
    refine jr_lconst (v := (1 : Int64)) dX1_taken_41 rfl ?_
    refine jr_lxor dX1_taken_42 ?_
    obtain rfl := drvS1 h
    exact jr_lret rfl dX1_taken_43
  replace h := drvE hs_4 h
  by_cases hs_5 : (wI w (t + 5) (a1).toNatClampNeg) = (11 : Int32)
  · replace h := drvT hs_5 h
    refine jr_tableK (tgt := 62) dX1_taken_6 hs_5 (by decide) (by decide) rfl (by decide) ?_
    refine jr_lload_n dX1_taken_62 rfl 1 rfl ?_
    refine jr_iconst (v := (1 : Int32)) dX1_taken_63 (by decide) ?_
    refine jr_lshl dX1_taken_64 ?_
    refine jr_lload dX1_taken_65 3 rfl ?_
    refine jr_aload_n dX1_taken_67 rfl 0 rfl ?_
    refine gf_X1_28 (r := (t + 6)) rfl h0 rfl dX1_taken_68 ?_
    refine jr_iload_n dX1_taken_71 rfl 2 rfl ?_
    obtain ⟨hg_6, h⟩ := drvG h
    refine jr_iald (kr_1_6 h0) hg_6 dX1_taken_72 ?_
    obtain ⟨r_8, hq_7, h⟩ := drvB h
    refine j_callSv lk_X1_77 wST_X4_places (tX4_places  hq_7) (by omega) rfl rfl (Nat.le_of_ble_eq_true rfl) dX1_taken_73 ?_
    refine jr_if_eq (tgt := 83) (nxt := 79) dX1_taken_76 (by decide) rfl (fun hc => ?_) (fun hc => ?_)
    · replace h := drvT hc h
      refine jr_iconst (v := (0 : Int32)) dX1_taken_83 (by decide) ?_
      refine jr_i2l dX1_taken_84 ?_
      refine jr_lor dX1_taken_85 ?_
      obtain rfl := drvS1 h
      exact jr_lret rfl dX1_taken_86
    · replace h := drvE hc h
      refine jr_iconst (v := (1 : Int32)) dX1_taken_79 (by decide) ?_
      refine jr_goto (tgt := 84) dX1_taken_80 (by decide) ?_
      refine jr_i2l dX1_taken_84 ?_
      refine jr_lor dX1_taken_85 ?_
      obtain rfl := drvS1 h
      exact jr_lret rfl dX1_taken_86
  replace h := drvE hs_5 h
  by_cases hs_9 : (wI w (t + 5) (a1).toNatClampNeg) = (12 : Int32)
  · replace h := drvT hs_9 h
    refine jr_tableK (tgt := 87) dX1_taken_6 hs_9 (by decide) (by decide) rfl (by decide) ?_
    refine jr_lload_n dX1_taken_87 rfl 1 rfl ?_
    refine jr_iconst (v := (1 : Int32)) dX1_taken_88 (by decide) ?_
    refine jr_lshl dX1_taken_89 ?_
    refine jr_lload dX1_taken_90 3 rfl ?_
    obtain ⟨r_11, hq_10, h⟩ := drvB h
    refine j_callSv lk_X1_56 wST_X4_length (tX4_length  hq_10) (by omega) rfl rfl (Nat.le_of_ble_eq_true rfl) dX1_taken_92 ?_
    refine jr_aload_n dX1_taken_95 rfl 0 rfl ?_
    refine gf_X1_28 (r := (t + 6)) rfl h0 rfl dX1_taken_96 ?_
    refine jr_iload_n dX1_taken_99 rfl 2 rfl ?_
    obtain ⟨hg_12, h⟩ := drvG h
    refine jr_iald (kr_1_6 h0) hg_12 dX1_taken_100 ?_
    refine jr_icmp_lt (tgt := 108) (nxt := 104) dX1_taken_101 (by decide) rfl (fun hc => ?_) (fun hc => ?_)
    · replace h := drvT hc h
      refine jr_iconst (v := (0 : Int32)) dX1_taken_108 (by decide) ?_
      refine jr_i2l dX1_taken_109 ?_
      refine jr_lor dX1_taken_110 ?_
      obtain rfl := drvS1 h
      exact jr_lret rfl dX1_taken_111
    · replace h := drvE hc h
      refine jr_iconst (v := (1 : Int32)) dX1_taken_104 (by decide) ?_
      refine jr_goto (tgt := 109) dX1_taken_105 (by decide) ?_
      refine jr_i2l dX1_taken_109 ?_
      refine jr_lor dX1_taken_110 ?_
      obtain rfl := drvS1 h
      exact jr_lret rfl dX1_taken_111
  replace h := drvE hs_9 h
  refine jr_tableOut (tgt := 112) dX1_taken_6 (by have a0 := lv_neT hs_2 (show (8 : Int32).toInt = 8 from rfl); have a1 := lv_neT hs_3 (show (9 : Int32).toInt = 9 from rfl); have a2 := lv_neT hs_4 (show (10 : Int32).toInt = 10 from rfl); have a3 := lv_neT hs_5 (show (11 : Int32).toInt = 11 from rfl); have a4 := lv_neT hs_9 (show (12 : Int32).toInt = 12 from rfl); omega) (by decide) ?_
  refine jr_lload_n dX1_taken_112 rfl 1 rfl ?_
  refine jr_iconst (v := (1 : Int32)) dX1_taken_113 (by decide) ?_
  refine jr_lshl dX1_taken_114 ?_
  refine jr_iload dX1_taken_115 4 rfl ?_
  refine jr_aload_n dX1_taken_117 rfl 0 rfl ?_
  refine gf_X1_28 (r := (t + 6)) rfl h0 rfl dX1_taken_118 ?_
  refine jr_iload_n dX1_taken_121 rfl 2 rfl ?_
  obtain ⟨hg_13, h⟩ := drvG h
  refine jr_iald (kr_1_6 h0) hg_13 dX1_taken_122 ?_
  refine jr_icmp_ne (tgt := 130) (nxt := 126) dX1_taken_123 (by decide) rfl (fun hc => ?_) (fun hc => ?_)
  · replace h := drvE hc h
    refine jr_iconst (v := (0 : Int32)) dX1_taken_130 (by decide) ?_
    refine jr_i2l dX1_taken_131 ?_
    refine jr_lor dX1_taken_132 ?_
    obtain rfl := drvS1 h
    exact jr_lret rfl dX1_taken_133
  · replace h := drvT hc h
    refine jr_iconst (v := (1 : Int32)) dX1_taken_126 (by decide) ?_
    refine jr_goto (tgt := 131) dX1_taken_127 (by decide) ?_
    refine jr_i2l dX1_taken_131 ?_
    refine jr_lor dX1_taken_132 ?_
    obtain rfl := drvS1 h
    exact jr_lret rfl dX1_taken_133
set_option maxHeartbeats 4000000 in
set_option maxRecDepth 100000 in
theorem hbX1_holds_28 {n : Nat} {t : Nat} {p1 : Int32} {p2 : Int64} {p4 : Int32} {k66 : Int64 → (Option Int32)} {w : jWd} {r : Int32} {rec : Int64 → Int32 → Option Int32} (h0 : kd t = 1) (hk66 : ∀ (z5 : Int64), k66 z5 = some r → J MX1_holds 4 w 66 [(5, .long z5)] [] (some (.int r)) w)
    (hrec : ∀ (x5 : Int64) (x7 : Int32) , rec x5 x7 = some r → J MX1_holds 4 w 28 [(0, .ref t), (1, .int p1), (2, .long p2), (4, .int p4), (5, .long x5), (7, .int x7)] [] (some (.int r)) w) : ∀ (x5 : Int64) (x7 : Int32) , bX1_holds_28 n t p1 p2 p4 k66 w rec x5 x7 = some r → J MX1_holds 4 w 28 [(0, .ref t), (1, .int p1), (2, .long p2), (4, .int p4), (5, .long x5), (7, .int x7)] [] (some (.int r)) w := by
  intro x5 x7 h
  unfold bX1_holds_28 at h
  refine jr_iload dX1_holds_28 5 rfl ?_
  refine jr_aload_n dX1_holds_30 rfl 0 rfl ?_
  refine gf_X1_22 (r := (t + 4)) rfl h0 rfl dX1_holds_31 ?_
  refine jr_iload_n dX1_holds_34 rfl 1 rfl ?_
  obtain ⟨hg_6, h⟩ := drvG h
  refine jr_iald (kr_1_4 h0) hg_6 dX1_holds_35 ?_
  refine jr_icmp_ge (tgt := 66) (nxt := 39) dX1_holds_36 (by decide) rfl (fun hc => ?_) (fun hc => ?_)
  · replace h := drvT hc h
    refine jr_sub [4] rfl ?_
    exact hk66 _ h
  · replace h := drvE hc h
    refine jr_iload dX1_holds_39 5 rfl ?_
    refine jr_sipush (v := (200 : Int32)) dX1_holds_41 (by decide) ?_
    refine jr_icmp_ge (tgt := 66) (nxt := 47) dX1_holds_44 (by decide) rfl (fun hc => ?_) (fun hc => ?_)
    · replace h := drvT hc h
      refine jr_sub [4] rfl ?_
      exact hk66 _ h
    · replace h := drvE hc h
      refine jr_aload_n dX1_holds_47 rfl 0 rfl ?_
      refine jr_lload dX1_holds_48 4 rfl ?_
      refine jr_iload dX1_holds_50 5 rfl ?_
      refine jr_lload_n dX1_holds_52 rfl 2 rfl ?_
      refine jr_iload dX1_holds_53 3 rfl ?_
      obtain ⟨r_8, hq_7, h⟩ := drvB h
      refine j_callVv lk_X1_71 wIM_X1_taken wSE_X1_taken h0 (by decide) rfl (tX1_taken h0 hq_7) (by omega) rfl rfl (Nat.le_of_ble_eq_true rfl) dX1_holds_55 ?_
      refine jr_lstore (lv' := [(5, .long r_8), (0, .ref t), (1, .int p1), (2, .long p2), (4, .int p4), (7, .int x7)]) dX1_holds_58 (by decide) rfl ?_
      refine jr_iincN (c := (1 : Int32)) (lv' := fun (x7_9 : Int32) => [(7, .int x7_9), (5, .long r_8), (0, .ref t), (1, .int p1), (2, .long p2), (4, .int p4)]) dX1_holds_60 (by decide) 5 rfl (by decide) (fun _ => rfl) (fun x7_9 e_10 => ?_)
      replace h := drvL e_10 h
      refine jr_goto (tgt := 28) dX1_holds_63 (by decide) ?_
      refine jr_sub [2, 3, 4, 5, 1, 0] rfl ?_
      exact hrec _ _ h
theorem hlX1_holds_28 {n : Nat} {t : Nat} {p1 : Int32} {p2 : Int64} {p4 : Int32} {k66 : Int64 → (Option Int32)} {w : jWd} {r : Int32} (h0 : kd t = 1) (hk66 : ∀ (z5 : Int64), k66 z5 = some r → J MX1_holds 4 w 66 [(5, .long z5)] [] (some (.int r)) w) : ∀ (c : Nat) (x5 : Int64) (x7 : Int32) , lX1_holds_28 n t p1 p2 p4 k66 w c x5 x7 = some r → J MX1_holds 4 w 28 [(0, .ref t), (1, .int p1), (2, .long p2), (4, .int p4), (5, .long x5), (7, .int x7)] [] (some (.int r)) w := by
  intro c
  induction c with
  | zero => intro x5 x7 h; cases h
  | succ c ih => intro x5 x7 h; exact hbX1_holds_28 (n := n) h0 hk66 ih _ _ h
set_option maxHeartbeats 4000000 in
set_option maxRecDepth 100000 in
theorem tX1_holds {n : Nat} {t : Nat} {a0 : Int32} {a1 : Int64} {a2 : Int32} {w : jWd} {r : Int32} (h0 : kd t = 1) (h : fX1_holds n t a0 a1 a2 w = some r) : JM yX1_holds MX1_holds 4 [.ref t, .int a0, .long a1, .int a2] w (some (.int r)) w := by
  refine jm_of pl_X1 rfl (Nat.le_of_ble_eq_true rfl) ?_
  show J MX1_holds 4 w 0 [(0, .ref t), (1, .int a0), (2, .long a1), (4, .int a2)] [] (some (.int r)) w
  unfold fX1_holds at h
  refine jr_aload_n dX1_holds_0 rfl 0 rfl ?_
  refine gf_X1_18 (r := (t + 3)) rfl h0 rfl dX1_holds_1 ?_
  refine jr_iload_n dX1_holds_4 rfl 1 rfl ?_
  obtain ⟨hg_1, h⟩ := drvG h
  refine jr_iald (kr_1_3 h0) hg_1 dX1_holds_5 ?_
  refine jr_aload_n dX1_holds_6 rfl 0 rfl ?_
  refine gf_X1_22 (r := (t + 4)) rfl h0 rfl dX1_holds_7 ?_
  refine jr_iload_n dX1_holds_10 rfl 1 rfl ?_
  obtain ⟨hg_2, h⟩ := drvG h
  refine jr_iald (kr_1_4 h0) hg_2 dX1_holds_11 ?_
  refine jr_icmp_lt (tgt := 17) (nxt := 15) dX1_holds_12 (by decide) rfl (fun hc => ?_) (fun hc => ?_)
  · replace h := drvT hc h
    refine jr_lconst (v := (0 : Int64)) dX1_holds_17 rfl ?_
    refine jr_lstore (lv' := [(5, .long (0 : Int64)), (0, .ref t), (1, .int a0), (2, .long a1), (4, .int a2)]) dX1_holds_18 (by decide) rfl ?_
    refine jr_aload_n dX1_holds_20 rfl 1 rfl ?_
    refine gf_X1_18 (r := (t + 3)) rfl h0 rfl dX1_holds_21 ?_
    refine jr_iload_n dX1_holds_24 rfl 2 rfl ?_
    obtain ⟨hg_3, h⟩ := drvG h
    refine jr_iald (kr_1_3 h0) hg_3 dX1_holds_25 ?_
    refine j_nmi (fun x7_4 e_5 => ?_)
    replace h := drvL e_5 h
    refine jr_istore (lv' := [(7, .int x7_4), (5, .long (0 : Int64)), (0, .ref t), (1, .int a0), (2, .long a1), (4, .int a2)]) dX1_holds_26 (by decide) rfl ?_
    refine jr_sub [2, 3, 4, 5, 1, 0] rfl ?_
    refine hlX1_holds_28 h0 ?_ _ _ _ h
    · intro z5_11 h
      try dsimp only at h
      refine jr_lload dX1_holds_66 0 rfl ?_
      refine jr_lconst (v := (1 : Int64)) dX1_holds_68 rfl ?_
      refine jr_land dX1_holds_69 ?_
      refine jr_lconst (v := (1 : Int64)) dX1_holds_70 rfl ?_
      refine jr_lcmp dX1_holds_71 ?_
      refine jr_if_ne (tgt := 79) (nxt := 75) dX1_holds_72 (by decide) rfl (fun hc => ?_) (fun hc => ?_)
      · replace h := drvE hc h
        refine jr_iconst (v := (0 : Int32)) dX1_holds_79 (by decide) ?_
        obtain rfl := drvS1 h
        exact jr_zret (ty := .boolean) rfl rfl dX1_holds_80
      · replace h := drvT hc h
        refine jr_iconst (v := (1 : Int32)) dX1_holds_75 (by decide) ?_
        refine jr_goto (tgt := 80) dX1_holds_76 (by decide) ?_
        obtain rfl := drvS1 h
        exact jr_zret (ty := .boolean) rfl rfl dX1_holds_80
  · replace h := drvE hc h
    refine jr_iconst (v := (1 : Int32)) dX1_holds_15 (by decide) ?_
    obtain rfl := drvS1 h
    exact jr_zret (ty := .boolean) rfl rfl dX1_holds_16
set_option maxHeartbeats 4000000 in
set_option maxRecDepth 100000 in
theorem tX1_put {t : Nat} {a0 : Int64} {a1 : Int64} {a2 : Int32} {w : jWd} {w' : jWd} (h0 : kd t = 1) (h : fX1_put t a0 a1 a2 w = some w') : JM yX1_put MX1_put 1 [.ref t, .long a0, .long a1, .int a2] w none w' := by
  refine jm_of pl_X1 rfl (Nat.le_of_ble_eq_true rfl) ?_
  show J MX1_put 1 w 0 [(0, .ref t), (1, .long a0), (3, .long a1), (5, .int a2)] [] none w'
  unfold fX1_put at h
  refine jr_aload_n dX1_put_0 rfl 0 rfl ?_
  refine gf_X1_31 rfl h0 dX1_put_1 ?_
  refine jr_bipush (v := (12 : Int32)) dX1_put_4 (by decide) ?_
  refine jr_icmp_lt (tgt := 10) (nxt := 9) dX1_put_6 (by decide) rfl (fun hc => ?_) (fun hc => ?_)
  · replace h := drvT hc h
    refine jr_aload_n dX1_put_10 rfl 0 rfl ?_
    refine gf_X1_11 (r := (t + 1)) rfl h0 rfl dX1_put_11 ?_
    refine jr_aload_n dX1_put_14 rfl 0 rfl ?_
    refine gf_X1_31 rfl h0 dX1_put_15 ?_
    refine jr_lload_n dX1_put_18 rfl 1 rfl ?_
    obtain ⟨hg_3, h⟩ := drvG h
    refine jr_last (kr_1_1 h0) hg_3 dX1_put_19 ?_
    refine j_nmw (fun w_1 e_2 => ?_)
    replace h := drvL e_2 h
    refine jr_aload_n dX1_put_20 rfl 0 rfl ?_
    refine gf_X1_15 (r := (t + 2)) rfl h0 rfl dX1_put_21 ?_
    refine jr_aload_n dX1_put_24 rfl 0 rfl ?_
    refine gf_X1_31 rfl h0 dX1_put_25 ?_
    refine jr_lload_n dX1_put_28 rfl 2 rfl ?_
    obtain ⟨hg_6, h⟩ := drvG h
    refine jr_last (kr_1_2 h0) hg_6 dX1_put_29 ?_
    refine j_nmw (fun w_4 e_5 => ?_)
    replace h := drvL e_5 h
    refine jr_aload_n dX1_put_30 rfl 0 rfl ?_
    refine gf_X1_18 (r := (t + 3)) rfl h0 rfl dX1_put_31 ?_
    refine jr_aload_n dX1_put_34 rfl 0 rfl ?_
    refine gf_X1_31 rfl h0 dX1_put_35 ?_
    refine jr_iload dX1_put_38 3 rfl ?_
    obtain ⟨hg_9, h⟩ := drvG h
    refine jr_iast (kr_1_3 h0) hg_9 dX1_put_40 ?_
    refine j_nmw (fun w_7 e_8 => ?_)
    replace h := drvL e_8 h
    refine jr_aload_n dX1_put_41 rfl 0 rfl ?_
    refine gf_X1_22 (r := (t + 4)) rfl h0 rfl dX1_put_42 ?_
    refine jr_aload_n dX1_put_45 rfl 0 rfl ?_
    refine gf_X1_31 rfl h0 dX1_put_46 ?_
    refine jr_aload_n dX1_put_49 rfl 0 rfl ?_
    refine gf_X1_35 rfl h0 dX1_put_50 ?_
    obtain ⟨hg_12, h⟩ := drvG h
    refine jr_iast (kr_1_4 h0) hg_12 dX1_put_53 ?_
    refine j_nmw (fun w_10 e_11 => ?_)
    replace h := drvL e_11 h
    refine jr_aload_n dX1_put_54 rfl 0 rfl ?_
    refine jr_dup dX1_put_55 rfl ?_
    refine gf_X1_31 rfl h0 dX1_put_56 ?_
    refine jr_iconst (v := (1 : Int32)) dX1_put_59 (by decide) ?_
    refine jr_iadd dX1_put_60 ?_
    refine pf_X1_31 rfl h0 dX1_put_61 ?_
    refine j_nmw (fun w_13 e_14 => ?_)
    replace h := drvL e_14 h
    obtain rfl := drvS1 h
    exact jr_vret rfl dX1_put_64
  · replace h := drvE hc h
    obtain rfl := drvS1 h
    exact jr_vret rfl dX1_put_9
set_option maxHeartbeats 4000000 in
set_option maxRecDepth 100000 in
theorem tX4_without {a0 : Int64} {a1 : Int32} {w : jWd}  : JM yX4_without MX4_without 1 [.long a0, .int a1] w (some (.long (fX4_without a0 a1))) w := by
  refine jm_of pl_X4 rfl (Nat.le_of_ble_eq_true rfl) ?_
  show J MX4_without 1 w 0 [(0, .long a0), (2, .int a1)] [] (some (.long (fX4_without a0 a1))) w
  generalize h : (fX4_without a0 a1) = r
  unfold fX4_without at h
  refine jr_iload_n dX4_without_0 rfl 1 rfl ?_
  refine jr_bipush (v := (8 : Int32)) dX4_without_1 (by decide) ?_
  refine jr_icmp_lt (tgt := 10) (nxt := 6) dX4_without_3 (by decide) rfl (fun hc => ?_) (fun hc => ?_)
  · replace h := drvT hc h
    refine jr_lload_n dX4_without_10 rfl 0 rfl ?_
    refine jr_bipush (v := (8 : Int32)) dX4_without_11 (by decide) ?_
    refine jr_iload_n dX4_without_13 rfl 1 rfl ?_
    refine jr_imul dX4_without_14 ?_
    refine jr_lshl dX4_without_15 ?_
    subst h
    exact jr_lret rfl dX4_without_16
  · replace h := drvE hc h
    refine jr_lconst (v := (0 : Int64)) dX4_without_6 rfl ?_
    refine jr_goto (tgt := 16) dX4_without_7 (by decide) ?_
    subst h
    exact jr_lret rfl dX4_without_16
set_option maxHeartbeats 4000000 in
set_option maxRecDepth 100000 in
theorem tX4_head {a0 : Int64} {a1 : Int32} {w : jWd}  : JM yX4_head MX4_head 1 [.long a0, .int a1] w (some (.long (fX4_head a0 a1))) w := by
  refine jm_of pl_X4 rfl (Nat.le_of_ble_eq_true rfl) ?_
  show J MX4_head 1 w 0 [(0, .long a0), (2, .int a1)] [] (some (.long (fX4_head a0 a1))) w
  generalize h : (fX4_head a0 a1) = r
  unfold fX4_head at h
  refine jr_iload_n dX4_head_0 rfl 1 rfl ?_
  refine jr_if_gt (tgt := 6) (nxt := 4) dX4_head_1 (by decide) rfl (fun hc => ?_) (fun hc => ?_)
  · replace h := drvT hc h
    refine jr_iload_n dX4_head_6 rfl 1 rfl ?_
    refine jr_bipush (v := (8 : Int32)) dX4_head_7 (by decide) ?_
    refine jr_icmp_lt (tgt := 16) (nxt := 12) dX4_head_9 (by decide) rfl (fun hc => ?_) (fun hc => ?_)
    · replace h := drvT hc h
      refine jr_lload_n dX4_head_16 rfl 0 rfl ?_
      refine jr_ldc2 (v := (-1 : Int64)) wCC_X4_23 dX4_head_17 ?_
      refine jr_bipush (v := (64 : Int32)) dX4_head_20 (by decide) ?_
      refine jr_bipush (v := (8 : Int32)) dX4_head_22 (by decide) ?_
      refine jr_iload_n dX4_head_24 rfl 1 rfl ?_
      refine jr_imul dX4_head_25 ?_
      refine jr_isub dX4_head_26 ?_
      refine jr_lshl dX4_head_27 ?_
      refine jr_land dX4_head_28 ?_
      subst h
      exact jr_lret rfl dX4_head_29
    · replace h := drvE hc h
      refine jr_lload_n dX4_head_12 rfl 0 rfl ?_
      refine jr_goto (tgt := 29) dX4_head_13 (by decide) ?_
      subst h
      exact jr_lret rfl dX4_head_29
  · replace h := drvE hc h
    refine jr_lconst (v := (0 : Int64)) dX4_head_4 rfl ?_
    subst h
    exact jr_lret rfl dX4_head_5
set_option maxHeartbeats 4000000 in
set_option maxRecDepth 100000 in
theorem tX4_behind {a0 : Int64} {a1 : Int32} {w : jWd}  : JM yX4_behind MX4_behind 1 [.long a0, .int a1] w (some (.long (fX4_behind a0 a1))) w := by
  refine jm_of pl_X4 rfl (Nat.le_of_ble_eq_true rfl) ?_
  show J MX4_behind 1 w 0 [(0, .long a0), (2, .int a1)] [] (some (.long (fX4_behind a0 a1))) w
  generalize h : (fX4_behind a0 a1) = r
  unfold fX4_behind at h
  refine jr_iload_n dX4_behind_0 rfl 1 rfl ?_
  refine jr_bipush (v := (8 : Int32)) dX4_behind_1 (by decide) ?_
  refine jr_icmp_lt (tgt := 10) (nxt := 6) dX4_behind_3 (by decide) rfl (fun hc => ?_) (fun hc => ?_)
  · replace h := drvT hc h
    refine jr_lload_n dX4_behind_10 rfl 0 rfl ?_
    refine jr_bipush (v := (8 : Int32)) dX4_behind_11 (by decide) ?_
    refine jr_iload_n dX4_behind_13 rfl 1 rfl ?_
    refine jr_imul dX4_behind_14 ?_
    refine jr_lushr dX4_behind_15 ?_
    subst h
    exact jr_lret rfl dX4_behind_16
  · replace h := drvE hc h
    refine jr_lconst (v := (0 : Int64)) dX4_behind_6 rfl ?_
    refine jr_goto (tgt := 16) dX4_behind_7 (by decide) ?_
    subst h
    exact jr_lret rfl dX4_behind_16
set_option maxHeartbeats 4000000 in
set_option maxRecDepth 100000 in
theorem hbX1_replaced_46 {n : Nat} {t : Nat} {p1 : Int32} {p2 : Int64} {p4 : Int32} {p5 : Int32} {p6 : Int32} {k77 : Int32 → (Option Int64)} {w : jWd} {r : Int64} {rec : Int32 → Option Int64} (h0 : kd t = 1) (hk77 : ∀ (z7 : Int32), k77 z7 = some r → J MX1_replaced 3 w 77 [(0, .ref t), (1, .int p1), (2, .long p2), (4, .int p4), (5, .int p5), (7, .int z7)] [] (some (.long r)) w)
    (hrec : ∀ (x7 : Int32) , rec x7 = some r → J MX1_replaced 3 w 46 [(0, .ref t), (1, .int p1), (2, .long p2), (4, .int p4), (5, .int p5), (6, .int p6), (7, .int x7)] [] (some (.long r)) w) : ∀ (x7 : Int32) , bX1_replaced_46 n t p1 p2 p4 p5 p6 k77 w rec x7 = some r → J MX1_replaced 3 w 46 [(0, .ref t), (1, .int p1), (2, .long p2), (4, .int p4), (5, .int p5), (6, .int p6), (7, .int x7)] [] (some (.long r)) w := by
  intro x7 h
  unfold bX1_replaced_46 at h
  refine jr_iload dX1_replaced_46 6 rfl ?_
  refine jr_iload dX1_replaced_48 3 rfl ?_
  refine jr_iadd dX1_replaced_50 ?_
  refine jr_iload dX1_replaced_51 5 rfl ?_
  refine jr_icmp_gt (tgt := 124) (nxt := 56) dX1_replaced_53 (by decide) rfl (fun hc => ?_) (fun hc => ?_)
  · replace h := drvT hc h
    refine jr_lload_n dX1_replaced_124 rfl 2 rfl ?_
    obtain rfl := drvS1 h
    exact jr_lret rfl dX1_replaced_125
  · replace h := drvE hc h
    refine jr_lload_n dX1_replaced_56 rfl 2 rfl ?_
    refine jr_iload dX1_replaced_57 6 rfl ?_
    refine j_callSv lk_X1_62 wST_X4_without (tX4_without  (a0 := p2) (a1 := x7) (w := w)) (by omega) rfl rfl (Nat.le_of_ble_eq_true rfl) dX1_replaced_59 ?_
    refine jr_iload dX1_replaced_62 3 rfl ?_
    refine j_callSv lk_X1_65 wST_X4_head (tX4_head  (a0 := (fX4_without p2 x7)) (a1 := p4) (w := w)) (by omega) rfl rfl (Nat.le_of_ble_eq_true rfl) dX1_replaced_64 ?_
    refine jr_aload_n dX1_replaced_67 rfl 0 rfl ?_
    refine gf_X1_11 (r := (t + 1)) rfl h0 rfl dX1_replaced_68 ?_
    refine jr_iload_n dX1_replaced_71 rfl 1 rfl ?_
    obtain ⟨hg_9, h⟩ := drvG h
    refine jr_lald (kr_1_1 h0) hg_9 dX1_replaced_72 ?_
    refine jr_lcmp dX1_replaced_73 ?_
    refine jr_if_ne (tgt := 118) (nxt := 77) dX1_replaced_74 (by decide) rfl (fun hc => ?_) (fun hc => ?_)
    · replace h := drvE hc h
      refine jr_iincN (c := (1 : Int32)) (lv' := fun (x7_10 : Int32) => [(7, .int x7_10), (0, .ref t), (1, .int p1), (2, .long p2), (4, .int p4), (5, .int p5), (6, .int p6)]) dX1_replaced_118 (by decide) 6 rfl (by decide) (fun _ => rfl) (fun x7_10 e_11 => ?_)
      replace h := drvL e_11 h
      refine jr_goto (tgt := 46) dX1_replaced_121 (by decide) ?_
      refine jr_sub [1, 2, 3, 4, 5, 6, 0] rfl ?_
      exact hrec _ h
    · replace h := drvT hc h
      refine jr_sub [0, 1, 2, 3, 4, 6] rfl ?_
      exact hk77 _ h
theorem hlX1_replaced_46 {n : Nat} {t : Nat} {p1 : Int32} {p2 : Int64} {p4 : Int32} {p5 : Int32} {p6 : Int32} {k77 : Int32 → (Option Int64)} {w : jWd} {r : Int64} (h0 : kd t = 1) (hk77 : ∀ (z7 : Int32), k77 z7 = some r → J MX1_replaced 3 w 77 [(0, .ref t), (1, .int p1), (2, .long p2), (4, .int p4), (5, .int p5), (7, .int z7)] [] (some (.long r)) w) : ∀ (c : Nat) (x7 : Int32) , lX1_replaced_46 n t p1 p2 p4 p5 p6 k77 w c x7 = some r → J MX1_replaced 3 w 46 [(0, .ref t), (1, .int p1), (2, .long p2), (4, .int p4), (5, .int p5), (6, .int p6), (7, .int x7)] [] (some (.long r)) w := by
  intro c
  induction c with
  | zero => intro x7 h; cases h
  | succ c ih => intro x7 h; exact hbX1_replaced_46 (n := n) h0 hk77 ih _ h
set_option maxHeartbeats 4000000 in
set_option maxRecDepth 100000 in
theorem tX1_replaced {n : Nat} {t : Nat} {a0 : Int32} {a1 : Int64} {w : jWd} {r : Int64} (h0 : kd t = 1) (h : fX1_replaced n t a0 a1 w = some r) : JM yX1_replaced MX1_replaced 3 [.ref t, .int a0, .long a1] w (some (.long r)) w := by
  refine jm_of pl_X1 rfl (Nat.le_of_ble_eq_true rfl) ?_
  show J MX1_replaced 3 w 0 [(0, .ref t), (1, .int a0), (2, .long a1)] [] (some (.long r)) w
  unfold fX1_replaced at h
  refine jr_aload_n dX1_replaced_0 rfl 0 rfl ?_
  refine gf_X1_11 (r := (t + 1)) rfl h0 rfl dX1_replaced_1 ?_
  refine jr_iload_n dX1_replaced_4 rfl 1 rfl ?_
  obtain ⟨hg_1, h⟩ := drvG h
  refine jr_lald (kr_1_1 h0) hg_1 dX1_replaced_5 ?_
  obtain ⟨r_3, hq_2, h⟩ := drvB h
  refine j_callSv lk_X1_56 wST_X4_length (tX4_length  hq_2) (by omega) rfl rfl (Nat.le_of_ble_eq_true rfl) dX1_replaced_6 ?_
  refine jr_istore (lv' := [(4, .int r_3), (0, .ref t), (1, .int a0), (2, .long a1)]) dX1_replaced_9 (by decide) rfl ?_
  refine jr_aload_n dX1_replaced_11 rfl 1 rfl ?_
  refine gf_X1_15 (r := (t + 2)) rfl h0 rfl dX1_replaced_12 ?_
  refine jr_iload_n dX1_replaced_15 rfl 2 rfl ?_
  obtain ⟨hg_4, h⟩ := drvG h
  refine jr_lald (kr_1_2 h0) hg_4 dX1_replaced_16 ?_
  obtain ⟨r_6, hq_5, h⟩ := drvB h
  refine j_callSv lk_X1_56 wST_X4_length (tX4_length  hq_5) (by omega) rfl rfl (Nat.le_of_ble_eq_true rfl) dX1_replaced_17 ?_
  refine jr_istore (lv' := [(5, .int r_6), (4, .int r_3), (0, .ref t), (1, .int a0), (2, .long a1)]) dX1_replaced_20 (by decide) rfl ?_
  refine jr_lload_n dX1_replaced_22 rfl 4 rfl ?_
  obtain ⟨r_8, hq_7, h⟩ := drvB h
  refine j_callSv lk_X1_56 wST_X4_length (tX4_length  hq_7) (by omega) rfl rfl (Nat.le_of_ble_eq_true rfl) dX1_replaced_23 ?_
  refine jr_istore (lv' := [(6, .int r_8), (5, .int r_6), (4, .int r_3), (0, .ref t), (1, .int a0), (2, .long a1)]) dX1_replaced_26 (by decide) rfl ?_
  refine jr_iload dX1_replaced_28 0 rfl ?_
  refine jr_iload dX1_replaced_30 2 rfl ?_
  refine jr_isub dX1_replaced_32 ?_
  refine jr_iload dX1_replaced_33 1 rfl ?_
  refine jr_iadd dX1_replaced_35 ?_
  refine jr_bipush (v := (8 : Int32)) dX1_replaced_36 (by decide) ?_
  refine jr_icmp_le (tgt := 43) (nxt := 41) dX1_replaced_38 (by decide) rfl (fun hc => ?_) (fun hc => ?_)
  · replace h := drvT hc h
    refine jr_iconst (v := (0 : Int32)) dX1_replaced_43 (by decide) ?_
    refine jr_istore (lv' := [(7, .int (0 : Int32)), (6, .int r_8), (5, .int r_6), (4, .int r_3), (0, .ref t), (1, .int a0), (2, .long a1)]) dX1_replaced_44 (by decide) rfl ?_
    refine jr_sub [4, 5, 6, 3, 2, 1, 0] rfl ?_
    refine hlX1_replaced_46 h0 ?_ _ _ h
    · intro z7_12 h
      try dsimp only at h
      refine jr_lload_n dX1_replaced_77 rfl 2 rfl ?_
      refine jr_iload dX1_replaced_78 5 rfl ?_
      refine jr_iload dX1_replaced_80 3 rfl ?_
      refine jr_iadd dX1_replaced_82 ?_
      refine j_callSv lk_X1_62 wST_X4_without (tX4_without  (a0 := a1) (a1 := (z7_12 + r_3)) (w := w)) (by omega) rfl rfl (Nat.le_of_ble_eq_true rfl) dX1_replaced_83 ?_
      refine j_nml (fun x8_13 e_14 => ?_)
      replace h := drvL e_14 h
      refine jr_lstore (lv' := [(8, .long x8_13), (0, .ref t), (1, .int a0), (2, .long a1), (4, .int r_3), (5, .int r_6), (7, .int z7_12)]) dX1_replaced_86 (by decide) rfl ?_
      refine jr_lload_n dX1_replaced_88 rfl 3 rfl ?_
      refine jr_iload dX1_replaced_89 6 rfl ?_
      refine j_callSv lk_X1_65 wST_X4_head (tX4_head  (a0 := a1) (a1 := z7_12) (w := w)) (by omega) rfl rfl (Nat.le_of_ble_eq_true rfl) dX1_replaced_91 ?_
      refine jr_aload_n dX1_replaced_94 rfl 1 rfl ?_
      refine gf_X1_15 (r := (t + 2)) rfl h0 rfl dX1_replaced_95 ?_
      refine jr_iload_n dX1_replaced_98 rfl 2 rfl ?_
      obtain ⟨hg_15, h⟩ := drvG h
      refine jr_lald (kr_1_2 h0) hg_15 dX1_replaced_99 ?_
      refine jr_iload dX1_replaced_100 6 rfl ?_
      refine j_callSv lk_X1_68 wST_X4_behind (tX4_behind  (a0 := (wJ w (t + 2) (a0).toNatClampNeg)) (a1 := z7_12) (w := w)) (by omega) rfl rfl (Nat.le_of_ble_eq_true rfl) dX1_replaced_102 ?_
      refine jr_lor dX1_replaced_105 ?_
      refine jr_lload dX1_replaced_106 0 rfl ?_
      refine jr_iload dX1_replaced_108 6 rfl ?_
      refine jr_iload dX1_replaced_110 5 rfl ?_
      refine jr_iadd dX1_replaced_112 ?_
      refine j_callSv lk_X1_68 wST_X4_behind (tX4_behind  (a0 := x8_13) (a1 := (z7_12 + r_6)) (w := w)) (by omega) rfl rfl (Nat.le_of_ble_eq_true rfl) dX1_replaced_113 ?_
      refine jr_lor dX1_replaced_116 ?_
      obtain rfl := drvS1 h
      exact jr_lret rfl dX1_replaced_117
  · replace h := drvE hc h
    refine jr_lload_n dX1_replaced_41 rfl 5 rfl ?_
    obtain rfl := drvS1 h
    exact jr_lret rfl dX1_replaced_42
set_option maxHeartbeats 4000000 in
set_option maxRecDepth 100000 in
theorem hbX1_step_3 {n : Nat} {t : Nat} {p1 : Int64} {p3 : Int32} {w : jWd} {r : Int64} {rec : Int32 → Option Int64} (h0 : kd t = 1) 
    (hrec : ∀ (x4 : Int32) , rec x4 = some r → J MX1_step 5 w 3 [(0, .ref t), (1, .long p1), (3, .int p3), (4, .int x4)] [] (some (.long r)) w) : ∀ (x4 : Int32) , bX1_step_3 n t p1 p3 w rec x4 = some r → J MX1_step 5 w 3 [(0, .ref t), (1, .long p1), (3, .int p3), (4, .int x4)] [] (some (.long r)) w := by
  intro x4 h
  unfold bX1_step_3 at h
  refine jr_iload dX1_step_3 3 rfl ?_
  refine jr_aload_n dX1_step_5 rfl 0 rfl ?_
  refine gf_X1_31 rfl h0 dX1_step_6 ?_
  refine jr_icmp_ge (tgt := 58) (nxt := 12) dX1_step_9 (by decide) rfl (fun hc => ?_) (fun hc => ?_)
  · replace h := drvT hc h
    refine jr_lload_n dX1_step_58 rfl 1 rfl ?_
    obtain rfl := drvS1 h
    exact jr_lret rfl dX1_step_59
  · replace h := drvE hc h
    refine jr_iload dX1_step_12 3 rfl ?_
    refine jr_bipush (v := (12 : Int32)) dX1_step_14 (by decide) ?_
    refine jr_icmp_ge (tgt := 58) (nxt := 19) dX1_step_16 (by decide) rfl (fun hc => ?_) (fun hc => ?_)
    · replace h := drvT hc h
      refine jr_lload_n dX1_step_58 rfl 1 rfl ?_
      obtain rfl := drvS1 h
      exact jr_lret rfl dX1_step_59
    · replace h := drvE hc h
      refine jr_aload_n dX1_step_19 rfl 0 rfl ?_
      refine jr_iload dX1_step_20 3 rfl ?_
      refine jr_lload_n dX1_step_22 rfl 1 rfl ?_
      refine jr_iload_n dX1_step_23 rfl 2 rfl ?_
      obtain ⟨r_2, hq_1, h⟩ := drvB h
      refine j_callVv lk_X1_48 wIM_X1_holds wSE_X1_holds h0 (by decide) rfl (tX1_holds h0 hq_1) (by omega) rfl rfl (Nat.le_of_ble_eq_true rfl) dX1_step_24 ?_
      refine jr_if_ne (tgt := 33) (nxt := 30) dX1_step_27 (by decide) rfl (fun hc => ?_) (fun hc => ?_)
      · replace h := drvE hc h
        refine jr_aload_n dX1_step_33 rfl 0 rfl ?_
        refine jr_iload dX1_step_34 3 rfl ?_
        refine jr_lload_n dX1_step_36 rfl 1 rfl ?_
        obtain ⟨r_4, hq_3, h⟩ := drvB h
        refine j_callVv lk_X1_52 wIM_X1_replaced wSE_X1_replaced h0 (by decide) rfl (tX1_replaced h0 hq_3) (by omega) rfl rfl (Nat.le_of_ble_eq_true rfl) dX1_step_37 ?_
        refine jr_lstore (lv' := [(5, .long r_4), (0, .ref t), (1, .long p1), (3, .int p3), (4, .int x4)]) dX1_step_40 (by decide) rfl ?_
        refine jr_lload dX1_step_42 0 rfl ?_
        refine jr_lload_n dX1_step_44 rfl 2 rfl ?_
        refine jr_lcmp dX1_step_45 ?_
        refine jr_if_eq (tgt := 52) (nxt := 49) dX1_step_46 (by decide) rfl (fun hc => ?_) (fun hc => ?_)
        · replace h := drvT hc h
          refine jr_iincN (c := (1 : Int32)) (lv' := fun (x4_5 : Int32) => [(4, .int x4_5), (5, .long r_4), (0, .ref t), (1, .long p1), (3, .int p3)]) dX1_step_52 (by decide) 4 rfl (by decide) (fun _ => rfl) (fun x4_5 e_6 => ?_)
          replace h := drvL e_6 h
          refine jr_goto (tgt := 3) dX1_step_55 (by decide) ?_
          refine jr_sub [2, 3, 4, 0] rfl ?_
          exact hrec _ h
        · replace h := drvE hc h
          refine jr_lload dX1_step_49 0 rfl ?_
          obtain rfl := drvS1 h
          exact jr_lret rfl dX1_step_51
      · replace h := drvT hc h
        refine jr_goto (tgt := 52) dX1_step_30 (by decide) ?_
        refine jr_iincN (c := (1 : Int32)) (lv' := fun (x4_7 : Int32) => [(4, .int x4_7), (0, .ref t), (1, .long p1), (3, .int p3)]) dX1_step_52 (by decide) 3 rfl (by decide) (fun _ => rfl) (fun x4_7 e_8 => ?_)
        replace h := drvL e_8 h
        refine jr_goto (tgt := 3) dX1_step_55 (by decide) ?_
        refine jr_sub [1, 2, 3, 0] rfl ?_
        exact hrec _ h
theorem hlX1_step_3 {n : Nat} {t : Nat} {p1 : Int64} {p3 : Int32} {w : jWd} {r : Int64} (h0 : kd t = 1)  : ∀ (c : Nat) (x4 : Int32) , lX1_step_3 n t p1 p3 w c x4 = some r → J MX1_step 5 w 3 [(0, .ref t), (1, .long p1), (3, .int p3), (4, .int x4)] [] (some (.long r)) w := by
  intro c
  induction c with
  | zero => intro x4 h; cases h
  | succ c ih => intro x4 h; exact hbX1_step_3 (n := n) h0 ih _ h
set_option maxHeartbeats 4000000 in
set_option maxRecDepth 100000 in
theorem tX1_step {n : Nat} {t : Nat} {a0 : Int64} {a1 : Int32} {w : jWd} {r : Int64} (h0 : kd t = 1) (h : fX1_step n t a0 a1 w = some r) : JM yX1_step MX1_step 5 [.ref t, .long a0, .int a1] w (some (.long r)) w := by
  refine jm_of pl_X1 rfl (Nat.le_of_ble_eq_true rfl) ?_
  show J MX1_step 5 w 0 [(0, .ref t), (1, .long a0), (3, .int a1)] [] (some (.long r)) w
  unfold fX1_step at h
  refine jr_iconst (v := (0 : Int32)) dX1_step_0 (by decide) ?_
  refine jr_istore (lv' := [(4, .int (0 : Int32)), (0, .ref t), (1, .long a0), (3, .int a1)]) dX1_step_1 (by decide) rfl ?_
  refine jr_sub [1, 2, 3, 0] rfl ?_
  refine hlX1_step_3 h0  _ _ h
set_option maxHeartbeats 4000000 in
set_option maxRecDepth 100000 in
theorem hbX1_smooth_6 {n : Nat} {t : Nat} {p3 : Int32} {w : jWd} {r : Int64} {rec : Int64 → Int32 → Option Int64} (h0 : kd t = 1) 
    (hrec : ∀ (x4 : Int64) (x6 : Int32) , rec x4 x6 = some r → J MX1_smooth 6 w 6 [(0, .ref t), (3, .int p3), (4, .long x4), (6, .int x6)] [] (some (.long r)) w) : ∀ (x4 : Int64) (x6 : Int32) , bX1_smooth_6 n t p3 w rec x4 x6 = some r → J MX1_smooth 6 w 6 [(0, .ref t), (3, .int p3), (4, .long x4), (6, .int x6)] [] (some (.long r)) w := by
  intro x4 x6 h
  unfold bX1_smooth_6 at h
  refine jr_iload dX1_smooth_6 3 rfl ?_
  refine jr_bipush (v := (12 : Int32)) dX1_smooth_8 (by decide) ?_
  refine jr_icmp_ge (tgt := 43) (nxt := 13) dX1_smooth_10 (by decide) rfl (fun hc => ?_) (fun hc => ?_)
  · replace h := drvT hc h
    refine jr_lload dX1_smooth_43 2 rfl ?_
    obtain rfl := drvS1 h
    exact jr_lret rfl dX1_smooth_45
  · replace h := drvE hc h
    refine jr_aload_n dX1_smooth_13 rfl 0 rfl ?_
    refine jr_lload dX1_smooth_14 2 rfl ?_
    refine jr_iload_n dX1_smooth_16 rfl 1 rfl ?_
    obtain ⟨r_2, hq_1, h⟩ := drvB h
    refine j_callVv lk_X1_44 wIM_X1_step wSE_X1_step h0 (by decide) rfl (tX1_step h0 hq_1) (by omega) rfl rfl (Nat.le_of_ble_eq_true rfl) dX1_smooth_17 ?_
    refine jr_lstore (lv' := [(7, .long r_2), (0, .ref t), (3, .int p3), (4, .long x4), (6, .int x6)]) dX1_smooth_20 (by decide) rfl ?_
    refine jr_lload dX1_smooth_22 0 rfl ?_
    refine jr_lload dX1_smooth_24 3 rfl ?_
    refine jr_lcmp dX1_smooth_26 ?_
    refine jr_if_ne (tgt := 33) (nxt := 30) dX1_smooth_27 (by decide) rfl (fun hc => ?_) (fun hc => ?_)
    · replace h := drvE hc h
      refine jr_lload dX1_smooth_33 0 rfl ?_
      refine jr_lstore (lv' := [(4, .long r_2), (7, .long r_2), (0, .ref t), (3, .int p3), (6, .int x6)]) dX1_smooth_35 (by decide) rfl ?_
      refine jr_iincN (c := (1 : Int32)) (lv' := fun (x6_3 : Int32) => [(6, .int x6_3), (4, .long r_2), (7, .long r_2), (0, .ref t), (3, .int p3)]) dX1_smooth_37 (by decide) 4 rfl (by decide) (fun _ => rfl) (fun x6_3 e_4 => ?_)
      replace h := drvL e_4 h
      refine jr_goto (tgt := 6) dX1_smooth_40 (by decide) ?_
      refine jr_sub [3, 4, 1, 0] rfl ?_
      exact hrec _ _ h
    · replace h := drvT hc h
      refine jr_lload dX1_smooth_30 3 rfl ?_
      obtain rfl := drvS1 h
      exact jr_lret rfl dX1_smooth_32
theorem hlX1_smooth_6 {n : Nat} {t : Nat} {p3 : Int32} {w : jWd} {r : Int64} (h0 : kd t = 1)  : ∀ (c : Nat) (x4 : Int64) (x6 : Int32) , lX1_smooth_6 n t p3 w c x4 x6 = some r → J MX1_smooth 6 w 6 [(0, .ref t), (3, .int p3), (4, .long x4), (6, .int x6)] [] (some (.long r)) w := by
  intro c
  induction c with
  | zero => intro x4 x6 h; cases h
  | succ c ih => intro x4 x6 h; exact hbX1_smooth_6 (n := n) h0 ih _ _ h
set_option maxHeartbeats 4000000 in
set_option maxRecDepth 100000 in
theorem tX1_smooth {n : Nat} {t : Nat} {a0 : Int64} {a1 : Int32} {w : jWd} {r : Int64} (h0 : kd t = 1) (h : fX1_smooth n t a0 a1 w = some r) : JM yX1_smooth MX1_smooth 6 [.ref t, .long a0, .int a1] w (some (.long r)) w := by
  refine jm_of pl_X1 rfl (Nat.le_of_ble_eq_true rfl) ?_
  show J MX1_smooth 6 w 0 [(0, .ref t), (1, .long a0), (3, .int a1)] [] (some (.long r)) w
  unfold fX1_smooth at h
  refine jr_lload_n dX1_smooth_0 rfl 1 rfl ?_
  refine jr_lstore (lv' := [(4, .long a0), (0, .ref t), (1, .long a0), (3, .int a1)]) dX1_smooth_1 (by decide) rfl ?_
  refine jr_iconst (v := (0 : Int32)) dX1_smooth_3 (by decide) ?_
  refine jr_istore (lv' := [(6, .int (0 : Int32)), (4, .long a0), (0, .ref t), (1, .long a0), (3, .int a1)]) dX1_smooth_4 (by decide) rfl ?_
  refine jr_sub [2, 4, 1, 0] rfl ?_
  refine hlX1_smooth_6 h0  _ _ _ h
set_option maxHeartbeats 4000000 in
set_option maxRecDepth 100000 in
theorem tX5_has {t : Nat} {a0 : Int32} {w : jWd} (h0 : kd t = 4) : JM yX5_has MX5_has 1 [.ref t, .int a0] w (some (.int (fX5_has t a0 w))) w := by
  refine jm_of pl_X5 rfl (Nat.le_of_ble_eq_true rfl) ?_
  show J MX5_has 1 w 0 [(0, .ref t), (1, .int a0)] [] (some (.int (fX5_has t a0 w))) w
  generalize h : (fX5_has t a0 w) = r
  unfold fX5_has at h
  refine jr_iload_n dX5_has_0 rfl 1 rfl ?_
  refine jr_if_lt (tgt := 16) (nxt := 4) dX5_has_1 (by decide) rfl (fun hc => ?_) (fun hc => ?_)
  · replace h := drvT hc h
    refine jr_iconst (v := (0 : Int32)) dX5_has_16 (by decide) ?_
    subst h
    exact jr_zret (ty := .boolean) rfl rfl dX5_has_17
  · replace h := drvE hc h
    refine jr_iload_n dX5_has_4 rfl 1 rfl ?_
    refine jr_aload_n dX5_has_5 rfl 0 rfl ?_
    refine gf_X5_44 rfl h0 dX5_has_6 ?_
    refine jr_icmp_ge (tgt := 16) (nxt := 12) dX5_has_9 (by decide) rfl (fun hc => ?_) (fun hc => ?_)
    · replace h := drvT hc h
      refine jr_iconst (v := (0 : Int32)) dX5_has_16 (by decide) ?_
      subst h
      exact jr_zret (ty := .boolean) rfl rfl dX5_has_17
    · replace h := drvE hc h
      refine jr_iconst (v := (1 : Int32)) dX5_has_12 (by decide) ?_
      refine jr_goto (tgt := 17) dX5_has_13 (by decide) ?_
      subst h
      exact jr_zret (ty := .boolean) rfl rfl dX5_has_17
set_option maxHeartbeats 4000000 in
set_option maxRecDepth 100000 in
theorem tX5_has_ {t : Nat} {a0 : Int32} {a1 : Int32} {w : jWd} {r : Int32} (h0 : kd t = 4) (h : fX5_has_ t a0 a1 w = some r) : JM yX5_has_ MX5_has_ 2 [.ref t, .int a0, .int a1] w (some (.int r)) w := by
  refine jm_of pl_X5 rfl (Nat.le_of_ble_eq_true rfl) ?_
  show J MX5_has_ 2 w 0 [(0, .ref t), (1, .int a0), (2, .int a1)] [] (some (.int r)) w
  unfold fX5_has_ at h
  refine jr_aload_n dX5_has__0 rfl 0 rfl ?_
  refine jr_iload_n dX5_has__1 rfl 1 rfl ?_
  refine j_callVv lk_X5_47 wIM_X5_has wSE_X5_has h0 (by decide) rfl (tX5_has h0 (a0 := a0) (t := t) (w := w)) (by omega) rfl rfl (Nat.le_of_ble_eq_true rfl) dX5_has__2 ?_
  refine jr_if_eq (tgt := 26) (nxt := 8) dX5_has__5 (by decide) rfl (fun hc => ?_) (fun hc => ?_)
  · replace h := drvT hc h
    refine jr_iconst (v := (0 : Int32)) dX5_has__26 (by decide) ?_
    obtain rfl := drvS1 h
    exact jr_zret (ty := .boolean) rfl rfl dX5_has__27
  · replace h := drvE hc h
    refine jr_iload_n dX5_has__8 rfl 2 rfl ?_
    refine jr_if_lt (tgt := 26) (nxt := 12) dX5_has__9 (by decide) rfl (fun hc => ?_) (fun hc => ?_)
    · replace h := drvT hc h
      refine jr_iconst (v := (0 : Int32)) dX5_has__26 (by decide) ?_
      obtain rfl := drvS1 h
      exact jr_zret (ty := .boolean) rfl rfl dX5_has__27
    · replace h := drvE hc h
      refine jr_iload_n dX5_has__12 rfl 2 rfl ?_
      refine jr_aload_n dX5_has__13 rfl 0 rfl ?_
      refine gf_X5_34 (r := (t + 4)) rfl h0 rfl dX5_has__14 ?_
      refine jr_iload_n dX5_has__17 rfl 1 rfl ?_
      obtain ⟨hg_1, h⟩ := drvG h
      refine jr_iald (kr_4_4 h0) hg_1 dX5_has__18 ?_
      refine jr_icmp_ge (tgt := 26) (nxt := 22) dX5_has__19 (by decide) rfl (fun hc => ?_) (fun hc => ?_)
      · replace h := drvT hc h
        refine jr_iconst (v := (0 : Int32)) dX5_has__26 (by decide) ?_
        obtain rfl := drvS1 h
        exact jr_zret (ty := .boolean) rfl rfl dX5_has__27
      · replace h := drvE hc h
        refine jr_iconst (v := (1 : Int32)) dX5_has__22 (by decide) ?_
        refine jr_goto (tgt := 27) dX5_has__23 (by decide) ?_
        obtain rfl := drvS1 h
        exact jr_zret (ty := .boolean) rfl rfl dX5_has__27
set_option maxHeartbeats 4000000 in
set_option maxRecDepth 100000 in
theorem tX5_at {t : Nat} {a0 : Int32} {a1 : Int32} {w : jWd} {r : Int64} (h0 : kd t = 4) (h : fX5_at t a0 a1 w = some r) : JM yX5_at MX5_at 3 [.ref t, .int a0, .int a1] w (some (.long r)) w := by
  refine jm_of pl_X5 rfl (Nat.le_of_ble_eq_true rfl) ?_
  show J MX5_at 3 w 0 [(0, .ref t), (1, .int a0), (2, .int a1)] [] (some (.long r)) w
  unfold fX5_at at h
  refine jr_aload_n dX5_at_0 rfl 0 rfl ?_
  refine jr_iload_n dX5_at_1 rfl 1 rfl ?_
  refine jr_iload_n dX5_at_2 rfl 2 rfl ?_
  obtain ⟨r_2, hq_1, h⟩ := drvB h
  refine j_callVv lk_X5_57 wIM_X5_has_ wSE_X5_has_ h0 (by decide) rfl (tX5_has_ h0 hq_1) (by omega) rfl rfl (Nat.le_of_ble_eq_true rfl) dX5_at_3 ?_
  refine jr_if_eq (tgt := 25) (nxt := 9) dX5_at_6 (by decide) rfl (fun hc => ?_) (fun hc => ?_)
  · replace h := drvT hc h
    refine jr_lconst (v := (0 : Int64)) dX5_at_25 rfl ?_
    obtain rfl := drvS1 h
    exact jr_lret rfl dX5_at_26
  · replace h := drvE hc h
    refine jr_aload_n dX5_at_9 rfl 0 rfl ?_
    refine gf_X5_40 (r := (t + 6)) rfl h0 rfl dX5_at_10 ?_
    refine jr_iload_n dX5_at_13 rfl 1 rfl ?_
    refine jr_aload_n dX5_at_14 rfl 0 rfl ?_
    refine gf_X5_21 rfl h0 dX5_at_15 ?_
    refine jr_imul dX5_at_18 ?_
    refine jr_iload_n dX5_at_19 rfl 2 rfl ?_
    refine jr_iadd dX5_at_20 ?_
    obtain ⟨hg_3, h⟩ := drvG h
    refine jr_lald (kr_4_6 h0) hg_3 dX5_at_21 ?_
    refine jr_goto (tgt := 26) dX5_at_22 (by decide) ?_
    obtain rfl := drvS1 h
    exact jr_lret rfl dX5_at_26
set_option maxHeartbeats 4000000 in
set_option maxRecDepth 100000 in
theorem tX2_pileOf {a0 : Int32} {w : jWd}  : JM yX2_pileOf MX2_pileOf 1 [.ref 182, .int a0] w (some (.ref (fX2_pileOf a0))) w := by
  refine jm_of pl_X2 rfl (Nat.le_of_ble_eq_true rfl) ?_
  show J MX2_pileOf 1 w 0 [(0, .ref 182), (1, .int a0)] [] (some (.ref (fX2_pileOf a0))) w
  generalize h : (fX2_pileOf a0) = r
  unfold fX2_pileOf at h
  refine jr_iload_n dX2_pileOf_0 rfl 1 rfl ?_
  refine jr_bipush (v := (8 : Int32)) dX2_pileOf_1 (by decide) ?_
  refine jr_icmp_ne (tgt := 14) (nxt := 6) dX2_pileOf_3 (by decide) rfl (fun hc => ?_) (fun hc => ?_)
  · replace h := drvE hc h
    refine jr_iload_n dX2_pileOf_14 rfl 1 rfl ?_
    refine jr_iconst (v := (3 : Int32)) dX2_pileOf_15 (by decide) ?_
    obtain ⟨j25_1, ej25_1, h⟩ := drvF h
    have hj25_1 : ∀ (_ : Unit), j25_1 = r → J MX2_pileOf 1 w 25 [(0, .ref 182)] [] (some (.ref r)) w := by
      intro _ h
      rw [ej25_1] at h
      try dsimp only at h
      refine jr_aload_n dX2_pileOf_25 rfl 0 rfl ?_
      refine gf_X2_21 (r := 1) rfl (rfl : kd 182 = 2) rfl dX2_pileOf_26 ?_
      refine gf_X2_29 (r := 9) rfl (rfl : kd 1 = 7) rfl dX2_pileOf_29 ?_
      refine jr_goto (tgt := 42) dX2_pileOf_32 (by decide) ?_
      subst h
      exact jr_aret rfl (Or.inl ⟨_, rfl⟩) dX2_pileOf_42
    refine jr_icmp_eq (tgt := 25) (nxt := 19) dX2_pileOf_16 (by decide) rfl (fun hc => ?_) (fun hc => ?_)
    · replace h := drvT hc h
      refine jr_sub [0] rfl ?_
      exact (hj25_1 ()) h
    · replace h := drvE hc h
      refine jr_iload_n dX2_pileOf_19 rfl 1 rfl ?_
      refine jr_bipush (v := (9 : Int32)) dX2_pileOf_20 (by decide) ?_
      refine jr_icmp_ne (tgt := 35) (nxt := 25) dX2_pileOf_22 (by decide) rfl (fun hc => ?_) (fun hc => ?_)
      · replace h := drvE hc h
        refine jr_aload_n dX2_pileOf_35 rfl 0 rfl ?_
        refine gf_X2_21 (r := 1) rfl (rfl : kd 182 = 2) rfl dX2_pileOf_36 ?_
        refine gf_X2_32 (r := 2) rfl (rfl : kd 1 = 7) rfl dX2_pileOf_39 ?_
        subst h
        exact jr_aret rfl (Or.inl ⟨_, rfl⟩) dX2_pileOf_42
      · replace h := drvT hc h
        refine jr_sub [0] rfl ?_
        exact (hj25_1 ()) h
  · replace h := drvT hc h
    refine jr_aload_n dX2_pileOf_6 rfl 0 rfl ?_
    refine gf_X2_21 (r := 1) rfl (rfl : kd 182 = 2) rfl dX2_pileOf_7 ?_
    refine gf_X2_25 (r := 16) rfl (rfl : kd 1 = 7) rfl dX2_pileOf_10 ?_
    subst h
    exact jr_aret rfl (Or.inl ⟨_, rfl⟩) dX2_pileOf_13
set_option maxHeartbeats 4000000 in
set_option maxRecDepth 100000 in
theorem tX8_isEarly {t : Nat} {a0 : Int32} {w : jWd} {r : Int32} (h0 : kd t = 7) (h : fX8_isEarly t a0 w = some r) : JM yX8_isEarly MX8_isEarly 2 [.ref t, .int a0] w (some (.int r)) w := by
  refine jm_of pl_X8 rfl (Nat.le_of_ble_eq_true rfl) ?_
  show J MX8_isEarly 2 w 0 [(0, .ref t), (1, .int a0)] [] (some (.int r)) w
  unfold fX8_isEarly at h
  refine jr_aload_n dX8_isEarly_0 rfl 0 rfl ?_
  refine gf_X8_16 (r := (t + 1)) rfl h0 rfl dX8_isEarly_1 ?_
  refine jr_iload_n dX8_isEarly_4 rfl 1 rfl ?_
  refine j_callVv lk_X8_108 wIM_X5_has wSE_X5_has (kr_7_1 h0) (by decide) rfl (tX5_has (kr_7_1 h0) (a0 := a0) (t := (t + 1)) (w := w)) (by omega) rfl rfl (Nat.le_of_ble_eq_true rfl) dX8_isEarly_5 ?_
  refine jr_if_eq (tgt := 36) (nxt := 11) dX8_isEarly_8 (by decide) rfl (fun hc => ?_) (fun hc => ?_)
  · replace h := drvT hc h
    refine jr_iconst (v := (0 : Int32)) dX8_isEarly_36 (by decide) ?_
    obtain rfl := drvS1 h
    exact jr_zret (ty := .boolean) rfl rfl dX8_isEarly_37
  · replace h := drvE hc h
    refine jr_aload_n dX8_isEarly_11 rfl 0 rfl ?_
    refine gf_X8_16 (r := (t + 1)) rfl h0 rfl dX8_isEarly_12 ?_
    refine gf_X8_112 (r := (t + 4)) rfl (kr_7_1 h0) rfl dX8_isEarly_15 ?_
    refine jr_iload_n dX8_isEarly_18 rfl 1 rfl ?_
    obtain ⟨hg_1, h⟩ := drvG h
    refine jr_iald (kr_7_4 h0) hg_1 dX8_isEarly_19 ?_
    refine jr_aload_n dX8_isEarly_20 rfl 0 rfl ?_
    refine gf_X8_23 (r := (t + 15)) rfl h0 rfl dX8_isEarly_21 ?_
    refine gf_X8_112 (r := (t + 18)) rfl (kr_7_15 h0) rfl dX8_isEarly_24 ?_
    refine jr_iconst (v := (0 : Int32)) dX8_isEarly_27 (by decide) ?_
    obtain ⟨hg_2, h⟩ := drvG h
    refine jr_iald (kr_7_18 h0) hg_2 dX8_isEarly_28 ?_
    refine jr_icmp_gt (tgt := 36) (nxt := 32) dX8_isEarly_29 (by decide) rfl (fun hc => ?_) (fun hc => ?_)
    · replace h := drvT hc h
      refine jr_iconst (v := (0 : Int32)) dX8_isEarly_36 (by decide) ?_
      obtain rfl := drvS1 h
      exact jr_zret (ty := .boolean) rfl rfl dX8_isEarly_37
    · replace h := drvE hc h
      refine jr_iconst (v := (1 : Int32)) dX8_isEarly_32 (by decide) ?_
      refine jr_goto (tgt := 37) dX8_isEarly_33 (by decide) ?_
      obtain rfl := drvS1 h
      exact jr_zret (ty := .boolean) rfl rfl dX8_isEarly_37
set_option maxHeartbeats 4000000 in
set_option maxRecDepth 100000 in
theorem tX2_isAmong {a0 : Int32} {a1 : Int32} {a2 : Int32} {w : jWd} {r : Int32}  (h : fX2_isAmong a0 a1 a2 w = some r) : JM yX2_isAmong MX2_isAmong 3 [.ref 182, .int a0, .int a1, .int a2] w (some (.int r)) w := by
  refine jm_of pl_X2 rfl (Nat.le_of_ble_eq_true rfl) ?_
  show J MX2_isAmong 3 w 0 [(0, .ref 182), (1, .int a0), (2, .int a1), (3, .int a2)] [] (some (.int r)) w
  unfold fX2_isAmong at h
  refine jr_iload_n dX2_isAmong_0 rfl 1 rfl ?_
  by_cases hs_1 : a0 = (0 : Int32)
  · replace h := drvT hs_1 h
    refine jr_tableK (tgt := 56) dX2_isAmong_1 hs_1 (by decide) (by decide) rfl (by decide) ?_
    refine jr_aload_n dX2_isAmong_56 rfl 0 rfl ?_
    refine gf_X2_21 (r := 1) rfl (rfl : kd 182 = 2) rfl dX2_isAmong_57 ?_
    refine jr_iload_n dX2_isAmong_60 rfl 2 rfl ?_
    obtain ⟨r_3, hq_2, h⟩ := drvB h
    refine j_callVv lk_X2_35 wIM_X8_isEarly wSE_X8_isEarly (rfl : kd 1 = 7) (by decide) rfl (tX8_isEarly (rfl : kd 1 = 7) hq_2) (by omega) rfl rfl (Nat.le_of_ble_eq_true rfl) dX2_isAmong_61 ?_
    refine jr_if_eq (tgt := 87) (nxt := 67) dX2_isAmong_64 (by decide) rfl (fun hc => ?_) (fun hc => ?_)
    · replace h := drvT hc h
      refine jr_iconst (v := (0 : Int32)) dX2_isAmong_87 (by decide) ?_
      obtain rfl := drvS1 h
      exact jr_zret (ty := .boolean) rfl rfl dX2_isAmong_88
    · replace h := drvE hc h
      refine jr_aload_n dX2_isAmong_67 rfl 0 rfl ?_
      refine gf_X2_21 (r := 1) rfl (rfl : kd 182 = 2) rfl dX2_isAmong_68 ?_
      refine gf_X2_32 (r := 2) rfl (rfl : kd 1 = 7) rfl dX2_isAmong_71 ?_
      refine gf_X2_39 (r := 3) rfl (rfl : kd 2 = 4) rfl dX2_isAmong_74 ?_
      refine jr_iload_n dX2_isAmong_77 rfl 2 rfl ?_
      obtain ⟨hg_4, h⟩ := drvG h
      refine jr_iald (rfl : kd 3 = 13) hg_4 dX2_isAmong_78 ?_
      refine jr_iload_n dX2_isAmong_79 rfl 3 rfl ?_
      refine jr_icmp_ne (tgt := 87) (nxt := 83) dX2_isAmong_80 (by decide) rfl (fun hc => ?_) (fun hc => ?_)
      · replace h := drvE hc h
        refine jr_iconst (v := (0 : Int32)) dX2_isAmong_87 (by decide) ?_
        obtain rfl := drvS1 h
        exact jr_zret (ty := .boolean) rfl rfl dX2_isAmong_88
      · replace h := drvT hc h
        refine jr_iconst (v := (1 : Int32)) dX2_isAmong_83 (by decide) ?_
        refine jr_goto (tgt := 88) dX2_isAmong_84 (by decide) ?_
        obtain rfl := drvS1 h
        exact jr_zret (ty := .boolean) rfl rfl dX2_isAmong_88
  replace h := drvE hs_1 h
  by_cases hs_5 : a0 = (1 : Int32)
  · replace h := drvT hs_5 h
    refine jr_tableK (tgt := 89) dX2_isAmong_1 hs_5 (by decide) (by decide) rfl (by decide) ?_
    refine jr_aload_n dX2_isAmong_89 rfl 0 rfl ?_
    refine gf_X2_21 (r := 1) rfl (rfl : kd 182 = 2) rfl dX2_isAmong_90 ?_
    refine jr_iload_n dX2_isAmong_93 rfl 2 rfl ?_
    obtain ⟨r_7, hq_6, h⟩ := drvB h
    refine j_callVv lk_X2_35 wIM_X8_isEarly wSE_X8_isEarly (rfl : kd 1 = 7) (by decide) rfl (tX8_isEarly (rfl : kd 1 = 7) hq_6) (by omega) rfl rfl (Nat.le_of_ble_eq_true rfl) dX2_isAmong_94 ?_
    refine jr_if_eq (tgt := 120) (nxt := 100) dX2_isAmong_97 (by decide) rfl (fun hc => ?_) (fun hc => ?_)
    · replace h := drvT hc h
      refine jr_iconst (v := (0 : Int32)) dX2_isAmong_120 (by decide) ?_
      obtain rfl := drvS1 h
      exact jr_zret (ty := .boolean) rfl rfl dX2_isAmong_121
    · replace h := drvE hc h
      refine jr_aload_n dX2_isAmong_100 rfl 0 rfl ?_
      refine gf_X2_21 (r := 1) rfl (rfl : kd 182 = 2) rfl dX2_isAmong_101 ?_
      refine gf_X2_32 (r := 2) rfl (rfl : kd 1 = 7) rfl dX2_isAmong_104 ?_
      refine gf_X2_39 (r := 3) rfl (rfl : kd 2 = 4) rfl dX2_isAmong_107 ?_
      refine jr_iload_n dX2_isAmong_110 rfl 2 rfl ?_
      obtain ⟨hg_8, h⟩ := drvG h
      refine jr_iald (rfl : kd 3 = 13) hg_8 dX2_isAmong_111 ?_
      refine jr_iload_n dX2_isAmong_112 rfl 3 rfl ?_
      refine jr_icmp_eq (tgt := 120) (nxt := 116) dX2_isAmong_113 (by decide) rfl (fun hc => ?_) (fun hc => ?_)
      · replace h := drvT hc h
        refine jr_iconst (v := (0 : Int32)) dX2_isAmong_120 (by decide) ?_
        obtain rfl := drvS1 h
        exact jr_zret (ty := .boolean) rfl rfl dX2_isAmong_121
      · replace h := drvE hc h
        refine jr_iconst (v := (1 : Int32)) dX2_isAmong_116 (by decide) ?_
        refine jr_goto (tgt := 121) dX2_isAmong_117 (by decide) ?_
        obtain rfl := drvS1 h
        exact jr_zret (ty := .boolean) rfl rfl dX2_isAmong_121
  replace h := drvE hs_5 h
  by_cases hs_9 : a0 = (2 : Int32)
  · replace h := drvT hs_9 h
    refine jr_tableK (tgt := 122) dX2_isAmong_1 hs_9 (by decide) (by decide) rfl (by decide) ?_
    refine jr_aload_n dX2_isAmong_122 rfl 0 rfl ?_
    refine gf_X2_21 (r := 1) rfl (rfl : kd 182 = 2) rfl dX2_isAmong_123 ?_
    refine jr_iload_n dX2_isAmong_126 rfl 2 rfl ?_
    obtain ⟨r_11, hq_10, h⟩ := drvB h
    refine j_callVv lk_X2_35 wIM_X8_isEarly wSE_X8_isEarly (rfl : kd 1 = 7) (by decide) rfl (tX8_isEarly (rfl : kd 1 = 7) hq_10) (by omega) rfl rfl (Nat.le_of_ble_eq_true rfl) dX2_isAmong_127 ?_
    obtain rfl := drvS1 h
    exact jr_bret rfl dX2_isAmong_130
  replace h := drvE hs_9 h
  by_cases hs_12 : a0 = (6 : Int32)
  · replace h := drvT hs_12 h
    refine jr_tableK (tgt := 122) dX2_isAmong_1 hs_12 (by decide) (by decide) rfl (by decide) ?_
    refine jr_aload_n dX2_isAmong_122 rfl 0 rfl ?_
    refine gf_X2_21 (r := 1) rfl (rfl : kd 182 = 2) rfl dX2_isAmong_123 ?_
    refine jr_iload_n dX2_isAmong_126 rfl 2 rfl ?_
    obtain ⟨r_14, hq_13, h⟩ := drvB h
    refine j_callVv lk_X2_35 wIM_X8_isEarly wSE_X8_isEarly (rfl : kd 1 = 7) (by decide) rfl (tX8_isEarly (rfl : kd 1 = 7) hq_13) (by omega) rfl rfl (Nat.le_of_ble_eq_true rfl) dX2_isAmong_127 ?_
    obtain rfl := drvS1 h
    exact jr_bret rfl dX2_isAmong_130
  replace h := drvE hs_12 h
  by_cases hs_15 : a0 = (7 : Int32)
  · replace h := drvT hs_15 h
    refine jr_tableK (tgt := 131) dX2_isAmong_1 hs_15 (by decide) (by decide) rfl (by decide) ?_
    refine jr_aload_n dX2_isAmong_131 rfl 0 rfl ?_
    refine gf_X2_21 (r := 1) rfl (rfl : kd 182 = 2) rfl dX2_isAmong_132 ?_
    refine jr_iload_n dX2_isAmong_135 rfl 2 rfl ?_
    obtain ⟨r_17, hq_16, h⟩ := drvB h
    refine j_callVv lk_X2_35 wIM_X8_isEarly wSE_X8_isEarly (rfl : kd 1 = 7) (by decide) rfl (tX8_isEarly (rfl : kd 1 = 7) hq_16) (by omega) rfl rfl (Nat.le_of_ble_eq_true rfl) dX2_isAmong_136 ?_
    refine jr_if_ne (tgt := 146) (nxt := 142) dX2_isAmong_139 (by decide) rfl (fun hc => ?_) (fun hc => ?_)
    · replace h := drvE hc h
      refine jr_iconst (v := (0 : Int32)) dX2_isAmong_146 (by decide) ?_
      obtain rfl := drvS1 h
      exact jr_zret (ty := .boolean) rfl rfl dX2_isAmong_147
    · replace h := drvT hc h
      refine jr_iconst (v := (1 : Int32)) dX2_isAmong_142 (by decide) ?_
      refine jr_goto (tgt := 147) dX2_isAmong_143 (by decide) ?_
      obtain rfl := drvS1 h
      exact jr_zret (ty := .boolean) rfl rfl dX2_isAmong_147
  replace h := drvE hs_15 h
  by_cases hs_18 : a0 = (9 : Int32)
  · replace h := drvT hs_18 h
    refine jr_tableK (tgt := 148) dX2_isAmong_1 hs_18 (by decide) (by decide) rfl (by decide) ?_
    refine jr_aload_n dX2_isAmong_148 rfl 0 rfl ?_
    refine gf_X2_21 (r := 1) rfl (rfl : kd 182 = 2) rfl dX2_isAmong_149 ?_
    refine gf_X2_29 (r := 9) rfl (rfl : kd 1 = 7) rfl dX2_isAmong_152 ?_
    refine jr_iload_n dX2_isAmong_155 rfl 2 rfl ?_
    refine j_callVv lk_X2_44 wIM_X5_has wSE_X5_has (rfl : kd 9 = 4) (by decide) rfl (tX5_has (rfl : kd 9 = 4) (a0 := a1) (t := 9) (w := w)) (by omega) rfl rfl (Nat.le_of_ble_eq_true rfl) dX2_isAmong_156 ?_
    refine jr_if_eq (tgt := 181) (nxt := 162) dX2_isAmong_159 (by decide) rfl (fun hc => ?_) (fun hc => ?_)
    · replace h := drvT hc h
      refine jr_iconst (v := (0 : Int32)) dX2_isAmong_181 (by decide) ?_
      obtain rfl := drvS1 h
      exact jr_zret (ty := .boolean) rfl rfl dX2_isAmong_182
    · replace h := drvE hc h
      refine jr_aload_n dX2_isAmong_162 rfl 0 rfl ?_
      refine gf_X2_21 (r := 1) rfl (rfl : kd 182 = 2) rfl dX2_isAmong_163 ?_
      refine gf_X2_29 (r := 9) rfl (rfl : kd 1 = 7) rfl dX2_isAmong_166 ?_
      refine gf_X2_39 (r := 10) rfl (rfl : kd 9 = 4) rfl dX2_isAmong_169 ?_
      refine jr_iload_n dX2_isAmong_172 rfl 2 rfl ?_
      obtain ⟨hg_19, h⟩ := drvG h
      refine jr_iald (rfl : kd 10 = 13) hg_19 dX2_isAmong_173 ?_
      refine jr_if_eq (tgt := 181) (nxt := 177) dX2_isAmong_174 (by decide) rfl (fun hc => ?_) (fun hc => ?_)
      · replace h := drvT hc h
        refine jr_iconst (v := (0 : Int32)) dX2_isAmong_181 (by decide) ?_
        obtain rfl := drvS1 h
        exact jr_zret (ty := .boolean) rfl rfl dX2_isAmong_182
      · replace h := drvE hc h
        refine jr_iconst (v := (1 : Int32)) dX2_isAmong_177 (by decide) ?_
        refine jr_goto (tgt := 182) dX2_isAmong_178 (by decide) ?_
        obtain rfl := drvS1 h
        exact jr_zret (ty := .boolean) rfl rfl dX2_isAmong_182
  replace h := drvE hs_18 h
  by_cases hs_20 : a0 = (3 : Int32)
  · refine jr_tableK (tgt := 183) dX2_isAmong_1 hs_20 (by decide) (by decide) rfl (by decide) ?_
    refine jr_iconst (v := (1 : Int32)) dX2_isAmong_183 (by decide) ?_
    obtain rfl := drvS1 h
    exact jr_zret (ty := .boolean) rfl rfl dX2_isAmong_184
  by_cases hs_21 : a0 = (4 : Int32)
  · refine jr_tableK (tgt := 183) dX2_isAmong_1 hs_21 (by decide) (by decide) rfl (by decide) ?_
    refine jr_iconst (v := (1 : Int32)) dX2_isAmong_183 (by decide) ?_
    obtain rfl := drvS1 h
    exact jr_zret (ty := .boolean) rfl rfl dX2_isAmong_184
  by_cases hs_22 : a0 = (5 : Int32)
  · refine jr_tableK (tgt := 183) dX2_isAmong_1 hs_22 (by decide) (by decide) rfl (by decide) ?_
    refine jr_iconst (v := (1 : Int32)) dX2_isAmong_183 (by decide) ?_
    obtain rfl := drvS1 h
    exact jr_zret (ty := .boolean) rfl rfl dX2_isAmong_184
  by_cases hs_23 : a0 = (8 : Int32)
  · refine jr_tableK (tgt := 183) dX2_isAmong_1 hs_23 (by decide) (by decide) rfl (by decide) ?_
    refine jr_iconst (v := (1 : Int32)) dX2_isAmong_183 (by decide) ?_
    obtain rfl := drvS1 h
    exact jr_zret (ty := .boolean) rfl rfl dX2_isAmong_184
  refine jr_tableOut (tgt := 183) dX2_isAmong_1 (by have a0 := lv_neT hs_1 (show (0 : Int32).toInt = 0 from rfl); have a1 := lv_neT hs_5 (show (1 : Int32).toInt = 1 from rfl); have a2 := lv_neT hs_9 (show (2 : Int32).toInt = 2 from rfl); have a3 := lv_neT hs_12 (show (6 : Int32).toInt = 6 from rfl); have a4 := lv_neT hs_15 (show (7 : Int32).toInt = 7 from rfl); have a5 := lv_neT hs_18 (show (9 : Int32).toInt = 9 from rfl); have a6 := lv_neT hs_20 (show (3 : Int32).toInt = 3 from rfl); have a7 := lv_neT hs_21 (show (4 : Int32).toInt = 4 from rfl); have a8 := lv_neT hs_22 (show (5 : Int32).toInt = 5 from rfl); have a9 := lv_neT hs_23 (show (8 : Int32).toInt = 8 from rfl); omega) (by decide) ?_
  refine jr_iconst (v := (1 : Int32)) dX2_isAmong_183 (by decide) ?_
  obtain rfl := drvS1 h
  exact jr_zret (ty := .boolean) rfl rfl dX2_isAmong_184
set_option maxHeartbeats 4000000 in
set_option maxRecDepth 100000 in
theorem hbX4_common_11 {n : Nat} {p2 : Int64} {k70 : Int32 → (Option Int32)} {w : jWd} {r : Int32} {rec : Int32 → Int64 → Int32 → Option Int32} (hk70 : ∀ (z4 : Int32), k70 z4 = some r → J MX4_common 2 w 70 [(4, .int z4)] [] (some (.int r)) w)
    (hrec : ∀ (x4 : Int32) (x5 : Int64) (x7 : Int32) , rec x4 x5 x7 = some r → J MX4_common 2 w 11 [(2, .long p2), (4, .int x4), (5, .long x5), (7, .int x7)] [] (some (.int r)) w) : ∀ (x4 : Int32) (x5 : Int64) (x7 : Int32) , bX4_common_11 n p2 k70 rec x4 x5 x7 = some r → J MX4_common 2 w 11 [(2, .long p2), (4, .int x4), (5, .long x5), (7, .int x7)] [] (some (.int r)) w := by
  intro x4 x5 x7 h
  unfold bX4_common_11 at h
  refine jr_iload dX4_common_11 3 rfl ?_
  refine jr_bipush (v := (8 : Int32)) dX4_common_13 (by decide) ?_
  refine jr_icmp_ge (tgt := 70) (nxt := 18) dX4_common_15 (by decide) rfl (fun hc => ?_) (fun hc => ?_)
  · replace h := drvT hc h
    refine jr_sub [1] rfl ?_
    exact hk70 _ h
  · replace h := drvE hc h
    refine jr_lload dX4_common_18 2 rfl ?_
    refine jr_lconst (v := (0 : Int64)) dX4_common_20 rfl ?_
    refine jr_lcmp dX4_common_21 ?_
    refine jr_if_eq (tgt := 70) (nxt := 25) dX4_common_22 (by decide) rfl (fun hc => ?_) (fun hc => ?_)
    · replace h := drvT hc h
      refine jr_sub [1] rfl ?_
      exact hk70 _ h
    · replace h := drvE hc h
      refine jr_iload dX4_common_25 1 rfl ?_
      refine jr_lload_n dX4_common_27 rfl 0 rfl ?_
      refine jr_lload dX4_common_28 2 rfl ?_
      refine jr_bipush (v := (56 : Int32)) dX4_common_30 (by decide) ?_
      refine jr_lushr dX4_common_32 ?_
      refine jr_l2i dX4_common_33 ?_
      obtain ⟨r_2, hq_1, h⟩ := drvB h
      refine j_callSv lk_X4_35 wST_X4_places (tX4_places  hq_1) (by omega) rfl rfl (Nat.le_of_ble_eq_true rfl) dX4_common_34 ?_
      refine jr_iand dX4_common_37 ?_
      refine j_nmi (fun x8_3 e_4 => ?_)
      replace h := drvL e_4 h
      refine jr_istore (lv' := [(8, .int x8_3), (2, .long p2), (4, .int x4), (5, .long x5), (7, .int x7)]) dX4_common_38 (by decide) rfl ?_
      refine jr_iload dX4_common_40 2 rfl ?_
      refine jr_iload dX4_common_42 0 rfl ?_
      refine jr_iadd dX4_common_44 ?_
      refine jr_iload dX4_common_45 2 rfl ?_
      refine jr_iload dX4_common_47 0 rfl ?_
      refine jr_isub dX4_common_49 ?_
      refine jr_ior dX4_common_50 ?_
      refine jr_sipush (v := (255 : Int32)) dX4_common_51 (by decide) ?_
      refine jr_iand dX4_common_54 ?_
      refine j_nmi (fun x4_5 e_6 => ?_)
      replace h := drvL e_6 h
      refine jr_istore (lv' := [(4, .int x4_5), (8, .int x8_3), (2, .long p2), (5, .long x5), (7, .int x7)]) dX4_common_55 (by decide) rfl ?_
      refine jr_lload dX4_common_57 3 rfl ?_
      refine jr_bipush (v := (8 : Int32)) dX4_common_59 (by decide) ?_
      refine jr_lshl dX4_common_61 ?_
      refine j_nml (fun x5_7 e_8 => ?_)
      replace h := drvL e_8 h
      refine jr_lstore (lv' := [(5, .long x5_7), (4, .int x4_5), (8, .int x8_3), (2, .long p2), (7, .int x7)]) dX4_common_62 (by decide) rfl ?_
      refine jr_iincN (c := (1 : Int32)) (lv' := fun (x7_9 : Int32) => [(7, .int x7_9), (5, .long x5_7), (4, .int x4_5), (8, .int x8_3), (2, .long p2)]) dX4_common_64 (by decide) 4 rfl (by decide) (fun _ => rfl) (fun x7_9 e_10 => ?_)
      replace h := drvL e_10 h
      refine jr_goto (tgt := 11) dX4_common_67 (by decide) ?_
      refine jr_sub [4, 2, 1, 0] rfl ?_
      exact hrec _ _ _ h
theorem hlX4_common_11 {n : Nat} {p2 : Int64} {k70 : Int32 → (Option Int32)} {w : jWd} {r : Int32} (hk70 : ∀ (z4 : Int32), k70 z4 = some r → J MX4_common 2 w 70 [(4, .int z4)] [] (some (.int r)) w) : ∀ (c : Nat) (x4 : Int32) (x5 : Int64) (x7 : Int32) , lX4_common_11 n p2 k70 c x4 x5 x7 = some r → J MX4_common 2 w 11 [(2, .long p2), (4, .int x4), (5, .long x5), (7, .int x7)] [] (some (.int r)) w := by
  intro c
  induction c with
  | zero => intro x4 x5 x7 h; cases h
  | succ c ih => intro x4 x5 x7 h; exact hbX4_common_11 (n := n) hk70 ih _ _ _ h
set_option maxHeartbeats 4000000 in
set_option maxRecDepth 100000 in
theorem tX4_common {n : Nat} {a0 : Int64} {a1 : Int64} {w : jWd} {r : Int32}  (h : fX4_common n a0 a1 = some r) : JM yX4_common MX4_common 2 [.long a0, .long a1] w (some (.int r)) w := by
  refine jm_of pl_X4 rfl (Nat.le_of_ble_eq_true rfl) ?_
  show J MX4_common 2 w 0 [(0, .long a0), (2, .long a1)] [] (some (.int r)) w
  unfold fX4_common at h
  refine jr_sipush (v := (255 : Int32)) dX4_common_0 (by decide) ?_
  refine jr_istore (lv' := [(4, .int (255 : Int32)), (0, .long a0), (2, .long a1)]) dX4_common_3 (by decide) rfl ?_
  refine jr_lload_n dX4_common_5 rfl 1 rfl ?_
  refine jr_lstore (lv' := [(5, .long a0), (4, .int (255 : Int32)), (0, .long a0), (2, .long a1)]) dX4_common_6 (by decide) rfl ?_
  refine jr_iconst (v := (0 : Int32)) dX4_common_8 (by decide) ?_
  refine jr_istore (lv' := [(7, .int (0 : Int32)), (5, .long a0), (4, .int (255 : Int32)), (0, .long a0), (2, .long a1)]) dX4_common_9 (by decide) rfl ?_
  refine jr_sub [4, 2, 1, 0] rfl ?_
  refine hlX4_common_11  ?_ _ _ _ _ h
  · intro z4_11 h
    try dsimp only at h
    refine jr_bipush (v := (8 : Int32)) dX4_common_70 (by decide) ?_
    refine jr_iload dX4_common_72 0 rfl ?_
    refine j_callSv lk_X4_38 wST_J6_bitCount_0f7a4 (tJ6_bitCount_0f7a4  (a0 := z4_11) (w := w)) (by omega) rfl rfl (Nat.le_of_ble_eq_true rfl) dX4_common_74 ?_
    refine jr_isub dX4_common_77 ?_
    obtain rfl := drvS1 h
    exact jr_iret rfl dX4_common_78
set_option maxHeartbeats 4000000 in
set_option maxRecDepth 100000 in
theorem tX4_alike {n : Nat} {a0 : Int64} {a1 : Int64} {w : jWd} {r : Int32}  (h : fX4_alike n a0 a1 = some r) : JM yX4_alike MX4_alike 3 [.long a0, .long a1] w (some (.int r)) w := by
  refine jm_of pl_X4 rfl (Nat.le_of_ble_eq_true rfl) ?_
  show J MX4_alike 3 w 0 [(0, .long a0), (2, .long a1)] [] (some (.int r)) w
  unfold fX4_alike at h
  refine jr_lload_n dX4_alike_0 rfl 0 rfl ?_
  refine jr_lload_n dX4_alike_1 rfl 1 rfl ?_
  refine jr_lcmp dX4_alike_2 ?_
  refine jr_if_ne (tgt := 9) (nxt := 6) dX4_alike_3 (by decide) rfl (fun hc => ?_) (fun hc => ?_)
  · replace h := drvE hc h
    refine jr_lload_n dX4_alike_9 rfl 0 rfl ?_
    obtain ⟨r_2, hq_1, h⟩ := drvB h
    refine j_callSv lk_X4_15 wST_X4_length (tX4_length  hq_1) (by omega) rfl rfl (Nat.le_of_ble_eq_true rfl) dX4_alike_10 ?_
    refine jr_lload_n dX4_alike_13 rfl 1 rfl ?_
    obtain ⟨r_4, hq_3, h⟩ := drvB h
    refine j_callSv lk_X4_15 wST_X4_length (tX4_length  hq_3) (by omega) rfl rfl (Nat.le_of_ble_eq_true rfl) dX4_alike_14 ?_
    refine jr_imax wML_X4_25 (by decide) (Nat.le_of_ble_eq_true rfl) dX4_alike_17 ?_
    refine j_nmi (fun x4_5 e_6 => ?_)
    replace h := drvL e_6 h
    refine jr_istore (lv' := [(4, .int x4_5), (0, .long a0), (2, .long a1)]) dX4_alike_20 (by decide) rfl ?_
    refine jr_iload dX4_alike_22 0 rfl ?_
    refine jr_if_ne (tgt := 31) (nxt := 27) dX4_alike_24 (by decide) rfl (fun hc => ?_) (fun hc => ?_)
    · replace h := drvE hc h
      refine jr_bipush (v := (100 : Int32)) dX4_alike_31 (by decide) ?_
      refine jr_lload_n dX4_alike_33 rfl 1 rfl ?_
      refine jr_lload_n dX4_alike_34 rfl 2 rfl ?_
      obtain ⟨r_8, hq_7, h⟩ := drvB h
      refine j_callSv lk_X4_31 wST_X4_common (tX4_common  hq_7) (by omega) rfl rfl (Nat.le_of_ble_eq_true rfl) dX4_alike_35 ?_
      refine jr_imul dX4_alike_38 ?_
      refine jr_iload dX4_alike_39 0 rfl ?_
      obtain ⟨hz_9, h⟩ := drvZi h
      refine jr_idiv dX4_alike_41 hz_9 ?_
      obtain rfl := drvS1 h
      exact jr_iret rfl dX4_alike_42
    · replace h := drvT hc h
      refine jr_iconst (v := (0 : Int32)) dX4_alike_27 (by decide) ?_
      refine jr_goto (tgt := 42) dX4_alike_28 (by decide) ?_
      obtain rfl := drvS1 h
      exact jr_iret rfl dX4_alike_42
  · replace h := drvT hc h
    refine jr_bipush (v := (100 : Int32)) dX4_alike_6 (by decide) ?_
    obtain rfl := drvS1 h
    exact jr_iret rfl dX4_alike_8
set_option maxHeartbeats 4000000 in
set_option maxRecDepth 100000 in
theorem hbX2_nearest_46 {n : Nat} {p1 : Int32} {p2 : Int64} {p4 : Int32} {p5 : Nat} {p7 : Int32} {k133 : Int32 → jWd → (Option (Int32 × jWd))} {r : Int32} {w' : jWd} {rec : Int32 → Int32 → jWd → Option (Int32 × jWd)} (hk_p5 : kd p5 = 4) (hk133 : ∀ (z6 : Int32) (w9 : jWd), k133 z6 w9 = some (r, w') → J MX2_nearest 4 w9 133 [(0, .ref 182), (1, .int p1), (2, .long p2), (4, .int p4), (5, .ref p5), (6, .int z6), (7, .int p7)] [] (some (.int r)) w')
    (hrec : ∀ (x6 : Int32) (x8 : Int32) (w : jWd) , rec x6 x8 w = some (r, w') → J MX2_nearest 4 w 46 [(0, .ref 182), (1, .int p1), (2, .long p2), (4, .int p4), (5, .ref p5), (6, .int x6), (7, .int p7), (8, .int x8)] [] (some (.int r)) w') : ∀ (x6 : Int32) (x8 : Int32) (w : jWd) , bX2_nearest_46 n p1 p2 p4 p5 p7 k133 rec x6 x8 w = some (r, w') → J MX2_nearest 4 w 46 [(0, .ref 182), (1, .int p1), (2, .long p2), (4, .int p4), (5, .ref p5), (6, .int x6), (7, .int p7), (8, .int x8)] [] (some (.int r)) w' := by
  intro x6 x8 w h
  unfold bX2_nearest_46 at h
  refine jr_iload dX2_nearest_46 7 rfl ?_
  refine jr_aload dX2_nearest_48 4 rfl ?_
  refine gf_X2_71 (r := (p5 + 4)) rfl hk_p5 rfl dX2_nearest_50 ?_
  refine jr_iload dX2_nearest_53 6 rfl ?_
  obtain ⟨hg_7, h⟩ := drvG h
  refine jr_iald (kr_4_4 hk_p5) hg_7 dX2_nearest_55 ?_
  refine jr_icmp_ge (tgt := 133) (nxt := 59) dX2_nearest_56 (by decide) rfl (fun hc => ?_) (fun hc => ?_)
  · replace h := drvT hc h
    refine jr_sub [0, 1, 2, 3, 4, 5, 6] rfl ?_
    exact hk133 _ _ h
  · replace h := drvE hc h
    refine jr_iload dX2_nearest_59 6 rfl ?_
    refine jr_aload dX2_nearest_61 4 rfl ?_
    refine gf_X2_74 rfl hk_p5 dX2_nearest_63 ?_
    refine jr_imul dX2_nearest_66 ?_
    refine jr_iload dX2_nearest_67 7 rfl ?_
    refine jr_iadd dX2_nearest_69 ?_
    refine j_nmi (fun x9_8 e_9 => ?_)
    replace h := drvL e_9 h
    refine jr_istore (lv' := [(9, .int x9_8), (0, .ref 182), (1, .int p1), (2, .long p2), (4, .int p4), (5, .ref p5), (6, .int x6), (7, .int p7), (8, .int x8)]) dX2_nearest_70 (by decide) rfl ?_
    refine jr_lload_n dX2_nearest_72 rfl 3 rfl ?_
    refine jr_iload_n dX2_nearest_73 rfl 2 rfl ?_
    refine jr_iconst (v := (2 : Int32)) dX2_nearest_74 (by decide) ?_
    obtain ⟨j99_11, ej99_11, h⟩ := drvF h
    have hj99_11 : ∀ (s_10 : Int64), j99_11 s_10 = some (r, w') → J MX2_nearest 4 w 99 [(0, .ref 182), (1, .int p1), (2, .long p2), (4, .int p4), (5, .ref p5), (6, .int x6), (7, .int p7), (8, .int x8)] [.long s_10, .long p2] (some (.int r)) w' := by
      intro s_10 h
      rw [ej99_11] at h
      try dsimp only at h
      obtain ⟨r_13, hq_12, h⟩ := drvB h
      refine j_callSv lk_X2_83 wST_X4_alike (tX4_alike  hq_12) (by omega) rfl rfl (Nat.le_of_ble_eq_true rfl) dX2_nearest_99 ?_
      refine jr_istore (lv' := [(10, .int r_13), (0, .ref 182), (1, .int p1), (2, .long p2), (4, .int p4), (5, .ref p5), (6, .int x6), (7, .int p7), (8, .int x8)]) dX2_nearest_102 (by decide) rfl ?_
      refine jr_iload dX2_nearest_104 0 rfl ?_
      refine jr_iload dX2_nearest_106 6 rfl ?_
      refine jr_icmp_le (tgt := 127) (nxt := 111) dX2_nearest_108 (by decide) rfl (fun hc => ?_) (fun hc => ?_)
      · replace h := drvT hc h
        refine jr_iincN (c := (1 : Int32)) (lv' := fun (x8_14 : Int32) => [(8, .int x8_14), (10, .int r_13), (0, .ref 182), (1, .int p1), (2, .long p2), (4, .int p4), (5, .ref p5), (6, .int x6), (7, .int p7)]) dX2_nearest_127 (by decide) 8 rfl (by decide) (fun _ => rfl) (fun x8_14 e_15 => ?_)
        replace h := drvL e_15 h
        refine jr_goto (tgt := 46) dX2_nearest_130 (by decide) ?_
        refine jr_sub [2, 3, 4, 5, 6, 7, 8, 0] rfl ?_
        exact hrec _ _ _ h
      · replace h := drvE hc h
        refine jr_iload dX2_nearest_111 0 rfl ?_
        refine jr_istore (lv' := [(6, .int r_13), (10, .int r_13), (0, .ref 182), (1, .int p1), (2, .long p2), (4, .int p4), (5, .ref p5), (7, .int p7), (8, .int x8)]) dX2_nearest_113 (by decide) rfl ?_
        refine jr_aload_n dX2_nearest_115 rfl 2 rfl ?_
        refine jr_bipush (v := (100 : Int32)) dX2_nearest_116 (by decide) ?_
        refine jr_iload dX2_nearest_118 7 rfl ?_
        refine jr_imul dX2_nearest_120 ?_
        refine jr_iload dX2_nearest_121 8 rfl ?_
        refine jr_iadd dX2_nearest_123 ?_
        refine pf_X2_60 rfl (rfl : kd 182 = 2) dX2_nearest_124 ?_
        refine j_nmw (fun w_16 e_17 => ?_)
        replace h := drvL e_17 h
        refine jr_iincN (c := (1 : Int32)) (lv' := fun (x8_18 : Int32) => [(8, .int x8_18), (6, .int r_13), (10, .int r_13), (0, .ref 182), (1, .int p1), (2, .long p2), (4, .int p4), (5, .ref p5), (7, .int p7)]) dX2_nearest_127 (by decide) 8 rfl (by decide) (fun _ => rfl) (fun x8_18 e_19 => ?_)
        replace h := drvL e_19 h
        refine jr_goto (tgt := 46) dX2_nearest_130 (by decide) ?_
        refine jr_sub [3, 4, 5, 6, 7, 1, 8, 0] rfl ?_
        exact hrec _ _ _ h
    refine jr_icmp_ne (tgt := 91) (nxt := 78) dX2_nearest_75 (by decide) rfl (fun hc => ?_) (fun hc => ?_)
    · replace h := drvE hc h
      refine jr_aload dX2_nearest_91 5 rfl ?_
      refine gf_X2_80 (r := (p5 + 6)) rfl hk_p5 rfl dX2_nearest_93 ?_
      refine jr_iload dX2_nearest_96 0 rfl ?_
      obtain ⟨hg_20, h⟩ := drvG h
      refine jr_lald (kr_4_6 hk_p5) hg_20 dX2_nearest_98 ?_
      refine jr_sub [1, 2, 3, 4, 5, 6, 7, 8] rfl ?_
      exact hj99_11 _ h
    · replace h := drvT hc h
      refine jr_aload_n dX2_nearest_78 rfl 1 rfl ?_
      refine gf_X2_21 (r := 1) rfl (rfl : kd 182 = 2) rfl dX2_nearest_79 ?_
      refine gf_X2_77 (r := 30) rfl (rfl : kd 1 = 7) rfl dX2_nearest_82 ?_
      refine jr_iload dX2_nearest_85 0 rfl ?_
      obtain ⟨hg_21, h⟩ := drvG h
      refine jr_lald (rfl : kd 30 = 14) hg_21 dX2_nearest_87 ?_
      refine jr_goto (tgt := 99) dX2_nearest_88 (by decide) ?_
      refine jr_sub [1, 2, 3, 4, 5, 6, 7, 8] rfl ?_
      exact hj99_11 _ h
theorem hlX2_nearest_46 {n : Nat} {p1 : Int32} {p2 : Int64} {p4 : Int32} {p5 : Nat} {p7 : Int32} {k133 : Int32 → jWd → (Option (Int32 × jWd))} {r : Int32} {w' : jWd} (hk_p5 : kd p5 = 4) (hk133 : ∀ (z6 : Int32) (w9 : jWd), k133 z6 w9 = some (r, w') → J MX2_nearest 4 w9 133 [(0, .ref 182), (1, .int p1), (2, .long p2), (4, .int p4), (5, .ref p5), (6, .int z6), (7, .int p7)] [] (some (.int r)) w') : ∀ (c : Nat) (x6 : Int32) (x8 : Int32) (w : jWd) , lX2_nearest_46 n p1 p2 p4 p5 p7 k133 c x6 x8 w = some (r, w') → J MX2_nearest 4 w 46 [(0, .ref 182), (1, .int p1), (2, .long p2), (4, .int p4), (5, .ref p5), (6, .int x6), (7, .int p7), (8, .int x8)] [] (some (.int r)) w' := by
  intro c
  induction c with
  | zero => intro x6 x8 w h; cases h
  | succ c ih => intro x6 x8 w h; exact hbX2_nearest_46 (n := n) hk_p5 hk133 ih _ _ _ h
set_option maxHeartbeats 4000000 in
set_option maxRecDepth 100000 in
theorem hbX2_nearest_18 {n : Nat} {p1 : Int32} {p2 : Int64} {p4 : Int32} {p5 : Nat} {r : Int32} {w' : jWd} {rec : Int32 → Int32 → jWd → Option (Int32 × jWd)} (hk_p5 : kd p5 = 4) 
    (hrec : ∀ (x6 : Int32) (x7 : Int32) (w : jWd) , rec x6 x7 w = some (r, w') → J MX2_nearest 4 w 18 [(0, .ref 182), (1, .int p1), (2, .long p2), (4, .int p4), (5, .ref p5), (6, .int x6), (7, .int x7)] [] (some (.int r)) w') : ∀ (x6 : Int32) (x7 : Int32) (w : jWd) , bX2_nearest_18 n p1 p2 p4 p5 rec x6 x7 w = some (r, w') → J MX2_nearest 4 w 18 [(0, .ref 182), (1, .int p1), (2, .long p2), (4, .int p4), (5, .ref p5), (6, .int x6), (7, .int x7)] [] (some (.int r)) w' := by
  intro x6 x7 w h
  unfold bX2_nearest_18 at h
  refine jr_iload dX2_nearest_18 6 rfl ?_
  refine jr_aload dX2_nearest_20 4 rfl ?_
  refine gf_X2_64 rfl hk_p5 dX2_nearest_22 ?_
  refine jr_icmp_ge (tgt := 139) (nxt := 28) dX2_nearest_25 (by decide) rfl (fun hc => ?_) (fun hc => ?_)
  · replace h := drvT hc h
    refine jr_iload dX2_nearest_139 5 rfl ?_
    obtain ⟨rfl, rfl⟩ := drvS2 h
    exact jr_iret rfl dX2_nearest_141
  · replace h := drvE hc h
    refine jr_aload_n dX2_nearest_28 rfl 0 rfl ?_
    refine jr_iload_n dX2_nearest_29 rfl 1 rfl ?_
    refine jr_iload dX2_nearest_30 6 rfl ?_
    refine jr_iload dX2_nearest_32 3 rfl ?_
    obtain ⟨r_6, hq_5, h⟩ := drvB h
    refine j_callVv lk_X2_67 wIM_X2_isAmong wSE_X2_isAmong (rfl : kd 182 = 2) (by decide) rfl (tX2_isAmong  hq_5) (by omega) rfl rfl (Nat.le_of_ble_eq_true rfl) dX2_nearest_34 ?_
    refine jr_if_ne (tgt := 43) (nxt := 40) dX2_nearest_37 (by decide) rfl (fun hc => ?_) (fun hc => ?_)
    · replace h := drvE hc h
      refine jr_iconst (v := (0 : Int32)) dX2_nearest_43 (by decide) ?_
      refine jr_istore (lv' := [(8, .int (0 : Int32)), (0, .ref 182), (1, .int p1), (2, .long p2), (4, .int p4), (5, .ref p5), (6, .int x6), (7, .int x7)]) dX2_nearest_44 (by decide) rfl ?_
      refine jr_sub [1, 2, 3, 4, 5, 6, 7, 0] rfl ?_
      refine hlX2_nearest_46 hk_p5 ?_ _ _ _ _ h
      · intro z6_23 w_22 h
        try dsimp only at h
        refine jr_iincN (c := (1 : Int32)) (lv' := fun (x7_24 : Int32) => [(7, .int x7_24), (0, .ref 182), (1, .int p1), (2, .long p2), (4, .int p4), (5, .ref p5), (6, .int z6_23)]) dX2_nearest_133 (by decide) 6 rfl (by decide) (fun _ => rfl) (fun x7_24 e_25 => ?_)
        replace h := drvL e_25 h
        refine jr_goto (tgt := 18) dX2_nearest_136 (by decide) ?_
        refine jr_sub [1, 2, 3, 4, 5, 6, 0] rfl ?_
        exact hrec _ _ _ h
    · replace h := drvT hc h
      refine jr_goto (tgt := 133) dX2_nearest_40 (by decide) ?_
      refine jr_iincN (c := (1 : Int32)) (lv' := fun (x7_26 : Int32) => [(7, .int x7_26), (0, .ref 182), (1, .int p1), (2, .long p2), (4, .int p4), (5, .ref p5), (6, .int x6)]) dX2_nearest_133 (by decide) 6 rfl (by decide) (fun _ => rfl) (fun x7_26 e_27 => ?_)
      replace h := drvL e_27 h
      refine jr_goto (tgt := 18) dX2_nearest_136 (by decide) ?_
      refine jr_sub [1, 2, 3, 4, 5, 6, 0] rfl ?_
      exact hrec _ _ _ h
theorem hlX2_nearest_18 {n : Nat} {p1 : Int32} {p2 : Int64} {p4 : Int32} {p5 : Nat} {r : Int32} {w' : jWd} (hk_p5 : kd p5 = 4)  : ∀ (c : Nat) (x6 : Int32) (x7 : Int32) (w : jWd) , lX2_nearest_18 n p1 p2 p4 p5 c x6 x7 w = some (r, w') → J MX2_nearest 4 w 18 [(0, .ref 182), (1, .int p1), (2, .long p2), (4, .int p4), (5, .ref p5), (6, .int x6), (7, .int x7)] [] (some (.int r)) w' := by
  intro c
  induction c with
  | zero => intro x6 x7 w h; cases h
  | succ c ih => intro x6 x7 w h; exact hbX2_nearest_18 (n := n) hk_p5 ih _ _ _ h
set_option maxHeartbeats 4000000 in
set_option maxRecDepth 100000 in
theorem tX2_nearest {n : Nat} {a0 : Int32} {a1 : Int64} {a2 : Int32} {w : jWd} {r : Int32} {w' : jWd}  (h : fX2_nearest n a0 a1 a2 w = some (r, w')) : JM yX2_nearest MX2_nearest 4 [.ref 182, .int a0, .long a1, .int a2] w (some (.int r)) w' := by
  refine jm_of pl_X2 rfl (Nat.le_of_ble_eq_true rfl) ?_
  show J MX2_nearest 4 w 0 [(0, .ref 182), (1, .int a0), (2, .long a1), (4, .int a2)] [] (some (.int r)) w'
  unfold fX2_nearest at h
  refine jr_aload_n dX2_nearest_0 rfl 0 rfl ?_
  refine jr_iload_n dX2_nearest_1 rfl 1 rfl ?_
  refine j_callVv lk_X2_56 wIM_X2_pileOf wSE_X2_pileOf (rfl : kd 182 = 2) (by decide) rfl (tX2_pileOf  (a0 := a0) (w := w)) (by omega) rfl rfl (Nat.le_of_ble_eq_true rfl) dX2_nearest_2 ?_
  refine j_nma (fun r_1 e_2 => ?_)
  replace h := drvL e_2 h
  have hk_r_1 : kd r_1 = 4 := by rw [e_2]; exact kqX2_pileOf 
  refine jr_astore (lv' := [(5, .ref r_1), (0, .ref 182), (1, .int a0), (2, .long a1), (4, .int a2)]) dX2_nearest_5 (by decide) rfl ?_
  refine jr_iconst (v := (0 : Int32)) dX2_nearest_7 (by decide) ?_
  refine jr_istore (lv' := [(6, .int (0 : Int32)), (5, .ref r_1), (0, .ref 182), (1, .int a0), (2, .long a1), (4, .int a2)]) dX2_nearest_8 (by decide) rfl ?_
  refine jr_aload_n dX2_nearest_10 rfl 2 rfl ?_
  refine jr_iconst (v := (-1 : Int32)) dX2_nearest_11 (by decide) ?_
  refine pf_X2_60 rfl (rfl : kd 182 = 2) dX2_nearest_12 ?_
  refine j_nmw (fun w_3 e_4 => ?_)
  replace h := drvL e_4 h
  refine jr_iconst (v := (0 : Int32)) dX2_nearest_15 (by decide) ?_
  refine jr_istore (lv' := [(7, .int (0 : Int32)), (6, .int (0 : Int32)), (5, .ref r_1), (0, .ref 182), (1, .int a0), (2, .long a1), (4, .int a2)]) dX2_nearest_16 (by decide) rfl ?_
  refine jr_sub [3, 4, 5, 6, 2, 1, 0] rfl ?_
  refine hlX2_nearest_18 hk_r_1  _ _ _ _ h
set_option maxHeartbeats 4000000 in
set_option maxRecDepth 100000 in
theorem hbX2_look_52 {n : Nat} {p2 : Int64} {p4 : Int32} {k111 : Int32 → jWd → (Option jWd)} {k81 : Int32 → jWd → (Option jWd)} {w' : jWd} {rec : Int32 → Int32 → jWd → Option jWd} (hk111 : ∀ (z5 : Int32) (w9 : jWd), k111 z5 w9 = some w' → J MX2_look 5 w9 111 [(0, .ref 182), (5, .int z5)] [] none w') (hk81 : ∀ (z6 : Int32) (w9 : jWd), k81 z6 w9 = some w' → J MX2_look 5 w9 81 [(0, .ref 182), (6, .int z6)] [] none w')
    (hrec : ∀ (x5 : Int32) (x6 : Int32) (w : jWd) , rec x5 x6 w = some w' → J MX2_look 5 w 52 [(0, .ref 182), (2, .long p2), (4, .int p4), (5, .int x5), (6, .int x6)] [] none w') : ∀ (x5 : Int32) (x6 : Int32) (w : jWd) , bX2_look_52 n p2 p4 k111 k81 rec x5 x6 w = some w' → J MX2_look 5 w 52 [(0, .ref 182), (2, .long p2), (4, .int p4), (5, .int x5), (6, .int x6)] [] none w' := by
  intro x5 x6 w h
  unfold bX2_look_52 at h
  refine jr_iload dX2_look_52 4 rfl ?_
  refine jr_iconst (v := (3 : Int32)) dX2_look_54 (by decide) ?_
  refine jr_icmp_gt (tgt := 111) (nxt := 58) dX2_look_55 (by decide) rfl (fun hc => ?_) (fun hc => ?_)
  · replace h := drvT hc h
    refine jr_sub [0, 3] rfl ?_
    exact hk111 _ _ h
  · replace h := drvE hc h
    refine jr_aload_n dX2_look_58 rfl 0 rfl ?_
    refine jr_iload dX2_look_59 4 rfl ?_
    refine jr_lload_n dX2_look_61 rfl 1 rfl ?_
    refine jr_iload dX2_look_62 2 rfl ?_
    obtain ⟨r_9, w_8, hq_7, h⟩ := drvB2 h
    refine j_callVv lk_X2_99 wIM_X2_nearest wSE_X2_nearest (rfl : kd 182 = 2) (by decide) rfl (tX2_nearest  hq_7) (by omega) rfl rfl (Nat.le_of_ble_eq_true rfl) dX2_look_64 ?_
    refine jr_istore (lv' := [(7, .int r_9), (0, .ref 182), (2, .long p2), (4, .int p4), (5, .int x5), (6, .int x6)]) dX2_look_67 (by decide) rfl ?_
    refine jr_iload dX2_look_69 0 rfl ?_
    refine jr_aload_n dX2_look_71 rfl 1 rfl ?_
    refine gf_X2_21 (r := 1) rfl (rfl : kd 182 = 2) rfl dX2_look_72 ?_
    refine gf_X2_103 rfl (rfl : kd 1 = 7) dX2_look_75 ?_
    refine jr_icmp_lt (tgt := 96) (nxt := 81) dX2_look_78 (by decide) rfl (fun hc => ?_) (fun hc => ?_)
    · replace h := drvT hc h
      refine jr_iload dX2_look_96 4 rfl ?_
      refine jr_iload dX2_look_98 0 rfl ?_
      refine jr_imax wML_X2_112 (by decide) (Nat.le_of_ble_eq_true rfl) dX2_look_100 ?_
      refine j_nmi (fun x5_10 e_11 => ?_)
      replace h := drvL e_11 h
      refine jr_istore (lv' := [(5, .int x5_10), (7, .int r_9), (0, .ref 182), (2, .long p2), (4, .int p4), (6, .int x6)]) dX2_look_103 (by decide) rfl ?_
      refine jr_iincN (c := (1 : Int32)) (lv' := fun (x6_12 : Int32) => [(6, .int x6_12), (5, .int x5_10), (7, .int r_9), (0, .ref 182), (2, .long p2), (4, .int p4)]) dX2_look_105 (by decide) 5 rfl (by decide) (fun _ => rfl) (fun x6_12 e_13 => ?_)
      replace h := drvL e_13 h
      refine jr_goto (tgt := 52) dX2_look_108 (by decide) ?_
      refine jr_sub [3, 4, 5, 1, 0] rfl ?_
      exact hrec _ _ _ h
    · replace h := drvE hc h
      refine jr_sub [1, 5] rfl ?_
      exact hk81 _ _ h
theorem hlX2_look_52 {n : Nat} {p2 : Int64} {p4 : Int32} {k111 : Int32 → jWd → (Option jWd)} {k81 : Int32 → jWd → (Option jWd)} {w' : jWd} (hk111 : ∀ (z5 : Int32) (w9 : jWd), k111 z5 w9 = some w' → J MX2_look 5 w9 111 [(0, .ref 182), (5, .int z5)] [] none w') (hk81 : ∀ (z6 : Int32) (w9 : jWd), k81 z6 w9 = some w' → J MX2_look 5 w9 81 [(0, .ref 182), (6, .int z6)] [] none w') : ∀ (c : Nat) (x5 : Int32) (x6 : Int32) (w : jWd) , lX2_look_52 n p2 p4 k111 k81 c x5 x6 w = some w' → J MX2_look 5 w 52 [(0, .ref 182), (2, .long p2), (4, .int p4), (5, .int x5), (6, .int x6)] [] none w' := by
  intro c
  induction c with
  | zero => intro x5 x6 w h; cases h
  | succ c ih => intro x5 x6 w h; exact hbX2_look_52 (n := n) hk111 hk81 ih _ _ _ h
set_option maxHeartbeats 4000000 in
set_option maxRecDepth 100000 in
theorem tX2_look {n : Nat} {a0 : Int32} {w : jWd} {w' : jWd}  (h : fX2_look n a0 w = some w') : JM yX2_look MX2_look 5 [.ref 182, .int a0] w none w' := by
  refine jm_of pl_X2 rfl (Nat.le_of_ble_eq_true rfl) ?_
  show J MX2_look 5 w 0 [(0, .ref 182), (1, .int a0)] [] none w'
  unfold fX2_look at h
  refine jr_aload_n dX2_look_0 rfl 0 rfl ?_
  refine gf_X2_21 (r := 1) rfl (rfl : kd 182 = 2) rfl dX2_look_1 ?_
  refine gf_X2_25 (r := 16) rfl (rfl : kd 1 = 7) rfl dX2_look_4 ?_
  refine jr_iconst (v := (0 : Int32)) dX2_look_7 (by decide) ?_
  refine jr_iload_n dX2_look_8 rfl 1 rfl ?_
  obtain ⟨r_2, hq_1, h⟩ := drvB h
  refine j_callVv lk_X2_89 wIM_X5_at wSE_X5_at (rfl : kd 16 = 4) (by decide) rfl (tX5_at (rfl : kd 16 = 4) hq_1) (by omega) rfl rfl (Nat.le_of_ble_eq_true rfl) dX2_look_9 ?_
  refine jr_lstore_n (lv' := [(2, .long r_2), (0, .ref 182), (1, .int a0)]) dX2_look_12 rfl (by decide) rfl ?_
  refine jr_aload_n dX2_look_13 rfl 1 rfl ?_
  refine gf_X2_21 (r := 1) rfl (rfl : kd 182 = 2) rfl dX2_look_14 ?_
  refine gf_X2_25 (r := 16) rfl (rfl : kd 1 = 7) rfl dX2_look_17 ?_
  refine jr_iconst (v := (0 : Int32)) dX2_look_20 (by decide) ?_
  refine jr_iload_n dX2_look_21 rfl 2 rfl ?_
  obtain ⟨r_4, hq_3, h⟩ := drvB h
  refine j_callVv lk_X2_93 wIM_X5_has_ wSE_X5_has_ (rfl : kd 16 = 4) (by decide) rfl (tX5_has_ (rfl : kd 16 = 4) hq_3) (by omega) rfl rfl (Nat.le_of_ble_eq_true rfl) dX2_look_22 ?_
  obtain ⟨j44_6, ej44_6, h⟩ := drvF h
  have hj44_6 : ∀ (s_5 : Int32), j44_6 s_5 = some w' → J MX2_look 5 w 44 [(0, .ref 182), (2, .long r_2)] [.int s_5] none w' := by
    intro s_5 h
    rw [ej44_6] at h
    try dsimp only at h
    refine jr_istore (lv' := [(4, .int s_5), (0, .ref 182), (2, .long r_2)]) dX2_look_44 (by decide) rfl ?_
    refine jr_iconst (v := (0 : Int32)) dX2_look_46 (by decide) ?_
    refine jr_istore (lv' := [(5, .int (0 : Int32)), (4, .int s_5), (0, .ref 182), (2, .long r_2)]) dX2_look_47 (by decide) rfl ?_
    refine jr_iconst (v := (0 : Int32)) dX2_look_49 (by decide) ?_
    refine jr_istore (lv' := [(6, .int (0 : Int32)), (5, .int (0 : Int32)), (4, .int s_5), (0, .ref 182), (2, .long r_2)]) dX2_look_50 (by decide) rfl ?_
    refine jr_sub [3, 4, 2, 1, 0] rfl ?_
    refine hlX2_look_52  ?_ ?_ _ _ _ _ h
    · intro z5_15 w_14 h
      try dsimp only at h
      refine jr_aload_n dX2_look_111 rfl 0 rfl ?_
      refine jr_iload dX2_look_112 1 rfl ?_
      refine jr_aload_n dX2_look_114 rfl 0 rfl ?_
      refine gf_X2_21 (r := 1) rfl (rfl : kd 182 = 2) rfl dX2_look_115 ?_
      refine gf_X2_115 rfl (rfl : kd 1 = 7) dX2_look_118 ?_
      obtain ⟨j129_17, ej129_17, h⟩ := drvF h
      have hj129_17 : ∀ (s_16 : Int32), j129_17 s_16 = some w' → J MX2_look 5 w_14 129 [(0, .ref 182)] [.int s_16, .ref 182] none w' := by
        intro s_16 h
        rw [ej129_17] at h
        try dsimp only at h
        refine pf_X2_106 rfl (rfl : kd 182 = 2) dX2_look_129 ?_
        refine j_nmw (fun w_18 e_19 => ?_)
        replace h := drvL e_19 h
        refine jr_aload_n dX2_look_132 rfl 0 rfl ?_
        refine jr_iconst (v := (-1 : Int32)) dX2_look_133 (by decide) ?_
        refine pf_X2_109 rfl (rfl : kd 182 = 2) dX2_look_134 ?_
        refine j_nmw (fun w_20 e_21 => ?_)
        replace h := drvL e_21 h
        obtain rfl := drvS1 h
        exact jr_vret rfl dX2_look_137
      refine jr_icmp_lt (tgt := 128) (nxt := 124) dX2_look_121 (by decide) rfl (fun hc => ?_) (fun hc => ?_)
      · replace h := drvT hc h
        refine jr_iconst (v := (5 : Int32)) dX2_look_128 (by decide) ?_
        refine jr_sub [0] rfl ?_
        exact hj129_17 _ h
      · replace h := drvE hc h
        refine jr_iconst (v := (4 : Int32)) dX2_look_124 (by decide) ?_
        refine jr_goto (tgt := 129) dX2_look_125 (by decide) ?_
        refine jr_sub [0] rfl ?_
        exact hj129_17 _ h
    · intro z6_23 w_22 h
      try dsimp only at h
      refine jr_aload_n dX2_look_81 rfl 0 rfl ?_
      refine jr_iload dX2_look_82 1 rfl ?_
      refine pf_X2_106 rfl (rfl : kd 182 = 2) dX2_look_84 ?_
      refine j_nmw (fun w_24 e_25 => ?_)
      replace h := drvL e_25 h
      refine jr_aload_n dX2_look_87 rfl 0 rfl ?_
      refine jr_aload_n dX2_look_88 rfl 0 rfl ?_
      refine gf_X2_60 rfl (rfl : kd 182 = 2) dX2_look_89 ?_
      refine pf_X2_109 rfl (rfl : kd 182 = 2) dX2_look_92 ?_
      refine j_nmw (fun w_26 e_27 => ?_)
      replace h := drvL e_27 h
      obtain rfl := drvS1 h
      exact jr_vret rfl dX2_look_95
  refine jr_if_eq (tgt := 43) (nxt := 28) dX2_look_25 (by decide) rfl (fun hc => ?_) (fun hc => ?_)
  · replace h := drvT hc h
    refine jr_iconst (v := (0 : Int32)) dX2_look_43 (by decide) ?_
    refine jr_sub [1, 0] rfl ?_
    exact hj44_6 _ h
  · replace h := drvE hc h
    refine jr_aload_n dX2_look_28 rfl 1 rfl ?_
    refine gf_X2_21 (r := 1) rfl (rfl : kd 182 = 2) rfl dX2_look_29 ?_
    refine gf_X2_25 (r := 16) rfl (rfl : kd 1 = 7) rfl dX2_look_32 ?_
    refine gf_X2_96 (r := 21) rfl (rfl : kd 16 = 4) rfl dX2_look_35 ?_
    refine jr_iload_n dX2_look_38 rfl 2 rfl ?_
    obtain ⟨hg_28, h⟩ := drvG h
    refine jr_iald (rfl : kd 21 = 13) hg_28 dX2_look_39 ?_
    refine jr_goto (tgt := 44) dX2_look_40 (by decide) ?_
    refine jr_sub [1, 0] rfl ?_
    exact hj44_6 _ h
set_option maxHeartbeats 4000000 in
set_option maxRecDepth 100000 in
theorem hbX2_bookHasLike_19 {n : Nat} {p1 : Int32} {p2 : Int64} {p4 : Int32} {w : jWd} {r : Int32} {rec : Int32 → Option Int32} 
    (hrec : ∀ (x5 : Int32) , rec x5 = some r → J MX2_bookHasLike 4 w 19 [(0, .ref 182), (1, .int p1), (2, .long p2), (4, .int p4), (5, .int x5)] [] (some (.int r)) w) : ∀ (x5 : Int32) , bX2_bookHasLike_19 n p1 p2 p4 w rec x5 = some r → J MX2_bookHasLike 4 w 19 [(0, .ref 182), (1, .int p1), (2, .long p2), (4, .int p4), (5, .int x5)] [] (some (.int r)) w := by
  intro x5 h
  unfold bX2_bookHasLike_19 at h
  refine jr_iload dX2_bookHasLike_19 4 rfl ?_
  refine jr_aload_n dX2_bookHasLike_21 rfl 0 rfl ?_
  refine gf_X2_21 (r := 1) rfl (rfl : kd 182 = 2) rfl dX2_bookHasLike_22 ?_
  refine gf_X2_29 (r := 9) rfl (rfl : kd 1 = 7) rfl dX2_bookHasLike_25 ?_
  refine gf_X2_71 (r := 13) rfl (rfl : kd 9 = 4) rfl dX2_bookHasLike_28 ?_
  refine jr_iload_n dX2_bookHasLike_31 rfl 1 rfl ?_
  obtain ⟨hg_1, h⟩ := drvG h
  refine jr_iald (rfl : kd 13 = 13) hg_1 dX2_bookHasLike_32 ?_
  refine jr_icmp_ge (tgt := 66) (nxt := 36) dX2_bookHasLike_33 (by decide) rfl (fun hc => ?_) (fun hc => ?_)
  · replace h := drvT hc h
    refine jr_iconst (v := (0 : Int32)) dX2_bookHasLike_66 (by decide) ?_
    obtain rfl := drvS1 h
    exact jr_zret (ty := .boolean) rfl rfl dX2_bookHasLike_67
  · replace h := drvE hc h
    refine jr_aload_n dX2_bookHasLike_36 rfl 0 rfl ?_
    refine gf_X2_21 (r := 1) rfl (rfl : kd 182 = 2) rfl dX2_bookHasLike_37 ?_
    refine gf_X2_29 (r := 9) rfl (rfl : kd 1 = 7) rfl dX2_bookHasLike_40 ?_
    refine jr_iload_n dX2_bookHasLike_43 rfl 1 rfl ?_
    refine jr_iload dX2_bookHasLike_44 4 rfl ?_
    obtain ⟨r_3, hq_2, h⟩ := drvB h
    refine j_callVv lk_X2_89 wIM_X5_at wSE_X5_at (rfl : kd 9 = 4) (by decide) rfl (tX5_at (rfl : kd 9 = 4) hq_2) (by omega) rfl rfl (Nat.le_of_ble_eq_true rfl) dX2_bookHasLike_46 ?_
    refine jr_lload_n dX2_bookHasLike_49 rfl 2 rfl ?_
    obtain ⟨r_5, hq_4, h⟩ := drvB h
    refine j_callSv lk_X2_83 wST_X4_alike (tX4_alike  hq_4) (by omega) rfl rfl (Nat.le_of_ble_eq_true rfl) dX2_bookHasLike_50 ?_
    refine jr_iload dX2_bookHasLike_53 3 rfl ?_
    refine jr_icmp_lt (tgt := 60) (nxt := 58) dX2_bookHasLike_55 (by decide) rfl (fun hc => ?_) (fun hc => ?_)
    · replace h := drvT hc h
      refine jr_iincN (c := (1 : Int32)) (lv' := fun (x5_6 : Int32) => [(5, .int x5_6), (0, .ref 182), (1, .int p1), (2, .long p2), (4, .int p4)]) dX2_bookHasLike_60 (by decide) 4 rfl (by decide) (fun _ => rfl) (fun x5_6 e_7 => ?_)
      replace h := drvL e_7 h
      refine jr_goto (tgt := 19) dX2_bookHasLike_63 (by decide) ?_
      refine jr_sub [1, 2, 3, 4, 0] rfl ?_
      exact hrec _ h
    · replace h := drvE hc h
      refine jr_iconst (v := (1 : Int32)) dX2_bookHasLike_58 (by decide) ?_
      obtain rfl := drvS1 h
      exact jr_zret (ty := .boolean) rfl rfl dX2_bookHasLike_59
theorem hlX2_bookHasLike_19 {n : Nat} {p1 : Int32} {p2 : Int64} {p4 : Int32} {w : jWd} {r : Int32}  : ∀ (c : Nat) (x5 : Int32) , lX2_bookHasLike_19 n p1 p2 p4 w c x5 = some r → J MX2_bookHasLike 4 w 19 [(0, .ref 182), (1, .int p1), (2, .long p2), (4, .int p4), (5, .int x5)] [] (some (.int r)) w := by
  intro c
  induction c with
  | zero => intro x5 h; cases h
  | succ c ih => intro x5 h; exact hbX2_bookHasLike_19 (n := n) ih _ h
set_option maxHeartbeats 4000000 in
set_option maxRecDepth 100000 in
theorem tX2_bookHasLike {n : Nat} {a0 : Int32} {a1 : Int64} {a2 : Int32} {w : jWd} {r : Int32}  (h : fX2_bookHasLike n a0 a1 a2 w = some r) : JM yX2_bookHasLike MX2_bookHasLike 4 [.ref 182, .int a0, .long a1, .int a2] w (some (.int r)) w := by
  refine jm_of pl_X2 rfl (Nat.le_of_ble_eq_true rfl) ?_
  show J MX2_bookHasLike 4 w 0 [(0, .ref 182), (1, .int a0), (2, .long a1), (4, .int a2)] [] (some (.int r)) w
  unfold fX2_bookHasLike at h
  refine jr_aload_n dX2_bookHasLike_0 rfl 0 rfl ?_
  refine gf_X2_21 (r := 1) rfl (rfl : kd 182 = 2) rfl dX2_bookHasLike_1 ?_
  refine gf_X2_29 (r := 9) rfl (rfl : kd 1 = 7) rfl dX2_bookHasLike_4 ?_
  refine jr_iload_n dX2_bookHasLike_7 rfl 1 rfl ?_
  refine j_callVv lk_X2_44 wIM_X5_has wSE_X5_has (rfl : kd 9 = 4) (by decide) rfl (tX5_has (rfl : kd 9 = 4) (a0 := a0) (t := 9) (w := w)) (by omega) rfl rfl (Nat.le_of_ble_eq_true rfl) dX2_bookHasLike_8 ?_
  refine jr_if_ne (tgt := 16) (nxt := 14) dX2_bookHasLike_11 (by decide) rfl (fun hc => ?_) (fun hc => ?_)
  · replace h := drvE hc h
    refine jr_iconst (v := (0 : Int32)) dX2_bookHasLike_16 (by decide) ?_
    refine jr_istore (lv' := [(5, .int (0 : Int32)), (0, .ref 182), (1, .int a0), (2, .long a1), (4, .int a2)]) dX2_bookHasLike_17 (by decide) rfl ?_
    refine jr_sub [1, 2, 3, 4, 0] rfl ?_
    refine hlX2_bookHasLike_19   _ _ h
  · replace h := drvT hc h
    refine jr_iconst (v := (0 : Int32)) dX2_bookHasLike_14 (by decide) ?_
    obtain rfl := drvS1 h
    exact jr_zret (ty := .boolean) rfl rfl dX2_bookHasLike_15
set_option maxHeartbeats 4000000 in
set_option maxRecDepth 100000 in
theorem hbX2_wouldBeTheirs_37 {n : Nat} {p1 : Int32} {p2 : Int64} {w : jWd} {r : Int32} {rec : Int32 → Option Int32} 
    (hrec : ∀ (x4 : Int32) , rec x4 = some r → J MX2_wouldBeTheirs 5 w 37 [(0, .ref 182), (1, .int p1), (2, .long p2), (4, .int x4)] [] (some (.int r)) w) : ∀ (x4 : Int32) , bX2_wouldBeTheirs_37 n p1 p2 w rec x4 = some r → J MX2_wouldBeTheirs 5 w 37 [(0, .ref 182), (1, .int p1), (2, .long p2), (4, .int x4)] [] (some (.int r)) w := by
  intro x4 h
  unfold bX2_wouldBeTheirs_37 at h
  refine jr_iload dX2_wouldBeTheirs_37 3 rfl ?_
  refine jr_aload_n dX2_wouldBeTheirs_39 rfl 0 rfl ?_
  refine gf_X2_21 (r := 1) rfl (rfl : kd 182 = 2) rfl dX2_wouldBeTheirs_40 ?_
  refine gf_X2_29 (r := 9) rfl (rfl : kd 1 = 7) rfl dX2_wouldBeTheirs_43 ?_
  refine gf_X2_71 (r := 13) rfl (rfl : kd 9 = 4) rfl dX2_wouldBeTheirs_46 ?_
  refine jr_iload_n dX2_wouldBeTheirs_49 rfl 1 rfl ?_
  obtain ⟨hg_3, h⟩ := drvG h
  refine jr_iald (rfl : kd 13 = 13) hg_3 dX2_wouldBeTheirs_50 ?_
  refine jr_icmp_ge (tgt := 93) (nxt := 54) dX2_wouldBeTheirs_51 (by decide) rfl (fun hc => ?_) (fun hc => ?_)
  · replace h := drvT hc h
    refine jr_iconst (v := (0 : Int32)) dX2_wouldBeTheirs_93 (by decide) ?_
    obtain rfl := drvS1 h
    exact jr_zret (ty := .boolean) rfl rfl dX2_wouldBeTheirs_94
  · replace h := drvE hc h
    refine jr_iload dX2_wouldBeTheirs_54 3 rfl ?_
    refine jr_aload_n dX2_wouldBeTheirs_56 rfl 0 rfl ?_
    refine gf_X2_11 (r := 183) rfl (rfl : kd 182 = 2) rfl dX2_wouldBeTheirs_57 ?_
    refine jr_alenL (v := (12 : Int32)) (rfl : kd 183 = 14) (by decide) (by decide) (by decide) dX2_wouldBeTheirs_60 ?_
    refine jr_icmp_ge (tgt := 93) (nxt := 64) dX2_wouldBeTheirs_61 (by decide) rfl (fun hc => ?_) (fun hc => ?_)
    · replace h := drvT hc h
      refine jr_iconst (v := (0 : Int32)) dX2_wouldBeTheirs_93 (by decide) ?_
      obtain rfl := drvS1 h
      exact jr_zret (ty := .boolean) rfl rfl dX2_wouldBeTheirs_94
    · replace h := drvE hc h
      refine jr_aload_n dX2_wouldBeTheirs_64 rfl 0 rfl ?_
      refine gf_X2_11 (r := 183) rfl (rfl : kd 182 = 2) rfl dX2_wouldBeTheirs_65 ?_
      refine jr_iload dX2_wouldBeTheirs_68 3 rfl ?_
      obtain ⟨hg_4, h⟩ := drvG h
      refine jr_lald (rfl : kd 183 = 14) hg_4 dX2_wouldBeTheirs_70 ?_
      refine jr_lload_n dX2_wouldBeTheirs_71 rfl 2 rfl ?_
      obtain ⟨r_6, hq_5, h⟩ := drvB h
      refine j_callSv lk_X2_83 wST_X4_alike (tX4_alike  hq_5) (by omega) rfl rfl (Nat.le_of_ble_eq_true rfl) dX2_wouldBeTheirs_72 ?_
      refine jr_aload_n dX2_wouldBeTheirs_75 rfl 0 rfl ?_
      refine gf_X2_21 (r := 1) rfl (rfl : kd 182 = 2) rfl dX2_wouldBeTheirs_76 ?_
      refine gf_X2_103 rfl (rfl : kd 1 = 7) dX2_wouldBeTheirs_79 ?_
      refine jr_icmp_lt (tgt := 87) (nxt := 85) dX2_wouldBeTheirs_82 (by decide) rfl (fun hc => ?_) (fun hc => ?_)
      · replace h := drvT hc h
        refine jr_iincN (c := (1 : Int32)) (lv' := fun (x4_7 : Int32) => [(4, .int x4_7), (0, .ref 182), (1, .int p1), (2, .long p2)]) dX2_wouldBeTheirs_87 (by decide) 3 rfl (by decide) (fun _ => rfl) (fun x4_7 e_8 => ?_)
        replace h := drvL e_8 h
        refine jr_goto (tgt := 37) dX2_wouldBeTheirs_90 (by decide) ?_
        refine jr_sub [1, 2, 3, 0] rfl ?_
        exact hrec _ h
      · replace h := drvE hc h
        refine jr_iconst (v := (1 : Int32)) dX2_wouldBeTheirs_85 (by decide) ?_
        obtain rfl := drvS1 h
        exact jr_zret (ty := .boolean) rfl rfl dX2_wouldBeTheirs_86
theorem hlX2_wouldBeTheirs_37 {n : Nat} {p1 : Int32} {p2 : Int64} {w : jWd} {r : Int32}  : ∀ (c : Nat) (x4 : Int32) , lX2_wouldBeTheirs_37 n p1 p2 w c x4 = some r → J MX2_wouldBeTheirs 5 w 37 [(0, .ref 182), (1, .int p1), (2, .long p2), (4, .int x4)] [] (some (.int r)) w := by
  intro c
  induction c with
  | zero => intro x4 h; cases h
  | succ c ih => intro x4 h; exact hbX2_wouldBeTheirs_37 (n := n) ih _ h
set_option maxHeartbeats 4000000 in
set_option maxRecDepth 100000 in
theorem tX2_wouldBeTheirs {n : Nat} {a0 : Int32} {a1 : Int64} {w : jWd} {r : Int32}  (h : fX2_wouldBeTheirs n a0 a1 w = some r) : JM yX2_wouldBeTheirs MX2_wouldBeTheirs 5 [.ref 182, .int a0, .long a1] w (some (.int r)) w := by
  refine jm_of pl_X2 rfl (Nat.le_of_ble_eq_true rfl) ?_
  show J MX2_wouldBeTheirs 5 w 0 [(0, .ref 182), (1, .int a0), (2, .long a1)] [] (some (.int r)) w
  unfold fX2_wouldBeTheirs at h
  refine jr_aload_n dX2_wouldBeTheirs_0 rfl 0 rfl ?_
  refine gf_X2_21 (r := 1) rfl (rfl : kd 182 = 2) rfl dX2_wouldBeTheirs_1 ?_
  refine gf_X2_29 (r := 9) rfl (rfl : kd 1 = 7) rfl dX2_wouldBeTheirs_4 ?_
  refine jr_iload_n dX2_wouldBeTheirs_7 rfl 1 rfl ?_
  refine j_callVv lk_X2_44 wIM_X5_has wSE_X5_has (rfl : kd 9 = 4) (by decide) rfl (tX5_has (rfl : kd 9 = 4) (a0 := a0) (t := 9) (w := w)) (by omega) rfl rfl (Nat.le_of_ble_eq_true rfl) dX2_wouldBeTheirs_8 ?_
  refine jr_if_ne (tgt := 16) (nxt := 14) dX2_wouldBeTheirs_11 (by decide) rfl (fun hc => ?_) (fun hc => ?_)
  · replace h := drvE hc h
    refine jr_aload_n dX2_wouldBeTheirs_16 rfl 0 rfl ?_
    refine jr_iload_n dX2_wouldBeTheirs_17 rfl 1 rfl ?_
    refine jr_lload_n dX2_wouldBeTheirs_18 rfl 2 rfl ?_
    refine jr_aload_n dX2_wouldBeTheirs_19 rfl 0 rfl ?_
    refine gf_X2_21 (r := 1) rfl (rfl : kd 182 = 2) rfl dX2_wouldBeTheirs_20 ?_
    refine gf_X2_103 rfl (rfl : kd 1 = 7) dX2_wouldBeTheirs_23 ?_
    obtain ⟨r_2, hq_1, h⟩ := drvB h
    refine j_callVv lk_X2_132 wIM_X2_bookHasLike wSE_X2_bookHasLike (rfl : kd 182 = 2) (by decide) rfl (tX2_bookHasLike  hq_1) (by omega) rfl rfl (Nat.le_of_ble_eq_true rfl) dX2_wouldBeTheirs_26 ?_
    refine jr_if_eq (tgt := 34) (nxt := 32) dX2_wouldBeTheirs_29 (by decide) rfl (fun hc => ?_) (fun hc => ?_)
    · replace h := drvT hc h
      refine jr_iconst (v := (0 : Int32)) dX2_wouldBeTheirs_34 (by decide) ?_
      refine jr_istore (lv' := [(4, .int (0 : Int32)), (0, .ref 182), (1, .int a0), (2, .long a1)]) dX2_wouldBeTheirs_35 (by decide) rfl ?_
      refine jr_sub [1, 2, 3, 0] rfl ?_
      refine hlX2_wouldBeTheirs_37   _ _ h
    · replace h := drvE hc h
      refine jr_iconst (v := (1 : Int32)) dX2_wouldBeTheirs_32 (by decide) ?_
      obtain rfl := drvS1 h
      exact jr_zret (ty := .boolean) rfl rfl dX2_wouldBeTheirs_33
  · replace h := drvT hc h
    refine jr_iconst (v := (0 : Int32)) dX2_wouldBeTheirs_14 (by decide) ?_
    obtain rfl := drvS1 h
    exact jr_zret (ty := .boolean) rfl rfl dX2_wouldBeTheirs_15
set_option maxHeartbeats 4000000 in
set_option maxRecDepth 100000 in
theorem hbX2_addsOf_19 {n : Nat} {p1 : Int32} {p2 : Int32} {p3 : Int32} {k83 : jWd → (Option (Int32 × jWd))} {r : Int32} {w' : jWd} {rec : Int32 → jWd → Option (Int32 × jWd)} (hk83 : ∀ (w9 : jWd), k83 w9 = some (r, w') → J MX2_addsOf 7 w9 83 [(0, .ref 182), (1, .int p1), (3, .int p3)] [] (some (.int r)) w')
    (hrec : ∀ (x4 : Int32) (w : jWd) , rec x4 w = some (r, w') → J MX2_addsOf 7 w 19 [(0, .ref 182), (1, .int p1), (2, .int p2), (3, .int p3), (4, .int x4)] [] (some (.int r)) w') : ∀ (x4 : Int32) (w : jWd) , bX2_addsOf_19 n p1 p2 p3 k83 rec x4 w = some (r, w') → J MX2_addsOf 7 w 19 [(0, .ref 182), (1, .int p1), (2, .int p2), (3, .int p3), (4, .int x4)] [] (some (.int r)) w' := by
  intro x4 w h
  unfold bX2_addsOf_19 at h
  refine jr_iload dX2_addsOf_19 4 rfl ?_
  refine jr_aload_n dX2_addsOf_21 rfl 0 rfl ?_
  refine gf_X2_21 (r := 1) rfl (rfl : kd 182 = 2) rfl dX2_addsOf_22 ?_
  refine gf_X2_29 (r := 9) rfl (rfl : kd 1 = 7) rfl dX2_addsOf_25 ?_
  refine gf_X2_71 (r := 13) rfl (rfl : kd 9 = 4) rfl dX2_addsOf_28 ?_
  refine jr_iload_n dX2_addsOf_31 rfl 1 rfl ?_
  obtain ⟨hg_1, h⟩ := drvG h
  refine jr_iald (rfl : kd 13 = 13) hg_1 dX2_addsOf_32 ?_
  refine jr_icmp_ge (tgt := 83) (nxt := 36) dX2_addsOf_33 (by decide) rfl (fun hc => ?_) (fun hc => ?_)
  · replace h := drvT hc h
    refine jr_sub [0, 1, 3] rfl ?_
    exact hk83 _ h
  · replace h := drvE hc h
    refine jr_iload dX2_addsOf_36 4 rfl ?_
    refine jr_aload_n dX2_addsOf_38 rfl 0 rfl ?_
    refine gf_X2_11 (r := 183) rfl (rfl : kd 182 = 2) rfl dX2_addsOf_39 ?_
    refine jr_alenL (v := (12 : Int32)) (rfl : kd 183 = 14) (by decide) (by decide) (by decide) dX2_addsOf_42 ?_
    refine jr_icmp_ge (tgt := 83) (nxt := 46) dX2_addsOf_43 (by decide) rfl (fun hc => ?_) (fun hc => ?_)
    · replace h := drvT hc h
      refine jr_sub [0, 1, 3] rfl ?_
      exact hk83 _ h
    · replace h := drvE hc h
      refine jr_aload_n dX2_addsOf_46 rfl 0 rfl ?_
      refine gf_X2_11 (r := 183) rfl (rfl : kd 182 = 2) rfl dX2_addsOf_47 ?_
      refine jr_iload dX2_addsOf_50 4 rfl ?_
      refine jr_aload_n dX2_addsOf_52 rfl 0 rfl ?_
      refine gf_X2_21 (r := 1) rfl (rfl : kd 182 = 2) rfl dX2_addsOf_53 ?_
      refine gf_X2_136 (r := 32) rfl (rfl : kd 1 = 7) rfl dX2_addsOf_56 ?_
      refine jr_aload_n dX2_addsOf_59 rfl 0 rfl ?_
      refine gf_X2_21 (r := 1) rfl (rfl : kd 182 = 2) rfl dX2_addsOf_60 ?_
      refine gf_X2_29 (r := 9) rfl (rfl : kd 1 = 7) rfl dX2_addsOf_63 ?_
      refine jr_iload_n dX2_addsOf_66 rfl 1 rfl ?_
      refine jr_iload dX2_addsOf_67 4 rfl ?_
      obtain ⟨r_3, hq_2, h⟩ := drvB h
      refine j_callVv lk_X2_89 wIM_X5_at wSE_X5_at (rfl : kd 9 = 4) (by decide) rfl (tX5_at (rfl : kd 9 = 4) hq_2) (by omega) rfl rfl (Nat.le_of_ble_eq_true rfl) dX2_addsOf_69 ?_
      refine jr_iload_n dX2_addsOf_72 rfl 2 rfl ?_
      obtain ⟨r_5, hq_4, h⟩ := drvB h
      refine j_callVv lk_X2_140 wIM_X1_smooth wSE_X1_smooth (rfl : kd 32 = 1) (by decide) rfl (tX1_smooth (rfl : kd 32 = 1) hq_4) (by omega) rfl rfl (Nat.le_of_ble_eq_true rfl) dX2_addsOf_73 ?_
      obtain ⟨hg_8, h⟩ := drvG h
      refine jr_last (rfl : kd 183 = 14) hg_8 dX2_addsOf_76 ?_
      refine j_nmw (fun w_6 e_7 => ?_)
      replace h := drvL e_7 h
      refine jr_iincN (c := (1 : Int32)) (lv' := fun (x4_9 : Int32) => [(4, .int x4_9), (0, .ref 182), (1, .int p1), (2, .int p2), (3, .int p3)]) dX2_addsOf_77 (by decide) 4 rfl (by decide) (fun _ => rfl) (fun x4_9 e_10 => ?_)
      replace h := drvL e_10 h
      refine jr_goto (tgt := 19) dX2_addsOf_80 (by decide) ?_
      refine jr_sub [1, 2, 3, 4, 0] rfl ?_
      exact hrec _ _ h
theorem hlX2_addsOf_19 {n : Nat} {p1 : Int32} {p2 : Int32} {p3 : Int32} {k83 : jWd → (Option (Int32 × jWd))} {r : Int32} {w' : jWd} (hk83 : ∀ (w9 : jWd), k83 w9 = some (r, w') → J MX2_addsOf 7 w9 83 [(0, .ref 182), (1, .int p1), (3, .int p3)] [] (some (.int r)) w') : ∀ (c : Nat) (x4 : Int32) (w : jWd) , lX2_addsOf_19 n p1 p2 p3 k83 c x4 w = some (r, w') → J MX2_addsOf 7 w 19 [(0, .ref 182), (1, .int p1), (2, .int p2), (3, .int p3), (4, .int x4)] [] (some (.int r)) w' := by
  intro c
  induction c with
  | zero => intro x4 w h; cases h
  | succ c ih => intro x4 w h; exact hbX2_addsOf_19 (n := n) hk83 ih _ _ h
set_option maxHeartbeats 4000000 in
set_option maxRecDepth 100000 in
theorem hbX2_addsOf_89 {n : Nat} {p1 : Int32} {p3 : Int32} {k162 : Int32 → jWd → (Option (Int32 × jWd))} {r : Int32} {w' : jWd} {rec : Int32 → Int32 → jWd → Option (Int32 × jWd)} (hk162 : ∀ (z4 : Int32) (w9 : jWd), k162 z4 w9 = some (r, w') → J MX2_addsOf 7 w9 162 [(3, .int p3), (4, .int z4)] [] (some (.int r)) w')
    (hrec : ∀ (x4 : Int32) (x5 : Int32) (w : jWd) , rec x4 x5 w = some (r, w') → J MX2_addsOf 7 w 89 [(0, .ref 182), (1, .int p1), (3, .int p3), (4, .int x4), (5, .int x5)] [] (some (.int r)) w') : ∀ (x4 : Int32) (x5 : Int32) (w : jWd) , bX2_addsOf_89 n p1 p3 k162 rec x4 x5 w = some (r, w') → J MX2_addsOf 7 w 89 [(0, .ref 182), (1, .int p1), (3, .int p3), (4, .int x4), (5, .int x5)] [] (some (.int r)) w' := by
  intro x4 x5 w h
  unfold bX2_addsOf_89 at h
  refine jr_iload dX2_addsOf_89 4 rfl ?_
  refine jr_aload_n dX2_addsOf_91 rfl 0 rfl ?_
  refine gf_X2_21 (r := 1) rfl (rfl : kd 182 = 2) rfl dX2_addsOf_92 ?_
  refine gf_X2_25 (r := 16) rfl (rfl : kd 1 = 7) rfl dX2_addsOf_95 ?_
  refine gf_X2_71 (r := 20) rfl (rfl : kd 16 = 4) rfl dX2_addsOf_98 ?_
  refine jr_iconst (v := (0 : Int32)) dX2_addsOf_101 (by decide) ?_
  refine jr_ialdL (k := 0) (rfl : kd 20 = 13) (vp_lit (by decide) (by decide)) (by decide) dX2_addsOf_102 ?_
  refine jr_icmp_ge (tgt := 162) (nxt := 106) dX2_addsOf_103 (by decide) rfl (fun hc => ?_) (fun hc => ?_)
  · replace h := drvT hc h
    refine jr_sub [2, 3] rfl ?_
    exact hk162 _ _ h
  · replace h := drvE hc h
    refine jr_aload_n dX2_addsOf_106 rfl 0 rfl ?_
    refine jr_iload dX2_addsOf_107 4 rfl ?_
    obtain ⟨w_13, hq_12, h⟩ := drvB h
    refine j_callVn lk_X2_124 wIM_X2_look wSE_X2_look (rfl : kd 182 = 2) (by decide) rfl (tX2_look  hq_12) (by omega) rfl rfl (Nat.le_of_ble_eq_true rfl) dX2_addsOf_109 ?_
    refine jr_aload_n dX2_addsOf_112 rfl 0 rfl ?_
    refine gf_X2_106 rfl (rfl : kd 182 = 2) dX2_addsOf_113 ?_
    refine jr_iconst (v := (3 : Int32)) dX2_addsOf_116 (by decide) ?_
    refine jr_icmp_lt (tgt := 156) (nxt := 120) dX2_addsOf_117 (by decide) rfl (fun hc => ?_) (fun hc => ?_)
    · replace h := drvT hc h
      refine jr_iincN (c := (1 : Int32)) (lv' := fun (x5_14 : Int32) => [(5, .int x5_14), (0, .ref 182), (1, .int p1), (3, .int p3), (4, .int x4)]) dX2_addsOf_156 (by decide) 4 rfl (by decide) (fun _ => rfl) (fun x5_14 e_15 => ?_)
      replace h := drvL e_15 h
      refine jr_goto (tgt := 89) dX2_addsOf_159 (by decide) ?_
      refine jr_sub [1, 2, 3, 4, 0] rfl ?_
      exact hrec _ _ _ h
    · replace h := drvE hc h
      refine jr_aload_n dX2_addsOf_120 rfl 0 rfl ?_
      refine jr_iload_n dX2_addsOf_121 rfl 1 rfl ?_
      refine jr_aload_n dX2_addsOf_122 rfl 0 rfl ?_
      refine gf_X2_21 (r := 1) rfl (rfl : kd 182 = 2) rfl dX2_addsOf_123 ?_
      refine gf_X2_25 (r := 16) rfl (rfl : kd 1 = 7) rfl dX2_addsOf_126 ?_
      refine jr_iconst (v := (0 : Int32)) dX2_addsOf_129 (by decide) ?_
      refine jr_iload dX2_addsOf_130 4 rfl ?_
      obtain ⟨r_17, hq_16, h⟩ := drvB h
      refine j_callVv lk_X2_89 wIM_X5_at wSE_X5_at (rfl : kd 16 = 4) (by decide) rfl (tX5_at (rfl : kd 16 = 4) hq_16) (by omega) rfl rfl (Nat.le_of_ble_eq_true rfl) dX2_addsOf_132 ?_
      obtain ⟨r_19, hq_18, h⟩ := drvB h
      refine j_callVv lk_X2_146 wIM_X2_wouldBeTheirs wSE_X2_wouldBeTheirs (rfl : kd 182 = 2) (by decide) rfl (tX2_wouldBeTheirs  hq_18) (by omega) rfl rfl (Nat.le_of_ble_eq_true rfl) dX2_addsOf_135 ?_
      refine jr_if_ne (tgt := 144) (nxt := 141) dX2_addsOf_138 (by decide) rfl (fun hc => ?_) (fun hc => ?_)
      · replace h := drvE hc h
        refine jr_iload dX2_addsOf_144 3 rfl ?_
        refine jr_iload_n dX2_addsOf_146 rfl 2 rfl ?_
        refine jr_icmp_ne (tgt := 153) (nxt := 150) dX2_addsOf_147 (by decide) rfl (fun hc => ?_) (fun hc => ?_)
        · replace h := drvE hc h
          refine jr_iincN (c := (1 : Int32)) (lv' := fun (x4_20 : Int32) => [(4, .int x4_20), (0, .ref 182), (1, .int p1), (3, .int p3), (5, .int x5)]) dX2_addsOf_153 (by decide) 3 rfl (by decide) (fun _ => rfl) (fun x4_20 e_21 => ?_)
          replace h := drvL e_21 h
          refine jr_iincN (c := (1 : Int32)) (lv' := fun (x5_22 : Int32) => [(5, .int x5_22), (4, .int x4_20), (0, .ref 182), (1, .int p1), (3, .int p3)]) dX2_addsOf_156 (by decide) 4 rfl (by decide) (fun _ => rfl) (fun x5_22 e_23 => ?_)
          replace h := drvL e_23 h
          refine jr_goto (tgt := 89) dX2_addsOf_159 (by decide) ?_
          refine jr_sub [2, 3, 4, 1, 0] rfl ?_
          exact hrec _ _ _ h
        · replace h := drvT hc h
          refine jr_iload dX2_addsOf_150 4 rfl ?_
          obtain ⟨rfl, rfl⟩ := drvS2 h
          exact jr_iret rfl dX2_addsOf_152
      · replace h := drvT hc h
        refine jr_goto (tgt := 156) dX2_addsOf_141 (by decide) ?_
        refine jr_iincN (c := (1 : Int32)) (lv' := fun (x5_24 : Int32) => [(5, .int x5_24), (0, .ref 182), (1, .int p1), (3, .int p3), (4, .int x4)]) dX2_addsOf_156 (by decide) 4 rfl (by decide) (fun _ => rfl) (fun x5_24 e_25 => ?_)
        replace h := drvL e_25 h
        refine jr_goto (tgt := 89) dX2_addsOf_159 (by decide) ?_
        refine jr_sub [1, 2, 3, 4, 0] rfl ?_
        exact hrec _ _ _ h
theorem hlX2_addsOf_89 {n : Nat} {p1 : Int32} {p3 : Int32} {k162 : Int32 → jWd → (Option (Int32 × jWd))} {r : Int32} {w' : jWd} (hk162 : ∀ (z4 : Int32) (w9 : jWd), k162 z4 w9 = some (r, w') → J MX2_addsOf 7 w9 162 [(3, .int p3), (4, .int z4)] [] (some (.int r)) w') : ∀ (c : Nat) (x4 : Int32) (x5 : Int32) (w : jWd) , lX2_addsOf_89 n p1 p3 k162 c x4 x5 w = some (r, w') → J MX2_addsOf 7 w 89 [(0, .ref 182), (1, .int p1), (3, .int p3), (4, .int x4), (5, .int x5)] [] (some (.int r)) w' := by
  intro c
  induction c with
  | zero => intro x4 x5 w h; cases h
  | succ c ih => intro x4 x5 w h; exact hbX2_addsOf_89 (n := n) hk162 ih _ _ _ h
set_option maxHeartbeats 4000000 in
set_option maxRecDepth 100000 in
theorem tX2_addsOf {n : Nat} {a0 : Int32} {a1 : Int32} {a2 : Int32} {w : jWd} {r : Int32} {w' : jWd}  (h : fX2_addsOf n a0 a1 a2 w = some (r, w')) : JM yX2_addsOf MX2_addsOf 7 [.ref 182, .int a0, .int a1, .int a2] w (some (.int r)) w' := by
  refine jm_of pl_X2 rfl (Nat.le_of_ble_eq_true rfl) ?_
  show J MX2_addsOf 7 w 0 [(0, .ref 182), (1, .int a0), (2, .int a1), (3, .int a2)] [] (some (.int r)) w'
  unfold fX2_addsOf at h
  refine jr_aload_n dX2_addsOf_0 rfl 0 rfl ?_
  refine gf_X2_21 (r := 1) rfl (rfl : kd 182 = 2) rfl dX2_addsOf_1 ?_
  refine gf_X2_29 (r := 9) rfl (rfl : kd 1 = 7) rfl dX2_addsOf_4 ?_
  refine jr_iload_n dX2_addsOf_7 rfl 1 rfl ?_
  refine j_callVv lk_X2_44 wIM_X5_has wSE_X5_has (rfl : kd 9 = 4) (by decide) rfl (tX5_has (rfl : kd 9 = 4) (a0 := a0) (t := 9) (w := w)) (by omega) rfl rfl (Nat.le_of_ble_eq_true rfl) dX2_addsOf_8 ?_
  refine jr_if_ne (tgt := 16) (nxt := 14) dX2_addsOf_11 (by decide) rfl (fun hc => ?_) (fun hc => ?_)
  · replace h := drvE hc h
    refine jr_iconst (v := (0 : Int32)) dX2_addsOf_16 (by decide) ?_
    refine jr_istore (lv' := [(4, .int (0 : Int32)), (0, .ref 182), (1, .int a0), (2, .int a1), (3, .int a2)]) dX2_addsOf_17 (by decide) rfl ?_
    refine jr_sub [1, 2, 3, 4, 0] rfl ?_
    refine hlX2_addsOf_19  ?_ _ _ _ h
    · intro w_11 h
      try dsimp only at h
      refine jr_iconst (v := (0 : Int32)) dX2_addsOf_83 (by decide) ?_
      refine jr_istore (lv' := [(4, .int (0 : Int32)), (0, .ref 182), (1, .int a0), (3, .int a2)]) dX2_addsOf_84 (by decide) rfl ?_
      refine jr_iconst (v := (0 : Int32)) dX2_addsOf_86 (by decide) ?_
      refine jr_istore (lv' := [(5, .int (0 : Int32)), (4, .int (0 : Int32)), (0, .ref 182), (1, .int a0), (3, .int a2)]) dX2_addsOf_87 (by decide) rfl ?_
      refine jr_sub [2, 3, 4, 1, 0] rfl ?_
      refine hlX2_addsOf_89  ?_ _ _ _ _ h
      · intro z4_27 w_26 h
        try dsimp only at h
        refine jr_iload_n dX2_addsOf_162 rfl 0 rfl ?_
        refine jr_iconst (v := (-1 : Int32)) dX2_addsOf_163 (by decide) ?_
        refine jr_icmp_ne (tgt := 172) (nxt := 167) dX2_addsOf_164 (by decide) rfl (fun hc => ?_) (fun hc => ?_)
        · replace h := drvE hc h
          refine jr_iconst (v := (-1 : Int32)) dX2_addsOf_172 (by decide) ?_
          obtain ⟨rfl, rfl⟩ := drvS2 h
          exact jr_iret rfl dX2_addsOf_173
        · replace h := drvT hc h
          refine jr_iload dX2_addsOf_167 1 rfl ?_
          refine jr_goto (tgt := 173) dX2_addsOf_169 (by decide) ?_
          obtain ⟨rfl, rfl⟩ := drvS2 h
          exact jr_iret rfl dX2_addsOf_173
  · replace h := drvT hc h
    refine jr_iconst (v := (-1 : Int32)) dX2_addsOf_14 (by decide) ?_
    obtain ⟨rfl, rfl⟩ := drvS2 h
    exact jr_iret rfl dX2_addsOf_15
set_option maxHeartbeats 4000000 in
set_option maxRecDepth 100000 in
theorem hbX2_countKinds_10 {n : Nat} {w' : jWd} {rec : Int32 → jWd → Option jWd} 
    (hrec : ∀ (x1 : Int32) (w : jWd) , rec x1 w = some w' → J MX2_countKinds 6 w 10 [(0, .ref 182), (1, .int x1)] [] none w') : ∀ (x1 : Int32) (w : jWd) , bX2_countKinds_10 n rec x1 w = some w' → J MX2_countKinds 6 w 10 [(0, .ref 182), (1, .int x1)] [] none w' := by
  intro x1 w h
  unfold bX2_countKinds_10 at h
  refine jr_iload_n dX2_countKinds_10 rfl 1 rfl ?_
  refine jr_aload_n dX2_countKinds_11 rfl 0 rfl ?_
  refine gf_X2_21 (r := 1) rfl (rfl : kd 182 = 2) rfl dX2_countKinds_12 ?_
  refine gf_X2_25 (r := 16) rfl (rfl : kd 1 = 7) rfl dX2_countKinds_15 ?_
  refine gf_X2_71 (r := 20) rfl (rfl : kd 16 = 4) rfl dX2_countKinds_18 ?_
  refine jr_iconst (v := (0 : Int32)) dX2_countKinds_21 (by decide) ?_
  refine jr_ialdL (k := 0) (rfl : kd 20 = 13) (vp_lit (by decide) (by decide)) (by decide) dX2_countKinds_22 ?_
  refine jr_icmp_ge (tgt := 69) (nxt := 26) dX2_countKinds_23 (by decide) rfl (fun hc => ?_) (fun hc => ?_)
  · replace h := drvT hc h
    obtain rfl := drvS1 h
    exact jr_vret rfl dX2_countKinds_69
  · replace h := drvE hc h
    refine jr_aload_n dX2_countKinds_26 rfl 0 rfl ?_
    refine jr_iload_n dX2_countKinds_27 rfl 1 rfl ?_
    obtain ⟨w_4, hq_3, h⟩ := drvB h
    refine j_callVn lk_X2_124 wIM_X2_look wSE_X2_look (rfl : kd 182 = 2) (by decide) rfl (tX2_look  hq_3) (by omega) rfl rfl (Nat.le_of_ble_eq_true rfl) dX2_countKinds_28 ?_
    refine jr_aload_n dX2_countKinds_31 rfl 0 rfl ?_
    refine gf_X2_106 rfl (rfl : kd 182 = 2) dX2_countKinds_32 ?_
    refine jr_if_lt (tgt := 63) (nxt := 38) dX2_countKinds_35 (by decide) rfl (fun hc => ?_) (fun hc => ?_)
    · replace h := drvT hc h
      refine jr_iincN (c := (1 : Int32)) (lv' := fun (x1_5 : Int32) => [(1, .int x1_5), (0, .ref 182)]) dX2_countKinds_63 (by decide) 1 rfl (by decide) (fun _ => rfl) (fun x1_5 e_6 => ?_)
      replace h := drvL e_6 h
      refine jr_goto (tgt := 10) dX2_countKinds_66 (by decide) ?_
      refine jr_sub [1, 0] rfl ?_
      exact hrec _ _ h
    · replace h := drvE hc h
      refine jr_aload_n dX2_countKinds_38 rfl 0 rfl ?_
      refine gf_X2_106 rfl (rfl : kd 182 = 2) dX2_countKinds_39 ?_
      refine jr_aload_n dX2_countKinds_42 rfl 0 rfl ?_
      refine gf_X2_17 (r := 184) rfl (rfl : kd 182 = 2) rfl dX2_countKinds_43 ?_
      refine jr_alenL (v := (6 : Int32)) (rfl : kd 184 = 13) (by decide) (by decide) (by decide) dX2_countKinds_46 ?_
      refine jr_icmp_ge (tgt := 63) (nxt := 50) dX2_countKinds_47 (by decide) rfl (fun hc => ?_) (fun hc => ?_)
      · replace h := drvT hc h
        refine jr_iincN (c := (1 : Int32)) (lv' := fun (x1_7 : Int32) => [(1, .int x1_7), (0, .ref 182)]) dX2_countKinds_63 (by decide) 1 rfl (by decide) (fun _ => rfl) (fun x1_7 e_8 => ?_)
        replace h := drvL e_8 h
        refine jr_goto (tgt := 10) dX2_countKinds_66 (by decide) ?_
        refine jr_sub [1, 0] rfl ?_
        exact hrec _ _ h
      · replace h := drvE hc h
        refine jr_aload_n dX2_countKinds_50 rfl 0 rfl ?_
        refine gf_X2_17 (r := 184) rfl (rfl : kd 182 = 2) rfl dX2_countKinds_51 ?_
        refine jr_aload_n dX2_countKinds_54 rfl 0 rfl ?_
        refine gf_X2_106 rfl (rfl : kd 182 = 2) dX2_countKinds_55 ?_
        refine jr_dup2_11 dX2_countKinds_58 rfl rfl ?_
        obtain ⟨hg_9, h⟩ := drvG h
        refine jr_iald (rfl : kd 184 = 13) hg_9 dX2_countKinds_59 ?_
        refine jr_iconst (v := (1 : Int32)) dX2_countKinds_60 (by decide) ?_
        refine jr_iadd dX2_countKinds_61 ?_
        obtain ⟨hg_12, h⟩ := drvG h
        refine jr_iast (rfl : kd 184 = 13) hg_12 dX2_countKinds_62 ?_
        refine j_nmw (fun w_10 e_11 => ?_)
        replace h := drvL e_11 h
        refine jr_iincN (c := (1 : Int32)) (lv' := fun (x1_13 : Int32) => [(1, .int x1_13), (0, .ref 182)]) dX2_countKinds_63 (by decide) 1 rfl (by decide) (fun _ => rfl) (fun x1_13 e_14 => ?_)
        replace h := drvL e_14 h
        refine jr_goto (tgt := 10) dX2_countKinds_66 (by decide) ?_
        refine jr_sub [1, 0] rfl ?_
        exact hrec _ _ h
theorem hlX2_countKinds_10 {n : Nat} {w' : jWd}  : ∀ (c : Nat) (x1 : Int32) (w : jWd) , lX2_countKinds_10 n c x1 w = some w' → J MX2_countKinds 6 w 10 [(0, .ref 182), (1, .int x1)] [] none w' := by
  intro c
  induction c with
  | zero => intro x1 w h; cases h
  | succ c ih => intro x1 w h; exact hbX2_countKinds_10 (n := n) ih _ _ h
set_option maxHeartbeats 4000000 in
set_option maxRecDepth 100000 in
theorem tX2_countKinds {n : Nat} {w : jWd} {w' : jWd}  (h : fX2_countKinds n w = some w') : JM yX2_countKinds MX2_countKinds 6 [.ref 182] w none w' := by
  refine jm_of pl_X2 rfl (Nat.le_of_ble_eq_true rfl) ?_
  show J MX2_countKinds 6 w 0 [(0, .ref 182)] [] none w'
  unfold fX2_countKinds at h
  refine jr_aload_n dX2_countKinds_0 rfl 0 rfl ?_
  refine gf_X2_17 (r := 184) rfl (rfl : kd 182 = 2) rfl dX2_countKinds_1 ?_
  refine jr_iconst (v := (0 : Int32)) dX2_countKinds_4 (by decide) ?_
  obtain ⟨w_2, hq_1, h⟩ := drvB h
  refine j_callSn lk_X2_118 wST_J7_fill_53178 (tJ7_fill_53178 (rfl : kd 184 = 13) hq_1) (by omega) rfl rfl (Nat.le_of_ble_eq_true rfl) dX2_countKinds_5 ?_
  refine jr_iconst (v := (0 : Int32)) dX2_countKinds_8 (by decide) ?_
  refine jr_istore_n (lv' := [(1, .int (0 : Int32)), (0, .ref 182)]) dX2_countKinds_9 rfl (by decide) rfl ?_
  refine jr_sub [1, 0] rfl ?_
  refine hlX2_countKinds_10   _ _ _ h
set_option maxHeartbeats 4000000 in
set_option maxRecDepth 100000 in
theorem hbX2_greatestCommon_9 {n : Nat} {w : jWd} {r : Int64} {rec : Int64 → Int64 → Int32 → Option Int64} 
    (hrec : ∀ (x4 : Int64) (x6 : Int64) (x8 : Int32) , rec x4 x6 x8 = some r → J MX2_greatestCommon 1 w 9 [(4, .long x4), (6, .long x6), (8, .int x8)] [] (some (.long r)) w) : ∀ (x4 : Int64) (x6 : Int64) (x8 : Int32) , bX2_greatestCommon_9 n rec x4 x6 x8 = some r → J MX2_greatestCommon 1 w 9 [(4, .long x4), (6, .long x6), (8, .int x8)] [] (some (.long r)) w := by
  intro x4 x6 x8 h
  unfold bX2_greatestCommon_9 at h
  refine jr_iload dX2_greatestCommon_9 2 rfl ?_
  refine jr_sipush (v := (200 : Int32)) dX2_greatestCommon_11 (by decide) ?_
  refine jr_icmp_ge (tgt := 45) (nxt := 17) dX2_greatestCommon_14 (by decide) rfl (fun hc => ?_) (fun hc => ?_)
  · replace h := drvT hc h
    refine jr_lload dX2_greatestCommon_45 0 rfl ?_
    obtain rfl := drvS1 h
    exact jr_lret rfl dX2_greatestCommon_47
  · replace h := drvE hc h
    refine jr_lload dX2_greatestCommon_17 1 rfl ?_
    refine jr_lconst (v := (0 : Int64)) dX2_greatestCommon_19 rfl ?_
    refine jr_lcmp dX2_greatestCommon_20 ?_
    refine jr_if_eq (tgt := 45) (nxt := 24) dX2_greatestCommon_21 (by decide) rfl (fun hc => ?_) (fun hc => ?_)
    · replace h := drvT hc h
      refine jr_lload dX2_greatestCommon_45 0 rfl ?_
      obtain rfl := drvS1 h
      exact jr_lret rfl dX2_greatestCommon_47
    · replace h := drvE hc h
      refine jr_lload dX2_greatestCommon_24 0 rfl ?_
      refine jr_lload dX2_greatestCommon_26 1 rfl ?_
      obtain ⟨hz_1, h⟩ := drvZl h
      refine jr_lrem dX2_greatestCommon_28 hz_1 ?_
      refine j_nml (fun x9_2 e_3 => ?_)
      replace h := drvL e_3 h
      refine jr_lstore (lv' := [(9, .long x9_2), (4, .long x4), (6, .long x6), (8, .int x8)]) dX2_greatestCommon_29 (by decide) rfl ?_
      refine jr_lload dX2_greatestCommon_31 2 rfl ?_
      refine jr_lstore (lv' := [(4, .long x6), (9, .long x9_2), (6, .long x6), (8, .int x8)]) dX2_greatestCommon_33 (by decide) rfl ?_
      refine jr_lload dX2_greatestCommon_35 1 rfl ?_
      refine jr_lstore (lv' := [(6, .long x9_2), (4, .long x6), (9, .long x9_2), (8, .int x8)]) dX2_greatestCommon_37 (by decide) rfl ?_
      refine jr_iincN (c := (1 : Int32)) (lv' := fun (x8_4 : Int32) => [(8, .int x8_4), (6, .long x9_2), (4, .long x6), (9, .long x9_2)]) dX2_greatestCommon_39 (by decide) 3 rfl (by decide) (fun _ => rfl) (fun x8_4 e_5 => ?_)
      replace h := drvL e_5 h
      refine jr_goto (tgt := 9) dX2_greatestCommon_42 (by decide) ?_
      refine jr_sub [2, 1, 0] rfl ?_
      exact hrec _ _ _ h
theorem hlX2_greatestCommon_9 {n : Nat} {w : jWd} {r : Int64}  : ∀ (c : Nat) (x4 : Int64) (x6 : Int64) (x8 : Int32) , lX2_greatestCommon_9 n c x4 x6 x8 = some r → J MX2_greatestCommon 1 w 9 [(4, .long x4), (6, .long x6), (8, .int x8)] [] (some (.long r)) w := by
  intro c
  induction c with
  | zero => intro x4 x6 x8 h; cases h
  | succ c ih => intro x4 x6 x8 h; exact hbX2_greatestCommon_9 (n := n) ih _ _ _ h
set_option maxHeartbeats 4000000 in
set_option maxRecDepth 100000 in
theorem tX2_greatestCommon {n : Nat} {a0 : Int64} {a1 : Int64} {w : jWd} {r : Int64}  (h : fX2_greatestCommon n a0 a1 = some r) : JM yX2_greatestCommon MX2_greatestCommon 1 [.long a0, .long a1] w (some (.long r)) w := by
  refine jm_of pl_X2 rfl (Nat.le_of_ble_eq_true rfl) ?_
  show J MX2_greatestCommon 1 w 0 [(0, .long a0), (2, .long a1)] [] (some (.long r)) w
  unfold fX2_greatestCommon at h
  refine jr_lload_n dX2_greatestCommon_0 rfl 0 rfl ?_
  refine jr_lstore (lv' := [(4, .long a0), (0, .long a0), (2, .long a1)]) dX2_greatestCommon_1 (by decide) rfl ?_
  refine jr_lload_n dX2_greatestCommon_3 rfl 2 rfl ?_
  refine jr_lstore (lv' := [(6, .long a1), (4, .long a0), (0, .long a0), (2, .long a1)]) dX2_greatestCommon_4 (by decide) rfl ?_
  refine jr_iconst (v := (0 : Int32)) dX2_greatestCommon_6 (by decide) ?_
  refine jr_istore (lv' := [(8, .int (0 : Int32)), (6, .long a1), (4, .long a0), (0, .long a0), (2, .long a1)]) dX2_greatestCommon_7 (by decide) rfl ?_
  refine jr_sub [2, 1, 0] rfl ?_
  refine hlX2_greatestCommon_9   _ _ _ _ h
set_option maxHeartbeats 4000000 in
set_option maxRecDepth 100000 in
theorem tX2_fraction {n : Nat} {a0 : Int64} {a1 : Int64} {a2 : Int32} {w : jWd} {r : Int64}  (h : fX2_fraction n a0 a1 a2 = some r) : JM yX2_fraction MX2_fraction 2 [.long a0, .long a1, .int a2] w (some (.long r)) w := by
  refine jm_of pl_X2 rfl (Nat.le_of_ble_eq_true rfl) ?_
  show J MX2_fraction 2 w 0 [(0, .long a0), (2, .long a1), (4, .int a2)] [] (some (.long r)) w
  unfold fX2_fraction at h
  refine jr_iload dX2_fraction_0 2 rfl ?_
  obtain ⟨j10_2, ej10_2, h⟩ := drvF h
  have hj10_2 : ∀ (s_1 : Int64), j10_2 s_1 = some r → J MX2_fraction 2 w 10 [(0, .long a0), (2, .long a1)] [.long s_1] (some (.long r)) w := by
    intro s_1 h
    rw [ej10_2] at h
    try dsimp only at h
    refine jr_lstore (lv' := [(5, .long s_1), (0, .long a0), (2, .long a1)]) dX2_fraction_10 (by decide) rfl ?_
    refine jr_lload_n dX2_fraction_12 rfl 1 rfl ?_
    refine jr_lconst (v := (0 : Int64)) dX2_fraction_13 rfl ?_
    refine jr_lcmp dX2_fraction_14 ?_
    obtain ⟨j24_3, ej24_3, h⟩ := drvF h
    have hj24_3 : ∀ (_ : Unit), j24_3 = some r → J MX2_fraction 2 w 24 [(5, .long s_1)] [] (some (.long r)) w := by
      intro _ h
      rw [ej24_3] at h
      try dsimp only at h
      refine jr_lload dX2_fraction_24 0 rfl ?_
      refine jr_lconst (v := (0 : Int64)) dX2_fraction_26 rfl ?_
      refine jr_lcmp dX2_fraction_27 ?_
      refine jr_if_ne (tgt := 35) (nxt := 31) dX2_fraction_28 (by decide) rfl (fun hc => ?_) (fun hc => ?_)
      · replace h := drvE hc h
        refine jr_lconst (v := (1 : Int64)) dX2_fraction_35 rfl ?_
        obtain rfl := drvS1 h
        exact jr_lret rfl dX2_fraction_36
      · replace h := drvT hc h
        refine jr_lconst (v := (0 : Int64)) dX2_fraction_31 rfl ?_
        refine jr_goto (tgt := 36) dX2_fraction_32 (by decide) ?_
        obtain rfl := drvS1 h
        exact jr_lret rfl dX2_fraction_36
    refine jr_if_eq (tgt := 24) (nxt := 18) dX2_fraction_15 (by decide) rfl (fun hc => ?_) (fun hc => ?_)
    · replace h := drvT hc h
      refine jr_sub [0] rfl ?_
      exact (hj24_3 ()) h
    · replace h := drvE hc h
      refine jr_lload_n dX2_fraction_18 rfl 2 rfl ?_
      refine jr_lconst (v := (0 : Int64)) dX2_fraction_19 rfl ?_
      refine jr_lcmp dX2_fraction_20 ?_
      refine jr_if_ne (tgt := 37) (nxt := 24) dX2_fraction_21 (by decide) rfl (fun hc => ?_) (fun hc => ?_)
      · replace h := drvE hc h
        refine jr_lload dX2_fraction_37 0 rfl ?_
        refine jr_lconst (v := (1 : Int64)) dX2_fraction_39 rfl ?_
        refine jr_lload_n dX2_fraction_40 rfl 1 rfl ?_
        refine jr_lload_n dX2_fraction_41 rfl 2 rfl ?_
        obtain ⟨r_5, hq_4, h⟩ := drvB h
        refine j_callSv lk_X2_47 wST_X2_greatestCommon (tX2_greatestCommon  hq_4) (by omega) rfl rfl (Nat.le_of_ble_eq_true rfl) dX2_fraction_42 ?_
        refine jr_lmax wML_X2_51 (by decide) (Nat.le_of_ble_eq_true rfl) dX2_fraction_45 ?_
        obtain ⟨hz_6, h⟩ := drvZl h
        refine jr_ldiv dX2_fraction_48 hz_6 ?_
        obtain rfl := drvS1 h
        exact jr_lret rfl dX2_fraction_49
      · replace h := drvT hc h
        refine jr_sub [0] rfl ?_
        exact (hj24_3 ()) h
  refine jr_if_ne (tgt := 9) (nxt := 5) dX2_fraction_2 (by decide) rfl (fun hc => ?_) (fun hc => ?_)
  · replace h := drvE hc h
    refine jr_lload_n dX2_fraction_9 rfl 1 rfl ?_
    refine jr_sub [0, 1] rfl ?_
    exact hj10_2 _ h
  · replace h := drvT hc h
    refine jr_lload_n dX2_fraction_5 rfl 0 rfl ?_
    refine jr_goto (tgt := 10) dX2_fraction_6 (by decide) ?_
    refine jr_sub [0, 1] rfl ?_
    exact hj10_2 _ h
set_option maxHeartbeats 4000000 in
set_option maxRecDepth 100000 in
theorem tX2_isBack {n : Nat} {a0 : Int32} {w : jWd} {r : Int32} {w' : jWd}  (h : fX2_isBack n a0 w = some (r, w')) : JM yX2_isBack MX2_isBack 5 [.ref 182, .int a0] w (some (.int r)) w' := by
  refine jm_of pl_X2 rfl (Nat.le_of_ble_eq_true rfl) ?_
  show J MX2_isBack 5 w 0 [(0, .ref 182), (1, .int a0)] [] (some (.int r)) w'
  unfold fX2_isBack at h
  refine jr_aload_n dX2_isBack_0 rfl 0 rfl ?_
  refine gf_X2_21 (r := 1) rfl (rfl : kd 182 = 2) rfl dX2_isBack_1 ?_
  refine gf_X2_150 (r := 41) rfl (rfl : kd 1 = 7) rfl dX2_isBack_4 ?_
  refine jr_iload_n dX2_isBack_7 rfl 1 rfl ?_
  refine j_callVv lk_X2_154 wIM_X0_has wSE_X0_has (rfl : kd 41 = 0) (by decide) rfl (tX0_has (rfl : kd 41 = 0) (a0 := a0) (t := 41) (w := w)) (by omega) rfl rfl (Nat.le_of_ble_eq_true rfl) dX2_isBack_8 ?_
  refine jr_if_ne (tgt := 16) (nxt := 14) dX2_isBack_11 (by decide) rfl (fun hc => ?_) (fun hc => ?_)
  · replace h := drvE hc h
    refine jr_aload_n dX2_isBack_16 rfl 0 rfl ?_
    refine gf_X2_21 (r := 1) rfl (rfl : kd 182 = 2) rfl dX2_isBack_17 ?_
    refine gf_X2_150 (r := 41) rfl (rfl : kd 1 = 7) rfl dX2_isBack_20 ?_
    refine gf_X2_157 (r := 47) rfl (rfl : kd 41 = 0) rfl dX2_isBack_23 ?_
    refine jr_iload_n dX2_isBack_26 rfl 1 rfl ?_
    obtain ⟨hg_1, h⟩ := drvG h
    refine jr_lald (rfl : kd 47 = 14) hg_1 dX2_isBack_27 ?_
    refine j_nml (fun x2_2 e_3 => ?_)
    replace h := drvL e_3 h
    refine jr_lstore_n (lv' := [(2, .long x2_2), (0, .ref 182), (1, .int a0)]) dX2_isBack_28 rfl (by decide) rfl ?_
    refine jr_lload_n dX2_isBack_29 rfl 0 rfl ?_
    refine jr_lconst (v := (0 : Int64)) dX2_isBack_30 rfl ?_
    refine jr_lcmp dX2_isBack_31 ?_
    refine jr_if_eq (tgt := 62) (nxt := 35) dX2_isBack_32 (by decide) rfl (fun hc => ?_) (fun hc => ?_)
    · replace h := drvT hc h
      refine jr_iconst (v := (0 : Int32)) dX2_isBack_62 (by decide) ?_
      obtain ⟨rfl, rfl⟩ := drvS2 h
      exact jr_zret (ty := .boolean) rfl rfl dX2_isBack_63
    · replace h := drvE hc h
      refine jr_aload_n dX2_isBack_35 rfl 1 rfl ?_
      refine gf_X2_21 (r := 1) rfl (rfl : kd 182 = 2) rfl dX2_isBack_36 ?_
      refine gf_X2_150 (r := 41) rfl (rfl : kd 1 = 7) rfl dX2_isBack_39 ?_
      refine gf_X2_158 (r := 43) rfl (rfl : kd 41 = 0) rfl dX2_isBack_42 ?_
      refine jr_iload_n dX2_isBack_45 rfl 2 rfl ?_
      obtain ⟨hg_4, h⟩ := drvG h
      refine jr_iald (rfl : kd 43 = 13) hg_4 dX2_isBack_46 ?_
      refine jr_aload_n dX2_isBack_47 rfl 1 rfl ?_
      refine gf_X2_21 (r := 1) rfl (rfl : kd 182 = 2) rfl dX2_isBack_48 ?_
      refine gf_X2_25 (r := 16) rfl (rfl : kd 1 = 7) rfl dX2_isBack_51 ?_
      refine gf_X2_161 (r := 19) rfl (rfl : kd 16 = 4) rfl dX2_isBack_54 ?_
      refine jr_iconst (v := (0 : Int32)) dX2_isBack_57 (by decide) ?_
      refine jr_ialdL (k := 0) (rfl : kd 19 = 13) (vp_lit (by decide) (by decide)) (by decide) dX2_isBack_58 ?_
      refine jr_icmp_gt (tgt := 64) (nxt := 62) dX2_isBack_59 (by decide) rfl (fun hc => ?_) (fun hc => ?_)
      · replace h := drvT hc h
        refine jr_aload_n dX2_isBack_64 rfl 1 rfl ?_
        refine jr_bipush (v := (8 : Int32)) dX2_isBack_65 (by decide) ?_
        refine jr_lload_n dX2_isBack_67 rfl 0 rfl ?_
        refine jr_iconst (v := (-1 : Int32)) dX2_isBack_68 (by decide) ?_
        obtain ⟨r_7, w_6, hq_5, h⟩ := drvB2 h
        refine j_callVv lk_X2_99 wIM_X2_nearest wSE_X2_nearest (rfl : kd 182 = 2) (by decide) rfl (tX2_nearest  hq_5) (by omega) rfl rfl (Nat.le_of_ble_eq_true rfl) dX2_isBack_69 ?_
        refine jr_aload_n dX2_isBack_72 rfl 1 rfl ?_
        refine gf_X2_21 (r := 1) rfl (rfl : kd 182 = 2) rfl dX2_isBack_73 ?_
        refine gf_X2_103 rfl (rfl : kd 1 = 7) dX2_isBack_76 ?_
        refine jr_icmp_lt (tgt := 104) (nxt := 82) dX2_isBack_79 (by decide) rfl (fun hc => ?_) (fun hc => ?_)
        · replace h := drvT hc h
          refine jr_iconst (v := (0 : Int32)) dX2_isBack_104 (by decide) ?_
          obtain ⟨rfl, rfl⟩ := drvS2 h
          exact jr_zret (ty := .boolean) rfl rfl dX2_isBack_105
        · replace h := drvE hc h
          refine jr_aload_n dX2_isBack_82 rfl 1 rfl ?_
          refine jr_bipush (v := (6 : Int32)) dX2_isBack_83 (by decide) ?_
          refine jr_lload_n dX2_isBack_85 rfl 0 rfl ?_
          refine jr_iconst (v := (-1 : Int32)) dX2_isBack_86 (by decide) ?_
          obtain ⟨r_10, w_9, hq_8, h⟩ := drvB2 h
          refine j_callVv lk_X2_99 wIM_X2_nearest wSE_X2_nearest (rfl : kd 182 = 2) (by decide) rfl (tX2_nearest  hq_8) (by omega) rfl rfl (Nat.le_of_ble_eq_true rfl) dX2_isBack_87 ?_
          refine jr_aload_n dX2_isBack_90 rfl 1 rfl ?_
          refine gf_X2_21 (r := 1) rfl (rfl : kd 182 = 2) rfl dX2_isBack_91 ?_
          refine gf_X2_103 rfl (rfl : kd 1 = 7) dX2_isBack_94 ?_
          refine jr_icmp_ge (tgt := 104) (nxt := 100) dX2_isBack_97 (by decide) rfl (fun hc => ?_) (fun hc => ?_)
          · replace h := drvT hc h
            refine jr_iconst (v := (0 : Int32)) dX2_isBack_104 (by decide) ?_
            obtain ⟨rfl, rfl⟩ := drvS2 h
            exact jr_zret (ty := .boolean) rfl rfl dX2_isBack_105
          · replace h := drvE hc h
            refine jr_iconst (v := (1 : Int32)) dX2_isBack_100 (by decide) ?_
            refine jr_goto (tgt := 105) dX2_isBack_101 (by decide) ?_
            obtain ⟨rfl, rfl⟩ := drvS2 h
            exact jr_zret (ty := .boolean) rfl rfl dX2_isBack_105
      · replace h := drvE hc h
        refine jr_iconst (v := (0 : Int32)) dX2_isBack_62 (by decide) ?_
        obtain ⟨rfl, rfl⟩ := drvS2 h
        exact jr_zret (ty := .boolean) rfl rfl dX2_isBack_63
  · replace h := drvT hc h
    refine jr_iconst (v := (0 : Int32)) dX2_isBack_14 (by decide) ?_
    obtain ⟨rfl, rfl⟩ := drvS2 h
    exact jr_zret (ty := .boolean) rfl rfl dX2_isBack_15
set_option maxHeartbeats 4000000 in
set_option maxRecDepth 100000 in
theorem tX2_isCounted {n : Nat} {a0 : Int32} {a1 : Int32} {w : jWd} {r : Int32} {w' : jWd}  (h : fX2_isCounted n a0 a1 w = some (r, w')) : JM yX2_isCounted MX2_isCounted 6 [.ref 182, .int a0, .int a1] w (some (.int r)) w' := by
  refine jm_of pl_X2 rfl (Nat.le_of_ble_eq_true rfl) ?_
  show J MX2_isCounted 6 w 0 [(0, .ref 182), (1, .int a0), (2, .int a1)] [] (some (.int r)) w'
  unfold fX2_isCounted at h
  refine jr_iload_n dX2_isCounted_0 rfl 2 rfl ?_
  by_cases hs_1 : a1 = (0 : Int32)
  · replace h := drvT hs_1 h
    refine jr_tableK (tgt := 28) dX2_isCounted_1 hs_1 (by decide) (by decide) rfl (by decide) ?_
    refine jr_iconst (v := (1 : Int32)) dX2_isCounted_28 (by decide) ?_
    obtain ⟨rfl, rfl⟩ := drvS2 h
    exact jr_zret (ty := .boolean) rfl rfl dX2_isCounted_29
  replace h := drvE hs_1 h
  by_cases hs_2 : a1 = (1 : Int32)
  · replace h := drvT hs_2 h
    refine jr_tableK (tgt := 30) dX2_isCounted_1 hs_2 (by decide) (by decide) rfl (by decide) ?_
    refine jr_aload_n dX2_isCounted_30 rfl 0 rfl ?_
    refine gf_X2_21 (r := 1) rfl (rfl : kd 182 = 2) rfl dX2_isCounted_31 ?_
    refine gf_X2_150 (r := 41) rfl (rfl : kd 1 = 7) rfl dX2_isCounted_34 ?_
    refine jr_iload_n dX2_isCounted_37 rfl 1 rfl ?_
    refine jr_iconst (v := (0 : Int32)) dX2_isCounted_38 (by decide) ?_
    obtain ⟨r_4, hq_3, h⟩ := drvB h
    refine j_callVv lk_X2_169 wIM_X0_heard wSE_X0_heard (rfl : kd 41 = 0) (by decide) rfl (tX0_heard (rfl : kd 41 = 0) hq_3) (by omega) rfl rfl (Nat.le_of_ble_eq_true rfl) dX2_isCounted_39 ?_
    refine jr_iconst (v := (1 : Int32)) dX2_isCounted_42 (by decide) ?_
    refine jr_icmp_ne (tgt := 50) (nxt := 46) dX2_isCounted_43 (by decide) rfl (fun hc => ?_) (fun hc => ?_)
    · replace h := drvE hc h
      refine jr_iconst (v := (0 : Int32)) dX2_isCounted_50 (by decide) ?_
      obtain ⟨rfl, rfl⟩ := drvS2 h
      exact jr_zret (ty := .boolean) rfl rfl dX2_isCounted_51
    · replace h := drvT hc h
      refine jr_iconst (v := (1 : Int32)) dX2_isCounted_46 (by decide) ?_
      refine jr_goto (tgt := 51) dX2_isCounted_47 (by decide) ?_
      obtain ⟨rfl, rfl⟩ := drvS2 h
      exact jr_zret (ty := .boolean) rfl rfl dX2_isCounted_51
  replace h := drvE hs_2 h
  by_cases hs_5 : a1 = (2 : Int32)
  · replace h := drvT hs_5 h
    refine jr_tableK (tgt := 52) dX2_isCounted_1 hs_5 (by decide) (by decide) rfl (by decide) ?_
    refine jr_aload_n dX2_isCounted_52 rfl 0 rfl ?_
    refine gf_X2_21 (r := 1) rfl (rfl : kd 182 = 2) rfl dX2_isCounted_53 ?_
    refine gf_X2_150 (r := 41) rfl (rfl : kd 1 = 7) rfl dX2_isCounted_56 ?_
    refine jr_iload_n dX2_isCounted_59 rfl 1 rfl ?_
    refine jr_iconst (v := (1 : Int32)) dX2_isCounted_60 (by decide) ?_
    obtain ⟨r_7, hq_6, h⟩ := drvB h
    refine j_callVv lk_X2_169 wIM_X0_heard wSE_X0_heard (rfl : kd 41 = 0) (by decide) rfl (tX0_heard (rfl : kd 41 = 0) hq_6) (by omega) rfl rfl (Nat.le_of_ble_eq_true rfl) dX2_isCounted_61 ?_
    refine jr_iconst (v := (1 : Int32)) dX2_isCounted_64 (by decide) ?_
    refine jr_icmp_ne (tgt := 72) (nxt := 68) dX2_isCounted_65 (by decide) rfl (fun hc => ?_) (fun hc => ?_)
    · replace h := drvE hc h
      refine jr_iconst (v := (0 : Int32)) dX2_isCounted_72 (by decide) ?_
      obtain ⟨rfl, rfl⟩ := drvS2 h
      exact jr_zret (ty := .boolean) rfl rfl dX2_isCounted_73
    · replace h := drvT hc h
      refine jr_iconst (v := (1 : Int32)) dX2_isCounted_68 (by decide) ?_
      refine jr_goto (tgt := 73) dX2_isCounted_69 (by decide) ?_
      obtain ⟨rfl, rfl⟩ := drvS2 h
      exact jr_zret (ty := .boolean) rfl rfl dX2_isCounted_73
  replace h := drvE hs_5 h
  refine jr_tableOut (tgt := 74) dX2_isCounted_1 (by have a0 := lv_neT hs_1 (show (0 : Int32).toInt = 0 from rfl); have a1 := lv_neT hs_2 (show (1 : Int32).toInt = 1 from rfl); have a2 := lv_neT hs_5 (show (2 : Int32).toInt = 2 from rfl); omega) (by decide) ?_
  refine jr_aload_n dX2_isCounted_74 rfl 0 rfl ?_
  refine jr_iload_n dX2_isCounted_75 rfl 1 rfl ?_
  obtain ⟨r_10, w_9, hq_8, h⟩ := drvB2 h
  refine j_callVv lk_X2_172 wIM_X2_isBack wSE_X2_isBack (rfl : kd 182 = 2) (by decide) rfl (tX2_isBack  hq_8) (by omega) rfl rfl (Nat.le_of_ble_eq_true rfl) dX2_isCounted_76 ?_
  obtain ⟨rfl, rfl⟩ := drvS2 h
  exact jr_bret rfl dX2_isCounted_79
set_option maxHeartbeats 4000000 in
set_option maxRecDepth 100000 in
theorem tX2_isMuddled {n : Nat} {a0 : Int32} {w : jWd} {r : Int32} {w' : jWd}  (h : fX2_isMuddled n a0 w = some (r, w')) : JM yX2_isMuddled MX2_isMuddled 5 [.ref 182, .int a0] w (some (.int r)) w' := by
  refine jm_of pl_X2 rfl (Nat.le_of_ble_eq_true rfl) ?_
  show J MX2_isMuddled 5 w 0 [(0, .ref 182), (1, .int a0)] [] (some (.int r)) w'
  unfold fX2_isMuddled at h
  refine jr_aload_n dX2_isMuddled_0 rfl 0 rfl ?_
  refine gf_X2_21 (r := 1) rfl (rfl : kd 182 = 2) rfl dX2_isMuddled_1 ?_
  refine gf_X2_150 (r := 41) rfl (rfl : kd 1 = 7) rfl dX2_isMuddled_4 ?_
  refine jr_iload_n dX2_isMuddled_7 rfl 1 rfl ?_
  refine j_callVv lk_X2_154 wIM_X0_has wSE_X0_has (rfl : kd 41 = 0) (by decide) rfl (tX0_has (rfl : kd 41 = 0) (a0 := a0) (t := 41) (w := w)) (by omega) rfl rfl (Nat.le_of_ble_eq_true rfl) dX2_isMuddled_8 ?_
  refine jr_if_ne (tgt := 16) (nxt := 14) dX2_isMuddled_11 (by decide) rfl (fun hc => ?_) (fun hc => ?_)
  · replace h := drvE hc h
    refine jr_aload_n dX2_isMuddled_16 rfl 0 rfl ?_
    refine gf_X2_21 (r := 1) rfl (rfl : kd 182 = 2) rfl dX2_isMuddled_17 ?_
    refine gf_X2_150 (r := 41) rfl (rfl : kd 1 = 7) rfl dX2_isMuddled_20 ?_
    refine gf_X2_157 (r := 47) rfl (rfl : kd 41 = 0) rfl dX2_isMuddled_23 ?_
    refine jr_iload_n dX2_isMuddled_26 rfl 1 rfl ?_
    obtain ⟨hg_1, h⟩ := drvG h
    refine jr_lald (rfl : kd 47 = 14) hg_1 dX2_isMuddled_27 ?_
    refine j_nml (fun x2_2 e_3 => ?_)
    replace h := drvL e_3 h
    refine jr_lstore_n (lv' := [(2, .long x2_2), (0, .ref 182), (1, .int a0)]) dX2_isMuddled_28 rfl (by decide) rfl ?_
    refine jr_lload_n dX2_isMuddled_29 rfl 0 rfl ?_
    refine jr_lconst (v := (0 : Int64)) dX2_isMuddled_30 rfl ?_
    refine jr_lcmp dX2_isMuddled_31 ?_
    refine jr_if_eq (tgt := 51) (nxt := 35) dX2_isMuddled_32 (by decide) rfl (fun hc => ?_) (fun hc => ?_)
    · replace h := drvT hc h
      refine jr_iconst (v := (0 : Int32)) dX2_isMuddled_51 (by decide) ?_
      obtain ⟨rfl, rfl⟩ := drvS2 h
      exact jr_zret (ty := .boolean) rfl rfl dX2_isMuddled_52
    · replace h := drvE hc h
      refine jr_aload_n dX2_isMuddled_35 rfl 1 rfl ?_
      refine gf_X2_21 (r := 1) rfl (rfl : kd 182 = 2) rfl dX2_isMuddled_36 ?_
      refine gf_X2_150 (r := 41) rfl (rfl : kd 1 = 7) rfl dX2_isMuddled_39 ?_
      refine gf_X2_162 (r := 46) rfl (rfl : kd 41 = 0) rfl dX2_isMuddled_42 ?_
      refine jr_iload_n dX2_isMuddled_45 rfl 2 rfl ?_
      obtain ⟨hg_4, h⟩ := drvG h
      refine jr_iald (rfl : kd 46 = 13) hg_4 dX2_isMuddled_46 ?_
      refine jr_iconst (v := (1 : Int32)) dX2_isMuddled_47 (by decide) ?_
      refine jr_icmp_eq (tgt := 53) (nxt := 51) dX2_isMuddled_48 (by decide) rfl (fun hc => ?_) (fun hc => ?_)
      · replace h := drvT hc h
        refine jr_aload_n dX2_isMuddled_53 rfl 1 rfl ?_
        refine jr_bipush (v := (6 : Int32)) dX2_isMuddled_54 (by decide) ?_
        refine jr_lload_n dX2_isMuddled_56 rfl 0 rfl ?_
        refine jr_iconst (v := (-1 : Int32)) dX2_isMuddled_57 (by decide) ?_
        obtain ⟨r_7, w_6, hq_5, h⟩ := drvB2 h
        refine j_callVv lk_X2_99 wIM_X2_nearest wSE_X2_nearest (rfl : kd 182 = 2) (by decide) rfl (tX2_nearest  hq_5) (by omega) rfl rfl (Nat.le_of_ble_eq_true rfl) dX2_isMuddled_58 ?_
        refine jr_aload_n dX2_isMuddled_61 rfl 1 rfl ?_
        refine gf_X2_21 (r := 1) rfl (rfl : kd 182 = 2) rfl dX2_isMuddled_62 ?_
        refine gf_X2_103 rfl (rfl : kd 1 = 7) dX2_isMuddled_65 ?_
        refine jr_icmp_lt (tgt := 93) (nxt := 71) dX2_isMuddled_68 (by decide) rfl (fun hc => ?_) (fun hc => ?_)
        · replace h := drvT hc h
          refine jr_iconst (v := (0 : Int32)) dX2_isMuddled_93 (by decide) ?_
          obtain ⟨rfl, rfl⟩ := drvS2 h
          exact jr_zret (ty := .boolean) rfl rfl dX2_isMuddled_94
        · replace h := drvE hc h
          refine jr_aload_n dX2_isMuddled_71 rfl 1 rfl ?_
          refine jr_bipush (v := (8 : Int32)) dX2_isMuddled_72 (by decide) ?_
          refine jr_lload_n dX2_isMuddled_74 rfl 0 rfl ?_
          refine jr_iconst (v := (-1 : Int32)) dX2_isMuddled_75 (by decide) ?_
          obtain ⟨r_10, w_9, hq_8, h⟩ := drvB2 h
          refine j_callVv lk_X2_99 wIM_X2_nearest wSE_X2_nearest (rfl : kd 182 = 2) (by decide) rfl (tX2_nearest  hq_8) (by omega) rfl rfl (Nat.le_of_ble_eq_true rfl) dX2_isMuddled_76 ?_
          refine jr_aload_n dX2_isMuddled_79 rfl 1 rfl ?_
          refine gf_X2_21 (r := 1) rfl (rfl : kd 182 = 2) rfl dX2_isMuddled_80 ?_
          refine gf_X2_103 rfl (rfl : kd 1 = 7) dX2_isMuddled_83 ?_
          refine jr_icmp_ge (tgt := 93) (nxt := 89) dX2_isMuddled_86 (by decide) rfl (fun hc => ?_) (fun hc => ?_)
          · replace h := drvT hc h
            refine jr_iconst (v := (0 : Int32)) dX2_isMuddled_93 (by decide) ?_
            obtain ⟨rfl, rfl⟩ := drvS2 h
            exact jr_zret (ty := .boolean) rfl rfl dX2_isMuddled_94
          · replace h := drvE hc h
            refine jr_iconst (v := (1 : Int32)) dX2_isMuddled_89 (by decide) ?_
            refine jr_goto (tgt := 94) dX2_isMuddled_90 (by decide) ?_
            obtain ⟨rfl, rfl⟩ := drvS2 h
            exact jr_zret (ty := .boolean) rfl rfl dX2_isMuddled_94
      · replace h := drvE hc h
        refine jr_iconst (v := (0 : Int32)) dX2_isMuddled_51 (by decide) ?_
        obtain ⟨rfl, rfl⟩ := drvS2 h
        exact jr_zret (ty := .boolean) rfl rfl dX2_isMuddled_52
  · replace h := drvT hc h
    refine jr_iconst (v := (0 : Int32)) dX2_isMuddled_14 (by decide) ?_
    obtain ⟨rfl, rfl⟩ := drvS2 h
    exact jr_zret (ty := .boolean) rfl rfl dX2_isMuddled_15
set_option maxHeartbeats 4000000 in
set_option maxRecDepth 100000 in
theorem hbX2_matchesOf_5 {n : Nat} {p1 : Int32} {p2 : Int32} {w : jWd} {r : Int32} {rec : Int32 → Int32 → Option Int32} 
    (hrec : ∀ (x3 : Int32) (x4 : Int32) , rec x3 x4 = some r → J MX2_matchesOf 5 w 5 [(0, .ref 182), (1, .int p1), (2, .int p2), (3, .int x3), (4, .int x4)] [] (some (.int r)) w) : ∀ (x3 : Int32) (x4 : Int32) , bX2_matchesOf_5 n p1 p2 w rec x3 x4 = some r → J MX2_matchesOf 5 w 5 [(0, .ref 182), (1, .int p1), (2, .int p2), (3, .int x3), (4, .int x4)] [] (some (.int r)) w := by
  intro x3 x4 h
  unfold bX2_matchesOf_5 at h
  refine jr_iload dX2_matchesOf_5 4 rfl ?_
  refine jr_aload_n dX2_matchesOf_7 rfl 0 rfl ?_
  refine gf_X2_21 (r := 1) rfl (rfl : kd 182 = 2) rfl dX2_matchesOf_8 ?_
  refine gf_X2_25 (r := 16) rfl (rfl : kd 1 = 7) rfl dX2_matchesOf_11 ?_
  refine gf_X2_71 (r := 20) rfl (rfl : kd 16 = 4) rfl dX2_matchesOf_14 ?_
  refine jr_iconst (v := (0 : Int32)) dX2_matchesOf_17 (by decide) ?_
  refine jr_ialdL (k := 0) (rfl : kd 20 = 13) (vp_lit (by decide) (by decide)) (by decide) dX2_matchesOf_18 ?_
  refine jr_icmp_ge (tgt := 53) (nxt := 22) dX2_matchesOf_19 (by decide) rfl (fun hc => ?_) (fun hc => ?_)
  · replace h := drvT hc h
    refine jr_iload_n dX2_matchesOf_53 rfl 3 rfl ?_
    obtain rfl := drvS1 h
    exact jr_iret rfl dX2_matchesOf_54
  · replace h := drvE hc h
    refine jr_aload_n dX2_matchesOf_22 rfl 0 rfl ?_
    refine jr_iload_n dX2_matchesOf_23 rfl 1 rfl ?_
    refine jr_aload_n dX2_matchesOf_24 rfl 0 rfl ?_
    refine gf_X2_21 (r := 1) rfl (rfl : kd 182 = 2) rfl dX2_matchesOf_25 ?_
    refine gf_X2_25 (r := 16) rfl (rfl : kd 1 = 7) rfl dX2_matchesOf_28 ?_
    refine jr_iconst (v := (0 : Int32)) dX2_matchesOf_31 (by decide) ?_
    refine jr_iload dX2_matchesOf_32 4 rfl ?_
    obtain ⟨r_2, hq_1, h⟩ := drvB h
    refine j_callVv lk_X2_89 wIM_X5_at wSE_X5_at (rfl : kd 16 = 4) (by decide) rfl (tX5_at (rfl : kd 16 = 4) hq_1) (by omega) rfl rfl (Nat.le_of_ble_eq_true rfl) dX2_matchesOf_34 ?_
    refine jr_iload_n dX2_matchesOf_37 rfl 2 rfl ?_
    obtain ⟨r_4, hq_3, h⟩ := drvB h
    refine j_callVv lk_X2_132 wIM_X2_bookHasLike wSE_X2_bookHasLike (rfl : kd 182 = 2) (by decide) rfl (tX2_bookHasLike  hq_3) (by omega) rfl rfl (Nat.le_of_ble_eq_true rfl) dX2_matchesOf_38 ?_
    refine jr_if_eq (tgt := 47) (nxt := 44) dX2_matchesOf_41 (by decide) rfl (fun hc => ?_) (fun hc => ?_)
    · replace h := drvT hc h
      refine jr_iincN (c := (1 : Int32)) (lv' := fun (x4_5 : Int32) => [(4, .int x4_5), (0, .ref 182), (1, .int p1), (2, .int p2), (3, .int x3)]) dX2_matchesOf_47 (by decide) 4 rfl (by decide) (fun _ => rfl) (fun x4_5 e_6 => ?_)
      replace h := drvL e_6 h
      refine jr_goto (tgt := 5) dX2_matchesOf_50 (by decide) ?_
      refine jr_sub [1, 2, 3, 4, 0] rfl ?_
      exact hrec _ _ h
    · replace h := drvE hc h
      refine jr_iincN (c := (1 : Int32)) (lv' := fun (x3_7 : Int32) => [(3, .int x3_7), (0, .ref 182), (1, .int p1), (2, .int p2), (4, .int x4)]) dX2_matchesOf_44 (by decide) 3 rfl (by decide) (fun _ => rfl) (fun x3_7 e_8 => ?_)
      replace h := drvL e_8 h
      refine jr_iincN (c := (1 : Int32)) (lv' := fun (x4_9 : Int32) => [(4, .int x4_9), (3, .int x3_7), (0, .ref 182), (1, .int p1), (2, .int p2)]) dX2_matchesOf_47 (by decide) 4 rfl (by decide) (fun _ => rfl) (fun x4_9 e_10 => ?_)
      replace h := drvL e_10 h
      refine jr_goto (tgt := 5) dX2_matchesOf_50 (by decide) ?_
      refine jr_sub [2, 3, 4, 1, 0] rfl ?_
      exact hrec _ _ h
theorem hlX2_matchesOf_5 {n : Nat} {p1 : Int32} {p2 : Int32} {w : jWd} {r : Int32}  : ∀ (c : Nat) (x3 : Int32) (x4 : Int32) , lX2_matchesOf_5 n p1 p2 w c x3 x4 = some r → J MX2_matchesOf 5 w 5 [(0, .ref 182), (1, .int p1), (2, .int p2), (3, .int x3), (4, .int x4)] [] (some (.int r)) w := by
  intro c
  induction c with
  | zero => intro x3 x4 h; cases h
  | succ c ih => intro x3 x4 h; exact hbX2_matchesOf_5 (n := n) ih _ _ h
set_option maxHeartbeats 4000000 in
set_option maxRecDepth 100000 in
theorem tX2_matchesOf {n : Nat} {a0 : Int32} {a1 : Int32} {w : jWd} {r : Int32}  (h : fX2_matchesOf n a0 a1 w = some r) : JM yX2_matchesOf MX2_matchesOf 5 [.ref 182, .int a0, .int a1] w (some (.int r)) w := by
  refine jm_of pl_X2 rfl (Nat.le_of_ble_eq_true rfl) ?_
  show J MX2_matchesOf 5 w 0 [(0, .ref 182), (1, .int a0), (2, .int a1)] [] (some (.int r)) w
  unfold fX2_matchesOf at h
  refine jr_iconst (v := (0 : Int32)) dX2_matchesOf_0 (by decide) ?_
  refine jr_istore_n (lv' := [(3, .int (0 : Int32)), (0, .ref 182), (1, .int a0), (2, .int a1)]) dX2_matchesOf_1 rfl (by decide) rfl ?_
  refine jr_iconst (v := (0 : Int32)) dX2_matchesOf_2 (by decide) ?_
  refine jr_istore (lv' := [(4, .int (0 : Int32)), (3, .int (0 : Int32)), (0, .ref 182), (1, .int a0), (2, .int a1)]) dX2_matchesOf_3 (by decide) rfl ?_
  refine jr_sub [2, 3, 4, 1, 0] rfl ?_
  refine hlX2_matchesOf_5   _ _ _ h
set_option maxHeartbeats 4000000 in
set_option maxRecDepth 100000 in
theorem hbX2_muddledAt_4 {n : Nat} {p1 : Int32} {k45 : Int32 → jWd → (Option (Int32 × jWd))} {r : Int32} {w' : jWd} {rec : Int32 → Int32 → jWd → Option (Int32 × jWd)} (hk45 : ∀ (z2 : Int32) (w9 : jWd), k45 z2 w9 = some (r, w') → J MX2_muddledAt 6 w9 45 [(1, .int p1), (2, .int z2)] [] (some (.int r)) w')
    (hrec : ∀ (x2 : Int32) (x3 : Int32) (w : jWd) , rec x2 x3 w = some (r, w') → J MX2_muddledAt 6 w 4 [(0, .ref 182), (1, .int p1), (2, .int x2), (3, .int x3)] [] (some (.int r)) w') : ∀ (x2 : Int32) (x3 : Int32) (w : jWd) , bX2_muddledAt_4 n p1 k45 rec x2 x3 w = some (r, w') → J MX2_muddledAt 6 w 4 [(0, .ref 182), (1, .int p1), (2, .int x2), (3, .int x3)] [] (some (.int r)) w' := by
  intro x2 x3 w h
  unfold bX2_muddledAt_4 at h
  refine jr_iload_n dX2_muddledAt_4 rfl 3 rfl ?_
  refine jr_aload_n dX2_muddledAt_5 rfl 0 rfl ?_
  refine gf_X2_21 (r := 1) rfl (rfl : kd 182 = 2) rfl dX2_muddledAt_6 ?_
  refine gf_X2_150 (r := 41) rfl (rfl : kd 1 = 7) rfl dX2_muddledAt_9 ?_
  refine gf_X2_165 rfl (rfl : kd 41 = 0) dX2_muddledAt_12 ?_
  refine jr_icmp_ge (tgt := 45) (nxt := 18) dX2_muddledAt_15 (by decide) rfl (fun hc => ?_) (fun hc => ?_)
  · replace h := drvT hc h
    refine jr_sub [1, 2] rfl ?_
    exact hk45 _ _ h
  · replace h := drvE hc h
    refine jr_aload_n dX2_muddledAt_18 rfl 0 rfl ?_
    refine jr_iload_n dX2_muddledAt_19 rfl 3 rfl ?_
    obtain ⟨r_3, w_2, hq_1, h⟩ := drvB2 h
    refine j_callVv lk_X2_166 wIM_X2_isMuddled wSE_X2_isMuddled (rfl : kd 182 = 2) (by decide) rfl (tX2_isMuddled  hq_1) (by omega) rfl rfl (Nat.le_of_ble_eq_true rfl) dX2_muddledAt_20 ?_
    refine jr_if_ne (tgt := 29) (nxt := 26) dX2_muddledAt_23 (by decide) rfl (fun hc => ?_) (fun hc => ?_)
    · replace h := drvE hc h
      refine jr_iload_n dX2_muddledAt_29 rfl 2 rfl ?_
      refine jr_iload_n dX2_muddledAt_30 rfl 1 rfl ?_
      refine jr_icmp_ne (tgt := 36) (nxt := 34) dX2_muddledAt_31 (by decide) rfl (fun hc => ?_) (fun hc => ?_)
      · replace h := drvE hc h
        refine jr_iincN (c := (1 : Int32)) (lv' := fun (x2_4 : Int32) => [(2, .int x2_4), (0, .ref 182), (1, .int p1), (3, .int x3)]) dX2_muddledAt_36 (by decide) 2 rfl (by decide) (fun _ => rfl) (fun x2_4 e_5 => ?_)
        replace h := drvL e_5 h
        refine jr_iincN (c := (1 : Int32)) (lv' := fun (x3_6 : Int32) => [(3, .int x3_6), (2, .int x2_4), (0, .ref 182), (1, .int p1)]) dX2_muddledAt_39 (by decide) 3 rfl (by decide) (fun _ => rfl) (fun x3_6 e_7 => ?_)
        replace h := drvL e_7 h
        refine jr_goto (tgt := 4) dX2_muddledAt_42 (by decide) ?_
        refine jr_sub [2, 3, 1, 0] rfl ?_
        exact hrec _ _ _ h
      · replace h := drvT hc h
        refine jr_iload_n dX2_muddledAt_34 rfl 3 rfl ?_
        obtain ⟨rfl, rfl⟩ := drvS2 h
        exact jr_iret rfl dX2_muddledAt_35
    · replace h := drvT hc h
      refine jr_goto (tgt := 39) dX2_muddledAt_26 (by decide) ?_
      refine jr_iincN (c := (1 : Int32)) (lv' := fun (x3_8 : Int32) => [(3, .int x3_8), (0, .ref 182), (1, .int p1), (2, .int x2)]) dX2_muddledAt_39 (by decide) 3 rfl (by decide) (fun _ => rfl) (fun x3_8 e_9 => ?_)
      replace h := drvL e_9 h
      refine jr_goto (tgt := 4) dX2_muddledAt_42 (by decide) ?_
      refine jr_sub [1, 2, 3, 0] rfl ?_
      exact hrec _ _ _ h
theorem hlX2_muddledAt_4 {n : Nat} {p1 : Int32} {k45 : Int32 → jWd → (Option (Int32 × jWd))} {r : Int32} {w' : jWd} (hk45 : ∀ (z2 : Int32) (w9 : jWd), k45 z2 w9 = some (r, w') → J MX2_muddledAt 6 w9 45 [(1, .int p1), (2, .int z2)] [] (some (.int r)) w') : ∀ (c : Nat) (x2 : Int32) (x3 : Int32) (w : jWd) , lX2_muddledAt_4 n p1 k45 c x2 x3 w = some (r, w') → J MX2_muddledAt 6 w 4 [(0, .ref 182), (1, .int p1), (2, .int x2), (3, .int x3)] [] (some (.int r)) w' := by
  intro c
  induction c with
  | zero => intro x2 x3 w h; cases h
  | succ c ih => intro x2 x3 w h; exact hbX2_muddledAt_4 (n := n) hk45 ih _ _ _ h
set_option maxHeartbeats 4000000 in
set_option maxRecDepth 100000 in
theorem tX2_muddledAt {n : Nat} {a0 : Int32} {w : jWd} {r : Int32} {w' : jWd}  (h : fX2_muddledAt n a0 w = some (r, w')) : JM yX2_muddledAt MX2_muddledAt 6 [.ref 182, .int a0] w (some (.int r)) w' := by
  refine jm_of pl_X2 rfl (Nat.le_of_ble_eq_true rfl) ?_
  show J MX2_muddledAt 6 w 0 [(0, .ref 182), (1, .int a0)] [] (some (.int r)) w'
  unfold fX2_muddledAt at h
  refine jr_iconst (v := (0 : Int32)) dX2_muddledAt_0 (by decide) ?_
  refine jr_istore_n (lv' := [(2, .int (0 : Int32)), (0, .ref 182), (1, .int a0)]) dX2_muddledAt_1 rfl (by decide) rfl ?_
  refine jr_iconst (v := (0 : Int32)) dX2_muddledAt_2 (by decide) ?_
  refine jr_istore_n (lv' := [(3, .int (0 : Int32)), (2, .int (0 : Int32)), (0, .ref 182), (1, .int a0)]) dX2_muddledAt_3 rfl (by decide) rfl ?_
  refine jr_sub [2, 3, 1, 0] rfl ?_
  refine hlX2_muddledAt_4  ?_ _ _ _ _ h
  · intro z2_11 w_10 h
    try dsimp only at h
    refine jr_iload_n dX2_muddledAt_45 rfl 0 rfl ?_
    refine jr_iconst (v := (-1 : Int32)) dX2_muddledAt_46 (by decide) ?_
    refine jr_icmp_ne (tgt := 54) (nxt := 50) dX2_muddledAt_47 (by decide) rfl (fun hc => ?_) (fun hc => ?_)
    · replace h := drvE hc h
      refine jr_iconst (v := (-1 : Int32)) dX2_muddledAt_54 (by decide) ?_
      obtain ⟨rfl, rfl⟩ := drvS2 h
      exact jr_iret rfl dX2_muddledAt_55
    · replace h := drvT hc h
      refine jr_iload_n dX2_muddledAt_50 rfl 1 rfl ?_
      refine jr_goto (tgt := 55) dX2_muddledAt_51 (by decide) ?_
      obtain ⟨rfl, rfl⟩ := drvS2 h
      exact jr_iret rfl dX2_muddledAt_55
set_option maxHeartbeats 4000000 in
set_option maxRecDepth 100000 in
theorem hbX2_pairs_11 {n : Nat} {p1 : Int32} {p2 : Nat} {k47 : Int32 → (Option Int32)} {w : jWd} {r : Int32} {rec : Int32 → Int32 → Option Int32} (hk_p2 : kd p2 = 4) (hk47 : ∀ (z3 : Int32), k47 z3 = some r → J MX2_pairs 4 w 47 [(0, .ref 182), (3, .int z3)] [] (some (.int r)) w)
    (hrec : ∀ (x3 : Int32) (x4 : Int32) , rec x3 x4 = some r → J MX2_pairs 4 w 11 [(0, .ref 182), (1, .int p1), (2, .ref p2), (3, .int x3), (4, .int x4)] [] (some (.int r)) w) : ∀ (x3 : Int32) (x4 : Int32) , bX2_pairs_11 n p1 p2 k47 w rec x3 x4 = some r → J MX2_pairs 4 w 11 [(0, .ref 182), (1, .int p1), (2, .ref p2), (3, .int x3), (4, .int x4)] [] (some (.int r)) w := by
  intro x3 x4 h
  unfold bX2_pairs_11 at h
  refine jr_iload dX2_pairs_11 4 rfl ?_
  refine jr_aload_n dX2_pairs_13 rfl 2 rfl ?_
  refine gf_X2_64 rfl hk_p2 dX2_pairs_14 ?_
  refine jr_icmp_ge (tgt := 47) (nxt := 20) dX2_pairs_17 (by decide) rfl (fun hc => ?_) (fun hc => ?_)
  · replace h := drvT hc h
    refine jr_sub [0, 3] rfl ?_
    exact hk47 _ h
  · replace h := drvE hc h
    refine jr_aload_n dX2_pairs_20 rfl 0 rfl ?_
    refine jr_iload_n dX2_pairs_21 rfl 1 rfl ?_
    refine jr_iload dX2_pairs_22 4 rfl ?_
    refine jr_iconst (v := (-1 : Int32)) dX2_pairs_24 (by decide) ?_
    obtain ⟨r_4, hq_3, h⟩ := drvB h
    refine j_callVv lk_X2_67 wIM_X2_isAmong wSE_X2_isAmong (rfl : kd 182 = 2) (by decide) rfl (tX2_isAmong  hq_3) (by omega) rfl rfl (Nat.le_of_ble_eq_true rfl) dX2_pairs_25 ?_
    refine jr_if_eq (tgt := 41) (nxt := 31) dX2_pairs_28 (by decide) rfl (fun hc => ?_) (fun hc => ?_)
    · replace h := drvT hc h
      refine jr_iincN (c := (1 : Int32)) (lv' := fun (x4_5 : Int32) => [(4, .int x4_5), (0, .ref 182), (1, .int p1), (2, .ref p2), (3, .int x3)]) dX2_pairs_41 (by decide) 4 rfl (by decide) (fun _ => rfl) (fun x4_5 e_6 => ?_)
      replace h := drvL e_6 h
      refine jr_goto (tgt := 11) dX2_pairs_44 (by decide) ?_
      refine jr_sub [1, 2, 3, 4, 0] rfl ?_
      exact hrec _ _ h
    · replace h := drvE hc h
      refine jr_iload_n dX2_pairs_31 rfl 3 rfl ?_
      refine jr_aload_n dX2_pairs_32 rfl 2 rfl ?_
      refine gf_X2_71 (r := (p2 + 4)) rfl hk_p2 rfl dX2_pairs_33 ?_
      refine jr_iload dX2_pairs_36 4 rfl ?_
      obtain ⟨hg_7, h⟩ := drvG h
      refine jr_iald (kr_4_4 hk_p2) hg_7 dX2_pairs_38 ?_
      refine jr_iadd dX2_pairs_39 ?_
      refine j_nmi (fun x3_8 e_9 => ?_)
      replace h := drvL e_9 h
      refine jr_istore_n (lv' := [(3, .int x3_8), (0, .ref 182), (1, .int p1), (2, .ref p2), (4, .int x4)]) dX2_pairs_40 rfl (by decide) rfl ?_
      refine jr_iincN (c := (1 : Int32)) (lv' := fun (x4_10 : Int32) => [(4, .int x4_10), (3, .int x3_8), (0, .ref 182), (1, .int p1), (2, .ref p2)]) dX2_pairs_41 (by decide) 4 rfl (by decide) (fun _ => rfl) (fun x4_10 e_11 => ?_)
      replace h := drvL e_11 h
      refine jr_goto (tgt := 11) dX2_pairs_44 (by decide) ?_
      refine jr_sub [2, 3, 4, 1, 0] rfl ?_
      exact hrec _ _ h
theorem hlX2_pairs_11 {n : Nat} {p1 : Int32} {p2 : Nat} {k47 : Int32 → (Option Int32)} {w : jWd} {r : Int32} (hk_p2 : kd p2 = 4) (hk47 : ∀ (z3 : Int32), k47 z3 = some r → J MX2_pairs 4 w 47 [(0, .ref 182), (3, .int z3)] [] (some (.int r)) w) : ∀ (c : Nat) (x3 : Int32) (x4 : Int32) , lX2_pairs_11 n p1 p2 k47 w c x3 x4 = some r → J MX2_pairs 4 w 11 [(0, .ref 182), (1, .int p1), (2, .ref p2), (3, .int x3), (4, .int x4)] [] (some (.int r)) w := by
  intro c
  induction c with
  | zero => intro x3 x4 h; cases h
  | succ c ih => intro x3 x4 h; exact hbX2_pairs_11 (n := n) hk_p2 hk47 ih _ _ h
set_option maxHeartbeats 4000000 in
set_option maxRecDepth 100000 in
theorem tX2_pairs {n : Nat} {a0 : Int32} {w : jWd} {r : Int32}  (h : fX2_pairs n a0 w = some r) : JM yX2_pairs MX2_pairs 4 [.ref 182, .int a0] w (some (.int r)) w := by
  refine jm_of pl_X2 rfl (Nat.le_of_ble_eq_true rfl) ?_
  show J MX2_pairs 4 w 0 [(0, .ref 182), (1, .int a0)] [] (some (.int r)) w
  unfold fX2_pairs at h
  refine jr_aload_n dX2_pairs_0 rfl 0 rfl ?_
  refine jr_iload_n dX2_pairs_1 rfl 1 rfl ?_
  refine j_callVv lk_X2_56 wIM_X2_pileOf wSE_X2_pileOf (rfl : kd 182 = 2) (by decide) rfl (tX2_pileOf  (a0 := a0) (w := w)) (by omega) rfl rfl (Nat.le_of_ble_eq_true rfl) dX2_pairs_2 ?_
  refine j_nma (fun r_1 e_2 => ?_)
  replace h := drvL e_2 h
  have hk_r_1 : kd r_1 = 4 := by rw [e_2]; exact kqX2_pileOf 
  refine jr_astore_n (lv' := [(2, .ref r_1), (0, .ref 182), (1, .int a0)]) dX2_pairs_5 rfl (by decide) rfl ?_
  refine jr_iconst (v := (0 : Int32)) dX2_pairs_6 (by decide) ?_
  refine jr_istore_n (lv' := [(3, .int (0 : Int32)), (2, .ref r_1), (0, .ref 182), (1, .int a0)]) dX2_pairs_7 rfl (by decide) rfl ?_
  refine jr_iconst (v := (0 : Int32)) dX2_pairs_8 (by decide) ?_
  refine jr_istore (lv' := [(4, .int (0 : Int32)), (3, .int (0 : Int32)), (2, .ref r_1), (0, .ref 182), (1, .int a0)]) dX2_pairs_9 (by decide) rfl ?_
  refine jr_sub [3, 4, 2, 1, 0] rfl ?_
  refine hlX2_pairs_11 hk_r_1 ?_ _ _ _ h
  · intro z3_12 h
    try dsimp only at h
    refine jr_iload_n dX2_pairs_47 rfl 1 rfl ?_
    refine jr_aload_n dX2_pairs_48 rfl 0 rfl ?_
    refine gf_X2_21 (r := 1) rfl (rfl : kd 182 = 2) rfl dX2_pairs_49 ?_
    refine gf_X2_25 (r := 16) rfl (rfl : kd 1 = 7) rfl dX2_pairs_52 ?_
    refine gf_X2_71 (r := 20) rfl (rfl : kd 16 = 4) rfl dX2_pairs_55 ?_
    refine jr_iconst (v := (0 : Int32)) dX2_pairs_58 (by decide) ?_
    refine jr_ialdL (k := 0) (rfl : kd 20 = 13) (vp_lit (by decide) (by decide)) (by decide) dX2_pairs_59 ?_
    refine jr_imul dX2_pairs_60 ?_
    obtain rfl := drvS1 h
    exact jr_iret rfl dX2_pairs_61
set_option maxHeartbeats 4000000 in
set_option maxRecDepth 100000 in
theorem hbX2_printedLike_6 {n : Nat} {p1 : Int64} {p3 : Int32} {w : jWd} {r : Int32} {rec : Int32 → Int32 → Option Int32} 
    (hrec : ∀ (x4 : Int32) (x5 : Int32) , rec x4 x5 = some r → J MX2_printedLike 4 w 6 [(0, .ref 182), (1, .long p1), (3, .int p3), (4, .int x4), (5, .int x5)] [] (some (.int r)) w) : ∀ (x4 : Int32) (x5 : Int32) , bX2_printedLike_6 n p1 p3 w rec x4 x5 = some r → J MX2_printedLike 4 w 6 [(0, .ref 182), (1, .long p1), (3, .int p3), (4, .int x4), (5, .int x5)] [] (some (.int r)) w := by
  intro x4 x5 h
  unfold bX2_printedLike_6 at h
  refine jr_iload dX2_printedLike_6 4 rfl ?_
  refine jr_aload_n dX2_printedLike_8 rfl 0 rfl ?_
  refine gf_X2_21 (r := 1) rfl (rfl : kd 182 = 2) rfl dX2_printedLike_9 ?_
  refine gf_X2_25 (r := 16) rfl (rfl : kd 1 = 7) rfl dX2_printedLike_12 ?_
  refine gf_X2_71 (r := 20) rfl (rfl : kd 16 = 4) rfl dX2_printedLike_15 ?_
  refine jr_iconst (v := (0 : Int32)) dX2_printedLike_18 (by decide) ?_
  refine jr_ialdL (k := 0) (rfl : kd 20 = 13) (vp_lit (by decide) (by decide)) (by decide) dX2_printedLike_19 ?_
  refine jr_icmp_ge (tgt := 53) (nxt := 23) dX2_printedLike_20 (by decide) rfl (fun hc => ?_) (fun hc => ?_)
  · replace h := drvT hc h
    refine jr_iload dX2_printedLike_53 3 rfl ?_
    obtain rfl := drvS1 h
    exact jr_iret rfl dX2_printedLike_55
  · replace h := drvE hc h
    refine jr_lload_n dX2_printedLike_23 rfl 1 rfl ?_
    refine jr_aload_n dX2_printedLike_24 rfl 0 rfl ?_
    refine gf_X2_21 (r := 1) rfl (rfl : kd 182 = 2) rfl dX2_printedLike_25 ?_
    refine gf_X2_25 (r := 16) rfl (rfl : kd 1 = 7) rfl dX2_printedLike_28 ?_
    refine jr_iconst (v := (0 : Int32)) dX2_printedLike_31 (by decide) ?_
    refine jr_iload dX2_printedLike_32 4 rfl ?_
    obtain ⟨r_2, hq_1, h⟩ := drvB h
    refine j_callVv lk_X2_89 wIM_X5_at wSE_X5_at (rfl : kd 16 = 4) (by decide) rfl (tX5_at (rfl : kd 16 = 4) hq_1) (by omega) rfl rfl (Nat.le_of_ble_eq_true rfl) dX2_printedLike_34 ?_
    obtain ⟨r_4, hq_3, h⟩ := drvB h
    refine j_callSv lk_X2_83 wST_X4_alike (tX4_alike  hq_3) (by omega) rfl rfl (Nat.le_of_ble_eq_true rfl) dX2_printedLike_37 ?_
    refine jr_iload_n dX2_printedLike_40 rfl 2 rfl ?_
    refine jr_icmp_lt (tgt := 47) (nxt := 44) dX2_printedLike_41 (by decide) rfl (fun hc => ?_) (fun hc => ?_)
    · replace h := drvT hc h
      refine jr_iincN (c := (1 : Int32)) (lv' := fun (x5_5 : Int32) => [(5, .int x5_5), (0, .ref 182), (1, .long p1), (3, .int p3), (4, .int x4)]) dX2_printedLike_47 (by decide) 4 rfl (by decide) (fun _ => rfl) (fun x5_5 e_6 => ?_)
      replace h := drvL e_6 h
      refine jr_goto (tgt := 6) dX2_printedLike_50 (by decide) ?_
      refine jr_sub [1, 2, 3, 4, 0] rfl ?_
      exact hrec _ _ h
    · replace h := drvE hc h
      refine jr_iincN (c := (1 : Int32)) (lv' := fun (x4_7 : Int32) => [(4, .int x4_7), (0, .ref 182), (1, .long p1), (3, .int p3), (5, .int x5)]) dX2_printedLike_44 (by decide) 3 rfl (by decide) (fun _ => rfl) (fun x4_7 e_8 => ?_)
      replace h := drvL e_8 h
      refine jr_iincN (c := (1 : Int32)) (lv' := fun (x5_9 : Int32) => [(5, .int x5_9), (4, .int x4_7), (0, .ref 182), (1, .long p1), (3, .int p3)]) dX2_printedLike_47 (by decide) 4 rfl (by decide) (fun _ => rfl) (fun x5_9 e_10 => ?_)
      replace h := drvL e_10 h
      refine jr_goto (tgt := 6) dX2_printedLike_50 (by decide) ?_
      refine jr_sub [2, 3, 4, 1, 0] rfl ?_
      exact hrec _ _ h
theorem hlX2_printedLike_6 {n : Nat} {p1 : Int64} {p3 : Int32} {w : jWd} {r : Int32}  : ∀ (c : Nat) (x4 : Int32) (x5 : Int32) , lX2_printedLike_6 n p1 p3 w c x4 x5 = some r → J MX2_printedLike 4 w 6 [(0, .ref 182), (1, .long p1), (3, .int p3), (4, .int x4), (5, .int x5)] [] (some (.int r)) w := by
  intro c
  induction c with
  | zero => intro x4 x5 h; cases h
  | succ c ih => intro x4 x5 h; exact hbX2_printedLike_6 (n := n) ih _ _ h
set_option maxHeartbeats 4000000 in
set_option maxRecDepth 100000 in
theorem tX2_printedLike {n : Nat} {a0 : Int64} {a1 : Int32} {w : jWd} {r : Int32}  (h : fX2_printedLike n a0 a1 w = some r) : JM yX2_printedLike MX2_printedLike 4 [.ref 182, .long a0, .int a1] w (some (.int r)) w := by
  refine jm_of pl_X2 rfl (Nat.le_of_ble_eq_true rfl) ?_
  show J MX2_printedLike 4 w 0 [(0, .ref 182), (1, .long a0), (3, .int a1)] [] (some (.int r)) w
  unfold fX2_printedLike at h
  refine jr_iconst (v := (0 : Int32)) dX2_printedLike_0 (by decide) ?_
  refine jr_istore (lv' := [(4, .int (0 : Int32)), (0, .ref 182), (1, .long a0), (3, .int a1)]) dX2_printedLike_1 (by decide) rfl ?_
  refine jr_iconst (v := (0 : Int32)) dX2_printedLike_3 (by decide) ?_
  refine jr_istore (lv' := [(5, .int (0 : Int32)), (4, .int (0 : Int32)), (0, .ref 182), (1, .long a0), (3, .int a1)]) dX2_printedLike_4 (by decide) rfl ?_
  refine jr_sub [2, 3, 4, 1, 0] rfl ?_
  refine hlX2_printedLike_6   _ _ _ h
set_option maxHeartbeats 4000000 in
set_option maxRecDepth 100000 in
theorem hbX2_pairsBy_38 {n : Nat} {p1 : Int32} {p2 : Int32} {p3 : Nat} {p5 : Int32} {k74 : Int32 → (Option Int32)} {w : jWd} {r : Int32} {rec : Int32 → Int32 → Option Int32} (hk_p3 : kd p3 = 4) (hk74 : ∀ (z4 : Int32), k74 z4 = some r → J MX2_pairsBy 5 w 74 [(0, .ref 182), (1, .int p1), (2, .int p2), (3, .ref p3), (4, .int z4), (5, .int p5)] [] (some (.int r)) w)
    (hrec : ∀ (x4 : Int32) (x6 : Int32) , rec x4 x6 = some r → J MX2_pairsBy 5 w 38 [(0, .ref 182), (1, .int p1), (2, .int p2), (3, .ref p3), (4, .int x4), (5, .int p5), (6, .int x6)] [] (some (.int r)) w) : ∀ (x4 : Int32) (x6 : Int32) , bX2_pairsBy_38 n p1 p2 p3 p5 k74 w rec x4 x6 = some r → J MX2_pairsBy 5 w 38 [(0, .ref 182), (1, .int p1), (2, .int p2), (3, .ref p3), (4, .int x4), (5, .int p5), (6, .int x6)] [] (some (.int r)) w := by
  intro x4 x6 h
  unfold bX2_pairsBy_38 at h
  refine jr_iload dX2_pairsBy_38 6 rfl ?_
  refine jr_aload_n dX2_pairsBy_40 rfl 3 rfl ?_
  refine gf_X2_71 (r := (p3 + 4)) rfl hk_p3 rfl dX2_pairsBy_41 ?_
  refine jr_iload dX2_pairsBy_44 5 rfl ?_
  obtain ⟨hg_5, h⟩ := drvG h
  refine jr_iald (kr_4_4 hk_p3) hg_5 dX2_pairsBy_46 ?_
  refine jr_icmp_ge (tgt := 74) (nxt := 50) dX2_pairsBy_47 (by decide) rfl (fun hc => ?_) (fun hc => ?_)
  · replace h := drvT hc h
    refine jr_sub [0, 1, 2, 3, 4, 5] rfl ?_
    exact hk74 _ h
  · replace h := drvE hc h
    refine jr_iload dX2_pairsBy_50 4 rfl ?_
    refine jr_aload_n dX2_pairsBy_52 rfl 0 rfl ?_
    refine jr_aload_n dX2_pairsBy_53 rfl 3 rfl ?_
    refine jr_iload dX2_pairsBy_54 5 rfl ?_
    refine jr_iload dX2_pairsBy_56 6 rfl ?_
    obtain ⟨r_7, hq_6, h⟩ := drvB h
    refine j_callVv lk_X2_89 wIM_X5_at wSE_X5_at hk_p3 (by decide) rfl (tX5_at hk_p3 hq_6) (by omega) rfl rfl (Nat.le_of_ble_eq_true rfl) dX2_pairsBy_58 ?_
    refine jr_iload_n dX2_pairsBy_61 rfl 2 rfl ?_
    obtain ⟨r_9, hq_8, h⟩ := drvB h
    refine j_callVv lk_X2_128 wIM_X2_printedLike wSE_X2_printedLike (rfl : kd 182 = 2) (by decide) rfl (tX2_printedLike  hq_8) (by omega) rfl rfl (Nat.le_of_ble_eq_true rfl) dX2_pairsBy_62 ?_
    refine jr_iadd dX2_pairsBy_65 ?_
    refine j_nmi (fun x4_10 e_11 => ?_)
    replace h := drvL e_11 h
    refine jr_istore (lv' := [(4, .int x4_10), (0, .ref 182), (1, .int p1), (2, .int p2), (3, .ref p3), (5, .int p5), (6, .int x6)]) dX2_pairsBy_66 (by decide) rfl ?_
    refine jr_iincN (c := (1 : Int32)) (lv' := fun (x6_12 : Int32) => [(6, .int x6_12), (4, .int x4_10), (0, .ref 182), (1, .int p1), (2, .int p2), (3, .ref p3), (5, .int p5)]) dX2_pairsBy_68 (by decide) 6 rfl (by decide) (fun _ => rfl) (fun x6_12 e_13 => ?_)
    replace h := drvL e_13 h
    refine jr_goto (tgt := 38) dX2_pairsBy_71 (by decide) ?_
    refine jr_sub [2, 3, 4, 5, 1, 6, 0] rfl ?_
    exact hrec _ _ h
theorem hlX2_pairsBy_38 {n : Nat} {p1 : Int32} {p2 : Int32} {p3 : Nat} {p5 : Int32} {k74 : Int32 → (Option Int32)} {w : jWd} {r : Int32} (hk_p3 : kd p3 = 4) (hk74 : ∀ (z4 : Int32), k74 z4 = some r → J MX2_pairsBy 5 w 74 [(0, .ref 182), (1, .int p1), (2, .int p2), (3, .ref p3), (4, .int z4), (5, .int p5)] [] (some (.int r)) w) : ∀ (c : Nat) (x4 : Int32) (x6 : Int32) , lX2_pairsBy_38 n p1 p2 p3 p5 k74 w c x4 x6 = some r → J MX2_pairsBy 5 w 38 [(0, .ref 182), (1, .int p1), (2, .int p2), (3, .ref p3), (4, .int x4), (5, .int p5), (6, .int x6)] [] (some (.int r)) w := by
  intro c
  induction c with
  | zero => intro x4 x6 h; cases h
  | succ c ih => intro x4 x6 h; exact hbX2_pairsBy_38 (n := n) hk_p3 hk74 ih _ _ h
set_option maxHeartbeats 4000000 in
set_option maxRecDepth 100000 in
theorem hbX2_pairsBy_12 {n : Nat} {p1 : Int32} {p2 : Int32} {p3 : Nat} {w : jWd} {r : Int32} {rec : Int32 → Int32 → Option Int32} (hk_p3 : kd p3 = 4) 
    (hrec : ∀ (x4 : Int32) (x5 : Int32) , rec x4 x5 = some r → J MX2_pairsBy 5 w 12 [(0, .ref 182), (1, .int p1), (2, .int p2), (3, .ref p3), (4, .int x4), (5, .int x5)] [] (some (.int r)) w) : ∀ (x4 : Int32) (x5 : Int32) , bX2_pairsBy_12 n p1 p2 p3 w rec x4 x5 = some r → J MX2_pairsBy 5 w 12 [(0, .ref 182), (1, .int p1), (2, .int p2), (3, .ref p3), (4, .int x4), (5, .int x5)] [] (some (.int r)) w := by
  intro x4 x5 h
  unfold bX2_pairsBy_12 at h
  refine jr_iload dX2_pairsBy_12 5 rfl ?_
  refine jr_aload_n dX2_pairsBy_14 rfl 3 rfl ?_
  refine gf_X2_64 rfl hk_p3 dX2_pairsBy_15 ?_
  refine jr_icmp_ge (tgt := 80) (nxt := 21) dX2_pairsBy_18 (by decide) rfl (fun hc => ?_) (fun hc => ?_)
  · replace h := drvT hc h
    refine jr_iload dX2_pairsBy_80 4 rfl ?_
    obtain rfl := drvS1 h
    exact jr_iret rfl dX2_pairsBy_82
  · replace h := drvE hc h
    refine jr_aload_n dX2_pairsBy_21 rfl 0 rfl ?_
    refine jr_iload_n dX2_pairsBy_22 rfl 1 rfl ?_
    refine jr_iload dX2_pairsBy_23 5 rfl ?_
    refine jr_iconst (v := (-1 : Int32)) dX2_pairsBy_25 (by decide) ?_
    obtain ⟨r_4, hq_3, h⟩ := drvB h
    refine j_callVv lk_X2_67 wIM_X2_isAmong wSE_X2_isAmong (rfl : kd 182 = 2) (by decide) rfl (tX2_isAmong  hq_3) (by omega) rfl rfl (Nat.le_of_ble_eq_true rfl) dX2_pairsBy_26 ?_
    refine jr_if_ne (tgt := 35) (nxt := 32) dX2_pairsBy_29 (by decide) rfl (fun hc => ?_) (fun hc => ?_)
    · replace h := drvE hc h
      refine jr_iconst (v := (0 : Int32)) dX2_pairsBy_35 (by decide) ?_
      refine jr_istore (lv' := [(6, .int (0 : Int32)), (0, .ref 182), (1, .int p1), (2, .int p2), (3, .ref p3), (4, .int x4), (5, .int x5)]) dX2_pairsBy_36 (by decide) rfl ?_
      refine jr_sub [1, 2, 3, 4, 5, 6, 0] rfl ?_
      refine hlX2_pairsBy_38 hk_p3 ?_ _ _ _ h
      · intro z4_14 h
        try dsimp only at h
        refine jr_iincN (c := (1 : Int32)) (lv' := fun (x5_15 : Int32) => [(5, .int x5_15), (0, .ref 182), (1, .int p1), (2, .int p2), (3, .ref p3), (4, .int z4_14)]) dX2_pairsBy_74 (by decide) 5 rfl (by decide) (fun _ => rfl) (fun x5_15 e_16 => ?_)
        replace h := drvL e_16 h
        refine jr_goto (tgt := 12) dX2_pairsBy_77 (by decide) ?_
        refine jr_sub [1, 2, 3, 4, 5, 0] rfl ?_
        exact hrec _ _ h
    · replace h := drvT hc h
      refine jr_goto (tgt := 74) dX2_pairsBy_32 (by decide) ?_
      refine jr_iincN (c := (1 : Int32)) (lv' := fun (x5_17 : Int32) => [(5, .int x5_17), (0, .ref 182), (1, .int p1), (2, .int p2), (3, .ref p3), (4, .int x4)]) dX2_pairsBy_74 (by decide) 5 rfl (by decide) (fun _ => rfl) (fun x5_17 e_18 => ?_)
      replace h := drvL e_18 h
      refine jr_goto (tgt := 12) dX2_pairsBy_77 (by decide) ?_
      refine jr_sub [1, 2, 3, 4, 5, 0] rfl ?_
      exact hrec _ _ h
theorem hlX2_pairsBy_12 {n : Nat} {p1 : Int32} {p2 : Int32} {p3 : Nat} {w : jWd} {r : Int32} (hk_p3 : kd p3 = 4)  : ∀ (c : Nat) (x4 : Int32) (x5 : Int32) , lX2_pairsBy_12 n p1 p2 p3 w c x4 x5 = some r → J MX2_pairsBy 5 w 12 [(0, .ref 182), (1, .int p1), (2, .int p2), (3, .ref p3), (4, .int x4), (5, .int x5)] [] (some (.int r)) w := by
  intro c
  induction c with
  | zero => intro x4 x5 h; cases h
  | succ c ih => intro x4 x5 h; exact hbX2_pairsBy_12 (n := n) hk_p3 ih _ _ h
set_option maxHeartbeats 4000000 in
set_option maxRecDepth 100000 in
theorem tX2_pairsBy {n : Nat} {a0 : Int32} {a1 : Int32} {w : jWd} {r : Int32}  (h : fX2_pairsBy n a0 a1 w = some r) : JM yX2_pairsBy MX2_pairsBy 5 [.ref 182, .int a0, .int a1] w (some (.int r)) w := by
  refine jm_of pl_X2 rfl (Nat.le_of_ble_eq_true rfl) ?_
  show J MX2_pairsBy 5 w 0 [(0, .ref 182), (1, .int a0), (2, .int a1)] [] (some (.int r)) w
  unfold fX2_pairsBy at h
  refine jr_aload_n dX2_pairsBy_0 rfl 0 rfl ?_
  refine jr_iload_n dX2_pairsBy_1 rfl 1 rfl ?_
  refine j_callVv lk_X2_56 wIM_X2_pileOf wSE_X2_pileOf (rfl : kd 182 = 2) (by decide) rfl (tX2_pileOf  (a0 := a0) (w := w)) (by omega) rfl rfl (Nat.le_of_ble_eq_true rfl) dX2_pairsBy_2 ?_
  refine j_nma (fun r_1 e_2 => ?_)
  replace h := drvL e_2 h
  have hk_r_1 : kd r_1 = 4 := by rw [e_2]; exact kqX2_pileOf 
  refine jr_astore_n (lv' := [(3, .ref r_1), (0, .ref 182), (1, .int a0), (2, .int a1)]) dX2_pairsBy_5 rfl (by decide) rfl ?_
  refine jr_iconst (v := (0 : Int32)) dX2_pairsBy_6 (by decide) ?_
  refine jr_istore (lv' := [(4, .int (0 : Int32)), (3, .ref r_1), (0, .ref 182), (1, .int a0), (2, .int a1)]) dX2_pairsBy_7 (by decide) rfl ?_
  refine jr_iconst (v := (0 : Int32)) dX2_pairsBy_9 (by decide) ?_
  refine jr_istore (lv' := [(5, .int (0 : Int32)), (4, .int (0 : Int32)), (3, .ref r_1), (0, .ref 182), (1, .int a0), (2, .int a1)]) dX2_pairsBy_10 (by decide) rfl ?_
  refine jr_sub [3, 4, 5, 2, 1, 0] rfl ?_
  refine hlX2_pairsBy_12 hk_r_1  _ _ _ h
set_option maxHeartbeats 4000000 in
set_option maxRecDepth 100000 in
theorem hbX2_partedBy_5 {n : Nat} {p1 : Int32} {p2 : Int32} {r : Int32} {w' : jWd} {rec : Int32 → Int32 → jWd → Option (Int32 × jWd)} 
    (hrec : ∀ (x3 : Int32) (x4 : Int32) (w : jWd) , rec x3 x4 w = some (r, w') → J MX2_partedBy 6 w 5 [(0, .ref 182), (1, .int p1), (2, .int p2), (3, .int x3), (4, .int x4)] [] (some (.int r)) w') : ∀ (x3 : Int32) (x4 : Int32) (w : jWd) , bX2_partedBy_5 n p1 p2 rec x3 x4 w = some (r, w') → J MX2_partedBy 6 w 5 [(0, .ref 182), (1, .int p1), (2, .int p2), (3, .int x3), (4, .int x4)] [] (some (.int r)) w' := by
  intro x3 x4 w h
  unfold bX2_partedBy_5 at h
  refine jr_iload dX2_partedBy_5 4 rfl ?_
  refine jr_aload_n dX2_partedBy_7 rfl 0 rfl ?_
  refine gf_X2_21 (r := 1) rfl (rfl : kd 182 = 2) rfl dX2_partedBy_8 ?_
  refine gf_X2_150 (r := 41) rfl (rfl : kd 1 = 7) rfl dX2_partedBy_11 ?_
  refine gf_X2_165 rfl (rfl : kd 41 = 0) dX2_partedBy_14 ?_
  refine jr_icmp_ge (tgt := 71) (nxt := 20) dX2_partedBy_17 (by decide) rfl (fun hc => ?_) (fun hc => ?_)
  · replace h := drvT hc h
    refine jr_iload_n dX2_partedBy_71 rfl 3 rfl ?_
    obtain ⟨rfl, rfl⟩ := drvS2 h
    exact jr_iret rfl dX2_partedBy_72
  · replace h := drvE hc h
    refine jr_aload_n dX2_partedBy_20 rfl 0 rfl ?_
    refine gf_X2_21 (r := 1) rfl (rfl : kd 182 = 2) rfl dX2_partedBy_21 ?_
    refine gf_X2_150 (r := 41) rfl (rfl : kd 1 = 7) rfl dX2_partedBy_24 ?_
    refine jr_iload dX2_partedBy_27 4 rfl ?_
    refine jr_iload_n dX2_partedBy_29 rfl 1 rfl ?_
    obtain ⟨r_2, hq_1, h⟩ := drvB h
    refine j_callVv lk_X2_169 wIM_X0_heard wSE_X0_heard (rfl : kd 41 = 0) (by decide) rfl (tX0_heard (rfl : kd 41 = 0) hq_1) (by omega) rfl rfl (Nat.le_of_ble_eq_true rfl) dX2_partedBy_30 ?_
    refine jr_iload_n dX2_partedBy_33 rfl 2 rfl ?_
    refine jr_icmp_ne (tgt := 65) (nxt := 37) dX2_partedBy_34 (by decide) rfl (fun hc => ?_) (fun hc => ?_)
    · replace h := drvE hc h
      refine jr_iincN (c := (1 : Int32)) (lv' := fun (x4_3 : Int32) => [(4, .int x4_3), (0, .ref 182), (1, .int p1), (2, .int p2), (3, .int x3)]) dX2_partedBy_65 (by decide) 4 rfl (by decide) (fun _ => rfl) (fun x4_3 e_4 => ?_)
      replace h := drvL e_4 h
      refine jr_goto (tgt := 5) dX2_partedBy_68 (by decide) ?_
      refine jr_sub [1, 2, 3, 4, 0] rfl ?_
      exact hrec _ _ _ h
    · replace h := drvT hc h
      refine jr_aload_n dX2_partedBy_37 rfl 0 rfl ?_
      refine jr_iload dX2_partedBy_38 4 rfl ?_
      obtain ⟨r_7, w_6, hq_5, h⟩ := drvB2 h
      refine j_callVv lk_X2_172 wIM_X2_isBack wSE_X2_isBack (rfl : kd 182 = 2) (by decide) rfl (tX2_isBack  hq_5) (by omega) rfl rfl (Nat.le_of_ble_eq_true rfl) dX2_partedBy_40 ?_
      refine jr_if_ne (tgt := 65) (nxt := 46) dX2_partedBy_43 (by decide) rfl (fun hc => ?_) (fun hc => ?_)
      · replace h := drvE hc h
        refine jr_iincN (c := (1 : Int32)) (lv' := fun (x4_8 : Int32) => [(4, .int x4_8), (0, .ref 182), (1, .int p1), (2, .int p2), (3, .int x3)]) dX2_partedBy_65 (by decide) 4 rfl (by decide) (fun _ => rfl) (fun x4_8 e_9 => ?_)
        replace h := drvL e_9 h
        refine jr_goto (tgt := 5) dX2_partedBy_68 (by decide) ?_
        refine jr_sub [1, 2, 3, 4, 0] rfl ?_
        exact hrec _ _ _ h
      · replace h := drvT hc h
        refine jr_iload_n dX2_partedBy_46 rfl 3 rfl ?_
        refine jr_bipush (v := (10 : Int32)) dX2_partedBy_47 (by decide) ?_
        refine jr_aload_n dX2_partedBy_49 rfl 0 rfl ?_
        refine gf_X2_21 (r := 1) rfl (rfl : kd 182 = 2) rfl dX2_partedBy_50 ?_
        refine gf_X2_150 (r := 41) rfl (rfl : kd 1 = 7) rfl dX2_partedBy_53 ?_
        refine gf_X2_175 (r := 44) rfl (rfl : kd 41 = 0) rfl dX2_partedBy_56 ?_
        refine jr_iload dX2_partedBy_59 4 rfl ?_
        obtain ⟨hg_10, h⟩ := drvG h
        refine jr_iald (rfl : kd 44 = 13) hg_10 dX2_partedBy_61 ?_
        refine jr_isub dX2_partedBy_62 ?_
        refine jr_iadd dX2_partedBy_63 ?_
        refine j_nmi (fun x3_11 e_12 => ?_)
        replace h := drvL e_12 h
        refine jr_istore_n (lv' := [(3, .int x3_11), (0, .ref 182), (1, .int p1), (2, .int p2), (4, .int x4)]) dX2_partedBy_64 rfl (by decide) rfl ?_
        refine jr_iincN (c := (1 : Int32)) (lv' := fun (x4_13 : Int32) => [(4, .int x4_13), (3, .int x3_11), (0, .ref 182), (1, .int p1), (2, .int p2)]) dX2_partedBy_65 (by decide) 4 rfl (by decide) (fun _ => rfl) (fun x4_13 e_14 => ?_)
        replace h := drvL e_14 h
        refine jr_goto (tgt := 5) dX2_partedBy_68 (by decide) ?_
        refine jr_sub [2, 3, 4, 1, 0] rfl ?_
        exact hrec _ _ _ h
theorem hlX2_partedBy_5 {n : Nat} {p1 : Int32} {p2 : Int32} {r : Int32} {w' : jWd}  : ∀ (c : Nat) (x3 : Int32) (x4 : Int32) (w : jWd) , lX2_partedBy_5 n p1 p2 c x3 x4 w = some (r, w') → J MX2_partedBy 6 w 5 [(0, .ref 182), (1, .int p1), (2, .int p2), (3, .int x3), (4, .int x4)] [] (some (.int r)) w' := by
  intro c
  induction c with
  | zero => intro x3 x4 w h; cases h
  | succ c ih => intro x3 x4 w h; exact hbX2_partedBy_5 (n := n) ih _ _ _ h
set_option maxHeartbeats 4000000 in
set_option maxRecDepth 100000 in
theorem tX2_partedBy {n : Nat} {a0 : Int32} {a1 : Int32} {w : jWd} {r : Int32} {w' : jWd}  (h : fX2_partedBy n a0 a1 w = some (r, w')) : JM yX2_partedBy MX2_partedBy 6 [.ref 182, .int a0, .int a1] w (some (.int r)) w' := by
  refine jm_of pl_X2 rfl (Nat.le_of_ble_eq_true rfl) ?_
  show J MX2_partedBy 6 w 0 [(0, .ref 182), (1, .int a0), (2, .int a1)] [] (some (.int r)) w'
  unfold fX2_partedBy at h
  refine jr_iconst (v := (0 : Int32)) dX2_partedBy_0 (by decide) ?_
  refine jr_istore_n (lv' := [(3, .int (0 : Int32)), (0, .ref 182), (1, .int a0), (2, .int a1)]) dX2_partedBy_1 rfl (by decide) rfl ?_
  refine jr_iconst (v := (0 : Int32)) dX2_partedBy_2 (by decide) ?_
  refine jr_istore (lv' := [(4, .int (0 : Int32)), (3, .int (0 : Int32)), (0, .ref 182), (1, .int a0), (2, .int a1)]) dX2_partedBy_3 (by decide) rfl ?_
  refine jr_sub [2, 3, 4, 1, 0] rfl ?_
  refine hlX2_partedBy_5   _ _ _ _ h
