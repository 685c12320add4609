/-! each function is what its method does (by program) -/
set_option maxHeartbeats 4000000 in
set_option maxRecDepth 100000 in
theorem tX3_clear {n : Nat} {t : Nat} {w : jWd} {w' : jWd} (h0 : kd t = 3) (h : fX3_clear n t w = some w') : JM yX3_clear MX3_clear 2 [.ref t] w none w' := by
  refine jm_of pl_X3 rfl (Nat.le_of_ble_eq_true rfl) ?_
  show J MX3_clear 2 w 0 [(0, .ref t)] [] none w'
  unfold fX3_clear at h
  refine jr_aload_n dX3_clear_0 rfl 0 rfl ?_
  refine jr_iconst (v := (0 : Int32)) dX3_clear_1 (by decide) ?_
  refine pf_X3_15 rfl h0 dX3_clear_2 ?_
  refine j_nmw (fun w_1 e_2 => ?_)
  replace h := drvL e_2 h
  refine jr_aload_n dX3_clear_5 rfl 0 rfl ?_
  refine jr_iconst (v := (0 : Int32)) dX3_clear_6 (by decide) ?_
  refine pf_X3_19 rfl h0 dX3_clear_7 ?_
  refine j_nmw (fun w_3 e_4 => ?_)
  replace h := drvL e_4 h
  refine jr_aload_n dX3_clear_10 rfl 0 rfl ?_
  refine jr_iconst (v := (0 : Int32)) dX3_clear_11 (by decide) ?_
  refine pf_X3_22 rfl h0 dX3_clear_12 ?_
  refine j_nmw (fun w_5 e_6 => ?_)
  replace h := drvL e_6 h
  refine jr_aload_n dX3_clear_15 rfl 0 rfl ?_
  refine jr_iconst (v := (0 : Int32)) dX3_clear_16 (by decide) ?_
  refine pf_X3_25 rfl h0 dX3_clear_17 ?_
  refine j_nmw (fun w_7 e_8 => ?_)
  replace h := drvL e_8 h
  refine jr_aload_n dX3_clear_20 rfl 0 rfl ?_
  refine gf_X3_9 (r := (t + 1)) rfl h0 rfl dX3_clear_21 ?_
  refine jr_iconst (v := (0 : Int32)) dX3_clear_24 (by decide) ?_
  obtain ⟨w_10, hq_9, h⟩ := drvB h
  refine j_callSn lk_X3_34 wST_J7_fill_53178 (tJ7_fill_53178 (kr_3_1 h0) hq_9) (by omega) rfl rfl (Nat.le_of_ble_eq_true rfl) dX3_clear_25 ?_
  obtain rfl := drvS1 h
  exact jr_vret rfl dX3_clear_28
set_option maxHeartbeats 4000000 in
set_option maxRecDepth 100000 in
theorem tX3_copy {t : Nat} {a0 : Nat} {w : jWd} {w' : jWd} (h0 : kd t = 3) (hk_a0 : kd a0 = 3) (h : fX3_copy t a0 w = some w') : JM yX3_copy MX3_copy 1 [.ref t, .ref a0] w none w' := by
  refine jm_of pl_X3 rfl (Nat.le_of_ble_eq_true rfl) ?_
  show J MX3_copy 1 w 0 [(0, .ref t), (1, .ref a0)] [] none w'
  unfold fX3_copy at h
  refine jr_aload_n dX3_copy_0 rfl 0 rfl ?_
  refine jr_aload_n dX3_copy_1 rfl 1 rfl ?_
  refine gf_X3_15 rfl hk_a0 dX3_copy_2 ?_
  refine pf_X3_15 rfl h0 dX3_copy_5 ?_
  refine j_nmw (fun w_1 e_2 => ?_)
  replace h := drvL e_2 h
  refine jr_aload_n dX3_copy_8 rfl 0 rfl ?_
  refine jr_aload_n dX3_copy_9 rfl 1 rfl ?_
  refine gf_X3_19 rfl hk_a0 dX3_copy_10 ?_
  refine pf_X3_19 rfl h0 dX3_copy_13 ?_
  refine j_nmw (fun w_3 e_4 => ?_)
  replace h := drvL e_4 h
  refine jr_aload_n dX3_copy_16 rfl 0 rfl ?_
  refine jr_aload_n dX3_copy_17 rfl 1 rfl ?_
  refine gf_X3_22 rfl hk_a0 dX3_copy_18 ?_
  refine pf_X3_22 rfl h0 dX3_copy_21 ?_
  refine j_nmw (fun w_5 e_6 => ?_)
  replace h := drvL e_6 h
  refine jr_aload_n dX3_copy_24 rfl 0 rfl ?_
  refine jr_aload_n dX3_copy_25 rfl 1 rfl ?_
  refine gf_X3_25 rfl hk_a0 dX3_copy_26 ?_
  refine pf_X3_25 rfl h0 dX3_copy_29 ?_
  refine j_nmw (fun w_7 e_8 => ?_)
  replace h := drvL e_8 h
  refine jr_aload_n dX3_copy_32 rfl 1 rfl ?_
  refine gf_X3_9 (r := (a0 + 1)) rfl hk_a0 rfl dX3_copy_33 ?_
  refine jr_iconst (v := (0 : Int32)) dX3_copy_36 (by decide) ?_
  refine jr_aload_n dX3_copy_37 rfl 0 rfl ?_
  refine gf_X3_9 (r := (t + 1)) rfl h0 rfl dX3_copy_38 ?_
  refine jr_iconst (v := (0 : Int32)) dX3_copy_41 (by decide) ?_
  refine jr_sipush (v := (256 : Int32)) dX3_copy_42 (by decide) ?_
  obtain ⟨hg_11, h⟩ := drvC h
  refine jr_copyI wML_X3_28 (by decide) (Nat.le_of_ble_eq_true rfl) (kr_3_1 hk_a0) (kr_3_1 h0) hg_11 dX3_copy_45 ?_
  refine j_nmw (fun w_9 e_10 => ?_)
  replace h := drvL e_10 h
  obtain rfl := drvS1 h
  exact jr_vret rfl dX3_copy_48
set_option maxHeartbeats 4000000 in
set_option maxRecDepth 100000 in
theorem tX3_drawn {a0 : Int32} {w : jWd}  : JM yX3_drawn MX3_drawn 1 [.int a0] w (some (.int (fX3_drawn a0))) w := by
  refine jm_of pl_X3 rfl (Nat.le_of_ble_eq_true rfl) ?_
  show J MX3_drawn 1 w 0 [(0, .int a0)] [] (some (.int (fX3_drawn a0))) w
  generalize h : (fX3_drawn a0) = r
  unfold fX3_drawn at h
  refine jr_iload_n dX3_drawn_0 rfl 0 rfl ?_
  refine jr_bipush (v := (16 : Int32)) dX3_drawn_1 (by decide) ?_
  refine jr_iushr dX3_drawn_3 ?_
  refine jr_bipush (v := (100 : Int32)) dX3_drawn_4 (by decide) ?_
  refine jr_irem dX3_drawn_6 (by decide) ?_
  subst h
  exact jr_iret rfl dX3_drawn_7
set_option maxHeartbeats 4000000 in
set_option maxRecDepth 100000 in
theorem tX3_next {a0 : Int32} {w : jWd}  : JM yX3_next MX3_next 1 [.int a0] w (some (.int (fX3_next a0))) w := by
  refine jm_of pl_X3 rfl (Nat.le_of_ble_eq_true rfl) ?_
  show J MX3_next 1 w 0 [(0, .int a0)] [] (some (.int (fX3_next a0))) w
  generalize h : (fX3_next a0) = r
  unfold fX3_next at h
  refine jr_ldc (v := (1103515245 : Int32)) wCC_X3_48 dX3_next_0 ?_
  refine jr_iload_n dX3_next_2 rfl 0 rfl ?_
  refine jr_imul dX3_next_3 ?_
  refine jr_sipush (v := (12345 : Int32)) dX3_next_4 (by decide) ?_
  refine jr_iadd dX3_next_7 ?_
  subst h
  exact jr_iret rfl dX3_next_8
set_option maxHeartbeats 4000000 in
set_option maxRecDepth 100000 in
theorem tX3_putChance {t : Nat} {a0 : Int32} {a1 : Int32} {w : jWd} {w' : jWd} (h0 : kd t = 3) (h : fX3_putChance t a0 a1 w = some w') : JM yX3_putChance MX3_putChance 1 [.ref t, .int a0, .int a1] w none w' := by
  refine jm_of pl_X3 rfl (Nat.le_of_ble_eq_true rfl) ?_
  show J MX3_putChance 1 w 0 [(0, .ref t), (1, .int a0), (2, .int a1)] [] none w'
  unfold fX3_putChance at h
  refine jr_iload_n dX3_putChance_0 rfl 1 rfl ?_
  refine jr_bipush (v := (14 : Int32)) dX3_putChance_1 (by decide) ?_
  obtain ⟨j11_2, ej11_2, h⟩ := drvF h
  have hj11_2 : ∀ (w_1 : jWd), j11_2 w_1 = some w' → J MX3_putChance 1 w_1 11 [(0, .ref t), (1, .int a0), (2, .int a1)] [] none w' := by
    intro w_1 h
    rw [ej11_2] at h
    try dsimp only at h
    refine jr_iload_n dX3_putChance_11 rfl 1 rfl ?_
    refine jr_bipush (v := (15 : Int32)) dX3_putChance_12 (by decide) ?_
    obtain ⟨j22_4, ej22_4, h⟩ := drvF h
    have hj22_4 : ∀ (w_3 : jWd), j22_4 w_3 = some w' → J MX3_putChance 1 w_3 22 [(0, .ref t), (1, .int a0), (2, .int a1)] [] none w' := by
      intro w_3 h
      rw [ej22_4] at h
      try dsimp only at h
      refine jr_iload_n dX3_putChance_22 rfl 1 rfl ?_
      refine jr_bipush (v := (16 : Int32)) dX3_putChance_23 (by decide) ?_
      refine jr_icmp_ne (tgt := 33) (nxt := 28) dX3_putChance_25 (by decide) rfl (fun hc => ?_) (fun hc => ?_)
      · replace h := drvE hc h
        obtain rfl := drvS1 h
        exact jr_vret rfl dX3_putChance_33
      · replace h := drvT hc h
        refine jr_aload_n dX3_putChance_28 rfl 0 rfl ?_
        refine jr_iload_n dX3_putChance_29 rfl 2 rfl ?_
        refine pf_X3_25 rfl h0 dX3_putChance_30 ?_
        refine j_nmw (fun w_5 e_6 => ?_)
        replace h := drvL e_6 h
        obtain rfl := drvS1 h
        exact jr_vret rfl dX3_putChance_33
    refine jr_icmp_ne (tgt := 22) (nxt := 17) dX3_putChance_14 (by decide) rfl (fun hc => ?_) (fun hc => ?_)
    · replace h := drvE hc h
      refine jr_sub [0, 1, 2] rfl ?_
      exact hj22_4 _ h
    · replace h := drvT hc h
      refine jr_aload_n dX3_putChance_17 rfl 0 rfl ?_
      refine jr_iload_n dX3_putChance_18 rfl 2 rfl ?_
      refine pf_X3_22 rfl h0 dX3_putChance_19 ?_
      refine j_nmw (fun w_7 e_8 => ?_)
      replace h := drvL e_8 h
      refine jr_sub [0, 1, 2] rfl ?_
      exact hj22_4 _ h
  refine jr_icmp_ne (tgt := 11) (nxt := 6) dX3_putChance_3 (by decide) rfl (fun hc => ?_) (fun hc => ?_)
  · replace h := drvE hc h
    refine jr_sub [0, 1, 2] rfl ?_
    exact hj11_2 _ h
  · replace h := drvT hc h
    refine jr_aload_n dX3_putChance_6 rfl 0 rfl ?_
    refine jr_iload_n dX3_putChance_7 rfl 2 rfl ?_
    refine pf_X3_19 rfl h0 dX3_putChance_8 ?_
    refine j_nmw (fun w_9 e_10 => ?_)
    replace h := drvL e_10 h
    refine jr_sub [0, 1, 2] rfl ?_
    exact hj11_2 _ h
set_option maxHeartbeats 4000000 in
set_option maxRecDepth 100000 in
theorem tX3_putSaying {t : Nat} {a0 : Int32} {a1 : Int32} {w : jWd} {w' : jWd} (h0 : kd t = 3) (h : fX3_putSaying t a0 a1 w = some w') : JM yX3_putSaying MX3_putSaying 1 [.ref t, .int a0, .int a1] w none w' := by
  refine jm_of pl_X3 rfl (Nat.le_of_ble_eq_true rfl) ?_
  show J MX3_putSaying 1 w 0 [(0, .ref t), (1, .int a0), (2, .int a1)] [] none w'
  unfold fX3_putSaying at h
  refine jr_iload_n dX3_putSaying_0 rfl 2 rfl ?_
  refine jr_if_lt (tgt := 27) (nxt := 4) dX3_putSaying_1 (by decide) rfl (fun hc => ?_) (fun hc => ?_)
  · replace h := drvT hc h
    obtain rfl := drvS1 h
    exact jr_vret rfl dX3_putSaying_27
  · replace h := drvE hc h
    refine jr_iload_n dX3_putSaying_4 rfl 2 rfl ?_
    refine jr_sipush (v := (255 : Int32)) dX3_putSaying_5 (by decide) ?_
    refine jr_icmp_gt (tgt := 27) (nxt := 11) dX3_putSaying_8 (by decide) rfl (fun hc => ?_) (fun hc => ?_)
    · replace h := drvT hc h
      obtain rfl := drvS1 h
      exact jr_vret rfl dX3_putSaying_27
    · replace h := drvE hc h
      refine jr_aload_n dX3_putSaying_11 rfl 0 rfl ?_
      refine gf_X3_9 (r := (t + 1)) rfl h0 rfl dX3_putSaying_12 ?_
      refine jr_iload_n dX3_putSaying_15 rfl 2 rfl ?_
      obtain ⟨hg_1, h⟩ := drvG h
      refine jr_iald (kr_3_1 h0) hg_1 dX3_putSaying_16 ?_
      refine jr_if_ne (tgt := 27) (nxt := 20) dX3_putSaying_17 (by decide) rfl (fun hc => ?_) (fun hc => ?_)
      · replace h := drvE hc h
        obtain rfl := drvS1 h
        exact jr_vret rfl dX3_putSaying_27
      · replace h := drvT hc h
        refine jr_aload_n dX3_putSaying_20 rfl 0 rfl ?_
        refine gf_X3_9 (r := (t + 1)) rfl h0 rfl dX3_putSaying_21 ?_
        refine jr_iload_n dX3_putSaying_24 rfl 2 rfl ?_
        refine jr_iload_n dX3_putSaying_25 rfl 1 rfl ?_
        obtain ⟨hg_4, h⟩ := drvG h
        refine jr_iast (kr_3_1 h0) hg_4 dX3_putSaying_26 ?_
        refine j_nmw (fun w_2 e_3 => ?_)
        replace h := drvL e_3 h
        obtain rfl := drvS1 h
        exact jr_vret rfl dX3_putSaying_27
set_option maxHeartbeats 4000000 in
set_option maxRecDepth 100000 in
theorem hbX3_respoken_5 {n : Nat} {t : Nat} {p1 : Int64} {w : jWd} {r : Int64} {rec : Int64 → Int32 → Option Int64} (h0 : kd t = 3) 
    (hrec : ∀ (x3 : Int64) (x5 : Int32) , rec x3 x5 = some r → J MX3_respoken 2 w 5 [(0, .ref t), (1, .long p1), (3, .long x3), (5, .int x5)] [] (some (.long r)) w) : ∀ (x3 : Int64) (x5 : Int32) , bX3_respoken_5 n t p1 w rec x3 x5 = some r → J MX3_respoken 2 w 5 [(0, .ref t), (1, .long p1), (3, .long x3), (5, .int x5)] [] (some (.long r)) w := by
  intro x3 x5 h
  unfold bX3_respoken_5 at h
  refine jr_iload dX3_respoken_5 3 rfl ?_
  refine jr_bipush (v := (8 : Int32)) dX3_respoken_7 (by decide) ?_
  refine jr_icmp_ge (tgt := 59) (nxt := 12) dX3_respoken_9 (by decide) rfl (fun hc => ?_) (fun hc => ?_)
  · replace h := drvT hc h
    refine jr_lload_n dX3_respoken_59 rfl 2 rfl ?_
    obtain rfl := drvS1 h
    exact jr_lret rfl dX3_respoken_60
  · replace h := drvE hc h
    refine jr_lload_n dX3_respoken_12 rfl 1 rfl ?_
    refine jr_iload dX3_respoken_13 3 rfl ?_
    refine j_callSv lk_X3_42 wST_X4_word (tX4_word  (a0 := p1) (a1 := x5) (w := w)) (by omega) rfl rfl (Nat.le_of_ble_eq_true rfl) dX3_respoken_15 ?_
    refine j_nmi (fun x6_1 e_2 => ?_)
    replace h := drvL e_2 h
    refine jr_istore (lv' := [(6, .int x6_1), (0, .ref t), (1, .long p1), (3, .long x3), (5, .int x5)]) dX3_respoken_18 (by decide) rfl ?_
    refine jr_aload_n dX3_respoken_20 rfl 1 rfl ?_
    refine gf_X3_9 (r := (t + 1)) rfl h0 rfl dX3_respoken_21 ?_
    refine jr_iload dX3_respoken_24 0 rfl ?_
    obtain ⟨hg_3, h⟩ := drvG h
    refine jr_iald (kr_3_1 h0) hg_3 dX3_respoken_26 ?_
    obtain ⟨j42_5, ej42_5, h⟩ := drvF h
    have hj42_5 : ∀ (s_4 : Int32), j42_5 s_4 = some r → J MX3_respoken 2 w 42 [(0, .ref t), (1, .long p1), (3, .long x3), (5, .int x5)] [.int s_4] (some (.long r)) w := by
      intro s_4 h
      rw [ej42_5] at h
      try dsimp only at h
      refine jr_istore (lv' := [(7, .int s_4), (0, .ref t), (1, .long p1), (3, .long x3), (5, .int x5)]) dX3_respoken_42 (by decide) rfl ?_
      refine jr_lload_n dX3_respoken_44 rfl 3 rfl ?_
      refine jr_bipush (v := (8 : Int32)) dX3_respoken_45 (by decide) ?_
      refine jr_lshl dX3_respoken_47 ?_
      refine jr_iload dX3_respoken_48 0 rfl ?_
      refine jr_i2l dX3_respoken_50 ?_
      refine jr_lor dX3_respoken_51 ?_
      refine j_nml (fun x3_6 e_7 => ?_)
      replace h := drvL e_7 h
      refine jr_lstore_n (lv' := [(3, .long x3_6), (7, .int s_4), (0, .ref t), (1, .long p1), (5, .int x5)]) dX3_respoken_52 rfl (by decide) rfl ?_
      refine jr_iincN (c := (1 : Int32)) (lv' := fun (x5_8 : Int32) => [(5, .int x5_8), (3, .long x3_6), (7, .int s_4), (0, .ref t), (1, .long p1)]) dX3_respoken_53 (by decide) 4 rfl (by decide) (fun _ => rfl) (fun x5_8 e_9 => ?_)
      replace h := drvL e_9 h
      refine jr_goto (tgt := 5) dX3_respoken_56 (by decide) ?_
      refine jr_sub [3, 4, 1, 0] rfl ?_
      exact hrec _ _ h
    refine jr_if_ne (tgt := 35) (nxt := 30) dX3_respoken_27 (by decide) rfl (fun hc => ?_) (fun hc => ?_)
    · replace h := drvE hc h
      refine jr_aload_n dX3_respoken_35 rfl 1 rfl ?_
      refine gf_X3_9 (r := (t + 1)) rfl h0 rfl dX3_respoken_36 ?_
      refine jr_iload dX3_respoken_39 0 rfl ?_
      obtain ⟨hg_10, h⟩ := drvG h
      refine jr_iald (kr_3_1 h0) hg_10 dX3_respoken_41 ?_
      refine jr_sub [1, 2, 3, 4] rfl ?_
      exact hj42_5 _ h
    · replace h := drvT hc h
      refine jr_iload dX3_respoken_30 0 rfl ?_
      refine jr_goto (tgt := 42) dX3_respoken_32 (by decide) ?_
      refine jr_sub [1, 2, 3, 4] rfl ?_
      exact hj42_5 _ h
theorem hlX3_respoken_5 {n : Nat} {t : Nat} {p1 : Int64} {w : jWd} {r : Int64} (h0 : kd t = 3)  : ∀ (c : Nat) (x3 : Int64) (x5 : Int32) , lX3_respoken_5 n t p1 w c x3 x5 = some r → J MX3_respoken 2 w 5 [(0, .ref t), (1, .long p1), (3, .long x3), (5, .int x5)] [] (some (.long r)) w := by
  intro c
  induction c with
  | zero => intro x3 x5 h; cases h
  | succ c ih => intro x3 x5 h; exact hbX3_respoken_5 (n := n) h0 ih _ _ h
set_option maxHeartbeats 4000000 in
set_option maxRecDepth 100000 in
theorem tX3_respoken {n : Nat} {t : Nat} {a0 : Int64} {w : jWd} {r : Int64} (h0 : kd t = 3) (h : fX3_respoken n t a0 w = some r) : JM yX3_respoken MX3_respoken 2 [.ref t, .long a0] w (some (.long r)) w := by
  refine jm_of pl_X3 rfl (Nat.le_of_ble_eq_true rfl) ?_
  show J MX3_respoken 2 w 0 [(0, .ref t), (1, .long a0)] [] (some (.long r)) w
  unfold fX3_respoken at h
  refine jr_lconst (v := (0 : Int64)) dX3_respoken_0 rfl ?_
  refine jr_lstore_n (lv' := [(3, .long (0 : Int64)), (0, .ref t), (1, .long a0)]) dX3_respoken_1 rfl (by decide) rfl ?_
  refine jr_iconst (v := (0 : Int32)) dX3_respoken_2 (by decide) ?_
  refine jr_istore (lv' := [(5, .int (0 : Int32)), (3, .long (0 : Int64)), (0, .ref t), (1, .long a0)]) dX3_respoken_3 (by decide) rfl ?_
  refine jr_sub [2, 3, 1, 0] rfl ?_
  refine hlX3_respoken_5 h0  _ _ _ h
set_option maxHeartbeats 4000000 in
set_option maxRecDepth 100000 in
theorem tX4_clean {n : Nat} {a0 : Int64} {w : jWd} {r : Int64}  (h : fX4_clean n a0 = some r) : JM yX4_clean MX4_clean 3 [.long a0] w (some (.long r)) w := by
  refine jm_of pl_X4 rfl (Nat.le_of_ble_eq_true rfl) ?_
  show J MX4_clean 3 w 0 [(0, .long a0)] [] (some (.long r)) w
  unfold fX4_clean at h
  refine jr_lload_n dX4_clean_0 rfl 0 rfl ?_
  refine jr_lload_n dX4_clean_1 rfl 0 rfl ?_
  obtain ⟨r_2, hq_1, h⟩ := drvB h
  refine j_callSv lk_X4_15 wST_X4_length (tX4_length  hq_1) (by omega) rfl rfl (Nat.le_of_ble_eq_true rfl) dX4_clean_2 ?_
  refine j_callSv lk_X4_19 wST_X4_head (tX4_head  (a0 := a0) (a1 := r_2) (w := w)) (by omega) rfl rfl (Nat.le_of_ble_eq_true rfl) dX4_clean_5 ?_
  obtain rfl := drvS1 h
  exact jr_lret rfl dX4_clean_8
set_option maxHeartbeats 4000000 in
set_option maxRecDepth 100000 in
theorem tX5_copy {t : Nat} {a0 : Nat} {w : jWd} {w' : jWd} (h0 : kd t = 4) (hk_a0 : kd a0 = 4) (h : fX5_copy t a0 w = some w') : JM yX5_copy MX5_copy 1 [.ref t, .ref a0] w none w' := by
  refine jm_of pl_X5 rfl (Nat.le_of_ble_eq_true rfl) ?_
  show J MX5_copy 1 w 0 [(0, .ref t), (1, .ref a0)] [] none w'
  unfold fX5_copy at h
  refine jr_aload_n dX5_copy_0 rfl 1 rfl ?_
  refine gf_X5_15 rfl hk_a0 dX5_copy_1 ?_
  refine jr_aload_n dX5_copy_4 rfl 0 rfl ?_
  refine gf_X5_15 rfl h0 dX5_copy_5 ?_
  refine jr_icmp_ne (tgt := 22) (nxt := 11) dX5_copy_8 (by decide) rfl (fun hc => ?_) (fun hc => ?_)
  · replace h := drvE hc h
    obtain rfl := drvS1 h
    exact jr_vret rfl dX5_copy_22
  · replace h := drvT hc h
    refine jr_aload_n dX5_copy_11 rfl 1 rfl ?_
    refine gf_X5_21 rfl hk_a0 dX5_copy_12 ?_
    refine jr_aload_n dX5_copy_15 rfl 0 rfl ?_
    refine gf_X5_21 rfl h0 dX5_copy_16 ?_
    refine jr_icmp_eq (tgt := 23) (nxt := 22) dX5_copy_19 (by decide) rfl (fun hc => ?_) (fun hc => ?_)
    · replace h := drvT hc h
      refine jr_aload_n dX5_copy_23 rfl 0 rfl ?_
      refine jr_aload_n dX5_copy_24 rfl 1 rfl ?_
      refine gf_X5_44 rfl hk_a0 dX5_copy_25 ?_
      refine pf_X5_44 rfl h0 dX5_copy_28 ?_
      refine j_nmw (fun w_1 e_2 => ?_)
      replace h := drvL e_2 h
      refine jr_aload_n dX5_copy_31 rfl 1 rfl ?_
      refine gf_X5_24 (r := (a0 + 1)) rfl hk_a0 rfl dX5_copy_32 ?_
      refine jr_iconst (v := (0 : Int32)) dX5_copy_35 (by decide) ?_
      refine jr_aload_n dX5_copy_36 rfl 0 rfl ?_
      refine gf_X5_24 (r := (t + 1)) rfl h0 rfl dX5_copy_37 ?_
      refine jr_iconst (v := (0 : Int32)) dX5_copy_40 (by decide) ?_
      refine jr_aload_n dX5_copy_41 rfl 0 rfl ?_
      refine gf_X5_15 rfl h0 dX5_copy_42 ?_
      obtain ⟨hg_5, h⟩ := drvC h
      refine jr_copyI wML_X5_60 (by decide) (Nat.le_of_ble_eq_true rfl) (kr_4_1 hk_a0) (kr_4_1 h0) hg_5 dX5_copy_45 ?_
      refine j_nmw (fun w_3 e_4 => ?_)
      replace h := drvL e_4 h
      refine jr_aload_n dX5_copy_48 rfl 1 rfl ?_
      refine gf_X5_28 (r := (a0 + 2)) rfl hk_a0 rfl dX5_copy_49 ?_
      refine jr_iconst (v := (0 : Int32)) dX5_copy_52 (by decide) ?_
      refine jr_aload_n dX5_copy_53 rfl 0 rfl ?_
      refine gf_X5_28 (r := (t + 2)) rfl h0 rfl dX5_copy_54 ?_
      refine jr_iconst (v := (0 : Int32)) dX5_copy_57 (by decide) ?_
      refine jr_aload_n dX5_copy_58 rfl 0 rfl ?_
      refine gf_X5_15 rfl h0 dX5_copy_59 ?_
      obtain ⟨hg_8, h⟩ := drvC h
      refine jr_copyI wML_X5_60 (by decide) (Nat.le_of_ble_eq_true rfl) (kr_4_2 hk_a0) (kr_4_2 h0) hg_8 dX5_copy_62 ?_
      refine j_nmw (fun w_6 e_7 => ?_)
      replace h := drvL e_7 h
      refine jr_aload_n dX5_copy_65 rfl 1 rfl ?_
      refine gf_X5_31 (r := (a0 + 3)) rfl hk_a0 rfl dX5_copy_66 ?_
      refine jr_iconst (v := (0 : Int32)) dX5_copy_69 (by decide) ?_
      refine jr_aload_n dX5_copy_70 rfl 0 rfl ?_
      refine gf_X5_31 (r := (t + 3)) rfl h0 rfl dX5_copy_71 ?_
      refine jr_iconst (v := (0 : Int32)) dX5_copy_74 (by decide) ?_
      refine jr_aload_n dX5_copy_75 rfl 0 rfl ?_
      refine gf_X5_15 rfl h0 dX5_copy_76 ?_
      obtain ⟨hg_11, h⟩ := drvC h
      refine jr_copyI wML_X5_60 (by decide) (Nat.le_of_ble_eq_true rfl) (kr_4_3 hk_a0) (kr_4_3 h0) hg_11 dX5_copy_79 ?_
      refine j_nmw (fun w_9 e_10 => ?_)
      replace h := drvL e_10 h
      refine jr_aload_n dX5_copy_82 rfl 1 rfl ?_
      refine gf_X5_34 (r := (a0 + 4)) rfl hk_a0 rfl dX5_copy_83 ?_
      refine jr_iconst (v := (0 : Int32)) dX5_copy_86 (by decide) ?_
      refine jr_aload_n dX5_copy_87 rfl 0 rfl ?_
      refine gf_X5_34 (r := (t + 4)) rfl h0 rfl dX5_copy_88 ?_
      refine jr_iconst (v := (0 : Int32)) dX5_copy_91 (by decide) ?_
      refine jr_aload_n dX5_copy_92 rfl 0 rfl ?_
      refine gf_X5_15 rfl h0 dX5_copy_93 ?_
      obtain ⟨hg_14, h⟩ := drvC h
      refine jr_copyI wML_X5_60 (by decide) (Nat.le_of_ble_eq_true rfl) (kr_4_4 hk_a0) (kr_4_4 h0) hg_14 dX5_copy_96 ?_
      refine j_nmw (fun w_12 e_13 => ?_)
      replace h := drvL e_13 h
      refine jr_aload_n dX5_copy_99 rfl 1 rfl ?_
      refine gf_X5_37 (r := (a0 + 5)) rfl hk_a0 rfl dX5_copy_100 ?_
      refine jr_iconst (v := (0 : Int32)) dX5_copy_103 (by decide) ?_
      refine jr_aload_n dX5_copy_104 rfl 0 rfl ?_
      refine gf_X5_37 (r := (t + 5)) rfl h0 rfl dX5_copy_105 ?_
      refine jr_iconst (v := (0 : Int32)) dX5_copy_108 (by decide) ?_
      refine jr_aload_n dX5_copy_109 rfl 0 rfl ?_
      refine gf_X5_15 rfl h0 dX5_copy_110 ?_
      refine jr_aload_n dX5_copy_113 rfl 0 rfl ?_
      refine gf_X5_21 rfl h0 dX5_copy_114 ?_
      refine jr_imul dX5_copy_117 ?_
      obtain ⟨hg_17, h⟩ := drvC h
      refine jr_copyI wML_X5_60 (by decide) (Nat.le_of_ble_eq_true rfl) (kr_4_5 hk_a0) (kr_4_5 h0) hg_17 dX5_copy_118 ?_
      refine j_nmw (fun w_15 e_16 => ?_)
      replace h := drvL e_16 h
      refine jr_aload_n dX5_copy_121 rfl 1 rfl ?_
      refine gf_X5_40 (r := (a0 + 6)) rfl hk_a0 rfl dX5_copy_122 ?_
      refine jr_iconst (v := (0 : Int32)) dX5_copy_125 (by decide) ?_
      refine jr_aload_n dX5_copy_126 rfl 0 rfl ?_
      refine gf_X5_40 (r := (t + 6)) rfl h0 rfl dX5_copy_127 ?_
      refine jr_iconst (v := (0 : Int32)) dX5_copy_130 (by decide) ?_
      refine jr_aload_n dX5_copy_131 rfl 0 rfl ?_
      refine gf_X5_15 rfl h0 dX5_copy_132 ?_
      refine jr_aload_n dX5_copy_135 rfl 0 rfl ?_
      refine gf_X5_21 rfl h0 dX5_copy_136 ?_
      refine jr_imul dX5_copy_139 ?_
      obtain ⟨hg_20, h⟩ := drvC h
      refine jr_copyJ wML_X5_60 (by decide) (Nat.le_of_ble_eq_true rfl) (kr_4_6 hk_a0) (kr_4_6 h0) hg_20 dX5_copy_140 ?_
      refine j_nmw (fun w_18 e_19 => ?_)
      replace h := drvL e_19 h
      obtain rfl := drvS1 h
      exact jr_vret rfl dX5_copy_143
    · replace h := drvE hc h
      obtain rfl := drvS1 h
      exact jr_vret rfl dX5_copy_22
set_option maxHeartbeats 4000000 in
set_option maxRecDepth 100000 in
theorem tX5_isFull {t : Nat} {w : jWd} (h0 : kd t = 4) : JM yX5_isFull MX5_isFull 1 [.ref t] w (some (.int (fX5_isFull t w))) w := by
  refine jm_of pl_X5 rfl (Nat.le_of_ble_eq_true rfl) ?_
  show J MX5_isFull 1 w 0 [(0, .ref t)] [] (some (.int (fX5_isFull t w))) w
  generalize h : (fX5_isFull t w) = r
  unfold fX5_isFull at h
  refine jr_aload_n dX5_isFull_0 rfl 0 rfl ?_
  refine gf_X5_44 rfl h0 dX5_isFull_1 ?_
  refine jr_aload_n dX5_isFull_4 rfl 0 rfl ?_
  refine gf_X5_15 rfl h0 dX5_isFull_5 ?_
  refine jr_icmp_lt (tgt := 15) (nxt := 11) dX5_isFull_8 (by decide) rfl (fun hc => ?_) (fun hc => ?_)
  · replace h := drvT hc h
    refine jr_iconst (v := (0 : Int32)) dX5_isFull_15 (by decide) ?_
    subst h
    exact jr_zret (ty := .boolean) rfl rfl dX5_isFull_16
  · replace h := drvE hc h
    refine jr_iconst (v := (1 : Int32)) dX5_isFull_11 (by decide) ?_
    refine jr_goto (tgt := 16) dX5_isFull_12 (by decide) ?_
    subst h
    exact jr_zret (ty := .boolean) rfl rfl dX5_isFull_16
set_option maxHeartbeats 4000000 in
set_option maxRecDepth 100000 in
theorem tX5_isFull_ {t : Nat} {a0 : Int32} {w : jWd} {r : Int32} (h0 : kd t = 4) (h : fX5_isFull_ t a0 w = some r) : JM yX5_isFull_ MX5_isFull_ 2 [.ref t, .int a0] w (some (.int r)) w := by
  refine jm_of pl_X5 rfl (Nat.le_of_ble_eq_true rfl) ?_
  show J MX5_isFull_ 2 w 0 [(0, .ref t), (1, .int a0)] [] (some (.int r)) w
  unfold fX5_isFull_ at h
  refine jr_aload_n dX5_isFull__0 rfl 0 rfl ?_
  refine jr_iload_n dX5_isFull__1 rfl 1 rfl ?_
  refine j_callVv lk_X5_47 wIM_X5_has wSE_X5_has h0 (by decide) rfl (tX5_has h0 (a0 := a0) (t := t) (w := w)) (by omega) rfl rfl (Nat.le_of_ble_eq_true rfl) dX5_isFull__2 ?_
  refine jr_if_eq (tgt := 21) (nxt := 8) dX5_isFull__5 (by decide) rfl (fun hc => ?_) (fun hc => ?_)
  · replace h := drvT hc h
    refine jr_iconst (v := (1 : Int32)) dX5_isFull__21 (by decide) ?_
    refine jr_goto (tgt := 26) dX5_isFull__22 (by decide) ?_
    obtain rfl := drvS1 h
    exact jr_zret (ty := .boolean) rfl rfl dX5_isFull__26
  · replace h := drvE hc h
    refine jr_aload_n dX5_isFull__8 rfl 0 rfl ?_
    refine gf_X5_34 (r := (t + 4)) rfl h0 rfl dX5_isFull__9 ?_
    refine jr_iload_n dX5_isFull__12 rfl 1 rfl ?_
    obtain ⟨hg_1, h⟩ := drvG h
    refine jr_iald (kr_4_4 h0) hg_1 dX5_isFull__13 ?_
    refine jr_aload_n dX5_isFull__14 rfl 0 rfl ?_
    refine gf_X5_21 rfl h0 dX5_isFull__15 ?_
    refine jr_icmp_lt (tgt := 25) (nxt := 21) dX5_isFull__18 (by decide) rfl (fun hc => ?_) (fun hc => ?_)
    · replace h := drvT hc h
      refine jr_iconst (v := (0 : Int32)) dX5_isFull__25 (by decide) ?_
      obtain rfl := drvS1 h
      exact jr_zret (ty := .boolean) rfl rfl dX5_isFull__26
    · replace h := drvE hc h
      refine jr_iconst (v := (1 : Int32)) dX5_isFull__21 (by decide) ?_
      refine jr_goto (tgt := 26) dX5_isFull__22 (by decide) ?_
      obtain rfl := drvS1 h
      exact jr_zret (ty := .boolean) rfl rfl dX5_isFull__26
set_option maxHeartbeats 4000000 in
set_option maxRecDepth 100000 in
theorem tX5_put {t : Nat} {a0 : Int32} {a1 : Int32} {a2 : Int64} {w : jWd} {r : Int32} {w' : jWd} (h0 : kd t = 4) (h : fX5_put t a0 a1 a2 w = some (r, w')) : JM yX5_put MX5_put 3 [.ref t, .int a0, .int a1, .long a2] w (some (.int r)) w' := by
  refine jm_of pl_X5 rfl (Nat.le_of_ble_eq_true rfl) ?_
  show J MX5_put 3 w 0 [(0, .ref t), (1, .int a0), (2, .int a1), (3, .long a2)] [] (some (.int r)) w'
  unfold fX5_put at h
  refine jr_aload_n dX5_put_0 rfl 0 rfl ?_
  refine jr_iload_n dX5_put_1 rfl 1 rfl ?_
  obtain ⟨r_2, hq_1, h⟩ := drvB h
  refine j_callVv lk_X5_55 wIM_X5_isFull_ wSE_X5_isFull_ h0 (by decide) rfl (tX5_isFull_ h0 hq_1) (by omega) rfl rfl (Nat.le_of_ble_eq_true rfl) dX5_put_2 ?_
  refine jr_if_eq (tgt := 10) (nxt := 8) dX5_put_5 (by decide) rfl (fun hc => ?_) (fun hc => ?_)
  · replace h := drvT hc h
    refine jr_aload_n dX5_put_10 rfl 0 rfl ?_
    refine gf_X5_34 (r := (t + 4)) rfl h0 rfl dX5_put_11 ?_
    refine jr_iload_n dX5_put_14 rfl 1 rfl ?_
    obtain ⟨hg_3, h⟩ := drvG h
    refine jr_iald (kr_4_4 h0) hg_3 dX5_put_15 ?_
    refine j_nmi (fun x5_4 e_5 => ?_)
    replace h := drvL e_5 h
    refine jr_istore (lv' := [(5, .int x5_4), (0, .ref t), (1, .int a0), (2, .int a1), (3, .long a2)]) dX5_put_16 (by decide) rfl ?_
    refine jr_aload_n dX5_put_18 rfl 1 rfl ?_
    refine gf_X5_37 (r := (t + 5)) rfl h0 rfl dX5_put_19 ?_
    refine jr_iload_n dX5_put_22 rfl 2 rfl ?_
    refine jr_aload_n dX5_put_23 rfl 1 rfl ?_
    refine gf_X5_21 rfl h0 dX5_put_24 ?_
    refine jr_imul dX5_put_27 ?_
    refine jr_iload dX5_put_28 0 rfl ?_
    refine jr_iadd dX5_put_30 ?_
    refine jr_iload_n dX5_put_31 rfl 3 rfl ?_
    obtain ⟨hg_8, h⟩ := drvG h
    refine jr_iast (kr_4_5 h0) hg_8 dX5_put_32 ?_
    refine j_nmw (fun w_6 e_7 => ?_)
    replace h := drvL e_7 h
    refine jr_aload_n dX5_put_33 rfl 1 rfl ?_
    refine gf_X5_40 (r := (t + 6)) rfl h0 rfl dX5_put_34 ?_
    refine jr_iload_n dX5_put_37 rfl 2 rfl ?_
    refine jr_aload_n dX5_put_38 rfl 1 rfl ?_
    refine gf_X5_21 rfl h0 dX5_put_39 ?_
    refine jr_imul dX5_put_42 ?_
    refine jr_iload dX5_put_43 0 rfl ?_
    refine jr_iadd dX5_put_45 ?_
    refine jr_lload_n dX5_put_46 rfl 4 rfl ?_
    obtain ⟨hg_11, h⟩ := drvG h
    refine jr_last (kr_4_6 h0) hg_11 dX5_put_47 ?_
    refine j_nmw (fun w_9 e_10 => ?_)
    replace h := drvL e_10 h
    refine jr_aload_n dX5_put_48 rfl 1 rfl ?_
    refine gf_X5_34 (r := (t + 4)) rfl h0 rfl dX5_put_49 ?_
    refine jr_iload_n dX5_put_52 rfl 2 rfl ?_
    refine jr_dup2_11 dX5_put_53 rfl rfl ?_
    obtain ⟨hg_12, h⟩ := drvG h
    refine jr_iald (kr_4_4 h0) hg_12 dX5_put_54 ?_
    refine jr_iconst (v := (1 : Int32)) dX5_put_55 (by decide) ?_
    refine jr_iadd dX5_put_56 ?_
    obtain ⟨hg_15, h⟩ := drvG h
    refine jr_iast (kr_4_4 h0) hg_15 dX5_put_57 ?_
    refine j_nmw (fun w_13 e_14 => ?_)
    replace h := drvL e_14 h
    refine jr_iload dX5_put_58 0 rfl ?_
    obtain ⟨rfl, rfl⟩ := drvS2 h
    exact jr_iret rfl dX5_put_60
  · replace h := drvE hc h
    refine jr_iconst (v := (-1 : Int32)) dX5_put_8 (by decide) ?_
    obtain ⟨rfl, rfl⟩ := drvS2 h
    exact jr_iret rfl dX5_put_9
set_option maxHeartbeats 4000000 in
set_option maxRecDepth 100000 in
theorem tX5_start {t : Nat} {a0 : Int32} {a1 : Int32} {a2 : Int32} {w : jWd} {r : Int32} {w' : jWd} (h0 : kd t = 4) (h : fX5_start t a0 a1 a2 w = some (r, w')) : JM yX5_start MX5_start 2 [.ref t, .int a0, .int a1, .int a2] w (some (.int r)) w' := by
  refine jm_of pl_X5 rfl (Nat.le_of_ble_eq_true rfl) ?_
  show J MX5_start 2 w 0 [(0, .ref t), (1, .int a0), (2, .int a1), (3, .int a2)] [] (some (.int r)) w'
  unfold fX5_start at h
  refine jr_aload_n dX5_start_0 rfl 0 rfl ?_
  refine j_callVv lk_X5_51 wIM_X5_isFull wSE_X5_isFull h0 (by decide) rfl (tX5_isFull h0  (t := t) (w := w)) (by omega) rfl rfl (Nat.le_of_ble_eq_true rfl) dX5_start_1 ?_
  refine jr_if_eq (tgt := 9) (nxt := 7) dX5_start_4 (by decide) rfl (fun hc => ?_) (fun hc => ?_)
  · replace h := drvT hc h
    refine jr_aload_n dX5_start_9 rfl 0 rfl ?_
    refine gf_X5_24 (r := (t + 1)) rfl h0 rfl dX5_start_10 ?_
    refine jr_aload_n dX5_start_13 rfl 0 rfl ?_
    refine gf_X5_44 rfl h0 dX5_start_14 ?_
    refine jr_iload_n dX5_start_17 rfl 1 rfl ?_
    obtain ⟨hg_3, h⟩ := drvG h
    refine jr_iast (kr_4_1 h0) hg_3 dX5_start_18 ?_
    refine j_nmw (fun w_1 e_2 => ?_)
    replace h := drvL e_2 h
    refine jr_aload_n dX5_start_19 rfl 0 rfl ?_
    refine gf_X5_28 (r := (t + 2)) rfl h0 rfl dX5_start_20 ?_
    refine jr_aload_n dX5_start_23 rfl 0 rfl ?_
    refine gf_X5_44 rfl h0 dX5_start_24 ?_
    refine jr_iload_n dX5_start_27 rfl 2 rfl ?_
    obtain ⟨hg_6, h⟩ := drvG h
    refine jr_iast (kr_4_2 h0) hg_6 dX5_start_28 ?_
    refine j_nmw (fun w_4 e_5 => ?_)
    replace h := drvL e_5 h
    refine jr_aload_n dX5_start_29 rfl 0 rfl ?_
    refine gf_X5_31 (r := (t + 3)) rfl h0 rfl dX5_start_30 ?_
    refine jr_aload_n dX5_start_33 rfl 0 rfl ?_
    refine gf_X5_44 rfl h0 dX5_start_34 ?_
    refine jr_iload_n dX5_start_37 rfl 3 rfl ?_
    obtain ⟨hg_9, h⟩ := drvG h
    refine jr_iast (kr_4_3 h0) hg_9 dX5_start_38 ?_
    refine j_nmw (fun w_7 e_8 => ?_)
    replace h := drvL e_8 h
    refine jr_aload_n dX5_start_39 rfl 0 rfl ?_
    refine gf_X5_34 (r := (t + 4)) rfl h0 rfl dX5_start_40 ?_
    refine jr_aload_n dX5_start_43 rfl 0 rfl ?_
    refine gf_X5_44 rfl h0 dX5_start_44 ?_
    refine jr_iconst (v := (0 : Int32)) dX5_start_47 (by decide) ?_
    obtain ⟨hg_12, h⟩ := drvG h
    refine jr_iast (kr_4_4 h0) hg_12 dX5_start_48 ?_
    refine j_nmw (fun w_10 e_11 => ?_)
    replace h := drvL e_11 h
    refine jr_aload_n dX5_start_49 rfl 0 rfl ?_
    refine jr_dup dX5_start_50 rfl ?_
    refine gf_X5_44 rfl h0 dX5_start_51 ?_
    refine jr_dup_x1 dX5_start_54 rfl rfl ?_
    refine jr_iconst (v := (1 : Int32)) dX5_start_55 (by decide) ?_
    refine jr_iadd dX5_start_56 ?_
    refine pf_X5_44 rfl h0 dX5_start_57 ?_
    refine j_nmw (fun w_13 e_14 => ?_)
    replace h := drvL e_14 h
    obtain ⟨rfl, rfl⟩ := drvS2 h
    exact jr_iret rfl dX5_start_60
  · replace h := drvE hc h
    refine jr_iconst (v := (-1 : Int32)) dX5_start_7 (by decide) ?_
    obtain ⟨rfl, rfl⟩ := drvS2 h
    exact jr_iret rfl dX5_start_8
set_option maxHeartbeats 4000000 in
set_option maxRecDepth 100000 in
theorem tX6_blame {a0 : Int32} {w : jWd} {w' : jWd}  (h : fX6_blame a0 w = some w') : JM yX6_blame MX6_blame 1 [.ref 189, .int a0] w none w' := by
  refine jm_of pl_X6 rfl (Nat.le_of_ble_eq_true rfl) ?_
  show J MX6_blame 1 w 0 [(0, .ref 189), (1, .int a0)] [] none w'
  unfold fX6_blame at h
  refine jr_aload_n dX6_blame_0 rfl 0 rfl ?_
  refine gf_X6_35 rfl (rfl : kd 189 = 5) dX6_blame_1 ?_
  refine jr_if_ne (tgt := 25) (nxt := 7) dX6_blame_4 (by decide) rfl (fun hc => ?_) (fun hc => ?_)
  · replace h := drvE hc h
    obtain rfl := drvS1 h
    exact jr_vret rfl dX6_blame_25
  · replace h := drvT hc h
    refine jr_aload_n dX6_blame_7 rfl 0 rfl ?_
    refine gf_X6_45 rfl (rfl : kd 189 = 5) dX6_blame_8 ?_
    refine jr_if_lt (tgt := 25) (nxt := 14) dX6_blame_11 (by decide) rfl (fun hc => ?_) (fun hc => ?_)
    · replace h := drvT hc h
      obtain rfl := drvS1 h
      exact jr_vret rfl dX6_blame_25
    · replace h := drvE hc h
      refine jr_aload_n dX6_blame_14 rfl 0 rfl ?_
      refine gf_X6_45 rfl (rfl : kd 189 = 5) dX6_blame_15 ?_
      refine jr_aload_n dX6_blame_18 rfl 0 rfl ?_
      refine gf_X6_42 rfl (rfl : kd 189 = 5) dX6_blame_19 ?_
      refine jr_icmp_lt (tgt := 26) (nxt := 25) dX6_blame_22 (by decide) rfl (fun hc => ?_) (fun hc => ?_)
      · replace h := drvT hc h
        refine jr_aload_n dX6_blame_26 rfl 0 rfl ?_
        refine jr_aload_n dX6_blame_27 rfl 0 rfl ?_
        refine gf_X6_25 (r := 199) rfl (rfl : kd 189 = 5) rfl dX6_blame_28 ?_
        refine jr_aload_n dX6_blame_31 rfl 0 rfl ?_
        refine gf_X6_45 rfl (rfl : kd 189 = 5) dX6_blame_32 ?_
        obtain ⟨hg_1, h⟩ := drvG h
        refine jr_iald (rfl : kd 199 = 13) hg_1 dX6_blame_35 ?_
        refine jr_iconst (v := (1 : Int32)) dX6_blame_36 (by decide) ?_
        obtain ⟨j45_3, ej45_3, h⟩ := drvF h
        have hj45_3 : ∀ (s_2 : Int32), j45_3 s_2 = some w' → J MX6_blame 1 w 45 [(0, .ref 189)] [.int s_2, .ref 189] none w' := by
          intro s_2 h
          rw [ej45_3] at h
          try dsimp only at h
          refine pf_X6_35 rfl (rfl : kd 189 = 5) dX6_blame_45 ?_
          refine j_nmw (fun w_4 e_5 => ?_)
          replace h := drvL e_5 h
          refine jr_aload_n dX6_blame_48 rfl 0 rfl ?_
          refine jr_aload_n dX6_blame_49 rfl 0 rfl ?_
          refine gf_X6_32 (r := 201) rfl (rfl : kd 189 = 5) rfl dX6_blame_50 ?_
          refine jr_aload_n dX6_blame_53 rfl 0 rfl ?_
          refine gf_X6_45 rfl (rfl : kd 189 = 5) dX6_blame_54 ?_
          obtain ⟨hg_6, h⟩ := drvG h
          refine jr_iald (rfl : kd 201 = 13) hg_6 dX6_blame_57 ?_
          refine pf_X6_39 rfl (rfl : kd 189 = 5) dX6_blame_58 ?_
          refine j_nmw (fun w_7 e_8 => ?_)
          replace h := drvL e_8 h
          obtain rfl := drvS1 h
          exact jr_vret rfl dX6_blame_61
        refine jr_icmp_ne (tgt := 44) (nxt := 40) dX6_blame_37 (by decide) rfl (fun hc => ?_) (fun hc => ?_)
        · replace h := drvE hc h
          refine jr_iload_n dX6_blame_44 rfl 1 rfl ?_
          refine jr_sub [0] rfl ?_
          exact hj45_3 _ h
        · replace h := drvT hc h
          refine jr_iconst (v := (1 : Int32)) dX6_blame_40 (by decide) ?_
          refine jr_goto (tgt := 45) dX6_blame_41 (by decide) ?_
          refine jr_sub [0] rfl ?_
          exact hj45_3 _ h
      · replace h := drvE hc h
        obtain rfl := drvS1 h
        exact jr_vret rfl dX6_blame_25
set_option maxHeartbeats 4000000 in
set_option maxRecDepth 100000 in
theorem tX6_isLetter {a0 : Int32} {w : jWd}  : JM yX6_isLetter MX6_isLetter 1 [.int a0] w (some (.int (fX6_isLetter a0))) w := by
  refine jm_of pl_X6 rfl (Nat.le_of_ble_eq_true rfl) ?_
  show J MX6_isLetter 1 w 0 [(0, .int a0)] [] (some (.int (fX6_isLetter a0))) w
  generalize h : (fX6_isLetter a0) = r
  unfold fX6_isLetter at h
  refine jr_iload_n dX6_isLetter_0 rfl 0 rfl ?_
  refine jr_bipush (v := (97 : Int32)) dX6_isLetter_1 (by decide) ?_
  refine jr_icmp_lt (tgt := 16) (nxt := 6) dX6_isLetter_3 (by decide) rfl (fun hc => ?_) (fun hc => ?_)
  · replace h := drvT hc h
    refine jr_iconst (v := (0 : Int32)) dX6_isLetter_16 (by decide) ?_
    subst h
    exact jr_zret (ty := .boolean) rfl rfl dX6_isLetter_17
  · replace h := drvE hc h
    refine jr_iload_n dX6_isLetter_6 rfl 0 rfl ?_
    refine jr_bipush (v := (122 : Int32)) dX6_isLetter_7 (by decide) ?_
    refine jr_icmp_gt (tgt := 16) (nxt := 12) dX6_isLetter_9 (by decide) rfl (fun hc => ?_) (fun hc => ?_)
    · replace h := drvT hc h
      refine jr_iconst (v := (0 : Int32)) dX6_isLetter_16 (by decide) ?_
      subst h
      exact jr_zret (ty := .boolean) rfl rfl dX6_isLetter_17
    · replace h := drvE hc h
      refine jr_iconst (v := (1 : Int32)) dX6_isLetter_12 (by decide) ?_
      refine jr_goto (tgt := 17) dX6_isLetter_13 (by decide) ?_
      subst h
      exact jr_zret (ty := .boolean) rfl rfl dX6_isLetter_17
set_option maxHeartbeats 4000000 in
set_option maxRecDepth 100000 in
theorem tX6_isDigit {a0 : Int32} {w : jWd}  : JM yX6_isDigit MX6_isDigit 1 [.int a0] w (some (.int (fX6_isDigit a0))) w := by
  refine jm_of pl_X6 rfl (Nat.le_of_ble_eq_true rfl) ?_
  show J MX6_isDigit 1 w 0 [(0, .int a0)] [] (some (.int (fX6_isDigit a0))) w
  generalize h : (fX6_isDigit a0) = r
  unfold fX6_isDigit at h
  refine jr_iload_n dX6_isDigit_0 rfl 0 rfl ?_
  refine jr_bipush (v := (48 : Int32)) dX6_isDigit_1 (by decide) ?_
  refine jr_icmp_lt (tgt := 16) (nxt := 6) dX6_isDigit_3 (by decide) rfl (fun hc => ?_) (fun hc => ?_)
  · replace h := drvT hc h
    refine jr_iconst (v := (0 : Int32)) dX6_isDigit_16 (by decide) ?_
    subst h
    exact jr_zret (ty := .boolean) rfl rfl dX6_isDigit_17
  · replace h := drvE hc h
    refine jr_iload_n dX6_isDigit_6 rfl 0 rfl ?_
    refine jr_bipush (v := (57 : Int32)) dX6_isDigit_7 (by decide) ?_
    refine jr_icmp_gt (tgt := 16) (nxt := 12) dX6_isDigit_9 (by decide) rfl (fun hc => ?_) (fun hc => ?_)
    · replace h := drvT hc h
      refine jr_iconst (v := (0 : Int32)) dX6_isDigit_16 (by decide) ?_
      subst h
      exact jr_zret (ty := .boolean) rfl rfl dX6_isDigit_17
    · replace h := drvE hc h
      refine jr_iconst (v := (1 : Int32)) dX6_isDigit_12 (by decide) ?_
      refine jr_goto (tgt := 17) dX6_isDigit_13 (by decide) ?_
      subst h
      exact jr_zret (ty := .boolean) rfl rfl dX6_isDigit_17
set_option maxHeartbeats 4000000 in
set_option maxRecDepth 100000 in
theorem hbX6_endOfToken_14 {n : Nat} {p0 : Nat} {p1 : Int32} {p2 : Int32} {k67 : Int32 → (Option Int32)} {w : jWd} {r : Int32} {rec : Int32 → Option Int32} (hk_p0 : kd p0 = 12) (hk67 : ∀ (z3 : Int32), k67 z3 = some r → J MX6_endOfToken 2 w 67 [(1, .int p1), (3, .int z3)] [] (some (.int r)) w)
    (hrec : ∀ (x3 : Int32) , rec x3 = some r → J MX6_endOfToken 2 w 14 [(0, .ref p0), (1, .int p1), (2, .int p2), (3, .int x3)] [] (some (.int r)) w) : ∀ (x3 : Int32) , bX6_endOfToken_14 n p0 p1 p2 k67 w rec x3 = some r → J MX6_endOfToken 2 w 14 [(0, .ref p0), (1, .int p1), (2, .int p2), (3, .int x3)] [] (some (.int r)) w := by
  intro x3 h
  unfold bX6_endOfToken_14 at h
  refine jr_iload_n dX6_endOfToken_14 rfl 3 rfl ?_
  refine jr_iload_n dX6_endOfToken_15 rfl 2 rfl ?_
  refine jr_icmp_ge (tgt := 81) (nxt := 19) dX6_endOfToken_16 (by decide) rfl (fun hc => ?_) (fun hc => ?_)
  · replace h := drvT hc h
    refine jr_iload_n dX6_endOfToken_81 rfl 2 rfl ?_
    obtain rfl := drvS1 h
    exact jr_iret rfl dX6_endOfToken_82
  · replace h := drvE hc h
    refine jr_aload_n dX6_endOfToken_19 rfl 0 rfl ?_
    refine jr_iload_n dX6_endOfToken_20 rfl 1 rfl ?_
    obtain ⟨hg_1, h⟩ := drvG h
    refine jr_bald hk_p0 hg_1 dX6_endOfToken_21 ?_
    refine j_callSv lk_X6_68 wST_X6_isLetter (tX6_isLetter  (a0 := (wI w p0 (p1).toNatClampNeg)) (w := w)) (by omega) rfl rfl (Nat.le_of_ble_eq_true rfl) dX6_endOfToken_22 ?_
    obtain ⟨j60_3, ej60_3, h⟩ := drvF h
    have hj60_3 : ∀ (s_2 : Int32), j60_3 s_2 = some r → J MX6_endOfToken 2 w 60 [(0, .ref p0), (1, .int p1), (2, .int p2), (3, .int x3)] [.int s_2] (some (.int r)) w := by
      intro s_2 h
      rw [ej60_3] at h
      try dsimp only at h
      refine jr_istore (lv' := [(4, .int s_2), (0, .ref p0), (1, .int p1), (2, .int p2), (3, .int x3)]) dX6_endOfToken_60 (by decide) rfl ?_
      refine jr_iload dX6_endOfToken_62 0 rfl ?_
      refine jr_if_ne (tgt := 75) (nxt := 67) dX6_endOfToken_64 (by decide) rfl (fun hc => ?_) (fun hc => ?_)
      · replace h := drvE hc h
        refine jr_iincN (c := (1 : Int32)) (lv' := fun (x3_4 : Int32) => [(3, .int x3_4), (4, .int s_2), (0, .ref p0), (1, .int p1), (2, .int p2)]) dX6_endOfToken_75 (by decide) 4 rfl (by decide) (fun _ => rfl) (fun x3_4 e_5 => ?_)
        replace h := drvL e_5 h
        refine jr_goto (tgt := 14) dX6_endOfToken_78 (by decide) ?_
        refine jr_sub [2, 3, 4, 0] rfl ?_
        exact hrec _ h
      · replace h := drvT hc h
        refine jr_sub [2, 4] rfl ?_
        exact hk67 _ h
    refine jr_if_eq (tgt := 37) (nxt := 28) dX6_endOfToken_25 (by decide) rfl (fun hc => ?_) (fun hc => ?_)
    · replace h := drvT hc h
      refine jr_aload_n dX6_endOfToken_37 rfl 0 rfl ?_
      refine jr_iload_n dX6_endOfToken_38 rfl 1 rfl ?_
      obtain ⟨hg_6, h⟩ := drvG h
      refine jr_bald hk_p0 hg_6 dX6_endOfToken_39 ?_
      refine j_callSv lk_X6_72 wST_X6_isDigit (tX6_isDigit  (a0 := (wI w p0 (p1).toNatClampNeg)) (w := w)) (by omega) rfl rfl (Nat.le_of_ble_eq_true rfl) dX6_endOfToken_40 ?_
      obtain ⟨j59_7, ej59_7, h⟩ := drvF h
      have hj59_7 : ∀ (_ : Unit), j59_7 = some r → J MX6_endOfToken 2 w 59 [(0, .ref p0), (1, .int p1), (2, .int p2), (3, .int x3)] [] (some (.int r)) w := by
        intro _ h
        rw [ej59_7] at h
        try dsimp only at h
        refine jr_iconst (v := (0 : Int32)) dX6_endOfToken_59 (by decide) ?_
        refine jr_sub [0, 1, 2, 3] rfl ?_
        exact hj60_3 _ h
      refine jr_if_eq (tgt := 59) (nxt := 46) dX6_endOfToken_43 (by decide) rfl (fun hc => ?_) (fun hc => ?_)
      · replace h := drvT hc h
        refine jr_sub [0, 1, 2, 3] rfl ?_
        exact (hj59_7 ()) h
      · replace h := drvE hc h
        refine jr_aload_n dX6_endOfToken_46 rfl 0 rfl ?_
        refine jr_iload_n dX6_endOfToken_47 rfl 3 rfl ?_
        obtain ⟨hg_8, h⟩ := drvG h
        refine jr_bald hk_p0 hg_8 dX6_endOfToken_48 ?_
        refine j_callSv lk_X6_72 wST_X6_isDigit (tX6_isDigit  (a0 := (wI w p0 (x3).toNatClampNeg)) (w := w)) (by omega) rfl rfl (Nat.le_of_ble_eq_true rfl) dX6_endOfToken_49 ?_
        refine jr_if_eq (tgt := 59) (nxt := 55) dX6_endOfToken_52 (by decide) rfl (fun hc => ?_) (fun hc => ?_)
        · replace h := drvT hc h
          refine jr_sub [0, 1, 2, 3] rfl ?_
          exact (hj59_7 ()) h
        · replace h := drvE hc h
          refine jr_iconst (v := (1 : Int32)) dX6_endOfToken_55 (by decide) ?_
          refine jr_goto (tgt := 60) dX6_endOfToken_56 (by decide) ?_
          refine jr_sub [0, 1, 2, 3] rfl ?_
          exact hj60_3 _ h
    · replace h := drvE hc h
      refine jr_aload_n dX6_endOfToken_28 rfl 0 rfl ?_
      refine jr_iload_n dX6_endOfToken_29 rfl 3 rfl ?_
      obtain ⟨hg_9, h⟩ := drvG h
      refine jr_bald hk_p0 hg_9 dX6_endOfToken_30 ?_
      refine j_callSv lk_X6_68 wST_X6_isLetter (tX6_isLetter  (a0 := (wI w p0 (x3).toNatClampNeg)) (w := w)) (by omega) rfl rfl (Nat.le_of_ble_eq_true rfl) dX6_endOfToken_31 ?_
      refine jr_goto (tgt := 60) dX6_endOfToken_34 (by decide) ?_
      refine jr_sub [0, 1, 2, 3] rfl ?_
      exact hj60_3 _ h
theorem hlX6_endOfToken_14 {n : Nat} {p0 : Nat} {p1 : Int32} {p2 : Int32} {k67 : Int32 → (Option Int32)} {w : jWd} {r : Int32} (hk_p0 : kd p0 = 12) (hk67 : ∀ (z3 : Int32), k67 z3 = some r → J MX6_endOfToken 2 w 67 [(1, .int p1), (3, .int z3)] [] (some (.int r)) w) : ∀ (c : Nat) (x3 : Int32) , lX6_endOfToken_14 n p0 p1 p2 k67 w c x3 = some r → J MX6_endOfToken 2 w 14 [(0, .ref p0), (1, .int p1), (2, .int p2), (3, .int x3)] [] (some (.int r)) w := by
  intro c
  induction c with
  | zero => intro x3 h; cases h
  | succ c ih => intro x3 h; exact hbX6_endOfToken_14 (n := n) hk_p0 hk67 ih _ h
set_option maxHeartbeats 4000000 in
set_option maxRecDepth 100000 in
theorem tX6_endOfToken {n : Nat} {a0 : Nat} {a1 : Int32} {a2 : Int32} {w : jWd} {r : Int32} (hk_a0 : kd a0 = 12) (h : fX6_endOfToken n a0 a1 a2 w = some r) : JM yX6_endOfToken MX6_endOfToken 2 [.ref a0, .int a1, .int a2] w (some (.int r)) w := by
  refine jm_of pl_X6 rfl (Nat.le_of_ble_eq_true rfl) ?_
  show J MX6_endOfToken 2 w 0 [(0, .ref a0), (1, .int a1), (2, .int a2)] [] (some (.int r)) w
  unfold fX6_endOfToken at h
  refine jr_iload_n dX6_endOfToken_0 rfl 1 rfl ?_
  refine jr_if_lt (tgt := 10) (nxt := 4) dX6_endOfToken_1 (by decide) rfl (fun hc => ?_) (fun hc => ?_)
  · replace h := drvT hc h
    refine jr_iload_n dX6_endOfToken_10 rfl 2 rfl ?_
    obtain rfl := drvS1 h
    exact jr_iret rfl dX6_endOfToken_11
  · replace h := drvE hc h
    refine jr_iload_n dX6_endOfToken_4 rfl 2 rfl ?_
    refine jr_aload_n dX6_endOfToken_5 rfl 0 rfl ?_
    refine jr_alen hk_a0 (by decide) (by decide) dX6_endOfToken_6 ?_
    refine jr_icmp_le (tgt := 12) (nxt := 10) dX6_endOfToken_7 (by decide) rfl (fun hc => ?_) (fun hc => ?_)
    · replace h := drvT hc h
      refine jr_iload_n dX6_endOfToken_12 rfl 1 rfl ?_
      refine jr_istore_n (lv' := [(3, .int a1), (0, .ref a0), (1, .int a1), (2, .int a2)]) dX6_endOfToken_13 rfl (by decide) rfl ?_
      refine jr_sub [1, 2, 3, 0] rfl ?_
      refine hlX6_endOfToken_14 hk_a0 ?_ _ _ h
      · intro z3_10 h
        try dsimp only at h
        refine jr_iload_n dX6_endOfToken_67 rfl 1 rfl ?_
        refine jr_iload_n dX6_endOfToken_68 rfl 0 rfl ?_
        refine jr_iconst (v := (1 : Int32)) dX6_endOfToken_69 (by decide) ?_
        refine jr_iadd dX6_endOfToken_70 ?_
        refine jr_imax wML_X6_75 (by decide) (Nat.le_of_ble_eq_true rfl) dX6_endOfToken_71 ?_
        obtain rfl := drvS1 h
        exact jr_iret rfl dX6_endOfToken_74
    · replace h := drvE hc h
      refine jr_iload_n dX6_endOfToken_10 rfl 2 rfl ?_
      obtain rfl := drvS1 h
      exact jr_iret rfl dX6_endOfToken_11
set_option maxHeartbeats 4000000 in
set_option maxRecDepth 100000 in
theorem tX6_isAt {a0 : Int32} {w : jWd} {r : Int32}  (h : fX6_isAt a0 w = some r) : JM yX6_isAt MX6_isAt 1 [.ref 189, .int a0] w (some (.int r)) w := by
  refine jm_of pl_X6 rfl (Nat.le_of_ble_eq_true rfl) ?_
  show J MX6_isAt 1 w 0 [(0, .ref 189), (1, .int a0)] [] (some (.int r)) w
  unfold fX6_isAt at h
  refine jr_aload_n dX6_isAt_0 rfl 0 rfl ?_
  refine gf_X6_35 rfl (rfl : kd 189 = 5) dX6_isAt_1 ?_
  refine jr_if_ne (tgt := 42) (nxt := 7) dX6_isAt_4 (by decide) rfl (fun hc => ?_) (fun hc => ?_)
  · replace h := drvE hc h
    refine jr_iconst (v := (0 : Int32)) dX6_isAt_42 (by decide) ?_
    obtain rfl := drvS1 h
    exact jr_zret (ty := .boolean) rfl rfl dX6_isAt_43
  · replace h := drvT hc h
    refine jr_aload_n dX6_isAt_7 rfl 0 rfl ?_
    refine gf_X6_45 rfl (rfl : kd 189 = 5) dX6_isAt_8 ?_
    refine jr_if_lt (tgt := 42) (nxt := 14) dX6_isAt_11 (by decide) rfl (fun hc => ?_) (fun hc => ?_)
    · replace h := drvT hc h
      refine jr_iconst (v := (0 : Int32)) dX6_isAt_42 (by decide) ?_
      obtain rfl := drvS1 h
      exact jr_zret (ty := .boolean) rfl rfl dX6_isAt_43
    · replace h := drvE hc h
      refine jr_aload_n dX6_isAt_14 rfl 0 rfl ?_
      refine gf_X6_45 rfl (rfl : kd 189 = 5) dX6_isAt_15 ?_
      refine jr_aload_n dX6_isAt_18 rfl 0 rfl ?_
      refine gf_X6_42 rfl (rfl : kd 189 = 5) dX6_isAt_19 ?_
      refine jr_icmp_ge (tgt := 42) (nxt := 25) dX6_isAt_22 (by decide) rfl (fun hc => ?_) (fun hc => ?_)
      · replace h := drvT hc h
        refine jr_iconst (v := (0 : Int32)) dX6_isAt_42 (by decide) ?_
        obtain rfl := drvS1 h
        exact jr_zret (ty := .boolean) rfl rfl dX6_isAt_43
      · replace h := drvE hc h
        refine jr_aload_n dX6_isAt_25 rfl 0 rfl ?_
        refine gf_X6_25 (r := 199) rfl (rfl : kd 189 = 5) rfl dX6_isAt_26 ?_
        refine jr_aload_n dX6_isAt_29 rfl 0 rfl ?_
        refine gf_X6_45 rfl (rfl : kd 189 = 5) dX6_isAt_30 ?_
        obtain ⟨hg_1, h⟩ := drvG h
        refine jr_iald (rfl : kd 199 = 13) hg_1 dX6_isAt_33 ?_
        refine jr_iload_n dX6_isAt_34 rfl 1 rfl ?_
        refine jr_icmp_ne (tgt := 42) (nxt := 38) dX6_isAt_35 (by decide) rfl (fun hc => ?_) (fun hc => ?_)
        · replace h := drvE hc h
          refine jr_iconst (v := (0 : Int32)) dX6_isAt_42 (by decide) ?_
          obtain rfl := drvS1 h
          exact jr_zret (ty := .boolean) rfl rfl dX6_isAt_43
        · replace h := drvT hc h
          refine jr_iconst (v := (1 : Int32)) dX6_isAt_38 (by decide) ?_
          refine jr_goto (tgt := 43) dX6_isAt_39 (by decide) ?_
          obtain rfl := drvS1 h
          exact jr_zret (ty := .boolean) rfl rfl dX6_isAt_43
set_option maxHeartbeats 4000000 in
set_option maxRecDepth 100000 in
theorem hbX6_spells_25 {n : Nat} {p0 : Nat} {p1 : Int32} {p2 : Int32} {p3 : Nat} {w : jWd} {r : Int32} {rec : Int32 → Option Int32} (hk_p0 : kd p0 = 12) (hk_p3 : p3 < jsN) 
    (hrec : ∀ (x4 : Int32) , rec x4 = some r → J MX6_spells 7 w 25 [(0, .ref p0), (1, .int p1), (2, .int p2), (3, .ref (1000 + p3)), (4, .int x4)] [] (some (.int r)) w) : ∀ (x4 : Int32) , bX6_spells_25 n p0 p1 p2 p3 w rec x4 = some r → J MX6_spells 7 w 25 [(0, .ref p0), (1, .int p1), (2, .int p2), (3, .ref (1000 + p3)), (4, .int x4)] [] (some (.int r)) w := by
  intro x4 h
  unfold bX6_spells_25 at h
  refine jr_iload dX6_spells_25 4 rfl ?_
  refine jr_iload_n dX6_spells_27 rfl 2 rfl ?_
  refine jr_icmp_ge (tgt := 54) (nxt := 31) dX6_spells_28 (by decide) rfl (fun hc => ?_) (fun hc => ?_)
  · replace h := drvT hc h
    refine jr_iconst (v := (1 : Int32)) dX6_spells_54 (by decide) ?_
    obtain rfl := drvS1 h
    exact jr_zret (ty := .boolean) rfl rfl dX6_spells_55
  · replace h := drvE hc h
    refine jr_aload_n dX6_spells_31 rfl 0 rfl ?_
    refine jr_iload dX6_spells_32 4 rfl ?_
    obtain ⟨hg_1, h⟩ := drvG h
    refine jr_bald hk_p0 hg_1 dX6_spells_34 ?_
    refine jr_aload_n dX6_spells_35 rfl 3 rfl ?_
    refine jr_iload dX6_spells_36 4 rfl ?_
    refine jr_iload_n dX6_spells_38 rfl 1 rfl ?_
    refine jr_isub dX6_spells_39 ?_
    obtain ⟨hg_2, h⟩ := drvG h
    refine jr_strat wML_X6_117 (by decide) (Nat.le_of_ble_eq_true rfl) hk_p3 hg_2 dX6_spells_40 ?_
    refine jr_icmp_eq (tgt := 48) (nxt := 46) dX6_spells_43 (by decide) rfl (fun hc => ?_) (fun hc => ?_)
    · replace h := drvT hc h
      refine jr_iincN (c := (1 : Int32)) (lv' := fun (x4_3 : Int32) => [(4, .int x4_3), (0, .ref p0), (1, .int p1), (2, .int p2), (3, .ref (1000 + p3))]) dX6_spells_48 (by decide) 4 rfl (by decide) (fun _ => rfl) (fun x4_3 e_4 => ?_)
      replace h := drvL e_4 h
      refine jr_goto (tgt := 25) dX6_spells_51 (by decide) ?_
      refine jr_sub [1, 2, 3, 4, 0] rfl ?_
      exact hrec _ h
    · replace h := drvE hc h
      refine jr_iconst (v := (0 : Int32)) dX6_spells_46 (by decide) ?_
      obtain rfl := drvS1 h
      exact jr_zret (ty := .boolean) rfl rfl dX6_spells_47
theorem hlX6_spells_25 {n : Nat} {p0 : Nat} {p1 : Int32} {p2 : Int32} {p3 : Nat} {w : jWd} {r : Int32} (hk_p0 : kd p0 = 12) (hk_p3 : p3 < jsN)  : ∀ (c : Nat) (x4 : Int32) , lX6_spells_25 n p0 p1 p2 p3 w c x4 = some r → J MX6_spells 7 w 25 [(0, .ref p0), (1, .int p1), (2, .int p2), (3, .ref (1000 + p3)), (4, .int x4)] [] (some (.int r)) w := by
  intro c
  induction c with
  | zero => intro x4 h; cases h
  | succ c ih => intro x4 h; exact hbX6_spells_25 (n := n) hk_p0 hk_p3 ih _ h
set_option maxHeartbeats 4000000 in
set_option maxRecDepth 100000 in
theorem tX6_spells {n : Nat} {a0 : Nat} {a1 : Int32} {a2 : Int32} {a3 : Nat} {w : jWd} {r : Int32} (hk_a0 : kd a0 = 12) (hk_a3 : a3 < jsN) (h : fX6_spells n a0 a1 a2 a3 w = some r) : JM yX6_spells MX6_spells 7 [.ref a0, .int a1, .int a2, .ref (1000 + a3)] w (some (.int r)) w := by
  refine jm_of pl_X6 rfl (Nat.le_of_ble_eq_true rfl) ?_
  show J MX6_spells 7 w 0 [(0, .ref a0), (1, .int a1), (2, .int a2), (3, .ref (1000 + a3))] [] (some (.int r)) w
  unfold fX6_spells at h
  refine jr_iload_n dX6_spells_0 rfl 1 rfl ?_
  refine jr_if_lt (tgt := 20) (nxt := 4) dX6_spells_1 (by decide) rfl (fun hc => ?_) (fun hc => ?_)
  · replace h := drvT hc h
    refine jr_iconst (v := (0 : Int32)) dX6_spells_20 (by decide) ?_
    obtain rfl := drvS1 h
    exact jr_zret (ty := .boolean) rfl rfl dX6_spells_21
  · replace h := drvE hc h
    refine jr_iload_n dX6_spells_4 rfl 2 rfl ?_
    refine jr_aload_n dX6_spells_5 rfl 0 rfl ?_
    refine jr_alen hk_a0 (by decide) (by decide) dX6_spells_6 ?_
    refine jr_icmp_gt (tgt := 20) (nxt := 10) dX6_spells_7 (by decide) rfl (fun hc => ?_) (fun hc => ?_)
    · replace h := drvT hc h
      refine jr_iconst (v := (0 : Int32)) dX6_spells_20 (by decide) ?_
      obtain rfl := drvS1 h
      exact jr_zret (ty := .boolean) rfl rfl dX6_spells_21
    · replace h := drvE hc h
      refine jr_iload_n dX6_spells_10 rfl 2 rfl ?_
      refine jr_iload_n dX6_spells_11 rfl 1 rfl ?_
      refine jr_isub dX6_spells_12 ?_
      refine jr_aload_n dX6_spells_13 rfl 3 rfl ?_
      refine jr_strlen wML_X6_111 (by decide) (Nat.le_of_ble_eq_true rfl) hk_a3 dX6_spells_14 ?_
      refine jr_icmp_eq (tgt := 22) (nxt := 20) dX6_spells_17 (by decide) rfl (fun hc => ?_) (fun hc => ?_)
      · replace h := drvT hc h
        refine jr_iload_n dX6_spells_22 rfl 1 rfl ?_
        refine jr_istore (lv' := [(4, .int a1), (0, .ref a0), (1, .int a1), (2, .int a2), (3, .ref (1000 + a3))]) dX6_spells_23 (by decide) rfl ?_
        refine jr_sub [1, 2, 3, 4, 0] rfl ?_
        refine hlX6_spells_25 hk_a0 hk_a3  _ _ h
      · replace h := drvE hc h
        refine jr_iconst (v := (0 : Int32)) dX6_spells_20 (by decide) ?_
        obtain rfl := drvS1 h
        exact jr_zret (ty := .boolean) rfl rfl dX6_spells_21
set_option maxHeartbeats 4000000 in
set_option maxRecDepth 100000 in
theorem tX6_wordKind {n : Nat} {a0 : Nat} {a1 : Int32} {a2 : Int32} {w : jWd} {r : Int32} (hk_a0 : kd a0 = 12) (h : fX6_wordKind n a0 a1 a2 w = some r) : JM yX6_wordKind MX6_wordKind 8 [.ref a0, .int a1, .int a2] w (some (.int r)) w := by
  refine jm_of pl_X6 rfl (Nat.le_of_ble_eq_true rfl) ?_
  show J MX6_wordKind 8 w 0 [(0, .ref a0), (1, .int a1), (2, .int a2)] [] (some (.int r)) w
  unfold fX6_wordKind at h
  refine jr_aload_n dX6_wordKind_0 rfl 0 rfl ?_
  refine jr_iload_n dX6_wordKind_1 rfl 1 rfl ?_
  refine jr_iload_n dX6_wordKind_2 rfl 2 rfl ?_
  refine jr_ldcs (i := 0) (q := ("NobodysBard$Reader", 81, "become")) rfl rfl dX6_wordKind_3 ?_
  obtain ⟨r_2, hq_1, h⟩ := drvB h
  refine j_callSv lk_X6_83 wST_X6_spells (tX6_spells hk_a0 (by decide : 0 < jsN) hq_1) (by omega) rfl rfl (Nat.le_of_ble_eq_true rfl) dX6_wordKind_5 ?_
  refine jr_if_eq (tgt := 14) (nxt := 11) dX6_wordKind_8 (by decide) rfl (fun hc => ?_) (fun hc => ?_)
  · replace h := drvT hc h
    refine jr_aload_n dX6_wordKind_14 rfl 0 rfl ?_
    refine jr_iload_n dX6_wordKind_15 rfl 1 rfl ?_
    refine jr_iload_n dX6_wordKind_16 rfl 2 rfl ?_
    refine jr_ldcs (i := 1) (q := ("NobodysBard$Reader", 87, "if")) rfl rfl dX6_wordKind_17 ?_
    obtain ⟨r_4, hq_3, h⟩ := drvB h
    refine j_callSv lk_X6_83 wST_X6_spells (tX6_spells hk_a0 (by decide : 1 < jsN) hq_3) (by omega) rfl rfl (Nat.le_of_ble_eq_true rfl) dX6_wordKind_19 ?_
    refine jr_if_eq (tgt := 28) (nxt := 25) dX6_wordKind_22 (by decide) rfl (fun hc => ?_) (fun hc => ?_)
    · replace h := drvT hc h
      refine jr_aload_n dX6_wordKind_28 rfl 0 rfl ?_
      refine jr_iload_n dX6_wordKind_29 rfl 1 rfl ?_
      refine jr_iload_n dX6_wordKind_30 rfl 2 rfl ?_
      refine jr_ldcs (i := 2) (q := ("NobodysBard$Reader", 89, "or")) rfl rfl dX6_wordKind_31 ?_
      obtain ⟨r_6, hq_5, h⟩ := drvB h
      refine j_callSv lk_X6_83 wST_X6_spells (tX6_spells hk_a0 (by decide : 2 < jsN) hq_5) (by omega) rfl rfl (Nat.le_of_ble_eq_true rfl) dX6_wordKind_33 ?_
      refine jr_if_eq (tgt := 42) (nxt := 39) dX6_wordKind_36 (by decide) rfl (fun hc => ?_) (fun hc => ?_)
      · replace h := drvT hc h
        refine jr_aload_n dX6_wordKind_42 rfl 0 rfl ?_
        refine jr_iload_n dX6_wordKind_43 rfl 1 rfl ?_
        refine jr_iload_n dX6_wordKind_44 rfl 2 rfl ?_
        refine jr_ldcs (i := 3) (q := ("NobodysBard$Reader", 91, "and")) rfl rfl dX6_wordKind_45 ?_
        obtain ⟨r_8, hq_7, h⟩ := drvB h
        refine j_callSv lk_X6_83 wST_X6_spells (tX6_spells hk_a0 (by decide : 3 < jsN) hq_7) (by omega) rfl rfl (Nat.le_of_ble_eq_true rfl) dX6_wordKind_47 ?_
        refine jr_if_eq (tgt := 56) (nxt := 53) dX6_wordKind_50 (by decide) rfl (fun hc => ?_) (fun hc => ?_)
        · replace h := drvT hc h
          refine jr_aload_n dX6_wordKind_56 rfl 0 rfl ?_
          refine jr_iload_n dX6_wordKind_57 rfl 1 rfl ?_
          refine jr_iload_n dX6_wordKind_58 rfl 2 rfl ?_
          refine jr_ldcs (i := 4) (q := ("NobodysBard$Reader", 93, "not")) rfl rfl dX6_wordKind_59 ?_
          obtain ⟨r_10, hq_9, h⟩ := drvB h
          refine j_callSv lk_X6_83 wST_X6_spells (tX6_spells hk_a0 (by decide : 4 < jsN) hq_9) (by omega) rfl rfl (Nat.le_of_ble_eq_true rfl) dX6_wordKind_61 ?_
          refine jr_if_eq (tgt := 70) (nxt := 67) dX6_wordKind_64 (by decide) rfl (fun hc => ?_) (fun hc => ?_)
          · replace h := drvT hc h
            refine jr_aload_n dX6_wordKind_70 rfl 0 rfl ?_
            refine jr_iload_n dX6_wordKind_71 rfl 1 rfl ?_
            refine jr_iload_n dX6_wordKind_72 rfl 2 rfl ?_
            refine jr_ldcs (i := 5) (q := ("NobodysBard$Reader", 95, "has")) rfl rfl dX6_wordKind_73 ?_
            obtain ⟨r_12, hq_11, h⟩ := drvB h
            refine j_callSv lk_X6_83 wST_X6_spells (tX6_spells hk_a0 (by decide : 5 < jsN) hq_11) (by omega) rfl rfl (Nat.le_of_ble_eq_true rfl) dX6_wordKind_75 ?_
            refine jr_if_eq (tgt := 84) (nxt := 81) dX6_wordKind_78 (by decide) rfl (fun hc => ?_) (fun hc => ?_)
            · replace h := drvT hc h
              refine jr_aload_n dX6_wordKind_84 rfl 0 rfl ?_
              refine jr_iload_n dX6_wordKind_85 rfl 1 rfl ?_
              refine jr_iload_n dX6_wordKind_86 rfl 2 rfl ?_
              refine jr_ldcs (i := 6) (q := ("NobodysBard$Reader", 97, "long")) rfl rfl dX6_wordKind_87 ?_
              obtain ⟨r_14, hq_13, h⟩ := drvB h
              refine j_callSv lk_X6_83 wST_X6_spells (tX6_spells hk_a0 (by decide : 6 < jsN) hq_13) (by omega) rfl rfl (Nat.le_of_ble_eq_true rfl) dX6_wordKind_89 ?_
              refine jr_if_eq (tgt := 98) (nxt := 95) dX6_wordKind_92 (by decide) rfl (fun hc => ?_) (fun hc => ?_)
              · replace h := drvT hc h
                refine jr_aload_n dX6_wordKind_98 rfl 0 rfl ?_
                refine jr_iload_n dX6_wordKind_99 rfl 1 rfl ?_
                refine jr_iload_n dX6_wordKind_100 rfl 2 rfl ?_
                refine jr_ldcs (i := 7) (q := ("NobodysBard$Reader", 99, "tale")) rfl rfl dX6_wordKind_101 ?_
                obtain ⟨r_16, hq_15, h⟩ := drvB h
                refine j_callSv lk_X6_83 wST_X6_spells (tX6_spells hk_a0 (by decide : 7 < jsN) hq_15) (by omega) rfl rfl (Nat.le_of_ble_eq_true rfl) dX6_wordKind_103 ?_
                refine jr_if_eq (tgt := 112) (nxt := 109) dX6_wordKind_106 (by decide) rfl (fun hc => ?_) (fun hc => ?_)
                · replace h := drvT hc h
                  refine jr_aload_n dX6_wordKind_112 rfl 0 rfl ?_
                  refine jr_iload_n dX6_wordKind_113 rfl 1 rfl ?_
                  refine jr_iload_n dX6_wordKind_114 rfl 2 rfl ?_
                  refine jr_ldcs (i := 8) (q := ("NobodysBard$Reader", 101, "lose")) rfl rfl dX6_wordKind_115 ?_
                  obtain ⟨r_18, hq_17, h⟩ := drvB h
                  refine j_callSv lk_X6_83 wST_X6_spells (tX6_spells hk_a0 (by decide : 8 < jsN) hq_17) (by omega) rfl rfl (Nat.le_of_ble_eq_true rfl) dX6_wordKind_117 ?_
                  refine jr_if_eq (tgt := 126) (nxt := 123) dX6_wordKind_120 (by decide) rfl (fun hc => ?_) (fun hc => ?_)
                  · replace h := drvT hc h
                    refine jr_aload_n dX6_wordKind_126 rfl 0 rfl ?_
                    refine jr_iload_n dX6_wordKind_127 rfl 1 rfl ?_
                    refine jr_iload_n dX6_wordKind_128 rfl 2 rfl ?_
                    refine jr_ldcs (i := 9) (q := ("NobodysBard$Reader", 103, "move")) rfl rfl dX6_wordKind_129 ?_
                    obtain ⟨r_20, hq_19, h⟩ := drvB h
                    refine j_callSv lk_X6_83 wST_X6_spells (tX6_spells hk_a0 (by decide : 9 < jsN) hq_19) (by omega) rfl rfl (Nat.le_of_ble_eq_true rfl) dX6_wordKind_131 ?_
                    refine jr_if_eq (tgt := 140) (nxt := 137) dX6_wordKind_134 (by decide) rfl (fun hc => ?_) (fun hc => ?_)
                    · replace h := drvT hc h
                      refine jr_aload_n dX6_wordKind_140 rfl 0 rfl ?_
                      refine jr_iload_n dX6_wordKind_141 rfl 1 rfl ?_
                      refine jr_iload_n dX6_wordKind_142 rfl 2 rfl ?_
                      refine jr_ldcs (i := 10) (q := ("NobodysBard$Reader", 105, "smooth")) rfl rfl dX6_wordKind_143 ?_
                      obtain ⟨r_22, hq_21, h⟩ := drvB h
                      refine j_callSv lk_X6_83 wST_X6_spells (tX6_spells hk_a0 (by decide : 10 < jsN) hq_21) (by omega) rfl rfl (Nat.le_of_ble_eq_true rfl) dX6_wordKind_145 ?_
                      refine jr_if_eq (tgt := 154) (nxt := 151) dX6_wordKind_148 (by decide) rfl (fun hc => ?_) (fun hc => ?_)
                      · replace h := drvT hc h
                        refine jr_aload_n dX6_wordKind_154 rfl 0 rfl ?_
                        refine jr_iload_n dX6_wordKind_155 rfl 1 rfl ?_
                        refine jr_iload_n dX6_wordKind_156 rfl 2 rfl ?_
                        refine jr_ldcs (i := 11) (q := ("NobodysBard$Reader", 107, "say")) rfl rfl dX6_wordKind_157 ?_
                        obtain ⟨r_24, hq_23, h⟩ := drvB h
                        refine j_callSv lk_X6_83 wST_X6_spells (tX6_spells hk_a0 (by decide : 11 < jsN) hq_23) (by omega) rfl rfl (Nat.le_of_ble_eq_true rfl) dX6_wordKind_159 ?_
                        refine jr_if_eq (tgt := 168) (nxt := 165) dX6_wordKind_162 (by decide) rfl (fun hc => ?_) (fun hc => ?_)
                        · replace h := drvT hc h
                          refine jr_aload_n dX6_wordKind_168 rfl 0 rfl ?_
                          refine jr_iload_n dX6_wordKind_169 rfl 1 rfl ?_
                          refine jr_iload_n dX6_wordKind_170 rfl 2 rfl ?_
                          refine jr_ldcs (i := 12) (q := ("NobodysBard$Reader", 109, "for")) rfl rfl dX6_wordKind_171 ?_
                          obtain ⟨r_26, hq_25, h⟩ := drvB h
                          refine j_callSv lk_X6_83 wST_X6_spells (tX6_spells hk_a0 (by decide : 12 < jsN) hq_25) (by omega) rfl rfl (Nat.le_of_ble_eq_true rfl) dX6_wordKind_173 ?_
                          refine jr_if_eq (tgt := 184) (nxt := 179) dX6_wordKind_176 (by decide) rfl (fun hc => ?_) (fun hc => ?_)
                          · replace h := drvT hc h
                            refine jr_bipush (v := (19 : Int32)) dX6_wordKind_184 (by decide) ?_
                            obtain rfl := drvS1 h
                            exact jr_iret rfl dX6_wordKind_186
                          · replace h := drvE hc h
                            refine jr_bipush (v := (18 : Int32)) dX6_wordKind_179 (by decide) ?_
                            refine jr_goto (tgt := 186) dX6_wordKind_181 (by decide) ?_
                            obtain rfl := drvS1 h
                            exact jr_iret rfl dX6_wordKind_186
                        · replace h := drvE hc h
                          refine jr_bipush (v := (17 : Int32)) dX6_wordKind_165 (by decide) ?_
                          obtain rfl := drvS1 h
                          exact jr_iret rfl dX6_wordKind_167
                      · replace h := drvE hc h
                        refine jr_bipush (v := (16 : Int32)) dX6_wordKind_151 (by decide) ?_
                        obtain rfl := drvS1 h
                        exact jr_iret rfl dX6_wordKind_153
                    · replace h := drvE hc h
                      refine jr_bipush (v := (15 : Int32)) dX6_wordKind_137 (by decide) ?_
                      obtain rfl := drvS1 h
                      exact jr_iret rfl dX6_wordKind_139
                  · replace h := drvE hc h
                    refine jr_bipush (v := (14 : Int32)) dX6_wordKind_123 (by decide) ?_
                    obtain rfl := drvS1 h
                    exact jr_iret rfl dX6_wordKind_125
                · replace h := drvE hc h
                  refine jr_bipush (v := (13 : Int32)) dX6_wordKind_109 (by decide) ?_
                  obtain rfl := drvS1 h
                  exact jr_iret rfl dX6_wordKind_111
              · replace h := drvE hc h
                refine jr_bipush (v := (12 : Int32)) dX6_wordKind_95 (by decide) ?_
                obtain rfl := drvS1 h
                exact jr_iret rfl dX6_wordKind_97
            · replace h := drvE hc h
              refine jr_bipush (v := (11 : Int32)) dX6_wordKind_81 (by decide) ?_
              obtain rfl := drvS1 h
              exact jr_iret rfl dX6_wordKind_83
          · replace h := drvE hc h
            refine jr_bipush (v := (10 : Int32)) dX6_wordKind_67 (by decide) ?_
            obtain rfl := drvS1 h
            exact jr_iret rfl dX6_wordKind_69
        · replace h := drvE hc h
          refine jr_bipush (v := (9 : Int32)) dX6_wordKind_53 (by decide) ?_
          obtain rfl := drvS1 h
          exact jr_iret rfl dX6_wordKind_55
      · replace h := drvE hc h
        refine jr_bipush (v := (8 : Int32)) dX6_wordKind_39 (by decide) ?_
        obtain rfl := drvS1 h
        exact jr_iret rfl dX6_wordKind_41
    · replace h := drvE hc h
      refine jr_bipush (v := (7 : Int32)) dX6_wordKind_25 (by decide) ?_
      obtain rfl := drvS1 h
      exact jr_iret rfl dX6_wordKind_27
  · replace h := drvE hc h
    refine jr_bipush (v := (6 : Int32)) dX6_wordKind_11 (by decide) ?_
    obtain rfl := drvS1 h
    exact jr_iret rfl dX6_wordKind_13
set_option maxHeartbeats 4000000 in
set_option maxRecDepth 100000 in
theorem tX6_kindOf {n : Nat} {a0 : Nat} {a1 : Int32} {a2 : Int32} {w : jWd} {r : Int32} (hk_a0 : kd a0 = 12) (h : fX6_kindOf n a0 a1 a2 w = some r) : JM yX6_kindOf MX6_kindOf 9 [.ref a0, .int a1, .int a2] w (some (.int r)) w := by
  refine jm_of pl_X6 rfl (Nat.le_of_ble_eq_true rfl) ?_
  show J MX6_kindOf 9 w 0 [(0, .ref a0), (1, .int a1), (2, .int a2)] [] (some (.int r)) w
  unfold fX6_kindOf at h
  refine jr_iload_n dX6_kindOf_0 rfl 1 rfl ?_
  obtain ⟨j17_2, ej17_2, h⟩ := drvF h
  have hj17_2 : ∀ (s_1 : Int32), j17_2 s_1 = some r → J MX6_kindOf 9 w 17 [(0, .ref a0), (1, .int a1), (2, .int a2)] [.int s_1] (some (.int r)) w := by
    intro s_1 h
    rw [ej17_2] at h
    try dsimp only at h
    refine jr_istore_n (lv' := [(3, .int s_1), (0, .ref a0), (1, .int a1), (2, .int a2)]) dX6_kindOf_17 rfl (by decide) rfl ?_
    refine jr_iload_n dX6_kindOf_18 rfl 0 rfl ?_
    refine j_callSv lk_X6_72 wST_X6_isDigit (tX6_isDigit  (a0 := s_1) (w := w)) (by omega) rfl rfl (Nat.le_of_ble_eq_true rfl) dX6_kindOf_19 ?_
    refine jr_if_eq (tgt := 38) (nxt := 25) dX6_kindOf_22 (by decide) rfl (fun hc => ?_) (fun hc => ?_)
    · replace h := drvT hc h
      refine jr_iload_n dX6_kindOf_38 rfl 0 rfl ?_
      refine j_callSv lk_X6_68 wST_X6_isLetter (tX6_isLetter  (a0 := s_1) (w := w)) (by omega) rfl rfl (Nat.le_of_ble_eq_true rfl) dX6_kindOf_39 ?_
      refine jr_if_eq (tgt := 52) (nxt := 45) dX6_kindOf_42 (by decide) rfl (fun hc => ?_) (fun hc => ?_)
      · replace h := drvT hc h
        refine jr_iload_n dX6_kindOf_52 rfl 0 rfl ?_
        refine jr_bipush (v := (59 : Int32)) dX6_kindOf_53 (by decide) ?_
        refine jr_icmp_ne (tgt := 60) (nxt := 58) dX6_kindOf_55 (by decide) rfl (fun hc => ?_) (fun hc => ?_)
        · replace h := drvE hc h
          refine jr_iload_n dX6_kindOf_60 rfl 0 rfl ?_
          refine jr_bipush (v := (40 : Int32)) dX6_kindOf_61 (by decide) ?_
          refine jr_icmp_ne (tgt := 68) (nxt := 66) dX6_kindOf_63 (by decide) rfl (fun hc => ?_) (fun hc => ?_)
          · replace h := drvE hc h
            refine jr_iload_n dX6_kindOf_68 rfl 0 rfl ?_
            refine jr_bipush (v := (41 : Int32)) dX6_kindOf_69 (by decide) ?_
            refine jr_icmp_ne (tgt := 78) (nxt := 74) dX6_kindOf_71 (by decide) rfl (fun hc => ?_) (fun hc => ?_)
            · replace h := drvE hc h
              refine jr_iconst (v := (1 : Int32)) dX6_kindOf_78 (by decide) ?_
              obtain rfl := drvS1 h
              exact jr_iret rfl dX6_kindOf_79
            · replace h := drvT hc h
              refine jr_iconst (v := (5 : Int32)) dX6_kindOf_74 (by decide) ?_
              refine jr_goto (tgt := 79) dX6_kindOf_75 (by decide) ?_
              obtain rfl := drvS1 h
              exact jr_iret rfl dX6_kindOf_79
          · replace h := drvT hc h
            refine jr_iconst (v := (4 : Int32)) dX6_kindOf_66 (by decide) ?_
            obtain rfl := drvS1 h
            exact jr_iret rfl dX6_kindOf_67
        · replace h := drvT hc h
          refine jr_iconst (v := (3 : Int32)) dX6_kindOf_58 (by decide) ?_
          obtain rfl := drvS1 h
          exact jr_iret rfl dX6_kindOf_59
      · replace h := drvE hc h
        refine jr_aload_n dX6_kindOf_45 rfl 1 rfl ?_
        refine jr_iload_n dX6_kindOf_46 rfl 2 rfl ?_
        refine jr_iload_n dX6_kindOf_47 rfl 3 rfl ?_
        obtain ⟨r_4, hq_3, h⟩ := drvB h
        refine j_callSv lk_X6_78 wST_X6_wordKind (tX6_wordKind hk_a0 hq_3) (by omega) rfl rfl (Nat.le_of_ble_eq_true rfl) dX6_kindOf_48 ?_
        obtain rfl := drvS1 h
        exact jr_iret rfl dX6_kindOf_51
    · replace h := drvE hc h
      refine jr_iload_n dX6_kindOf_25 rfl 3 rfl ?_
      refine jr_iload_n dX6_kindOf_26 rfl 2 rfl ?_
      refine jr_isub dX6_kindOf_27 ?_
      refine jr_iconst (v := (3 : Int32)) dX6_kindOf_28 (by decide) ?_
      refine jr_icmp_le (tgt := 36) (nxt := 32) dX6_kindOf_29 (by decide) rfl (fun hc => ?_) (fun hc => ?_)
      · replace h := drvT hc h
        refine jr_iconst (v := (2 : Int32)) dX6_kindOf_36 (by decide) ?_
        obtain rfl := drvS1 h
        exact jr_iret rfl dX6_kindOf_37
      · replace h := drvE hc h
        refine jr_iconst (v := (1 : Int32)) dX6_kindOf_32 (by decide) ?_
        refine jr_goto (tgt := 37) dX6_kindOf_33 (by decide) ?_
        obtain rfl := drvS1 h
        exact jr_iret rfl dX6_kindOf_37
  obtain ⟨j16_5, ej16_5, h⟩ := drvF h
  have hj16_5 : ∀ (_ : Unit), j16_5 = some r → J MX6_kindOf 9 w 16 [(0, .ref a0), (1, .int a1), (2, .int a2)] [] (some (.int r)) w := by
    intro _ h
    rw [ej16_5] at h
    try dsimp only at h
    refine jr_iconst (v := (0 : Int32)) dX6_kindOf_16 (by decide) ?_
    refine jr_sub [0, 1, 2] rfl ?_
    exact hj17_2 _ h
  refine jr_if_lt (tgt := 16) (nxt := 4) dX6_kindOf_1 (by decide) rfl (fun hc => ?_) (fun hc => ?_)
  · replace h := drvT hc h
    refine jr_sub [0, 1, 2] rfl ?_
    exact (hj16_5 ()) h
  · replace h := drvE hc h
    refine jr_iload_n dX6_kindOf_4 rfl 1 rfl ?_
    refine jr_aload_n dX6_kindOf_5 rfl 0 rfl ?_
    refine jr_alen hk_a0 (by decide) (by decide) dX6_kindOf_6 ?_
    refine jr_icmp_ge (tgt := 16) (nxt := 10) dX6_kindOf_7 (by decide) rfl (fun hc => ?_) (fun hc => ?_)
    · replace h := drvT hc h
      refine jr_sub [0, 1, 2] rfl ?_
      exact (hj16_5 ()) h
    · replace h := drvE hc h
      refine jr_aload_n dX6_kindOf_10 rfl 0 rfl ?_
      refine jr_iload_n dX6_kindOf_11 rfl 1 rfl ?_
      obtain ⟨hg_6, h⟩ := drvG h
      refine jr_bald hk_a0 hg_6 dX6_kindOf_12 ?_
      refine jr_goto (tgt := 17) dX6_kindOf_13 (by decide) ?_
      refine jr_sub [0, 1, 2] rfl ?_
      exact hj17_2 _ h
set_option maxHeartbeats 4000000 in
set_option maxRecDepth 100000 in
theorem hbX6_numberOf_24 {n : Nat} {p0 : Nat} {p2 : Int32} {w : jWd} {r : Int32} {rec : Int32 → Int32 → Option Int32} (hk_p0 : kd p0 = 12) 
    (hrec : ∀ (x3 : Int32) (x4 : Int32) , rec x3 x4 = some r → J MX6_numberOf 2 w 24 [(0, .ref p0), (2, .int p2), (3, .int x3), (4, .int x4)] [] (some (.int r)) w) : ∀ (x3 : Int32) (x4 : Int32) , bX6_numberOf_24 n p0 p2 w rec x3 x4 = some r → J MX6_numberOf 2 w 24 [(0, .ref p0), (2, .int p2), (3, .int x3), (4, .int x4)] [] (some (.int r)) w := by
  intro x3 x4 h
  unfold bX6_numberOf_24 at h
  refine jr_iload dX6_numberOf_24 3 rfl ?_
  refine jr_iload_n dX6_numberOf_26 rfl 1 rfl ?_
  refine jr_icmp_ge (tgt := 59) (nxt := 30) dX6_numberOf_27 (by decide) rfl (fun hc => ?_) (fun hc => ?_)
  · replace h := drvT hc h
    refine jr_iload_n dX6_numberOf_59 rfl 2 rfl ?_
    obtain rfl := drvS1 h
    exact jr_iret rfl dX6_numberOf_60
  · replace h := drvE hc h
    refine jr_aload_n dX6_numberOf_30 rfl 0 rfl ?_
    refine jr_iload dX6_numberOf_31 3 rfl ?_
    obtain ⟨hg_1, h⟩ := drvG h
    refine jr_bald hk_p0 hg_1 dX6_numberOf_33 ?_
    refine j_callSv lk_X6_72 wST_X6_isDigit (tX6_isDigit  (a0 := (wI w p0 (x4).toNatClampNeg)) (w := w)) (by omega) rfl rfl (Nat.le_of_ble_eq_true rfl) dX6_numberOf_34 ?_
    refine jr_if_eq (tgt := 53) (nxt := 40) dX6_numberOf_37 (by decide) rfl (fun hc => ?_) (fun hc => ?_)
    · replace h := drvT hc h
      refine jr_iincN (c := (1 : Int32)) (lv' := fun (x4_2 : Int32) => [(4, .int x4_2), (0, .ref p0), (2, .int p2), (3, .int x3)]) dX6_numberOf_53 (by decide) 3 rfl (by decide) (fun _ => rfl) (fun x4_2 e_3 => ?_)
      replace h := drvL e_3 h
      refine jr_goto (tgt := 24) dX6_numberOf_56 (by decide) ?_
      refine jr_sub [1, 2, 3, 0] rfl ?_
      exact hrec _ _ h
    · replace h := drvE hc h
      refine jr_bipush (v := (10 : Int32)) dX6_numberOf_40 (by decide) ?_
      refine jr_iload_n dX6_numberOf_42 rfl 2 rfl ?_
      refine jr_imul dX6_numberOf_43 ?_
      refine jr_aload_n dX6_numberOf_44 rfl 0 rfl ?_
      refine jr_iload dX6_numberOf_45 3 rfl ?_
      obtain ⟨hg_4, h⟩ := drvG h
      refine jr_bald hk_p0 hg_4 dX6_numberOf_47 ?_
      refine jr_iadd dX6_numberOf_48 ?_
      refine jr_bipush (v := (48 : Int32)) dX6_numberOf_49 (by decide) ?_
      refine jr_isub dX6_numberOf_51 ?_
      refine j_nmi (fun x3_5 e_6 => ?_)
      replace h := drvL e_6 h
      refine jr_istore_n (lv' := [(3, .int x3_5), (0, .ref p0), (2, .int p2), (4, .int x4)]) dX6_numberOf_52 rfl (by decide) rfl ?_
      refine jr_iincN (c := (1 : Int32)) (lv' := fun (x4_7 : Int32) => [(4, .int x4_7), (3, .int x3_5), (0, .ref p0), (2, .int p2)]) dX6_numberOf_53 (by decide) 3 rfl (by decide) (fun _ => rfl) (fun x4_7 e_8 => ?_)
      replace h := drvL e_8 h
      refine jr_goto (tgt := 24) dX6_numberOf_56 (by decide) ?_
      refine jr_sub [2, 3, 1, 0] rfl ?_
      exact hrec _ _ h
theorem hlX6_numberOf_24 {n : Nat} {p0 : Nat} {p2 : Int32} {w : jWd} {r : Int32} (hk_p0 : kd p0 = 12)  : ∀ (c : Nat) (x3 : Int32) (x4 : Int32) , lX6_numberOf_24 n p0 p2 w c x3 x4 = some r → J MX6_numberOf 2 w 24 [(0, .ref p0), (2, .int p2), (3, .int x3), (4, .int x4)] [] (some (.int r)) w := by
  intro c
  induction c with
  | zero => intro x3 x4 h; cases h
  | succ c ih => intro x3 x4 h; exact hbX6_numberOf_24 (n := n) hk_p0 ih _ _ h
set_option maxHeartbeats 4000000 in
set_option maxRecDepth 100000 in
theorem tX6_numberOf {n : Nat} {a0 : Nat} {a1 : Int32} {a2 : Int32} {w : jWd} {r : Int32} (hk_a0 : kd a0 = 12) (h : fX6_numberOf n a0 a1 a2 w = some r) : JM yX6_numberOf MX6_numberOf 2 [.ref a0, .int a1, .int a2] w (some (.int r)) w := by
  refine jm_of pl_X6 rfl (Nat.le_of_ble_eq_true rfl) ?_
  show J MX6_numberOf 2 w 0 [(0, .ref a0), (1, .int a1), (2, .int a2)] [] (some (.int r)) w
  unfold fX6_numberOf at h
  refine jr_iload_n dX6_numberOf_0 rfl 1 rfl ?_
  refine jr_if_lt (tgt := 17) (nxt := 4) dX6_numberOf_1 (by decide) rfl (fun hc => ?_) (fun hc => ?_)
  · replace h := drvT hc h
    refine jr_iconst (v := (0 : Int32)) dX6_numberOf_17 (by decide) ?_
    obtain rfl := drvS1 h
    exact jr_iret rfl dX6_numberOf_18
  · replace h := drvE hc h
    refine jr_iload_n dX6_numberOf_4 rfl 2 rfl ?_
    refine jr_aload_n dX6_numberOf_5 rfl 0 rfl ?_
    refine jr_alen hk_a0 (by decide) (by decide) dX6_numberOf_6 ?_
    refine jr_icmp_gt (tgt := 17) (nxt := 10) dX6_numberOf_7 (by decide) rfl (fun hc => ?_) (fun hc => ?_)
    · replace h := drvT hc h
      refine jr_iconst (v := (0 : Int32)) dX6_numberOf_17 (by decide) ?_
      obtain rfl := drvS1 h
      exact jr_iret rfl dX6_numberOf_18
    · replace h := drvE hc h
      refine jr_iload_n dX6_numberOf_10 rfl 2 rfl ?_
      refine jr_iload_n dX6_numberOf_11 rfl 1 rfl ?_
      refine jr_isub dX6_numberOf_12 ?_
      refine jr_iconst (v := (3 : Int32)) dX6_numberOf_13 (by decide) ?_
      refine jr_icmp_le (tgt := 19) (nxt := 17) dX6_numberOf_14 (by decide) rfl (fun hc => ?_) (fun hc => ?_)
      · replace h := drvT hc h
        refine jr_iconst (v := (0 : Int32)) dX6_numberOf_19 (by decide) ?_
        refine jr_istore_n (lv' := [(3, .int (0 : Int32)), (0, .ref a0), (1, .int a1), (2, .int a2)]) dX6_numberOf_20 rfl (by decide) rfl ?_
        refine jr_iload_n dX6_numberOf_21 rfl 2 rfl ?_
        refine jr_istore (lv' := [(4, .int a1), (3, .int (0 : Int32)), (0, .ref a0), (1, .int a1), (2, .int a2)]) dX6_numberOf_22 (by decide) rfl ?_
        refine jr_sub [2, 4, 1, 0] rfl ?_
        refine hlX6_numberOf_24 hk_a0  _ _ _ h
      · replace h := drvE hc h
        refine jr_iconst (v := (0 : Int32)) dX6_numberOf_17 (by decide) ?_
        obtain rfl := drvS1 h
        exact jr_iret rfl dX6_numberOf_18
set_option maxHeartbeats 4000000 in
set_option maxRecDepth 100000 in
theorem tX6_putToken {a0 : Int32} {a1 : Int32} {a2 : Int32} {w : jWd} {w' : jWd}  (h : fX6_putToken a0 a1 a2 w = some w') : JM yX6_putToken MX6_putToken 1 [.ref 189, .int a0, .int a1, .int a2] w none w' := by
  refine jm_of pl_X6 rfl (Nat.le_of_ble_eq_true rfl) ?_
  show J MX6_putToken 1 w 0 [(0, .ref 189), (1, .int a0), (2, .int a1), (3, .int a2)] [] none w'
  unfold fX6_putToken at h
  refine jr_aload_n dX6_putToken_0 rfl 0 rfl ?_
  refine gf_X6_42 rfl (rfl : kd 189 = 5) dX6_putToken_1 ?_
  refine jr_sipush (v := (400 : Int32)) dX6_putToken_4 (by decide) ?_
  refine jr_icmp_le (tgt := 11) (nxt := 10) dX6_putToken_7 (by decide) rfl (fun hc => ?_) (fun hc => ?_)
  · replace h := drvT hc h
    refine jr_aload_n dX6_putToken_11 rfl 0 rfl ?_
    refine gf_X6_25 (r := 199) rfl (rfl : kd 189 = 5) rfl dX6_putToken_12 ?_
    refine jr_aload_n dX6_putToken_15 rfl 0 rfl ?_
    refine gf_X6_42 rfl (rfl : kd 189 = 5) dX6_putToken_16 ?_
    refine jr_iload_n dX6_putToken_19 rfl 1 rfl ?_
    obtain ⟨hg_3, h⟩ := drvG h
    refine jr_iast (rfl : kd 199 = 13) hg_3 dX6_putToken_20 ?_
    refine j_nmw (fun w_1 e_2 => ?_)
    replace h := drvL e_2 h
    refine jr_aload_n dX6_putToken_21 rfl 0 rfl ?_
    refine gf_X6_29 (r := 200) rfl (rfl : kd 189 = 5) rfl dX6_putToken_22 ?_
    refine jr_aload_n dX6_putToken_25 rfl 0 rfl ?_
    refine gf_X6_42 rfl (rfl : kd 189 = 5) dX6_putToken_26 ?_
    refine jr_iload_n dX6_putToken_29 rfl 2 rfl ?_
    obtain ⟨hg_6, h⟩ := drvG h
    refine jr_iast (rfl : kd 200 = 13) hg_6 dX6_putToken_30 ?_
    refine j_nmw (fun w_4 e_5 => ?_)
    replace h := drvL e_5 h
    refine jr_aload_n dX6_putToken_31 rfl 0 rfl ?_
    refine gf_X6_32 (r := 201) rfl (rfl : kd 189 = 5) rfl dX6_putToken_32 ?_
    refine jr_aload_n dX6_putToken_35 rfl 0 rfl ?_
    refine gf_X6_42 rfl (rfl : kd 189 = 5) dX6_putToken_36 ?_
    refine jr_iload_n dX6_putToken_39 rfl 3 rfl ?_
    obtain ⟨hg_9, h⟩ := drvG h
    refine jr_iast (rfl : kd 201 = 13) hg_9 dX6_putToken_40 ?_
    refine j_nmw (fun w_7 e_8 => ?_)
    replace h := drvL e_8 h
    refine jr_aload_n dX6_putToken_41 rfl 0 rfl ?_
    refine jr_dup dX6_putToken_42 rfl ?_
    refine gf_X6_42 rfl (rfl : kd 189 = 5) dX6_putToken_43 ?_
    refine jr_iconst (v := (1 : Int32)) dX6_putToken_46 (by decide) ?_
    refine jr_iadd dX6_putToken_47 ?_
    refine pf_X6_42 rfl (rfl : kd 189 = 5) dX6_putToken_48 ?_
    refine j_nmw (fun w_10 e_11 => ?_)
    replace h := drvL e_11 h
    obtain rfl := drvS1 h
    exact jr_vret rfl dX6_putToken_51
  · replace h := drvE hc h
    obtain rfl := drvS1 h
    exact jr_vret rfl dX6_putToken_10
set_option maxHeartbeats 4000000 in
set_option maxRecDepth 100000 in
theorem tX6_readNumber {a0 : Int32} {a1 : Int32} {a2 : Int32} {w : jWd} {r : Int32} {w' : jWd}  (h : fX6_readNumber a0 a1 a2 w = some (r, w')) : JM yX6_readNumber MX6_readNumber 2 [.ref 189, .int a0, .int a1, .int a2] w (some (.int r)) w' := by
  refine jm_of pl_X6 rfl (Nat.le_of_ble_eq_true rfl) ?_
  show J MX6_readNumber 2 w 0 [(0, .ref 189), (1, .int a0), (2, .int a1), (3, .int a2)] [] (some (.int r)) w'
  unfold fX6_readNumber at h
  refine jr_aload_n dX6_readNumber_0 rfl 0 rfl ?_
  refine jr_iconst (v := (2 : Int32)) dX6_readNumber_1 (by decide) ?_
  obtain ⟨r_2, hq_1, h⟩ := drvB h
  refine j_callVv lk_X6_124 wIM_X6_isAt wSE_X6_isAt (rfl : kd 189 = 5) (by decide) rfl (tX6_isAt  hq_1) (by omega) rfl rfl (Nat.le_of_ble_eq_true rfl) dX6_readNumber_2 ?_
  refine jr_if_ne (tgt := 15) (nxt := 8) dX6_readNumber_5 (by decide) rfl (fun hc => ?_) (fun hc => ?_)
  · replace h := drvE hc h
    refine jr_aload_n dX6_readNumber_15 rfl 0 rfl ?_
    refine gf_X6_29 (r := 200) rfl (rfl : kd 189 = 5) rfl dX6_readNumber_16 ?_
    refine jr_aload_n dX6_readNumber_19 rfl 0 rfl ?_
    refine gf_X6_45 rfl (rfl : kd 189 = 5) dX6_readNumber_20 ?_
    obtain ⟨hg_3, h⟩ := drvG h
    refine jr_iald (rfl : kd 200 = 13) hg_3 dX6_readNumber_23 ?_
    refine j_nmi (fun x4_4 e_5 => ?_)
    replace h := drvL e_5 h
    refine jr_istore (lv' := [(4, .int x4_4), (0, .ref 189), (1, .int a0), (2, .int a1), (3, .int a2)]) dX6_readNumber_24 (by decide) rfl ?_
    refine jr_iload dX6_readNumber_26 0 rfl ?_
    refine jr_iload_n dX6_readNumber_28 rfl 2 rfl ?_
    obtain ⟨j55_7, ej55_7, h⟩ := drvF h
    have hj55_7 : ∀ (w_6 : jWd), j55_7 w_6 = some (r, w') → J MX6_readNumber 2 w_6 55 [(0, .ref 189), (4, .int x4_4)] [] (some (.int r)) w' := by
      intro w_6 h
      rw [ej55_7] at h
      try dsimp only at h
      refine jr_aload_n dX6_readNumber_55 rfl 0 rfl ?_
      refine jr_dup dX6_readNumber_56 rfl ?_
      refine gf_X6_45 rfl (rfl : kd 189 = 5) dX6_readNumber_57 ?_
      refine jr_iconst (v := (1 : Int32)) dX6_readNumber_60 (by decide) ?_
      refine jr_iadd dX6_readNumber_61 ?_
      refine pf_X6_45 rfl (rfl : kd 189 = 5) dX6_readNumber_62 ?_
      refine j_nmw (fun w_8 e_9 => ?_)
      replace h := drvL e_9 h
      refine jr_iload dX6_readNumber_65 1 rfl ?_
      obtain ⟨rfl, rfl⟩ := drvS2 h
      exact jr_iret rfl dX6_readNumber_67
    obtain ⟨j38_10, ej38_10, h⟩ := drvF h
    have hj38_10 : ∀ (_ : Unit), j38_10 = some (r, w') → J MX6_readNumber 2 w 38 [(0, .ref 189), (4, .int x4_4)] [] (some (.int r)) w' := by
      intro _ h
      rw [ej38_10] at h
      try dsimp only at h
      refine jr_aload_n dX6_readNumber_38 rfl 0 rfl ?_
      refine jr_iconst (v := (3 : Int32)) dX6_readNumber_39 (by decide) ?_
      obtain ⟨w_12, hq_11, h⟩ := drvB h
      refine j_callVn lk_X6_171 wIM_X6_blame wSE_X6_blame (rfl : kd 189 = 5) (by decide) rfl (tX6_blame  hq_11) (by omega) rfl rfl (Nat.le_of_ble_eq_true rfl) dX6_readNumber_40 ?_
      refine jr_goto (tgt := 55) dX6_readNumber_43 (by decide) ?_
      refine jr_sub [0, 1] rfl ?_
      exact hj55_7 _ h
    refine jr_icmp_lt (tgt := 38) (nxt := 32) dX6_readNumber_29 (by decide) rfl (fun hc => ?_) (fun hc => ?_)
    · replace h := drvT hc h
      refine jr_sub [1, 0] rfl ?_
      exact (hj38_10 ()) h
    · replace h := drvE hc h
      refine jr_iload dX6_readNumber_32 0 rfl ?_
      refine jr_iload_n dX6_readNumber_34 rfl 3 rfl ?_
      refine jr_icmp_le (tgt := 46) (nxt := 38) dX6_readNumber_35 (by decide) rfl (fun hc => ?_) (fun hc => ?_)
      · replace h := drvT hc h
        refine jr_iload_n dX6_readNumber_46 rfl 4 rfl ?_
        refine jr_if_eq (tgt := 55) (nxt := 50) dX6_readNumber_47 (by decide) rfl (fun hc => ?_) (fun hc => ?_)
        · replace h := drvT hc h
          refine jr_sub [1, 0] rfl ?_
          exact hj55_7 _ h
        · replace h := drvE hc h
          refine jr_aload_n dX6_readNumber_50 rfl 1 rfl ?_
          refine jr_iconst (v := (4 : Int32)) dX6_readNumber_51 (by decide) ?_
          obtain ⟨w_14, hq_13, h⟩ := drvB h
          refine j_callVn lk_X6_171 wIM_X6_blame wSE_X6_blame (rfl : kd 189 = 5) (by decide) rfl (tX6_blame  hq_13) (by omega) rfl rfl (Nat.le_of_ble_eq_true rfl) dX6_readNumber_52 ?_
          refine jr_sub [1, 0] rfl ?_
          exact hj55_7 _ h
      · replace h := drvE hc h
        refine jr_sub [1, 0] rfl ?_
        exact (hj38_10 ()) h
  · replace h := drvT hc h
    refine jr_aload_n dX6_readNumber_8 rfl 0 rfl ?_
    refine jr_iconst (v := (2 : Int32)) dX6_readNumber_9 (by decide) ?_
    obtain ⟨w_16, hq_15, h⟩ := drvB h
    refine j_callVn lk_X6_171 wIM_X6_blame wSE_X6_blame (rfl : kd 189 = 5) (by decide) rfl (tX6_blame  hq_15) (by omega) rfl rfl (Nat.le_of_ble_eq_true rfl) dX6_readNumber_10 ?_
    refine jr_iconst (v := (0 : Int32)) dX6_readNumber_13 (by decide) ?_
    obtain ⟨rfl, rfl⟩ := drvS2 h
    exact jr_iret rfl dX6_readNumber_14
set_option maxHeartbeats 4000000 in
set_option maxRecDepth 100000 in
theorem tX6_readPlainFact {a0 : Int32} {a1 : Int32} {a2 : Int32} {w : jWd} {w' : jWd}  (h : fX6_readPlainFact a0 a1 a2 w = some w') : JM yX6_readPlainFact MX6_readPlainFact 3 [.ref 189, .int a0, .int a1, .int a2] w none w' := by
  refine jm_of pl_X6 rfl (Nat.le_of_ble_eq_true rfl) ?_
  show J MX6_readPlainFact 3 w 0 [(0, .ref 189), (1, .int a0), (2, .int a1), (3, .int a2)] [] none w'
  unfold fX6_readPlainFact at h
  refine jr_aload_n dX6_readPlainFact_0 rfl 0 rfl ?_
  refine jr_dup dX6_readPlainFact_1 rfl ?_
  refine gf_X6_45 rfl (rfl : kd 189 = 5) dX6_readPlainFact_2 ?_
  refine jr_iconst (v := (1 : Int32)) dX6_readPlainFact_5 (by decide) ?_
  refine jr_iadd dX6_readPlainFact_6 ?_
  refine pf_X6_45 rfl (rfl : kd 189 = 5) dX6_readPlainFact_7 ?_
  refine j_nmw (fun w_1 e_2 => ?_)
  replace h := drvL e_2 h
  refine jr_aload_n dX6_readPlainFact_10 rfl 0 rfl ?_
  refine gf_X6_12 (r := 190) rfl (rfl : kd 189 = 5) rfl dX6_readPlainFact_11 ?_
  refine jr_iload_n dX6_readPlainFact_14 rfl 1 rfl ?_
  refine jr_aload_n dX6_readPlainFact_15 rfl 0 rfl ?_
  refine jr_iload_n dX6_readPlainFact_16 rfl 2 rfl ?_
  refine jr_iload_n dX6_readPlainFact_17 rfl 3 rfl ?_
  refine jr_iconst (v := (0 : Int32)) dX6_readPlainFact_18 (by decide) ?_
  obtain ⟨r_5, w_4, hq_3, h⟩ := drvB2 h
  refine j_callVv lk_X6_151 wIM_X6_readNumber wSE_X6_readNumber (rfl : kd 189 = 5) (by decide) rfl (tX6_readNumber  hq_3) (by omega) rfl rfl (Nat.le_of_ble_eq_true rfl) dX6_readPlainFact_19 ?_
  obtain ⟨w_7, hq_6, h⟩ := drvB h
  refine j_callVn lk_X6_164 wIM_X1_emit wSE_X1_emit (rfl : kd 190 = 1) (by decide) rfl (tX1_emit (rfl : kd 190 = 1) hq_6) (by omega) rfl rfl (Nat.le_of_ble_eq_true rfl) dX6_readPlainFact_22 ?_
  obtain rfl := drvS1 h
  exact jr_vret rfl dX6_readPlainFact_25
set_option maxHeartbeats 4000000 in
set_option maxRecDepth 100000 in
theorem tX6_take {a0 : Int32} {w : jWd} {w' : jWd}  (h : fX6_take a0 w = some w') : JM yX6_take MX6_take 2 [.ref 189, .int a0] w none w' := by
  refine jm_of pl_X6 rfl (Nat.le_of_ble_eq_true rfl) ?_
  show J MX6_take 2 w 0 [(0, .ref 189), (1, .int a0)] [] none w'
  unfold fX6_take at h
  refine jr_aload_n dX6_take_0 rfl 0 rfl ?_
  refine jr_iload_n dX6_take_1 rfl 1 rfl ?_
  obtain ⟨r_2, hq_1, h⟩ := drvB h
  refine j_callVv lk_X6_124 wIM_X6_isAt wSE_X6_isAt (rfl : kd 189 = 5) (by decide) rfl (tX6_isAt  hq_1) (by omega) rfl rfl (Nat.le_of_ble_eq_true rfl) dX6_take_2 ?_
  refine jr_if_eq (tgt := 21) (nxt := 8) dX6_take_5 (by decide) rfl (fun hc => ?_) (fun hc => ?_)
  · replace h := drvT hc h
    refine jr_aload_n dX6_take_21 rfl 0 rfl ?_
    refine jr_iconst (v := (2 : Int32)) dX6_take_22 (by decide) ?_
    obtain ⟨w_4, hq_3, h⟩ := drvB h
    refine j_callVn lk_X6_171 wIM_X6_blame wSE_X6_blame (rfl : kd 189 = 5) (by decide) rfl (tX6_blame  hq_3) (by omega) rfl rfl (Nat.le_of_ble_eq_true rfl) dX6_take_23 ?_
    obtain rfl := drvS1 h
    exact jr_vret rfl dX6_take_26
  · replace h := drvE hc h
    refine jr_aload_n dX6_take_8 rfl 0 rfl ?_
    refine jr_dup dX6_take_9 rfl ?_
    refine gf_X6_45 rfl (rfl : kd 189 = 5) dX6_take_10 ?_
    refine jr_iconst (v := (1 : Int32)) dX6_take_13 (by decide) ?_
    refine jr_iadd dX6_take_14 ?_
    refine pf_X6_45 rfl (rfl : kd 189 = 5) dX6_take_15 ?_
    refine j_nmw (fun w_5 e_6 => ?_)
    replace h := drvL e_6 h
    refine jr_goto (tgt := 26) dX6_take_18 (by decide) ?_
    obtain rfl := drvS1 h
    exact jr_vret rfl dX6_take_26
set_option maxHeartbeats 4000000 in
set_option maxRecDepth 100000 in
theorem hbX6_readTest_23 {n : Nat} {fact : Int32 → jWd → Option jWd} {p1 : Int32} {p2 : Int32} {k77 : jWd → (Option jWd)} {w' : jWd} {df : Nat} (hdf : 4 ≤ df) {rec : Int32 → jWd → Option jWd} (hfact : ∀ (a0 : Int32) (w w' : jWd), fact a0 w = some w' → JM yX6_readFact MX6_readFact df [.ref 189, .int a0] w none w') (hk77 : ∀ (w9 : jWd), k77 w9 = some w' → J MX6_readTest (df + 1) w9 77 [(0, .ref 189), (1, .int p1), (2, .int p2)] [] none w')
    (hrec : ∀ (x3 : Int32) (w : jWd) , rec x3 w = some w' → J MX6_readTest (df + 1) w 23 [(0, .ref 189), (1, .int p1), (2, .int p2), (3, .int x3)] [] none w') : ∀ (x3 : Int32) (w : jWd) , bX6_readTest_23 n fact p1 p2 k77 rec x3 w = some w' → J MX6_readTest (df + 1) w 23 [(0, .ref 189), (1, .int p1), (2, .int p2), (3, .int x3)] [] none w' := by
  intro x3 w h
  unfold bX6_readTest_23 at h
  refine jr_iload_n dX6_readTest_23 rfl 3 rfl ?_
  refine jr_sipush (v := (400 : Int32)) dX6_readTest_24 (by decide) ?_
  refine jr_icmp_ge (tgt := 77) (nxt := 30) dX6_readTest_27 (by decide) rfl (fun hc => ?_) (fun hc => ?_)
  · replace h := drvT hc h
    refine jr_sub [0, 1, 2] rfl ?_
    exact hk77 _ h
  · replace h := drvE hc h
    refine jr_aload_n dX6_readTest_30 rfl 0 rfl ?_
    refine gf_X6_35 rfl (rfl : kd 189 = 5) dX6_readTest_31 ?_
    refine jr_if_ne (tgt := 77) (nxt := 37) dX6_readTest_34 (by decide) rfl (fun hc => ?_) (fun hc => ?_)
    · replace h := drvE hc h
      refine jr_sub [0, 1, 2] rfl ?_
      exact hk77 _ h
    · replace h := drvT hc h
      refine jr_aload_n dX6_readTest_37 rfl 0 rfl ?_
      refine jr_bipush (v := (9 : Int32)) dX6_readTest_38 (by decide) ?_
      obtain ⟨r_4, hq_3, h⟩ := drvB h
      refine j_callVv lk_X6_124 wIM_X6_isAt wSE_X6_isAt (rfl : kd 189 = 5) (by decide) rfl (tX6_isAt  hq_3) (by omega) rfl rfl (Nat.le_of_ble_eq_true rfl) dX6_readTest_40 ?_
      refine jr_if_eq (tgt := 77) (nxt := 46) dX6_readTest_43 (by decide) rfl (fun hc => ?_) (fun hc => ?_)
      · replace h := drvT hc h
        refine jr_sub [0, 1, 2] rfl ?_
        exact hk77 _ h
      · replace h := drvE hc h
        refine jr_aload_n dX6_readTest_46 rfl 0 rfl ?_
        refine jr_dup dX6_readTest_47 rfl ?_
        refine gf_X6_45 rfl (rfl : kd 189 = 5) dX6_readTest_48 ?_
        refine jr_iconst (v := (1 : Int32)) dX6_readTest_51 (by decide) ?_
        refine jr_iadd dX6_readTest_52 ?_
        refine pf_X6_45 rfl (rfl : kd 189 = 5) dX6_readTest_53 ?_
        refine j_nmw (fun w_5 e_6 => ?_)
        replace h := drvL e_6 h
        refine jr_aload_n dX6_readTest_56 rfl 0 rfl ?_
        refine jr_iload_n dX6_readTest_57 rfl 1 rfl ?_
        obtain ⟨w_8, hq_7, h⟩ := drvB h
        refine j_callVn lk_X6_161 wIM_X6_readFact wSE_X6_readFact (rfl : kd 189 = 5) (by decide) rfl (hfact _ _ _  hq_7) (by omega) rfl rfl (Nat.le_of_ble_eq_true rfl) dX6_readTest_58 ?_
        refine jr_aload_n dX6_readTest_61 rfl 0 rfl ?_
        refine gf_X6_12 (r := 190) rfl (rfl : kd 189 = 5) rfl dX6_readTest_62 ?_
        refine jr_bipush (v := (9 : Int32)) dX6_readTest_65 (by decide) ?_
        refine jr_iconst (v := (0 : Int32)) dX6_readTest_67 (by decide) ?_
        obtain ⟨w_10, hq_9, h⟩ := drvB h
        refine j_callVn lk_X6_164 wIM_X1_emit wSE_X1_emit (rfl : kd 190 = 1) (by decide) rfl (tX1_emit (rfl : kd 190 = 1) hq_9) (by omega) rfl rfl (Nat.le_of_ble_eq_true rfl) dX6_readTest_68 ?_
        refine jr_iincN (c := (1 : Int32)) (lv' := fun (x3_11 : Int32) => [(3, .int x3_11), (0, .ref 189), (1, .int p1), (2, .int p2)]) dX6_readTest_71 (by decide) 3 rfl (by decide) (fun _ => rfl) (fun x3_11 e_12 => ?_)
        replace h := drvL e_12 h
        refine jr_goto (tgt := 23) dX6_readTest_74 (by decide) ?_
        refine jr_sub [1, 2, 3, 0] rfl ?_
        exact hrec _ _ h
theorem hlX6_readTest_23 {n : Nat} {fact : Int32 → jWd → Option jWd} {p1 : Int32} {p2 : Int32} {k77 : jWd → (Option jWd)} {w' : jWd} {df : Nat} (hdf : 4 ≤ df) (hfact : ∀ (a0 : Int32) (w w' : jWd), fact a0 w = some w' → JM yX6_readFact MX6_readFact df [.ref 189, .int a0] w none w') (hk77 : ∀ (w9 : jWd), k77 w9 = some w' → J MX6_readTest (df + 1) w9 77 [(0, .ref 189), (1, .int p1), (2, .int p2)] [] none w') : ∀ (c : Nat) (x3 : Int32) (w : jWd) , lX6_readTest_23 n fact p1 p2 k77 c x3 w = some w' → J MX6_readTest (df + 1) w 23 [(0, .ref 189), (1, .int p1), (2, .int p2), (3, .int x3)] [] none w' := by
  intro c
  induction c with
  | zero => intro x3 w h; cases h
  | succ c ih => intro x3 w h; exact hbX6_readTest_23 (n := n) hdf hfact hk77 ih _ _ h
set_option maxHeartbeats 4000000 in
set_option maxRecDepth 100000 in
theorem hbX6_readTest_2 {n : Nat} {fact : Int32 → jWd → Option jWd} {p1 : Int32} {w' : jWd} {df : Nat} (hdf : 4 ≤ df) {rec : Int32 → jWd → Option jWd} (hfact : ∀ (a0 : Int32) (w w' : jWd), fact a0 w = some w' → JM yX6_readFact MX6_readFact df [.ref 189, .int a0] w none w') 
    (hrec : ∀ (x2 : Int32) (w : jWd) , rec x2 w = some w' → J MX6_readTest (df + 1) w 2 [(0, .ref 189), (1, .int p1), (2, .int x2)] [] none w') : ∀ (x2 : Int32) (w : jWd) , bX6_readTest_2 n fact p1 rec x2 w = some w' → J MX6_readTest (df + 1) w 2 [(0, .ref 189), (1, .int p1), (2, .int x2)] [] none w' := by
  intro x2 w h
  unfold bX6_readTest_2 at h
  refine jr_iload_n dX6_readTest_2 rfl 2 rfl ?_
  refine jr_sipush (v := (400 : Int32)) dX6_readTest_3 (by decide) ?_
  refine jr_icmp_ge (tgt := 117) (nxt := 9) dX6_readTest_6 (by decide) rfl (fun hc => ?_) (fun hc => ?_)
  · replace h := drvT hc h
    obtain rfl := drvS1 h
    exact jr_vret rfl dX6_readTest_117
  · replace h := drvE hc h
    refine jr_aload_n dX6_readTest_9 rfl 0 rfl ?_
    refine gf_X6_35 rfl (rfl : kd 189 = 5) dX6_readTest_10 ?_
    refine jr_if_ne (tgt := 117) (nxt := 16) dX6_readTest_13 (by decide) rfl (fun hc => ?_) (fun hc => ?_)
    · replace h := drvE hc h
      obtain rfl := drvS1 h
      exact jr_vret rfl dX6_readTest_117
    · replace h := drvT hc h
      refine jr_aload_n dX6_readTest_16 rfl 0 rfl ?_
      refine jr_iload_n dX6_readTest_17 rfl 1 rfl ?_
      obtain ⟨w_2, hq_1, h⟩ := drvB h
      refine j_callVn lk_X6_161 wIM_X6_readFact wSE_X6_readFact (rfl : kd 189 = 5) (by decide) rfl (hfact _ _ _  hq_1) (by omega) rfl rfl (Nat.le_of_ble_eq_true rfl) dX6_readTest_18 ?_
      refine jr_iconst (v := (0 : Int32)) dX6_readTest_21 (by decide) ?_
      refine jr_istore_n (lv' := [(3, .int (0 : Int32)), (0, .ref 189), (1, .int p1), (2, .int x2)]) dX6_readTest_22 rfl (by decide) rfl ?_
      refine jr_sub [1, 2, 3, 0] rfl ?_
      refine hlX6_readTest_23 hdf hfact ?_ _ _ _ h
      · intro w_13 h
        try dsimp only at h
        refine jr_iload_n dX6_readTest_77 rfl 2 rfl ?_
        obtain ⟨j91_15, ej91_15, h⟩ := drvF h
        have hj91_15 : ∀ (w_14 : jWd), j91_15 w_14 = some w' → J MX6_readTest (df + 1) w_14 91 [(0, .ref 189), (1, .int p1), (2, .int x2)] [] none w' := by
          intro w_14 h
          rw [ej91_15] at h
          try dsimp only at h
          refine jr_aload_n dX6_readTest_91 rfl 0 rfl ?_
          refine jr_bipush (v := (8 : Int32)) dX6_readTest_92 (by decide) ?_
          obtain ⟨r_17, hq_16, h⟩ := drvB h
          refine j_callVv lk_X6_124 wIM_X6_isAt wSE_X6_isAt (rfl : kd 189 = 5) (by decide) rfl (tX6_isAt  hq_16) (by omega) rfl rfl (Nat.le_of_ble_eq_true rfl) dX6_readTest_94 ?_
          refine jr_if_ne (tgt := 101) (nxt := 100) dX6_readTest_97 (by decide) rfl (fun hc => ?_) (fun hc => ?_)
          · replace h := drvE hc h
            refine jr_aload_n dX6_readTest_101 rfl 0 rfl ?_
            refine jr_dup dX6_readTest_102 rfl ?_
            refine gf_X6_45 rfl (rfl : kd 189 = 5) dX6_readTest_103 ?_
            refine jr_iconst (v := (1 : Int32)) dX6_readTest_106 (by decide) ?_
            refine jr_iadd dX6_readTest_107 ?_
            refine pf_X6_45 rfl (rfl : kd 189 = 5) dX6_readTest_108 ?_
            refine j_nmw (fun w_18 e_19 => ?_)
            replace h := drvL e_19 h
            refine jr_iincN (c := (1 : Int32)) (lv' := fun (x2_20 : Int32) => [(2, .int x2_20), (0, .ref 189), (1, .int p1)]) dX6_readTest_111 (by decide) 2 rfl (by decide) (fun _ => rfl) (fun x2_20 e_21 => ?_)
            replace h := drvL e_21 h
            refine jr_goto (tgt := 2) dX6_readTest_114 (by decide) ?_
            refine jr_sub [1, 2, 0] rfl ?_
            exact hrec _ _ h
          · replace h := drvT hc h
            obtain rfl := drvS1 h
            exact jr_vret rfl dX6_readTest_100
        refine jr_if_le (tgt := 91) (nxt := 81) dX6_readTest_78 (by decide) rfl (fun hc => ?_) (fun hc => ?_)
        · replace h := drvT hc h
          refine jr_sub [0, 1, 2] rfl ?_
          exact hj91_15 _ h
        · replace h := drvE hc h
          refine jr_aload_n dX6_readTest_81 rfl 0 rfl ?_
          refine gf_X6_12 (r := 190) rfl (rfl : kd 189 = 5) rfl dX6_readTest_82 ?_
          refine jr_bipush (v := (8 : Int32)) dX6_readTest_85 (by decide) ?_
          refine jr_iconst (v := (0 : Int32)) dX6_readTest_87 (by decide) ?_
          obtain ⟨w_23, hq_22, h⟩ := drvB h
          refine j_callVn lk_X6_164 wIM_X1_emit wSE_X1_emit (rfl : kd 190 = 1) (by decide) rfl (tX1_emit (rfl : kd 190 = 1) hq_22) (by omega) rfl rfl (Nat.le_of_ble_eq_true rfl) dX6_readTest_88 ?_
          refine jr_sub [0, 1, 2] rfl ?_
          exact hj91_15 _ h
theorem hlX6_readTest_2 {n : Nat} {fact : Int32 → jWd → Option jWd} {p1 : Int32} {w' : jWd} {df : Nat} (hdf : 4 ≤ df) (hfact : ∀ (a0 : Int32) (w w' : jWd), fact a0 w = some w' → JM yX6_readFact MX6_readFact df [.ref 189, .int a0] w none w')  : ∀ (c : Nat) (x2 : Int32) (w : jWd) , lX6_readTest_2 n fact p1 c x2 w = some w' → J MX6_readTest (df + 1) w 2 [(0, .ref 189), (1, .int p1), (2, .int x2)] [] none w' := by
  intro c
  induction c with
  | zero => intro x2 w h; cases h
  | succ c ih => intro x2 w h; exact hbX6_readTest_2 (n := n) hdf hfact ih _ _ h
set_option maxHeartbeats 4000000 in
set_option maxRecDepth 100000 in
theorem gX6_readTest {n : Nat} {fact : Int32 → jWd → Option jWd} {a0 : Int32} {w : jWd} {w' : jWd} {df : Nat} (hdf : 4 ≤ df) (hfact : ∀ (a0 : Int32) (w w' : jWd), fact a0 w = some w' → JM yX6_readFact MX6_readFact df [.ref 189, .int a0] w none w')  (h : fX6_readTestG n fact a0 w = some w') : JM yX6_readTest MX6_readTest (df + 1) [.ref 189, .int a0] w none w' := by
  refine jm_of pl_X6 rfl (Nat.le_of_ble_eq_true rfl) ?_
  show J MX6_readTest (df + 1) w 0 [(0, .ref 189), (1, .int a0)] [] none w'
  unfold fX6_readTestG at h
  refine jr_iconst (v := (0 : Int32)) dX6_readTest_0 (by decide) ?_
  refine jr_istore_n (lv' := [(2, .int (0 : Int32)), (0, .ref 189), (1, .int a0)]) dX6_readTest_1 rfl (by decide) rfl ?_
  refine jr_sub [1, 2, 0] rfl ?_
  refine hlX6_readTest_2 hdf hfact  _ _ _ h
set_option maxHeartbeats 4000000 in
set_option maxRecDepth 100000 in
theorem gX6_readFact {n : Nat} {fact : Int32 → jWd → Option jWd} {a0 : Int32} {w : jWd} {w' : jWd} {df : Nat} (hdf : 4 ≤ df) (hfact : ∀ (a0 : Int32) (w w' : jWd), fact a0 w = some w' → JM yX6_readFact MX6_readFact df [.ref 189, .int a0] w none w')  (h : fX6_readFactB n fact a0 w = some w') : JM yX6_readFact MX6_readFact (df + 3) [.ref 189, .int a0] w none w' := by
  refine jm_of pl_X6 rfl (Nat.le_of_ble_eq_true rfl) ?_
  show J MX6_readFact (df + 3) w 0 [(0, .ref 189), (1, .int a0)] [] none w'
  unfold fX6_readFactB at h
  refine jr_aload_n dX6_readFact_0 rfl 0 rfl ?_
  refine gf_X6_35 rfl (rfl : kd 189 = 5) dX6_readFact_1 ?_
  refine jr_if_eq (tgt := 8) (nxt := 7) dX6_readFact_4 (by decide) rfl (fun hc => ?_) (fun hc => ?_)
  · replace h := drvT hc h
    refine jr_aload_n dX6_readFact_8 rfl 0 rfl ?_
    refine jr_bipush (v := (11 : Int32)) dX6_readFact_9 (by decide) ?_
    obtain ⟨r_2, hq_1, h⟩ := drvB h
    refine j_callVv lk_X6_124 wIM_X6_isAt wSE_X6_isAt (rfl : kd 189 = 5) (by decide) rfl (tX6_isAt  hq_1) (by omega) rfl rfl (Nat.le_of_ble_eq_true rfl) dX6_readFact_11 ?_
    refine jr_if_eq (tgt := 30) (nxt := 17) dX6_readFact_14 (by decide) rfl (fun hc => ?_) (fun hc => ?_)
    · replace h := drvT hc h
      refine jr_aload_n dX6_readFact_30 rfl 0 rfl ?_
      refine jr_bipush (v := (12 : Int32)) dX6_readFact_31 (by decide) ?_
      obtain ⟨r_4, hq_3, h⟩ := drvB h
      refine j_callVv lk_X6_124 wIM_X6_isAt wSE_X6_isAt (rfl : kd 189 = 5) (by decide) rfl (tX6_isAt  hq_3) (by omega) rfl rfl (Nat.le_of_ble_eq_true rfl) dX6_readFact_33 ?_
      refine jr_if_eq (tgt := 51) (nxt := 39) dX6_readFact_36 (by decide) rfl (fun hc => ?_) (fun hc => ?_)
      · replace h := drvT hc h
        refine jr_aload_n dX6_readFact_51 rfl 0 rfl ?_
        refine jr_bipush (v := (13 : Int32)) dX6_readFact_52 (by decide) ?_
        obtain ⟨r_6, hq_5, h⟩ := drvB h
        refine j_callVv lk_X6_124 wIM_X6_isAt wSE_X6_isAt (rfl : kd 189 = 5) (by decide) rfl (tX6_isAt  hq_5) (by omega) rfl rfl (Nat.le_of_ble_eq_true rfl) dX6_readFact_54 ?_
        refine jr_if_eq (tgt := 72) (nxt := 60) dX6_readFact_57 (by decide) rfl (fun hc => ?_) (fun hc => ?_)
        · replace h := drvT hc h
          refine jr_aload_n dX6_readFact_72 rfl 0 rfl ?_
          refine jr_bipush (v := (10 : Int32)) dX6_readFact_73 (by decide) ?_
          obtain ⟨r_8, hq_7, h⟩ := drvB h
          refine j_callVv lk_X6_124 wIM_X6_isAt wSE_X6_isAt (rfl : kd 189 = 5) (by decide) rfl (tX6_isAt  hq_7) (by omega) rfl rfl (Nat.le_of_ble_eq_true rfl) dX6_readFact_75 ?_
          obtain ⟨j97_9, ej97_9, h⟩ := drvF h
          have hj97_9 : ∀ (_ : Unit), j97_9 = some w' → J MX6_readFact (df + 3) w 97 [(0, .ref 189), (1, .int a0)] [] none w' := by
            intro _ h
            rw [ej97_9] at h
            try dsimp only at h
            refine jr_iload_n dX6_readFact_97 rfl 1 rfl ?_
            refine jr_bipush (v := (8 : Int32)) dX6_readFact_98 (by decide) ?_
            refine jr_icmp_lt (tgt := 111) (nxt := 103) dX6_readFact_100 (by decide) rfl (fun hc => ?_) (fun hc => ?_)
            · replace h := drvT hc h
              refine jr_aload_n dX6_readFact_111 rfl 0 rfl ?_
              refine jr_bipush (v := (10 : Int32)) dX6_readFact_112 (by decide) ?_
              obtain ⟨r_11, hq_10, h⟩ := drvB h
              refine j_callVv lk_X6_124 wIM_X6_isAt wSE_X6_isAt (rfl : kd 189 = 5) (by decide) rfl (tX6_isAt  hq_10) (by omega) rfl rfl (Nat.le_of_ble_eq_true rfl) dX6_readFact_114 ?_
              refine jr_if_eq (tgt := 150) (nxt := 120) dX6_readFact_117 (by decide) rfl (fun hc => ?_) (fun hc => ?_)
              · replace h := drvT hc h
                refine jr_aload_n dX6_readFact_150 rfl 0 rfl ?_
                refine jr_dup dX6_readFact_151 rfl ?_
                refine gf_X6_45 rfl (rfl : kd 189 = 5) dX6_readFact_152 ?_
                refine jr_iconst (v := (1 : Int32)) dX6_readFact_155 (by decide) ?_
                refine jr_iadd dX6_readFact_156 ?_
                refine pf_X6_45 rfl (rfl : kd 189 = 5) dX6_readFact_157 ?_
                refine j_nmw (fun w_12 e_13 => ?_)
                replace h := drvL e_13 h
                refine jr_aload_n dX6_readFact_160 rfl 0 rfl ?_
                refine jr_iload_n dX6_readFact_161 rfl 1 rfl ?_
                refine jr_iconst (v := (1 : Int32)) dX6_readFact_162 (by decide) ?_
                refine jr_iadd dX6_readFact_163 ?_
                obtain ⟨w_15, hq_14, h⟩ := drvB h
                refine j_callVn lk_X6_144 wIM_X6_readTest wSE_X6_readTest (rfl : kd 189 = 5) (by decide) rfl (gX6_readTest hdf hfact  hq_14) (by omega) rfl rfl (Nat.le_of_ble_eq_true rfl) dX6_readFact_164 ?_
                refine jr_aload_n dX6_readFact_167 rfl 0 rfl ?_
                refine jr_iconst (v := (5 : Int32)) dX6_readFact_168 (by decide) ?_
                obtain ⟨w_17, hq_16, h⟩ := drvB h
                refine j_callVn lk_X6_137 wIM_X6_take wSE_X6_take (rfl : kd 189 = 5) (by decide) rfl (tX6_take  hq_16) (by omega) rfl rfl (Nat.le_of_ble_eq_true rfl) dX6_readFact_169 ?_
                obtain rfl := drvS1 h
                exact jr_vret rfl dX6_readFact_172
              · replace h := drvE hc h
                refine jr_aload_n dX6_readFact_120 rfl 0 rfl ?_
                refine jr_dup dX6_readFact_121 rfl ?_
                refine gf_X6_45 rfl (rfl : kd 189 = 5) dX6_readFact_122 ?_
                refine jr_iconst (v := (1 : Int32)) dX6_readFact_125 (by decide) ?_
                refine jr_iadd dX6_readFact_126 ?_
                refine pf_X6_45 rfl (rfl : kd 189 = 5) dX6_readFact_127 ?_
                refine j_nmw (fun w_18 e_19 => ?_)
                replace h := drvL e_19 h
                refine jr_aload_n dX6_readFact_130 rfl 0 rfl ?_
                refine jr_iload_n dX6_readFact_131 rfl 1 rfl ?_
                refine jr_iconst (v := (1 : Int32)) dX6_readFact_132 (by decide) ?_
                refine jr_iadd dX6_readFact_133 ?_
                obtain ⟨w_21, hq_20, h⟩ := drvB h
                refine j_callVn lk_X6_161 wIM_X6_readFact wSE_X6_readFact (rfl : kd 189 = 5) (by decide) rfl (hfact _ _ _  hq_20) (by omega) rfl rfl (Nat.le_of_ble_eq_true rfl) dX6_readFact_134 ?_
                refine jr_aload_n dX6_readFact_137 rfl 0 rfl ?_
                refine gf_X6_12 (r := 190) rfl (rfl : kd 189 = 5) rfl dX6_readFact_138 ?_
                refine jr_bipush (v := (10 : Int32)) dX6_readFact_141 (by decide) ?_
                refine jr_iconst (v := (0 : Int32)) dX6_readFact_143 (by decide) ?_
                obtain ⟨w_23, hq_22, h⟩ := drvB h
                refine j_callVn lk_X6_164 wIM_X1_emit wSE_X1_emit (rfl : kd 190 = 1) (by decide) rfl (tX1_emit (rfl : kd 190 = 1) hq_22) (by omega) rfl rfl (Nat.le_of_ble_eq_true rfl) dX6_readFact_144 ?_
                refine jr_goto (tgt := 172) dX6_readFact_147 (by decide) ?_
                obtain rfl := drvS1 h
                exact jr_vret rfl dX6_readFact_172
            · replace h := drvE hc h
              refine jr_aload_n dX6_readFact_103 rfl 0 rfl ?_
              refine jr_iconst (v := (5 : Int32)) dX6_readFact_104 (by decide) ?_
              obtain ⟨w_25, hq_24, h⟩ := drvB h
              refine j_callVn lk_X6_171 wIM_X6_blame wSE_X6_blame (rfl : kd 189 = 5) (by decide) rfl (tX6_blame  hq_24) (by omega) rfl rfl (Nat.le_of_ble_eq_true rfl) dX6_readFact_105 ?_
              refine jr_goto (tgt := 172) dX6_readFact_108 (by decide) ?_
              obtain rfl := drvS1 h
              exact jr_vret rfl dX6_readFact_172
          refine jr_if_ne (tgt := 97) (nxt := 81) dX6_readFact_78 (by decide) rfl (fun hc => ?_) (fun hc => ?_)
          · replace h := drvE hc h
            refine jr_sub [0, 1] rfl ?_
            exact (hj97_9 ()) h
          · replace h := drvT hc h
            refine jr_aload_n dX6_readFact_81 rfl 0 rfl ?_
            refine jr_iconst (v := (4 : Int32)) dX6_readFact_82 (by decide) ?_
            obtain ⟨r_27, hq_26, h⟩ := drvB h
            refine j_callVv lk_X6_124 wIM_X6_isAt wSE_X6_isAt (rfl : kd 189 = 5) (by decide) rfl (tX6_isAt  hq_26) (by omega) rfl rfl (Nat.le_of_ble_eq_true rfl) dX6_readFact_83 ?_
            refine jr_if_ne (tgt := 97) (nxt := 89) dX6_readFact_86 (by decide) rfl (fun hc => ?_) (fun hc => ?_)
            · replace h := drvE hc h
              refine jr_sub [0, 1] rfl ?_
              exact (hj97_9 ()) h
            · replace h := drvT hc h
              refine jr_aload_n dX6_readFact_89 rfl 0 rfl ?_
              refine jr_iconst (v := (2 : Int32)) dX6_readFact_90 (by decide) ?_
              obtain ⟨w_29, hq_28, h⟩ := drvB h
              refine j_callVn lk_X6_171 wIM_X6_blame wSE_X6_blame (rfl : kd 189 = 5) (by decide) rfl (tX6_blame  hq_28) (by omega) rfl rfl (Nat.le_of_ble_eq_true rfl) dX6_readFact_91 ?_
              refine jr_goto (tgt := 172) dX6_readFact_94 (by decide) ?_
              obtain rfl := drvS1 h
              exact jr_vret rfl dX6_readFact_172
        · replace h := drvE hc h
          refine jr_aload_n dX6_readFact_60 rfl 0 rfl ?_
          refine jr_bipush (v := (13 : Int32)) dX6_readFact_61 (by decide) ?_
          refine jr_iconst (v := (0 : Int32)) dX6_readFact_63 (by decide) ?_
          refine jr_bipush (v := (9 : Int32)) dX6_readFact_64 (by decide) ?_
          obtain ⟨w_31, hq_30, h⟩ := drvB h
          refine j_callVn lk_X6_168 wIM_X6_readPlainFact wSE_X6_readPlainFact (rfl : kd 189 = 5) (by decide) rfl (tX6_readPlainFact  hq_30) (by omega) rfl rfl (Nat.le_of_ble_eq_true rfl) dX6_readFact_66 ?_
          refine jr_goto (tgt := 172) dX6_readFact_69 (by decide) ?_
          obtain rfl := drvS1 h
          exact jr_vret rfl dX6_readFact_172
      · replace h := drvE hc h
        refine jr_aload_n dX6_readFact_39 rfl 0 rfl ?_
        refine jr_bipush (v := (12 : Int32)) dX6_readFact_40 (by decide) ?_
        refine jr_iconst (v := (1 : Int32)) dX6_readFact_42 (by decide) ?_
        refine jr_bipush (v := (8 : Int32)) dX6_readFact_43 (by decide) ?_
        obtain ⟨w_33, hq_32, h⟩ := drvB h
        refine j_callVn lk_X6_168 wIM_X6_readPlainFact wSE_X6_readPlainFact (rfl : kd 189 = 5) (by decide) rfl (tX6_readPlainFact  hq_32) (by omega) rfl rfl (Nat.le_of_ble_eq_true rfl) dX6_readFact_45 ?_
        refine jr_goto (tgt := 172) dX6_readFact_48 (by decide) ?_
        obtain rfl := drvS1 h
        exact jr_vret rfl dX6_readFact_172
    · replace h := drvE hc h
      refine jr_aload_n dX6_readFact_17 rfl 0 rfl ?_
      refine jr_bipush (v := (11 : Int32)) dX6_readFact_18 (by decide) ?_
      refine jr_iconst (v := (1 : Int32)) dX6_readFact_20 (by decide) ?_
      refine jr_sipush (v := (255 : Int32)) dX6_readFact_21 (by decide) ?_
      obtain ⟨w_35, hq_34, h⟩ := drvB h
      refine j_callVn lk_X6_168 wIM_X6_readPlainFact wSE_X6_readPlainFact (rfl : kd 189 = 5) (by decide) rfl (tX6_readPlainFact  hq_34) (by omega) rfl rfl (Nat.le_of_ble_eq_true rfl) dX6_readFact_24 ?_
      refine jr_goto (tgt := 172) dX6_readFact_27 (by decide) ?_
      obtain rfl := drvS1 h
      exact jr_vret rfl dX6_readFact_172
  · replace h := drvE hc h
    obtain rfl := drvS1 h
    exact jr_vret rfl dX6_readFact_7
theorem rX6_readFact {n : Nat} : ∀ (r : Nat) (a : Int32) (w w' : jWd), fX6_readFact n r a w = some w' → JM yX6_readFact MX6_readFact (4 + 3 * r) [.ref 189, .int a] w none w' := by
  intro r
  induction r with
  | zero => intro a w w' h; cases h
  | succ r ih => intro a w w' h; exact gX6_readFact (df := 4 + 3 * r) (by omega) (fun a w w' h => ih a w w' h) h
theorem tX6_readTest {n : Nat} {a0 : Int32} {w w' : jWd} (h : fX6_readTest n a0 w = some w') : JM yX6_readTest MX6_readTest 41 [.ref 189, .int a0] w none w' := gX6_readTest (df := 4 + 3 * 12) (by omega) (fun a w w' h => rX6_readFact 12 a w w' h) h
set_option maxHeartbeats 4000000 in
set_option maxRecDepth 100000 in
theorem hbX6_readSide_5 {n : Nat} {p1 : Int32} {r : Int64} {w' : jWd} {rec : Int64 → Int32 → jWd → Option (Int64 × jWd)} 
    (hrec : ∀ (x2 : Int64) (x4 : Int32) (w : jWd) , rec x2 x4 w = some (r, w') → J MX6_readSide 3 w 5 [(0, .ref 189), (1, .int p1), (2, .long x2), (4, .int x4)] [] (some (.long r)) w') : ∀ (x2 : Int64) (x4 : Int32) (w : jWd) , bX6_readSide_5 n p1 rec x2 x4 w = some (r, w') → J MX6_readSide 3 w 5 [(0, .ref 189), (1, .int p1), (2, .long x2), (4, .int x4)] [] (some (.long r)) w' := by
  intro x2 x4 w h
  unfold bX6_readSide_5 at h
  refine jr_iload dX6_readSide_5 3 rfl ?_
  refine jr_iconst (v := (4 : Int32)) dX6_readSide_7 (by decide) ?_
  refine jr_icmp_gt (tgt := 78) (nxt := 11) dX6_readSide_8 (by decide) rfl (fun hc => ?_) (fun hc => ?_)
  · replace h := drvT hc h
    refine jr_lload_n dX6_readSide_78 rfl 2 rfl ?_
    obtain ⟨rfl, rfl⟩ := drvS2 h
    exact jr_lret rfl dX6_readSide_79
  · replace h := drvE hc h
    refine jr_aload_n dX6_readSide_11 rfl 0 rfl ?_
    refine gf_X6_35 rfl (rfl : kd 189 = 5) dX6_readSide_12 ?_
    refine jr_if_ne (tgt := 78) (nxt := 18) dX6_readSide_15 (by decide) rfl (fun hc => ?_) (fun hc => ?_)
    · replace h := drvE hc h
      refine jr_lload_n dX6_readSide_78 rfl 2 rfl ?_
      obtain ⟨rfl, rfl⟩ := drvS2 h
      exact jr_lret rfl dX6_readSide_79
    · replace h := drvT hc h
      refine jr_iload dX6_readSide_18 3 rfl ?_
      obtain ⟨j33_1, ej33_1, h⟩ := drvF h
      have hj33_1 : ∀ (_ : Unit), j33_1 = some (r, w') → J MX6_readSide 3 w 33 [(0, .ref 189), (1, .int p1), (2, .long x2), (4, .int x4)] [] (some (.long r)) w' := by
        intro _ h
        rw [ej33_1] at h
        try dsimp only at h
        refine jr_aload_n dX6_readSide_33 rfl 0 rfl ?_
        refine jr_iconst (v := (1 : Int32)) dX6_readSide_34 (by decide) ?_
        refine jr_sipush (v := (255 : Int32)) dX6_readSide_35 (by decide) ?_
        refine jr_iload_n dX6_readSide_38 rfl 1 rfl ?_
        obtain ⟨j53_3, ej53_3, h⟩ := drvF h
        have hj53_3 : ∀ (s_2 : Int32), j53_3 s_2 = some (r, w') → J MX6_readSide 3 w 53 [(0, .ref 189), (1, .int p1), (2, .long x2), (4, .int x4)] [.int s_2, .int (255 : Int32), .int (1 : Int32), .ref 189] (some (.long r)) w' := by
          intro s_2 h
          rw [ej53_3] at h
          try dsimp only at h
          obtain ⟨r_6, w_5, hq_4, h⟩ := drvB2 h
          refine j_callVv lk_X6_151 wIM_X6_readNumber wSE_X6_readNumber (rfl : kd 189 = 5) (by decide) rfl (tX6_readNumber  hq_4) (by omega) rfl rfl (Nat.le_of_ble_eq_true rfl) dX6_readSide_53 ?_
          refine jr_istore (lv' := [(5, .int r_6), (0, .ref 189), (1, .int p1), (2, .long x2), (4, .int x4)]) dX6_readSide_56 (by decide) rfl ?_
          refine jr_lload_n dX6_readSide_58 rfl 3 rfl ?_
          refine jr_iload dX6_readSide_59 0 rfl ?_
          refine jr_i2l dX6_readSide_61 ?_
          refine jr_bipush (v := (56 : Int32)) dX6_readSide_62 (by decide) ?_
          refine jr_lshl dX6_readSide_64 ?_
          refine jr_iload dX6_readSide_65 4 rfl ?_
          refine j_callSv lk_X6_155 wST_X4_behind (tX4_behind  (a0 := (l_shl ((r_6).toInt64) (56 : Int32))) (a1 := x4) (w := w_5)) (by omega) rfl rfl (Nat.le_of_ble_eq_true rfl) dX6_readSide_67 ?_
          refine jr_lor dX6_readSide_70 ?_
          refine j_nml (fun x2_7 e_8 => ?_)
          replace h := drvL e_8 h
          refine jr_lstore_n (lv' := [(2, .long x2_7), (5, .int r_6), (0, .ref 189), (1, .int p1), (4, .int x4)]) dX6_readSide_71 rfl (by decide) rfl ?_
          refine jr_iincN (c := (1 : Int32)) (lv' := fun (x4_9 : Int32) => [(4, .int x4_9), (2, .long x2_7), (5, .int r_6), (0, .ref 189), (1, .int p1)]) dX6_readSide_72 (by decide) 4 rfl (by decide) (fun _ => rfl) (fun x4_9 e_10 => ?_)
          replace h := drvL e_10 h
          refine jr_goto (tgt := 5) dX6_readSide_75 (by decide) ?_
          refine jr_sub [3, 4, 1, 0] rfl ?_
          exact hrec _ _ _ h
        obtain ⟨j48_11, ej48_11, h⟩ := drvF h
        have hj48_11 : ∀ (_ : Unit), j48_11 = some (r, w') → J MX6_readSide 3 w 48 [(0, .ref 189), (1, .int p1), (2, .long x2), (4, .int x4)] [.int (255 : Int32), .int (1 : Int32), .ref 189] (some (.long r)) w' := by
          intro _ h
          rw [ej48_11] at h
          try dsimp only at h
          refine jr_iconst (v := (1 : Int32)) dX6_readSide_48 (by decide) ?_
          refine jr_goto (tgt := 53) dX6_readSide_49 (by decide) ?_
          refine jr_sub [0, 1, 2, 3] rfl ?_
          exact hj53_3 _ h
        refine jr_if_ne (tgt := 48) (nxt := 42) dX6_readSide_39 (by decide) rfl (fun hc => ?_) (fun hc => ?_)
        · replace h := drvE hc h
          refine jr_sub [0, 1, 2, 3] rfl ?_
          exact (hj48_11 ()) h
        · replace h := drvT hc h
          refine jr_iload dX6_readSide_42 3 rfl ?_
          refine jr_iconst (v := (4 : Int32)) dX6_readSide_44 (by decide) ?_
          refine jr_icmp_ne (tgt := 52) (nxt := 48) dX6_readSide_45 (by decide) rfl (fun hc => ?_) (fun hc => ?_)
          · replace h := drvE hc h
            refine jr_iconst (v := (0 : Int32)) dX6_readSide_52 (by decide) ?_
            refine jr_sub [0, 1, 2, 3] rfl ?_
            exact hj53_3 _ h
          · replace h := drvT hc h
            refine jr_sub [0, 1, 2, 3] rfl ?_
            exact (hj48_11 ()) h
      refine jr_if_le (tgt := 33) (nxt := 23) dX6_readSide_20 (by decide) rfl (fun hc => ?_) (fun hc => ?_)
      · replace h := drvT hc h
        refine jr_sub [0, 1, 2, 3] rfl ?_
        exact (hj33_1 ()) h
      · replace h := drvE hc h
        refine jr_aload_n dX6_readSide_23 rfl 0 rfl ?_
        refine jr_iconst (v := (2 : Int32)) dX6_readSide_24 (by decide) ?_
        obtain ⟨r_13, hq_12, h⟩ := drvB h
        refine j_callVv lk_X6_124 wIM_X6_isAt wSE_X6_isAt (rfl : kd 189 = 5) (by decide) rfl (tX6_isAt  hq_12) (by omega) rfl rfl (Nat.le_of_ble_eq_true rfl) dX6_readSide_25 ?_
        refine jr_if_ne (tgt := 33) (nxt := 31) dX6_readSide_28 (by decide) rfl (fun hc => ?_) (fun hc => ?_)
        · replace h := drvE hc h
          refine jr_sub [0, 1, 2, 3] rfl ?_
          exact (hj33_1 ()) h
        · replace h := drvT hc h
          refine jr_lload_n dX6_readSide_31 rfl 2 rfl ?_
          obtain ⟨rfl, rfl⟩ := drvS2 h
          exact jr_lret rfl dX6_readSide_32
theorem hlX6_readSide_5 {n : Nat} {p1 : Int32} {r : Int64} {w' : jWd}  : ∀ (c : Nat) (x2 : Int64) (x4 : Int32) (w : jWd) , lX6_readSide_5 n p1 c x2 x4 w = some (r, w') → J MX6_readSide 3 w 5 [(0, .ref 189), (1, .int p1), (2, .long x2), (4, .int x4)] [] (some (.long r)) w' := by
  intro c
  induction c with
  | zero => intro x2 x4 w h; cases h
  | succ c ih => intro x2 x4 w h; exact hbX6_readSide_5 (n := n) ih _ _ _ h
set_option maxHeartbeats 4000000 in
set_option maxRecDepth 100000 in
theorem tX6_readSide {n : Nat} {a0 : Int32} {w : jWd} {r : Int64} {w' : jWd}  (h : fX6_readSide n a0 w = some (r, w')) : JM yX6_readSide MX6_readSide 3 [.ref 189, .int a0] w (some (.long r)) w' := by
  refine jm_of pl_X6 rfl (Nat.le_of_ble_eq_true rfl) ?_
  show J MX6_readSide 3 w 0 [(0, .ref 189), (1, .int a0)] [] (some (.long r)) w'
  unfold fX6_readSide at h
  refine jr_lconst (v := (0 : Int64)) dX6_readSide_0 rfl ?_
  refine jr_lstore_n (lv' := [(2, .long (0 : Int64)), (0, .ref 189), (1, .int a0)]) dX6_readSide_1 rfl (by decide) rfl ?_
  refine jr_iconst (v := (0 : Int32)) dX6_readSide_2 (by decide) ?_
  refine jr_istore (lv' := [(4, .int (0 : Int32)), (2, .long (0 : Int64)), (0, .ref 189), (1, .int a0)]) dX6_readSide_3 (by decide) rfl ?_
  refine jr_sub [2, 3, 1, 0] rfl ?_
  refine hlX6_readSide_5   _ _ _ _ h
set_option maxHeartbeats 4000000 in
set_option maxRecDepth 100000 in
theorem tX6_readRule {n : Nat} {w : jWd} {w' : jWd}  (h : fX6_readRule n w = some w') : JM yX6_readRule MX6_readRule 42 [.ref 189] w none w' := by
  refine jm_of pl_X6 rfl (Nat.le_of_ble_eq_true rfl) ?_
  show J MX6_readRule 42 w 0 [(0, .ref 189)] [] none w'
  unfold fX6_readRule at h
  refine jr_aload_n dX6_readRule_0 rfl 0 rfl ?_
  refine jr_aload_n dX6_readRule_1 rfl 0 rfl ?_
  refine gf_X6_12 (r := 190) rfl (rfl : kd 189 = 5) rfl dX6_readRule_2 ?_
  refine gf_X6_130 rfl (rfl : kd 190 = 1) dX6_readRule_5 ?_
  refine jr_bipush (v := (12 : Int32)) dX6_readRule_8 (by decide) ?_
  obtain ⟨j18_2, ej18_2, h⟩ := drvF h
  have hj18_2 : ∀ (s_1 : Int32), j18_2 s_1 = some w' → J MX6_readRule 42 w 18 [(0, .ref 189)] [.int s_1, .ref 189] none w' := by
    intro s_1 h
    rw [ej18_2] at h
    try dsimp only at h
    obtain ⟨r_5, w_4, hq_3, h⟩ := drvB2 h
    refine j_callVv lk_X6_133 wIM_X6_readSide wSE_X6_readSide (rfl : kd 189 = 5) (by decide) rfl (tX6_readSide  hq_3) (by omega) rfl rfl (Nat.le_of_ble_eq_true rfl) dX6_readRule_18 ?_
    refine jr_lstore_n (lv' := [(1, .long r_5), (0, .ref 189)]) dX6_readRule_21 rfl (by decide) rfl ?_
    refine jr_aload_n dX6_readRule_22 rfl 1 rfl ?_
    refine jr_bipush (v := (6 : Int32)) dX6_readRule_23 (by decide) ?_
    obtain ⟨w_7, hq_6, h⟩ := drvB h
    refine j_callVn lk_X6_137 wIM_X6_take wSE_X6_take (rfl : kd 189 = 5) (by decide) rfl (tX6_take  hq_6) (by omega) rfl rfl (Nat.le_of_ble_eq_true rfl) dX6_readRule_25 ?_
    refine jr_aload_n dX6_readRule_28 rfl 1 rfl ?_
    refine jr_iconst (v := (0 : Int32)) dX6_readRule_29 (by decide) ?_
    obtain ⟨r_10, w_9, hq_8, h⟩ := drvB2 h
    refine j_callVv lk_X6_133 wIM_X6_readSide wSE_X6_readSide (rfl : kd 189 = 5) (by decide) rfl (tX6_readSide  hq_8) (by omega) rfl rfl (Nat.le_of_ble_eq_true rfl) dX6_readRule_30 ?_
    refine jr_lstore_n (lv' := [(3, .long r_10), (1, .long r_5), (0, .ref 189)]) dX6_readRule_33 rfl (by decide) rfl ?_
    refine jr_aload_n dX6_readRule_34 rfl 2 rfl ?_
    refine gf_X6_12 (r := 190) rfl (rfl : kd 189 = 5) rfl dX6_readRule_35 ?_
    refine gf_X6_141 rfl (rfl : kd 190 = 1) dX6_readRule_38 ?_
    refine j_nmi (fun x5_11 e_12 => ?_)
    replace h := drvL e_12 h
    refine jr_istore (lv' := [(5, .int x5_11), (3, .long r_10), (1, .long r_5), (0, .ref 189)]) dX6_readRule_41 (by decide) rfl ?_
    refine jr_aload_n dX6_readRule_43 rfl 3 rfl ?_
    refine jr_bipush (v := (7 : Int32)) dX6_readRule_44 (by decide) ?_
    obtain ⟨r_14, hq_13, h⟩ := drvB h
    refine j_callVv lk_X6_124 wIM_X6_isAt wSE_X6_isAt (rfl : kd 189 = 5) (by decide) rfl (tX6_isAt  hq_13) (by omega) rfl rfl (Nat.le_of_ble_eq_true rfl) dX6_readRule_46 ?_
    obtain ⟨j67_16, ej67_16, h⟩ := drvF h
    have hj67_16 : ∀ (w_15 : jWd), j67_16 w_15 = some w' → J MX6_readRule 42 w_15 67 [(0, .ref 189), (1, .long r_5), (3, .long r_10), (5, .int x5_11)] [] none w' := by
      intro w_15 h
      rw [ej67_16] at h
      try dsimp only at h
      refine jr_aload_n dX6_readRule_67 rfl 0 rfl ?_
      refine jr_iconst (v := (3 : Int32)) dX6_readRule_68 (by decide) ?_
      obtain ⟨w_18, hq_17, h⟩ := drvB h
      refine j_callVn lk_X6_137 wIM_X6_take wSE_X6_take (rfl : kd 189 = 5) (by decide) rfl (tX6_take  hq_17) (by omega) rfl rfl (Nat.le_of_ble_eq_true rfl) dX6_readRule_69 ?_
      refine jr_aload_n dX6_readRule_72 rfl 0 rfl ?_
      refine gf_X6_35 rfl (rfl : kd 189 = 5) dX6_readRule_73 ?_
      refine jr_if_ne (tgt := 90) (nxt := 79) dX6_readRule_76 (by decide) rfl (fun hc => ?_) (fun hc => ?_)
      · replace h := drvE hc h
        obtain rfl := drvS1 h
        exact jr_vret rfl dX6_readRule_90
      · replace h := drvT hc h
        refine jr_aload_n dX6_readRule_79 rfl 0 rfl ?_
        refine gf_X6_12 (r := 190) rfl (rfl : kd 189 = 5) rfl dX6_readRule_80 ?_
        refine jr_lload_n dX6_readRule_83 rfl 1 rfl ?_
        refine jr_lload_n dX6_readRule_84 rfl 2 rfl ?_
        refine jr_iload dX6_readRule_85 3 rfl ?_
        obtain ⟨w_20, hq_19, h⟩ := drvB h
        refine j_callVn lk_X6_147 wIM_X1_put wSE_X1_put (rfl : kd 190 = 1) (by decide) rfl (tX1_put (rfl : kd 190 = 1) hq_19) (by omega) rfl rfl (Nat.le_of_ble_eq_true rfl) dX6_readRule_87 ?_
        obtain rfl := drvS1 h
        exact jr_vret rfl dX6_readRule_90
    refine jr_if_eq (tgt := 67) (nxt := 52) dX6_readRule_49 (by decide) rfl (fun hc => ?_) (fun hc => ?_)
    · replace h := drvT hc h
      refine jr_sub [3, 2, 1, 0] rfl ?_
      exact hj67_16 _ h
    · replace h := drvE hc h
      refine jr_aload_n dX6_readRule_52 rfl 3 rfl ?_
      refine jr_dup dX6_readRule_53 rfl ?_
      refine gf_X6_45 rfl (rfl : kd 189 = 5) dX6_readRule_54 ?_
      refine jr_iconst (v := (1 : Int32)) dX6_readRule_57 (by decide) ?_
      refine jr_iadd dX6_readRule_58 ?_
      refine pf_X6_45 rfl (rfl : kd 189 = 5) dX6_readRule_59 ?_
      refine j_nmw (fun w_21 e_22 => ?_)
      replace h := drvL e_22 h
      refine jr_aload_n dX6_readRule_62 rfl 3 rfl ?_
      refine jr_iconst (v := (0 : Int32)) dX6_readRule_63 (by decide) ?_
      obtain ⟨w_24, hq_23, h⟩ := drvB h
      refine j_callVn lk_X6_144 wIM_X6_readTest wSE_X6_readTest (rfl : kd 189 = 5) (by decide) rfl (tX6_readTest  hq_23) (by omega) rfl rfl (Nat.le_of_ble_eq_true rfl) dX6_readRule_64 ?_
      refine jr_sub [3, 2, 1, 0] rfl ?_
      exact hj67_16 _ h
  refine jr_icmp_lt (tgt := 17) (nxt := 13) dX6_readRule_10 (by decide) rfl (fun hc => ?_) (fun hc => ?_)
  · replace h := drvT hc h
    refine jr_iconst (v := (0 : Int32)) dX6_readRule_17 (by decide) ?_
    refine jr_sub [0] rfl ?_
    exact hj18_2 _ h
  · replace h := drvE hc h
    refine jr_iconst (v := (1 : Int32)) dX6_readRule_13 (by decide) ?_
    refine jr_goto (tgt := 18) dX6_readRule_14 (by decide) ?_
    refine jr_sub [0] rfl ?_
    exact hj18_2 _ h
set_option maxHeartbeats 4000000 in
set_option maxRecDepth 100000 in
theorem hbX6_readFashion_9 {n : Nat} {w' : jWd} {rec : Int32 → jWd → Option jWd} 
    (hrec : ∀ (x1 : Int32) (w : jWd) , rec x1 w = some w' → J MX6_readFashion 43 w 9 [(0, .ref 189), (1, .int x1)] [] none w') : ∀ (x1 : Int32) (w : jWd) , bX6_readFashion_9 n rec x1 w = some w' → J MX6_readFashion 43 w 9 [(0, .ref 189), (1, .int x1)] [] none w' := by
  intro x1 w h
  unfold bX6_readFashion_9 at h
  refine jr_iload_n dX6_readFashion_9 rfl 1 rfl ?_
  refine jr_bipush (v := (12 : Int32)) dX6_readFashion_10 (by decide) ?_
  refine jr_icmp_gt (tgt := 40) (nxt := 15) dX6_readFashion_12 (by decide) rfl (fun hc => ?_) (fun hc => ?_)
  · replace h := drvT hc h
    obtain rfl := drvS1 h
    exact jr_vret rfl dX6_readFashion_40
  · replace h := drvE hc h
    refine jr_aload_n dX6_readFashion_15 rfl 0 rfl ?_
    refine gf_X6_35 rfl (rfl : kd 189 = 5) dX6_readFashion_16 ?_
    refine jr_if_ne (tgt := 40) (nxt := 22) dX6_readFashion_19 (by decide) rfl (fun hc => ?_) (fun hc => ?_)
    · replace h := drvE hc h
      obtain rfl := drvS1 h
      exact jr_vret rfl dX6_readFashion_40
    · replace h := drvT hc h
      refine jr_aload_n dX6_readFashion_22 rfl 0 rfl ?_
      refine jr_iconst (v := (0 : Int32)) dX6_readFashion_23 (by decide) ?_
      obtain ⟨r_4, hq_3, h⟩ := drvB h
      refine j_callVv lk_X6_124 wIM_X6_isAt wSE_X6_isAt (rfl : kd 189 = 5) (by decide) rfl (tX6_isAt  hq_3) (by omega) rfl rfl (Nat.le_of_ble_eq_true rfl) dX6_readFashion_24 ?_
      refine jr_if_ne (tgt := 40) (nxt := 30) dX6_readFashion_27 (by decide) rfl (fun hc => ?_) (fun hc => ?_)
      · replace h := drvE hc h
        obtain rfl := drvS1 h
        exact jr_vret rfl dX6_readFashion_40
      · replace h := drvT hc h
        refine jr_aload_n dX6_readFashion_30 rfl 0 rfl ?_
        obtain ⟨w_6, hq_5, h⟩ := drvB h
        refine j_callVn lk_X6_127 wIM_X6_readRule wSE_X6_readRule (rfl : kd 189 = 5) (by decide) rfl (tX6_readRule  hq_5) (by omega) rfl rfl (Nat.le_of_ble_eq_true rfl) dX6_readFashion_31 ?_
        refine jr_iincN (c := (1 : Int32)) (lv' := fun (x1_7 : Int32) => [(1, .int x1_7), (0, .ref 189)]) dX6_readFashion_34 (by decide) 1 rfl (by decide) (fun _ => rfl) (fun x1_7 e_8 => ?_)
        replace h := drvL e_8 h
        refine jr_goto (tgt := 9) dX6_readFashion_37 (by decide) ?_
        refine jr_sub [1, 0] rfl ?_
        exact hrec _ _ h
theorem hlX6_readFashion_9 {n : Nat} {w' : jWd}  : ∀ (c : Nat) (x1 : Int32) (w : jWd) , lX6_readFashion_9 n c x1 w = some w' → J MX6_readFashion 43 w 9 [(0, .ref 189), (1, .int x1)] [] none w' := by
  intro c
  induction c with
  | zero => intro x1 w h; cases h
  | succ c ih => intro x1 w h; exact hbX6_readFashion_9 (n := n) ih _ _ h
set_option maxHeartbeats 4000000 in
set_option maxRecDepth 100000 in
theorem tX6_readFashion {n : Nat} {w : jWd} {w' : jWd}  (h : fX6_readFashion n w = some w') : JM yX6_readFashion MX6_readFashion 43 [.ref 189] w none w' := by
  refine jm_of pl_X6 rfl (Nat.le_of_ble_eq_true rfl) ?_
  show J MX6_readFashion 43 w 0 [(0, .ref 189)] [] none w'
  unfold fX6_readFashion at h
  refine jr_aload_n dX6_readFashion_0 rfl 0 rfl ?_
  refine gf_X6_12 (r := 190) rfl (rfl : kd 189 = 5) rfl dX6_readFashion_1 ?_
  obtain ⟨w_2, hq_1, h⟩ := drvB h
  refine j_callVn lk_X6_121 wIM_X1_clear wSE_X1_clear (rfl : kd 190 = 1) (by decide) rfl (tX1_clear (rfl : kd 190 = 1) hq_1) (by omega) rfl rfl (Nat.le_of_ble_eq_true rfl) dX6_readFashion_4 ?_
  refine jr_iconst (v := (0 : Int32)) dX6_readFashion_7 (by decide) ?_
  refine jr_istore_n (lv' := [(1, .int (0 : Int32)), (0, .ref 189)]) dX6_readFashion_8 rfl (by decide) rfl ?_
  refine jr_sub [1, 0] rfl ?_
  refine hlX6_readFashion_9   _ _ _ h
set_option maxHeartbeats 4000000 in
set_option maxRecDepth 100000 in
theorem tX6_readWay {w : jWd} {w' : jWd}  (h : fX6_readWay w = some w') : JM yX6_readWay MX6_readWay 3 [.ref 189] w none w' := by
  refine jm_of pl_X6 rfl (Nat.le_of_ble_eq_true rfl) ?_
  show J MX6_readWay 3 w 0 [(0, .ref 189)] [] none w'
  unfold fX6_readWay at h
  refine jr_aload_n dX6_readWay_0 rfl 0 rfl ?_
  refine jr_bipush (v := (14 : Int32)) dX6_readWay_1 (by decide) ?_
  obtain ⟨r_2, hq_1, h⟩ := drvB h
  refine j_callVv lk_X6_124 wIM_X6_isAt wSE_X6_isAt (rfl : kd 189 = 5) (by decide) rfl (tX6_isAt  hq_1) (by omega) rfl rfl (Nat.le_of_ble_eq_true rfl) dX6_readWay_3 ?_
  obtain ⟨j58_4, ej58_4, h⟩ := drvF h
  have hj58_4 : ∀ (s_3 : Int32), j58_4 s_3 = some w' → J MX6_readWay 3 w 58 [(0, .ref 189)] [.int s_3] none w' := by
    intro s_3 h
    rw [ej58_4] at h
    try dsimp only at h
    refine jr_istore_n (lv' := [(1, .int s_3), (0, .ref 189)]) dX6_readWay_58 rfl (by decide) rfl ?_
    refine jr_iload_n dX6_readWay_59 rfl 0 rfl ?_
    refine jr_bipush (v := (19 : Int32)) dX6_readWay_60 (by decide) ?_
    refine jr_icmp_ne (tgt := 73) (nxt := 65) dX6_readWay_62 (by decide) rfl (fun hc => ?_) (fun hc => ?_)
    · replace h := drvE hc h
      refine jr_aload_n dX6_readWay_73 rfl 1 rfl ?_
      refine gf_X6_21 (r := 197) rfl (rfl : kd 189 = 5) rfl dX6_readWay_74 ?_
      refine gf_X6_178 rfl (rfl : kd 197 = 3) dX6_readWay_77 ?_
      refine jr_bipush (v := (12 : Int32)) dX6_readWay_80 (by decide) ?_
      refine jr_icmp_lt (tgt := 93) (nxt := 85) dX6_readWay_82 (by decide) rfl (fun hc => ?_) (fun hc => ?_)
      · replace h := drvT hc h
        refine jr_aload_n dX6_readWay_93 rfl 1 rfl ?_
        refine jr_dup dX6_readWay_94 rfl ?_
        refine gf_X6_45 rfl (rfl : kd 189 = 5) dX6_readWay_95 ?_
        refine jr_iconst (v := (1 : Int32)) dX6_readWay_98 (by decide) ?_
        refine jr_iadd dX6_readWay_99 ?_
        refine pf_X6_45 rfl (rfl : kd 189 = 5) dX6_readWay_100 ?_
        refine j_nmw (fun w_5 e_6 => ?_)
        replace h := drvL e_6 h
        refine jr_iload_n dX6_readWay_103 rfl 0 rfl ?_
        refine jr_bipush (v := (17 : Int32)) dX6_readWay_104 (by decide) ?_
        obtain ⟨j161_8, ej161_8, h⟩ := drvF h
        have hj161_8 : ∀ (w_7 : jWd), j161_8 w_7 = some w' → J MX6_readWay 3 w_7 161 [(0, .ref 189)] [] none w' := by
          intro w_7 h
          rw [ej161_8] at h
          try dsimp only at h
          refine jr_aload_n dX6_readWay_161 rfl 0 rfl ?_
          refine jr_iconst (v := (3 : Int32)) dX6_readWay_162 (by decide) ?_
          obtain ⟨w_10, hq_9, h⟩ := drvB h
          refine j_callVn lk_X6_137 wIM_X6_take wSE_X6_take (rfl : kd 189 = 5) (by decide) rfl (tX6_take  hq_9) (by omega) rfl rfl (Nat.le_of_ble_eq_true rfl) dX6_readWay_163 ?_
          refine jr_aload_n dX6_readWay_166 rfl 0 rfl ?_
          refine gf_X6_21 (r := 197) rfl (rfl : kd 189 = 5) rfl dX6_readWay_167 ?_
          refine jr_dup dX6_readWay_170 rfl ?_
          refine gf_X6_178 rfl (rfl : kd 197 = 3) dX6_readWay_171 ?_
          refine jr_iconst (v := (1 : Int32)) dX6_readWay_174 (by decide) ?_
          refine jr_iadd dX6_readWay_175 ?_
          refine pf_X6_178 rfl (rfl : kd 197 = 3) dX6_readWay_176 ?_
          refine j_nmw (fun w_11 e_12 => ?_)
          replace h := drvL e_12 h
          obtain rfl := drvS1 h
          exact jr_vret rfl dX6_readWay_179
        refine jr_icmp_ne (tgt := 145) (nxt := 109) dX6_readWay_106 (by decide) rfl (fun hc => ?_) (fun hc => ?_)
        · replace h := drvE hc h
          refine jr_aload_n dX6_readWay_145 rfl 1 rfl ?_
          refine gf_X6_21 (r := 197) rfl (rfl : kd 189 = 5) rfl dX6_readWay_146 ?_
          refine jr_iload_n dX6_readWay_149 rfl 0 rfl ?_
          refine jr_aload_n dX6_readWay_150 rfl 1 rfl ?_
          refine jr_iconst (v := (0 : Int32)) dX6_readWay_151 (by decide) ?_
          refine jr_bipush (v := (99 : Int32)) dX6_readWay_152 (by decide) ?_
          refine jr_iconst (v := (0 : Int32)) dX6_readWay_154 (by decide) ?_
          obtain ⟨r_15, w_14, hq_13, h⟩ := drvB2 h
          refine j_callVv lk_X6_151 wIM_X6_readNumber wSE_X6_readNumber (rfl : kd 189 = 5) (by decide) rfl (tX6_readNumber  hq_13) (by omega) rfl rfl (Nat.le_of_ble_eq_true rfl) dX6_readWay_155 ?_
          obtain ⟨w_17, hq_16, h⟩ := drvB h
          refine j_callVn lk_X6_184 wIM_X3_putChance wSE_X3_putChance (rfl : kd 197 = 3) (by decide) rfl (tX3_putChance (rfl : kd 197 = 3) hq_16) (by omega) rfl rfl (Nat.le_of_ble_eq_true rfl) dX6_readWay_158 ?_
          refine jr_sub [1] rfl ?_
          exact hj161_8 _ h
        · replace h := drvT hc h
          refine jr_aload_n dX6_readWay_109 rfl 1 rfl ?_
          refine jr_iconst (v := (1 : Int32)) dX6_readWay_110 (by decide) ?_
          refine jr_sipush (v := (255 : Int32)) dX6_readWay_111 (by decide) ?_
          refine jr_iconst (v := (0 : Int32)) dX6_readWay_114 (by decide) ?_
          obtain ⟨r_20, w_19, hq_18, h⟩ := drvB2 h
          refine j_callVv lk_X6_151 wIM_X6_readNumber wSE_X6_readNumber (rfl : kd 189 = 5) (by decide) rfl (tX6_readNumber  hq_18) (by omega) rfl rfl (Nat.le_of_ble_eq_true rfl) dX6_readWay_115 ?_
          refine jr_istore_n (lv' := [(2, .int r_20), (1, .int s_3), (0, .ref 189)]) dX6_readWay_118 rfl (by decide) rfl ?_
          refine jr_aload_n dX6_readWay_119 rfl 2 rfl ?_
          refine jr_bipush (v := (18 : Int32)) dX6_readWay_120 (by decide) ?_
          obtain ⟨w_22, hq_21, h⟩ := drvB h
          refine j_callVn lk_X6_137 wIM_X6_take wSE_X6_take (rfl : kd 189 = 5) (by decide) rfl (tX6_take  hq_21) (by omega) rfl rfl (Nat.le_of_ble_eq_true rfl) dX6_readWay_122 ?_
          refine jr_aload_n dX6_readWay_125 rfl 2 rfl ?_
          refine gf_X6_21 (r := 197) rfl (rfl : kd 189 = 5) rfl dX6_readWay_126 ?_
          refine jr_iload_n dX6_readWay_129 rfl 0 rfl ?_
          refine jr_aload_n dX6_readWay_130 rfl 2 rfl ?_
          refine jr_iconst (v := (1 : Int32)) dX6_readWay_131 (by decide) ?_
          refine jr_sipush (v := (255 : Int32)) dX6_readWay_132 (by decide) ?_
          refine jr_iconst (v := (0 : Int32)) dX6_readWay_135 (by decide) ?_
          obtain ⟨r_25, w_24, hq_23, h⟩ := drvB2 h
          refine j_callVv lk_X6_151 wIM_X6_readNumber wSE_X6_readNumber (rfl : kd 189 = 5) (by decide) rfl (tX6_readNumber  hq_23) (by omega) rfl rfl (Nat.le_of_ble_eq_true rfl) dX6_readWay_136 ?_
          obtain ⟨w_27, hq_26, h⟩ := drvB h
          refine j_callVn lk_X6_181 wIM_X3_putSaying wSE_X3_putSaying (rfl : kd 197 = 3) (by decide) rfl (tX3_putSaying (rfl : kd 197 = 3) hq_26) (by omega) rfl rfl (Nat.le_of_ble_eq_true rfl) dX6_readWay_139 ?_
          refine jr_goto (tgt := 161) dX6_readWay_142 (by decide) ?_
          refine jr_sub [2] rfl ?_
          exact hj161_8 _ h
      · replace h := drvE hc h
        refine jr_aload_n dX6_readWay_85 rfl 1 rfl ?_
        refine jr_iconst (v := (4 : Int32)) dX6_readWay_86 (by decide) ?_
        obtain ⟨w_29, hq_28, h⟩ := drvB h
        refine j_callVn lk_X6_171 wIM_X6_blame wSE_X6_blame (rfl : kd 189 = 5) (by decide) rfl (tX6_blame  hq_28) (by omega) rfl rfl (Nat.le_of_ble_eq_true rfl) dX6_readWay_87 ?_
        refine jr_goto (tgt := 179) dX6_readWay_90 (by decide) ?_
        obtain rfl := drvS1 h
        exact jr_vret rfl dX6_readWay_179
    · replace h := drvT hc h
      refine jr_aload_n dX6_readWay_65 rfl 1 rfl ?_
      refine jr_iconst (v := (2 : Int32)) dX6_readWay_66 (by decide) ?_
      obtain ⟨w_31, hq_30, h⟩ := drvB h
      refine j_callVn lk_X6_171 wIM_X6_blame wSE_X6_blame (rfl : kd 189 = 5) (by decide) rfl (tX6_blame  hq_30) (by omega) rfl rfl (Nat.le_of_ble_eq_true rfl) dX6_readWay_67 ?_
      refine jr_goto (tgt := 179) dX6_readWay_70 (by decide) ?_
      obtain rfl := drvS1 h
      exact jr_vret rfl dX6_readWay_179
  refine jr_if_eq (tgt := 14) (nxt := 9) dX6_readWay_6 (by decide) rfl (fun hc => ?_) (fun hc => ?_)
  · replace h := drvT hc h
    refine jr_aload_n dX6_readWay_14 rfl 0 rfl ?_
    refine jr_bipush (v := (15 : Int32)) dX6_readWay_15 (by decide) ?_
    obtain ⟨r_33, hq_32, h⟩ := drvB h
    refine j_callVv lk_X6_124 wIM_X6_isAt wSE_X6_isAt (rfl : kd 189 = 5) (by decide) rfl (tX6_isAt  hq_32) (by omega) rfl rfl (Nat.le_of_ble_eq_true rfl) dX6_readWay_17 ?_
    refine jr_if_eq (tgt := 28) (nxt := 23) dX6_readWay_20 (by decide) rfl (fun hc => ?_) (fun hc => ?_)
    · replace h := drvT hc h
      refine jr_aload_n dX6_readWay_28 rfl 0 rfl ?_
      refine jr_bipush (v := (16 : Int32)) dX6_readWay_29 (by decide) ?_
      obtain ⟨r_35, hq_34, h⟩ := drvB h
      refine j_callVv lk_X6_124 wIM_X6_isAt wSE_X6_isAt (rfl : kd 189 = 5) (by decide) rfl (tX6_isAt  hq_34) (by omega) rfl rfl (Nat.le_of_ble_eq_true rfl) dX6_readWay_31 ?_
      refine jr_if_eq (tgt := 42) (nxt := 37) dX6_readWay_34 (by decide) rfl (fun hc => ?_) (fun hc => ?_)
      · replace h := drvT hc h
        refine jr_aload_n dX6_readWay_42 rfl 0 rfl ?_
        refine jr_bipush (v := (17 : Int32)) dX6_readWay_43 (by decide) ?_
        obtain ⟨r_37, hq_36, h⟩ := drvB h
        refine j_callVv lk_X6_124 wIM_X6_isAt wSE_X6_isAt (rfl : kd 189 = 5) (by decide) rfl (tX6_isAt  hq_36) (by omega) rfl rfl (Nat.le_of_ble_eq_true rfl) dX6_readWay_45 ?_
        refine jr_if_eq (tgt := 56) (nxt := 51) dX6_readWay_48 (by decide) rfl (fun hc => ?_) (fun hc => ?_)
        · replace h := drvT hc h
          refine jr_bipush (v := (19 : Int32)) dX6_readWay_56 (by decide) ?_
          refine jr_sub [0] rfl ?_
          exact hj58_4 _ h
        · replace h := drvE hc h
          refine jr_bipush (v := (17 : Int32)) dX6_readWay_51 (by decide) ?_
          refine jr_goto (tgt := 58) dX6_readWay_53 (by decide) ?_
          refine jr_sub [0] rfl ?_
          exact hj58_4 _ h
      · replace h := drvE hc h
        refine jr_bipush (v := (16 : Int32)) dX6_readWay_37 (by decide) ?_
        refine jr_goto (tgt := 58) dX6_readWay_39 (by decide) ?_
        refine jr_sub [0] rfl ?_
        exact hj58_4 _ h
    · replace h := drvE hc h
      refine jr_bipush (v := (15 : Int32)) dX6_readWay_23 (by decide) ?_
      refine jr_goto (tgt := 58) dX6_readWay_25 (by decide) ?_
      refine jr_sub [0] rfl ?_
      exact hj58_4 _ h
  · replace h := drvE hc h
    refine jr_bipush (v := (14 : Int32)) dX6_readWay_9 (by decide) ?_
    refine jr_goto (tgt := 58) dX6_readWay_11 (by decide) ?_
    refine jr_sub [0] rfl ?_
    exact hj58_4 _ h
set_option maxHeartbeats 4000000 in
set_option maxRecDepth 100000 in
theorem hbX6_readLaw_9 {n : Nat} {w' : jWd} {rec : Int32 → jWd → Option jWd} 
    (hrec : ∀ (x1 : Int32) (w : jWd) , rec x1 w = some w' → J MX6_readLaw 4 w 9 [(0, .ref 189), (1, .int x1)] [] none w') : ∀ (x1 : Int32) (w : jWd) , bX6_readLaw_9 n rec x1 w = some w' → J MX6_readLaw 4 w 9 [(0, .ref 189), (1, .int x1)] [] none w' := by
  intro x1 w h
  unfold bX6_readLaw_9 at h
  refine jr_iload_n dX6_readLaw_9 rfl 1 rfl ?_
  refine jr_bipush (v := (12 : Int32)) dX6_readLaw_10 (by decide) ?_
  refine jr_icmp_gt (tgt := 40) (nxt := 15) dX6_readLaw_12 (by decide) rfl (fun hc => ?_) (fun hc => ?_)
  · replace h := drvT hc h
    obtain rfl := drvS1 h
    exact jr_vret rfl dX6_readLaw_40
  · replace h := drvE hc h
    refine jr_aload_n dX6_readLaw_15 rfl 0 rfl ?_
    refine gf_X6_35 rfl (rfl : kd 189 = 5) dX6_readLaw_16 ?_
    refine jr_if_ne (tgt := 40) (nxt := 22) dX6_readLaw_19 (by decide) rfl (fun hc => ?_) (fun hc => ?_)
    · replace h := drvE hc h
      obtain rfl := drvS1 h
      exact jr_vret rfl dX6_readLaw_40
    · replace h := drvT hc h
      refine jr_aload_n dX6_readLaw_22 rfl 0 rfl ?_
      refine jr_iconst (v := (0 : Int32)) dX6_readLaw_23 (by decide) ?_
      obtain ⟨r_4, hq_3, h⟩ := drvB h
      refine j_callVv lk_X6_124 wIM_X6_isAt wSE_X6_isAt (rfl : kd 189 = 5) (by decide) rfl (tX6_isAt  hq_3) (by omega) rfl rfl (Nat.le_of_ble_eq_true rfl) dX6_readLaw_24 ?_
      refine jr_if_ne (tgt := 40) (nxt := 30) dX6_readLaw_27 (by decide) rfl (fun hc => ?_) (fun hc => ?_)
      · replace h := drvE hc h
        obtain rfl := drvS1 h
        exact jr_vret rfl dX6_readLaw_40
      · replace h := drvT hc h
        refine jr_aload_n dX6_readLaw_30 rfl 0 rfl ?_
        obtain ⟨w_6, hq_5, h⟩ := drvB h
        refine j_callVn lk_X6_175 wIM_X6_readWay wSE_X6_readWay (rfl : kd 189 = 5) (by decide) rfl (tX6_readWay  hq_5) (by omega) rfl rfl (Nat.le_of_ble_eq_true rfl) dX6_readLaw_31 ?_
        refine jr_iincN (c := (1 : Int32)) (lv' := fun (x1_7 : Int32) => [(1, .int x1_7), (0, .ref 189)]) dX6_readLaw_34 (by decide) 1 rfl (by decide) (fun _ => rfl) (fun x1_7 e_8 => ?_)
        replace h := drvL e_8 h
        refine jr_goto (tgt := 9) dX6_readLaw_37 (by decide) ?_
        refine jr_sub [1, 0] rfl ?_
        exact hrec _ _ h
theorem hlX6_readLaw_9 {n : Nat} {w' : jWd}  : ∀ (c : Nat) (x1 : Int32) (w : jWd) , lX6_readLaw_9 n c x1 w = some w' → J MX6_readLaw 4 w 9 [(0, .ref 189), (1, .int x1)] [] none w' := by
  intro c
  induction c with
  | zero => intro x1 w h; cases h
  | succ c ih => intro x1 w h; exact hbX6_readLaw_9 (n := n) ih _ _ h
set_option maxHeartbeats 4000000 in
set_option maxRecDepth 100000 in
theorem tX6_readLaw {n : Nat} {w : jWd} {w' : jWd}  (h : fX6_readLaw n w = some w') : JM yX6_readLaw MX6_readLaw 4 [.ref 189] w none w' := by
  refine jm_of pl_X6 rfl (Nat.le_of_ble_eq_true rfl) ?_
  show J MX6_readLaw 4 w 0 [(0, .ref 189)] [] none w'
  unfold fX6_readLaw at h
  refine jr_aload_n dX6_readLaw_0 rfl 0 rfl ?_
  refine gf_X6_21 (r := 197) rfl (rfl : kd 189 = 5) rfl dX6_readLaw_1 ?_
  obtain ⟨w_2, hq_1, h⟩ := drvB h
  refine j_callVn lk_X6_174 wIM_X3_clear wSE_X3_clear (rfl : kd 197 = 3) (by decide) rfl (tX3_clear (rfl : kd 197 = 3) hq_1) (by omega) rfl rfl (Nat.le_of_ble_eq_true rfl) dX6_readLaw_4 ?_
  refine jr_iconst (v := (0 : Int32)) dX6_readLaw_7 (by decide) ?_
  refine jr_istore_n (lv' := [(1, .int (0 : Int32)), (0, .ref 189)]) dX6_readLaw_8 rfl (by decide) rfl ?_
  refine jr_sub [1, 0] rfl ?_
  refine hlX6_readLaw_9   _ _ _ h
set_option maxHeartbeats 4000000 in
set_option maxRecDepth 100000 in
theorem hbX6_scan_33 {n : Nat} {p1 : Nat} {p2 : Int32} {p3 : Int32} {k104 : jWd → (Option jWd)} {w' : jWd} {rec : Int32 → Int32 → jWd → Option jWd} (hk_p1 : kd p1 = 12) (hk104 : ∀ (w9 : jWd), k104 w9 = some w' → J MX6_scan 10 w9 104 [(0, .ref 189), (2, .int p2)] [] none w')
    (hrec : ∀ (x4 : Int32) (x5 : Int32) (w : jWd) , rec x4 x5 w = some w' → J MX6_scan 10 w 33 [(0, .ref 189), (1, .ref p1), (2, .int p2), (3, .int p3), (4, .int x4), (5, .int x5)] [] none w') : ∀ (x4 : Int32) (x5 : Int32) (w : jWd) , bX6_scan_33 n p1 p2 p3 k104 rec x4 x5 w = some w' → J MX6_scan 10 w 33 [(0, .ref 189), (1, .ref p1), (2, .int p2), (3, .int p3), (4, .int x4), (5, .int x5)] [] none w' := by
  intro x4 x5 w h
  unfold bX6_scan_33 at h
  refine jr_iload dX6_scan_33 5 rfl ?_
  refine jr_iload_n dX6_scan_35 rfl 3 rfl ?_
  refine jr_icmp_ge (tgt := 104) (nxt := 39) dX6_scan_36 (by decide) rfl (fun hc => ?_) (fun hc => ?_)
  · replace h := drvT hc h
    refine jr_sub [0, 2] rfl ?_
    exact hk104 _ h
  · replace h := drvE hc h
    refine jr_iload dX6_scan_39 5 rfl ?_
    refine jr_iload dX6_scan_41 4 rfl ?_
    refine jr_icmp_lt (tgt := 98) (nxt := 46) dX6_scan_43 (by decide) rfl (fun hc => ?_) (fun hc => ?_)
    · replace h := drvT hc h
      refine jr_iincN (c := (1 : Int32)) (lv' := fun (x5_11 : Int32) => [(5, .int x5_11), (0, .ref 189), (1, .ref p1), (2, .int p2), (3, .int p3), (4, .int x4)]) dX6_scan_98 (by decide) 5 rfl (by decide) (fun _ => rfl) (fun x5_11 e_12 => ?_)
      replace h := drvL e_12 h
      refine jr_goto (tgt := 33) dX6_scan_101 (by decide) ?_
      refine jr_sub [1, 2, 3, 4, 5, 0] rfl ?_
      exact hrec _ _ _ h
    · replace h := drvE hc h
      refine jr_aload_n dX6_scan_46 rfl 1 rfl ?_
      refine jr_iload dX6_scan_47 5 rfl ?_
      obtain ⟨hg_13, h⟩ := drvG h
      refine jr_bald hk_p1 hg_13 dX6_scan_49 ?_
      refine jr_bipush (v := (10 : Int32)) dX6_scan_50 (by decide) ?_
      refine jr_icmp_eq (tgt := 98) (nxt := 55) dX6_scan_52 (by decide) rfl (fun hc => ?_) (fun hc => ?_)
      · replace h := drvT hc h
        refine jr_iincN (c := (1 : Int32)) (lv' := fun (x5_14 : Int32) => [(5, .int x5_14), (0, .ref 189), (1, .ref p1), (2, .int p2), (3, .int p3), (4, .int x4)]) dX6_scan_98 (by decide) 5 rfl (by decide) (fun _ => rfl) (fun x5_14 e_15 => ?_)
        replace h := drvL e_15 h
        refine jr_goto (tgt := 33) dX6_scan_101 (by decide) ?_
        refine jr_sub [1, 2, 3, 4, 5, 0] rfl ?_
        exact hrec _ _ _ h
      · replace h := drvE hc h
        refine jr_aload_n dX6_scan_55 rfl 1 rfl ?_
        refine jr_iload dX6_scan_56 5 rfl ?_
        obtain ⟨hg_16, h⟩ := drvG h
        refine jr_bald hk_p1 hg_16 dX6_scan_58 ?_
        refine jr_bipush (v := (32 : Int32)) dX6_scan_59 (by decide) ?_
        refine jr_icmp_ne (tgt := 67) (nxt := 64) dX6_scan_61 (by decide) rfl (fun hc => ?_) (fun hc => ?_)
        · replace h := drvE hc h
          refine jr_aload_n dX6_scan_67 rfl 1 rfl ?_
          refine jr_iload dX6_scan_68 5 rfl ?_
          refine jr_iload_n dX6_scan_70 rfl 3 rfl ?_
          obtain ⟨r_18, hq_17, h⟩ := drvB h
          refine j_callSv lk_X6_54 wST_X6_endOfToken (tX6_endOfToken hk_p1 hq_17) (by omega) rfl rfl (Nat.le_of_ble_eq_true rfl) dX6_scan_71 ?_
          refine jr_istore (lv' := [(4, .int r_18), (0, .ref 189), (1, .ref p1), (2, .int p2), (3, .int p3), (5, .int x5)]) dX6_scan_74 (by decide) rfl ?_
          refine jr_aload_n dX6_scan_76 rfl 1 rfl ?_
          refine jr_aload_n dX6_scan_77 rfl 2 rfl ?_
          refine jr_iload dX6_scan_78 5 rfl ?_
          refine jr_iload dX6_scan_80 0 rfl ?_
          obtain ⟨r_20, hq_19, h⟩ := drvB h
          refine j_callSv lk_X6_58 wST_X6_kindOf (tX6_kindOf hk_p1 hq_19) (by omega) rfl rfl (Nat.le_of_ble_eq_true rfl) dX6_scan_82 ?_
          refine jr_aload_n dX6_scan_85 rfl 2 rfl ?_
          refine jr_iload dX6_scan_86 5 rfl ?_
          refine jr_iload dX6_scan_88 0 rfl ?_
          obtain ⟨r_22, hq_21, h⟩ := drvB h
          refine j_callSv lk_X6_61 wST_X6_numberOf (tX6_numberOf hk_p1 hq_21) (by omega) rfl rfl (Nat.le_of_ble_eq_true rfl) dX6_scan_90 ?_
          refine jr_iload dX6_scan_93 5 rfl ?_
          obtain ⟨w_24, hq_23, h⟩ := drvB h
          refine j_callVn lk_X6_64 wIM_X6_putToken wSE_X6_putToken (rfl : kd 189 = 5) (by decide) rfl (tX6_putToken  hq_23) (by omega) rfl rfl (Nat.le_of_ble_eq_true rfl) dX6_scan_95 ?_
          refine jr_iincN (c := (1 : Int32)) (lv' := fun (x5_25 : Int32) => [(5, .int x5_25), (4, .int r_18), (0, .ref 189), (1, .ref p1), (2, .int p2), (3, .int p3)]) dX6_scan_98 (by decide) 5 rfl (by decide) (fun _ => rfl) (fun x5_25 e_26 => ?_)
          replace h := drvL e_26 h
          refine jr_goto (tgt := 33) dX6_scan_101 (by decide) ?_
          refine jr_sub [2, 3, 4, 5, 1, 0] rfl ?_
          exact hrec _ _ _ h
        · replace h := drvT hc h
          refine jr_goto (tgt := 98) dX6_scan_64 (by decide) ?_
          refine jr_iincN (c := (1 : Int32)) (lv' := fun (x5_27 : Int32) => [(5, .int x5_27), (0, .ref 189), (1, .ref p1), (2, .int p2), (3, .int p3), (4, .int x4)]) dX6_scan_98 (by decide) 5 rfl (by decide) (fun _ => rfl) (fun x5_27 e_28 => ?_)
          replace h := drvL e_28 h
          refine jr_goto (tgt := 33) dX6_scan_101 (by decide) ?_
          refine jr_sub [1, 2, 3, 4, 5, 0] rfl ?_
          exact hrec _ _ _ h
theorem hlX6_scan_33 {n : Nat} {p1 : Nat} {p2 : Int32} {p3 : Int32} {k104 : jWd → (Option jWd)} {w' : jWd} (hk_p1 : kd p1 = 12) (hk104 : ∀ (w9 : jWd), k104 w9 = some w' → J MX6_scan 10 w9 104 [(0, .ref 189), (2, .int p2)] [] none w') : ∀ (c : Nat) (x4 : Int32) (x5 : Int32) (w : jWd) , lX6_scan_33 n p1 p2 p3 k104 c x4 x5 w = some w' → J MX6_scan 10 w 33 [(0, .ref 189), (1, .ref p1), (2, .int p2), (3, .int p3), (4, .int x4), (5, .int x5)] [] none w' := by
  intro c
  induction c with
  | zero => intro x4 x5 w h; cases h
  | succ c ih => intro x4 x5 w h; exact hbX6_scan_33 (n := n) hk_p1 hk104 ih _ _ _ h
set_option maxHeartbeats 4000000 in
set_option maxRecDepth 100000 in
theorem tX6_scan {n : Nat} {a0 : Nat} {a1 : Int32} {w : jWd} {w' : jWd} (hk_a0 : kd a0 = 12) (h : fX6_scan n a0 a1 w = some w') : JM yX6_scan MX6_scan 10 [.ref 189, .ref a0, .int a1] w none w' := by
  refine jm_of pl_X6 rfl (Nat.le_of_ble_eq_true rfl) ?_
  show J MX6_scan 10 w 0 [(0, .ref 189), (1, .ref a0), (2, .int a1)] [] none w'
  unfold fX6_scan at h
  refine jr_aload_n dX6_scan_0 rfl 0 rfl ?_
  refine jr_iconst (v := (0 : Int32)) dX6_scan_1 (by decide) ?_
  refine pf_X6_35 rfl (rfl : kd 189 = 5) dX6_scan_2 ?_
  refine j_nmw (fun w_1 e_2 => ?_)
  replace h := drvL e_2 h
  refine jr_aload_n dX6_scan_5 rfl 0 rfl ?_
  refine jr_iconst (v := (-1 : Int32)) dX6_scan_6 (by decide) ?_
  refine pf_X6_39 rfl (rfl : kd 189 = 5) dX6_scan_7 ?_
  refine j_nmw (fun w_3 e_4 => ?_)
  replace h := drvL e_4 h
  refine jr_aload_n dX6_scan_10 rfl 0 rfl ?_
  refine jr_iconst (v := (0 : Int32)) dX6_scan_11 (by decide) ?_
  refine pf_X6_42 rfl (rfl : kd 189 = 5) dX6_scan_12 ?_
  refine j_nmw (fun w_5 e_6 => ?_)
  replace h := drvL e_6 h
  refine jr_aload_n dX6_scan_15 rfl 0 rfl ?_
  refine jr_iconst (v := (0 : Int32)) dX6_scan_16 (by decide) ?_
  refine pf_X6_45 rfl (rfl : kd 189 = 5) dX6_scan_17 ?_
  refine j_nmw (fun w_7 e_8 => ?_)
  replace h := drvL e_8 h
  refine jr_iload_n dX6_scan_20 rfl 2 rfl ?_
  refine jr_aload_n dX6_scan_21 rfl 1 rfl ?_
  refine jr_alen hk_a0 (by decide) (by decide) dX6_scan_22 ?_
  refine jr_imin wML_X6_48 (by decide) (Nat.le_of_ble_eq_true rfl) dX6_scan_23 ?_
  refine j_nmi (fun x3_9 e_10 => ?_)
  replace h := drvL e_10 h
  refine jr_istore_n (lv' := [(3, .int x3_9), (0, .ref 189), (1, .ref a0), (2, .int a1)]) dX6_scan_26 rfl (by decide) rfl ?_
  refine jr_iconst (v := (0 : Int32)) dX6_scan_27 (by decide) ?_
  refine jr_istore (lv' := [(4, .int (0 : Int32)), (3, .int x3_9), (0, .ref 189), (1, .ref a0), (2, .int a1)]) dX6_scan_28 (by decide) rfl ?_
  refine jr_iconst (v := (0 : Int32)) dX6_scan_30 (by decide) ?_
  refine jr_istore (lv' := [(5, .int (0 : Int32)), (4, .int (0 : Int32)), (3, .int x3_9), (0, .ref 189), (1, .ref a0), (2, .int a1)]) dX6_scan_31 (by decide) rfl ?_
  refine jr_sub [3, 4, 5, 2, 1, 0] rfl ?_
  refine hlX6_scan_33 hk_a0 ?_ _ _ _ _ h
  · intro w_29 h
    try dsimp only at h
    refine jr_aload_n dX6_scan_104 rfl 0 rfl ?_
    refine jr_iconst (v := (0 : Int32)) dX6_scan_105 (by decide) ?_
    refine jr_iconst (v := (0 : Int32)) dX6_scan_106 (by decide) ?_
    refine jr_iload_n dX6_scan_107 rfl 1 rfl ?_
    obtain ⟨w_31, hq_30, h⟩ := drvB h
    refine j_callVn lk_X6_64 wIM_X6_putToken wSE_X6_putToken (rfl : kd 189 = 5) (by decide) rfl (tX6_putToken  hq_30) (by omega) rfl rfl (Nat.le_of_ble_eq_true rfl) dX6_scan_108 ?_
    obtain rfl := drvS1 h
    exact jr_vret rfl dX6_scan_111
set_option maxHeartbeats 4000000 in
set_option maxRecDepth 100000 in
theorem tX7_canBe {a0 : Int32} {w : jWd}  : JM yX7_canBe MX7_canBe 1 [.ref 185, .int a0] w (some (.int (fX7_canBe a0))) w := by
  refine jm_of pl_X7 rfl (Nat.le_of_ble_eq_true rfl) ?_
  show J MX7_canBe 1 w 0 [(0, .ref 185), (1, .int a0)] [] (some (.int (fX7_canBe a0))) w
  generalize h : (fX7_canBe a0) = r
  unfold fX7_canBe at h
  refine jr_iload_n dX7_canBe_0 rfl 1 rfl ?_
  refine jr_if_lt (tgt := 13) (nxt := 4) dX7_canBe_1 (by decide) rfl (fun hc => ?_) (fun hc => ?_)
  · replace h := drvT hc h
    refine jr_iconst (v := (0 : Int32)) dX7_canBe_13 (by decide) ?_
    subst h
    exact jr_zret (ty := .boolean) rfl rfl dX7_canBe_14
  · replace h := drvE hc h
    refine jr_iload_n dX7_canBe_4 rfl 1 rfl ?_
    refine jr_iconst (v := (4 : Int32)) dX7_canBe_5 (by decide) ?_
    refine jr_icmp_ge (tgt := 13) (nxt := 9) dX7_canBe_6 (by decide) rfl (fun hc => ?_) (fun hc => ?_)
    · replace h := drvT hc h
      refine jr_iconst (v := (0 : Int32)) dX7_canBe_13 (by decide) ?_
      subst h
      exact jr_zret (ty := .boolean) rfl rfl dX7_canBe_14
    · replace h := drvE hc h
      refine jr_iconst (v := (1 : Int32)) dX7_canBe_9 (by decide) ?_
      refine jr_goto (tgt := 14) dX7_canBe_10 (by decide) ?_
      subst h
      exact jr_zret (ty := .boolean) rfl rfl dX7_canBe_14
set_option maxHeartbeats 4000000 in
set_option maxRecDepth 100000 in
theorem tX7_at {a0 : Int32} {a1 : Int32} {w : jWd} {r : Int64}  (h : fX7_at a0 a1 w = some r) : JM yX7_at MX7_at 2 [.ref 185, .int a0, .int a1] w (some (.long r)) w := by
  refine jm_of pl_X7 rfl (Nat.le_of_ble_eq_true rfl) ?_
  show J MX7_at 2 w 0 [(0, .ref 185), (1, .int a0), (2, .int a1)] [] (some (.long r)) w
  unfold fX7_at at h
  refine jr_aload_n dX7_at_0 rfl 0 rfl ?_
  refine jr_iload_n dX7_at_1 rfl 1 rfl ?_
  refine j_callVv lk_X7_28 wIM_X7_canBe wSE_X7_canBe (rfl : kd 185 = 6) (by decide) rfl (tX7_canBe  (a0 := a0) (w := w)) (by omega) rfl rfl (Nat.le_of_ble_eq_true rfl) dX7_at_2 ?_
  refine jr_if_eq (tgt := 36) (nxt := 8) dX7_at_5 (by decide) rfl (fun hc => ?_) (fun hc => ?_)
  · replace h := drvT hc h
    refine jr_lconst (v := (0 : Int64)) dX7_at_36 rfl ?_
    obtain rfl := drvS1 h
    exact jr_lret rfl dX7_at_37
  · replace h := drvE hc h
    refine jr_iload_n dX7_at_8 rfl 2 rfl ?_
    refine jr_if_lt (tgt := 36) (nxt := 12) dX7_at_9 (by decide) rfl (fun hc => ?_) (fun hc => ?_)
    · replace h := drvT hc h
      refine jr_lconst (v := (0 : Int64)) dX7_at_36 rfl ?_
      obtain rfl := drvS1 h
      exact jr_lret rfl dX7_at_37
    · replace h := drvE hc h
      refine jr_iload_n dX7_at_12 rfl 2 rfl ?_
      refine jr_aload_n dX7_at_13 rfl 0 rfl ?_
      refine gf_X7_11 (r := 186) rfl (rfl : kd 185 = 6) rfl dX7_at_14 ?_
      refine jr_iload_n dX7_at_17 rfl 1 rfl ?_
      obtain ⟨hg_1, h⟩ := drvG h
      refine jr_iald (rfl : kd 186 = 13) hg_1 dX7_at_18 ?_
      refine jr_icmp_ge (tgt := 36) (nxt := 22) dX7_at_19 (by decide) rfl (fun hc => ?_) (fun hc => ?_)
      · replace h := drvT hc h
        refine jr_lconst (v := (0 : Int64)) dX7_at_36 rfl ?_
        obtain rfl := drvS1 h
        exact jr_lret rfl dX7_at_37
      · replace h := drvE hc h
        refine jr_aload_n dX7_at_22 rfl 0 rfl ?_
        refine gf_X7_18 (r := 188) rfl (rfl : kd 185 = 6) rfl dX7_at_23 ?_
        refine jr_iload_n dX7_at_26 rfl 1 rfl ?_
        refine jr_bipush (v := (60 : Int32)) dX7_at_27 (by decide) ?_
        refine jr_imul dX7_at_29 ?_
        refine jr_iload_n dX7_at_30 rfl 2 rfl ?_
        refine jr_iadd dX7_at_31 ?_
        obtain ⟨hg_2, h⟩ := drvG h
        refine jr_lald (rfl : kd 188 = 14) hg_2 dX7_at_32 ?_
        refine jr_goto (tgt := 37) dX7_at_33 (by decide) ?_
        obtain rfl := drvS1 h
        exact jr_lret rfl dX7_at_37
set_option maxHeartbeats 4000000 in
set_option maxRecDepth 100000 in
theorem tX7_cut {a0 : Int32} {a1 : Int64} {w : jWd}  : JM yX7_cut MX7_cut 1 [.int a0, .long a1] w (some (.long (fX7_cut a0 a1))) w := by
  refine jm_of pl_X7 rfl (Nat.le_of_ble_eq_true rfl) ?_
  show J MX7_cut 1 w 0 [(0, .int a0), (1, .long a1)] [] (some (.long (fX7_cut a0 a1))) w
  generalize h : (fX7_cut a0 a1) = r
  unfold fX7_cut at h
  refine jr_iload_n dX7_cut_0 rfl 0 rfl ?_
  by_cases hs_1 : a0 = (0 : Int32)
  · replace h := drvT hs_1 h
    refine jr_tableK (tgt := 28) dX7_cut_1 hs_1 (by decide) (by decide) rfl (by decide) ?_
    refine jr_lload_n dX7_cut_28 rfl 1 rfl ?_
    refine jr_l2i dX7_cut_29 ?_
    refine jr_i2b dX7_cut_30 ?_
    refine jr_i2l dX7_cut_31 ?_
    subst h
    exact jr_lret rfl dX7_cut_32
  replace h := drvE hs_1 h
  by_cases hs_2 : a0 = (1 : Int32)
  · replace h := drvT hs_2 h
    refine jr_tableK (tgt := 33) dX7_cut_1 hs_2 (by decide) (by decide) rfl (by decide) ?_
    refine jr_lload_n dX7_cut_33 rfl 1 rfl ?_
    refine jr_l2i dX7_cut_34 ?_
    refine jr_i2s dX7_cut_35 ?_
    refine jr_i2l dX7_cut_36 ?_
    subst h
    exact jr_lret rfl dX7_cut_37
  replace h := drvE hs_2 h
  by_cases hs_3 : a0 = (2 : Int32)
  · replace h := drvT hs_3 h
    refine jr_tableK (tgt := 38) dX7_cut_1 hs_3 (by decide) (by decide) rfl (by decide) ?_
    refine jr_lload_n dX7_cut_38 rfl 1 rfl ?_
    refine jr_l2i dX7_cut_39 ?_
    refine jr_i2l dX7_cut_40 ?_
    subst h
    exact jr_lret rfl dX7_cut_41
  replace h := drvE hs_3 h
  refine jr_tableOut (tgt := 42) dX7_cut_1 (by have a0 := lv_neT hs_1 (show (0 : Int32).toInt = 0 from rfl); have a1 := lv_neT hs_2 (show (1 : Int32).toInt = 1 from rfl); have a2 := lv_neT hs_3 (show (2 : Int32).toInt = 2 from rfl); omega) (by decide) ?_
  refine jr_lload_n dX7_cut_42 rfl 1 rfl ?_
  subst h
  exact jr_lret rfl dX7_cut_43
set_option maxHeartbeats 4000000 in
set_option maxRecDepth 100000 in
theorem tX7_lay {n : Nat} {a0 : Int32} {a1 : Int32} {a2 : Int32} {w : jWd} {w' : jWd}  (h : fX7_lay n a0 a1 a2 w = some w') : JM yX7_lay MX7_lay 3 [.ref 185, .int a0, .int a1, .int a2] w none w' := by
  refine jm_of pl_X7 rfl (Nat.le_of_ble_eq_true rfl) ?_
  show J MX7_lay 3 w 0 [(0, .ref 185), (1, .int a0), (2, .int a1), (3, .int a2)] [] none w'
  unfold fX7_lay at h
  refine jr_aload_n dX7_lay_0 rfl 0 rfl ?_
  refine jr_iload_n dX7_lay_1 rfl 1 rfl ?_
  refine j_callVv lk_X7_28 wIM_X7_canBe wSE_X7_canBe (rfl : kd 185 = 6) (by decide) rfl (tX7_canBe  (a0 := a0) (w := w)) (by omega) rfl rfl (Nat.le_of_ble_eq_true rfl) dX7_lay_2 ?_
  refine jr_if_eq (tgt := 18) (nxt := 8) dX7_lay_5 (by decide) rfl (fun hc => ?_) (fun hc => ?_)
  · replace h := drvT hc h
    obtain rfl := drvS1 h
    exact jr_vret rfl dX7_lay_18
  · replace h := drvE hc h
    refine jr_iload_n dX7_lay_8 rfl 3 rfl ?_
    refine jr_if_lt (tgt := 18) (nxt := 12) dX7_lay_9 (by decide) rfl (fun hc => ?_) (fun hc => ?_)
    · replace h := drvT hc h
      obtain rfl := drvS1 h
      exact jr_vret rfl dX7_lay_18
    · replace h := drvE hc h
      refine jr_iload_n dX7_lay_12 rfl 3 rfl ?_
      refine jr_bipush (v := (60 : Int32)) dX7_lay_13 (by decide) ?_
      refine jr_icmp_le (tgt := 19) (nxt := 18) dX7_lay_15 (by decide) rfl (fun hc => ?_) (fun hc => ?_)
      · replace h := drvT hc h
        refine jr_aload_n dX7_lay_19 rfl 0 rfl ?_
        refine gf_X7_15 (r := 187) rfl (rfl : kd 185 = 6) rfl dX7_lay_20 ?_
        refine jr_iload_n dX7_lay_23 rfl 1 rfl ?_
        refine jr_iload_n dX7_lay_24 rfl 2 rfl ?_
        obtain ⟨hg_3, h⟩ := drvG h
        refine jr_iast (rfl : kd 187 = 13) hg_3 dX7_lay_25 ?_
        refine j_nmw (fun w_1 e_2 => ?_)
        replace h := drvL e_2 h
        refine jr_aload_n dX7_lay_26 rfl 0 rfl ?_
        refine gf_X7_11 (r := 186) rfl (rfl : kd 185 = 6) rfl dX7_lay_27 ?_
        refine jr_iload_n dX7_lay_30 rfl 1 rfl ?_
        refine jr_iload_n dX7_lay_31 rfl 3 rfl ?_
        obtain ⟨hg_6, h⟩ := drvG h
        refine jr_iast (rfl : kd 186 = 13) hg_6 dX7_lay_32 ?_
        refine j_nmw (fun w_4 e_5 => ?_)
        replace h := drvL e_5 h
        refine jr_aload_n dX7_lay_33 rfl 0 rfl ?_
        refine gf_X7_18 (r := 188) rfl (rfl : kd 185 = 6) rfl dX7_lay_34 ?_
        refine jr_iload_n dX7_lay_37 rfl 1 rfl ?_
        refine jr_bipush (v := (60 : Int32)) dX7_lay_38 (by decide) ?_
        refine jr_imul dX7_lay_40 ?_
        refine jr_iload_n dX7_lay_41 rfl 1 rfl ?_
        refine jr_bipush (v := (60 : Int32)) dX7_lay_42 (by decide) ?_
        refine jr_imul dX7_lay_44 ?_
        refine jr_bipush (v := (60 : Int32)) dX7_lay_45 (by decide) ?_
        refine jr_iadd dX7_lay_47 ?_
        refine jr_lconst (v := (0 : Int64)) dX7_lay_48 rfl ?_
        obtain ⟨w_8, hq_7, h⟩ := drvB h
        refine j_callSn lk_X7_32 wST_J7_fill_bad5a (tJ7_fill_bad5a (rfl : kd 188 = 14) hq_7) (by omega) rfl rfl (Nat.le_of_ble_eq_true rfl) dX7_lay_49 ?_
        obtain rfl := drvS1 h
        exact jr_vret rfl dX7_lay_52
      · replace h := drvE hc h
        obtain rfl := drvS1 h
        exact jr_vret rfl dX7_lay_18
set_option maxHeartbeats 4000000 in
set_option maxRecDepth 100000 in
theorem tX7_put {a0 : Int32} {a1 : Int32} {a2 : Int64} {w : jWd} {r : Int64} {w' : jWd}  (h : fX7_put a0 a1 a2 w = some (r, w')) : JM yX7_put MX7_put 2 [.ref 185, .int a0, .int a1, .long a2] w (some (.long r)) w' := by
  refine jm_of pl_X7 rfl (Nat.le_of_ble_eq_true rfl) ?_
  show J MX7_put 2 w 0 [(0, .ref 185), (1, .int a0), (2, .int a1), (3, .long a2)] [] (some (.long r)) w'
  unfold fX7_put at h
  refine jr_aload_n dX7_put_0 rfl 0 rfl ?_
  refine jr_iload_n dX7_put_1 rfl 1 rfl ?_
  refine j_callVv lk_X7_28 wIM_X7_canBe wSE_X7_canBe (rfl : kd 185 = 6) (by decide) rfl (tX7_canBe  (a0 := a0) (w := w)) (by omega) rfl rfl (Nat.le_of_ble_eq_true rfl) dX7_put_2 ?_
  refine jr_if_eq (tgt := 22) (nxt := 8) dX7_put_5 (by decide) rfl (fun hc => ?_) (fun hc => ?_)
  · replace h := drvT hc h
    refine jr_lconst (v := (0 : Int64)) dX7_put_22 rfl ?_
    obtain ⟨rfl, rfl⟩ := drvS2 h
    exact jr_lret rfl dX7_put_23
  · replace h := drvE hc h
    refine jr_iload_n dX7_put_8 rfl 2 rfl ?_
    refine jr_if_lt (tgt := 22) (nxt := 12) dX7_put_9 (by decide) rfl (fun hc => ?_) (fun hc => ?_)
    · replace h := drvT hc h
      refine jr_lconst (v := (0 : Int64)) dX7_put_22 rfl ?_
      obtain ⟨rfl, rfl⟩ := drvS2 h
      exact jr_lret rfl dX7_put_23
    · replace h := drvE hc h
      refine jr_iload_n dX7_put_12 rfl 2 rfl ?_
      refine jr_aload_n dX7_put_13 rfl 0 rfl ?_
      refine gf_X7_11 (r := 186) rfl (rfl : kd 185 = 6) rfl dX7_put_14 ?_
      refine jr_iload_n dX7_put_17 rfl 1 rfl ?_
      obtain ⟨hg_1, h⟩ := drvG h
      refine jr_iald (rfl : kd 186 = 13) hg_1 dX7_put_18 ?_
      refine jr_icmp_lt (tgt := 24) (nxt := 22) dX7_put_19 (by decide) rfl (fun hc => ?_) (fun hc => ?_)
      · replace h := drvT hc h
        refine jr_aload_n dX7_put_24 rfl 0 rfl ?_
        refine gf_X7_15 (r := 187) rfl (rfl : kd 185 = 6) rfl dX7_put_25 ?_
        refine jr_iload_n dX7_put_28 rfl 1 rfl ?_
        obtain ⟨hg_2, h⟩ := drvG h
        refine jr_iald (rfl : kd 187 = 13) hg_2 dX7_put_29 ?_
        refine jr_lload_n dX7_put_30 rfl 3 rfl ?_
        refine j_callSv lk_X7_35 wST_X7_cut (tX7_cut  (a0 := (wI w 187 (a0).toNatClampNeg)) (a1 := a2) (w := w)) (by omega) rfl rfl (Nat.le_of_ble_eq_true rfl) dX7_put_31 ?_
        refine j_nml (fun x5_3 e_4 => ?_)
        replace h := drvL e_4 h
        refine jr_lstore (lv' := [(5, .long x5_3), (0, .ref 185), (1, .int a0), (2, .int a1), (3, .long a2)]) dX7_put_34 (by decide) rfl ?_
        refine jr_aload_n dX7_put_36 rfl 1 rfl ?_
        refine gf_X7_18 (r := 188) rfl (rfl : kd 185 = 6) rfl dX7_put_37 ?_
        refine jr_iload_n dX7_put_40 rfl 2 rfl ?_
        refine jr_bipush (v := (60 : Int32)) dX7_put_41 (by decide) ?_
        refine jr_imul dX7_put_43 ?_
        refine jr_iload_n dX7_put_44 rfl 3 rfl ?_
        refine jr_iadd dX7_put_45 ?_
        refine jr_lload dX7_put_46 0 rfl ?_
        obtain ⟨hg_7, h⟩ := drvG h
        refine jr_last (rfl : kd 188 = 14) hg_7 dX7_put_48 ?_
        refine j_nmw (fun w_5 e_6 => ?_)
        replace h := drvL e_6 h
        refine jr_lload dX7_put_49 0 rfl ?_
        obtain ⟨rfl, rfl⟩ := drvS2 h
        exact jr_lret rfl dX7_put_51
      · replace h := drvE hc h
        refine jr_lconst (v := (0 : Int64)) dX7_put_22 rfl ?_
        obtain ⟨rfl, rfl⟩ := drvS2 h
        exact jr_lret rfl dX7_put_23
set_option maxHeartbeats 4000000 in
set_option maxRecDepth 100000 in
theorem tX9_copy {t : Nat} {a0 : Nat} {w : jWd} {w' : jWd} (h0 : kd t = 8) (hk_a0 : kd a0 = 8) (h : fX9_copy t a0 w = some w') : JM yX9_copy MX9_copy 1 [.ref t, .ref a0] w none w' := by
  refine jm_of pl_X9 rfl (Nat.le_of_ble_eq_true rfl) ?_
  show J MX9_copy 1 w 0 [(0, .ref t), (1, .ref a0)] [] none w'
  unfold fX9_copy at h
  refine jr_aload_n dX9_copy_0 rfl 0 rfl ?_
  refine jr_aload_n dX9_copy_1 rfl 1 rfl ?_
  refine gf_X9_30 rfl hk_a0 dX9_copy_2 ?_
  refine pf_X9_30 rfl h0 dX9_copy_5 ?_
  refine j_nmw (fun w_1 e_2 => ?_)
  replace h := drvL e_2 h
  refine jr_aload_n dX9_copy_8 rfl 0 rfl ?_
  refine jr_aload_n dX9_copy_9 rfl 1 rfl ?_
  refine gf_X9_34 rfl hk_a0 dX9_copy_10 ?_
  refine pf_X9_34 rfl h0 dX9_copy_13 ?_
  refine j_nmw (fun w_3 e_4 => ?_)
  replace h := drvL e_4 h
  refine jr_aload_n dX9_copy_16 rfl 0 rfl ?_
  refine jr_aload_n dX9_copy_17 rfl 1 rfl ?_
  refine gf_X9_37 rfl hk_a0 dX9_copy_18 ?_
  refine pf_X9_37 rfl h0 dX9_copy_21 ?_
  refine j_nmw (fun w_5 e_6 => ?_)
  replace h := drvL e_6 h
  refine jr_aload_n dX9_copy_24 rfl 1 rfl ?_
  refine gf_X9_11 (r := (a0 + 1)) rfl hk_a0 rfl dX9_copy_25 ?_
  refine jr_iconst (v := (0 : Int32)) dX9_copy_28 (by decide) ?_
  refine jr_aload_n dX9_copy_29 rfl 0 rfl ?_
  refine gf_X9_11 (r := (t + 1)) rfl h0 rfl dX9_copy_30 ?_
  refine jr_iconst (v := (0 : Int32)) dX9_copy_33 (by decide) ?_
  refine jr_bipush (v := (20 : Int32)) dX9_copy_34 (by decide) ?_
  obtain ⟨hg_9, h⟩ := drvC h
  refine jr_copyI wML_X9_59 (by decide) (Nat.le_of_ble_eq_true rfl) (kr_8_1 hk_a0) (kr_8_1 h0) hg_9 dX9_copy_36 ?_
  refine j_nmw (fun w_7 e_8 => ?_)
  replace h := drvL e_8 h
  refine jr_aload_n dX9_copy_39 rfl 1 rfl ?_
  refine gf_X9_15 (r := (a0 + 2)) rfl hk_a0 rfl dX9_copy_40 ?_
  refine jr_iconst (v := (0 : Int32)) dX9_copy_43 (by decide) ?_
  refine jr_aload_n dX9_copy_44 rfl 0 rfl ?_
  refine gf_X9_15 (r := (t + 2)) rfl h0 rfl dX9_copy_45 ?_
  refine jr_iconst (v := (0 : Int32)) dX9_copy_48 (by decide) ?_
  refine jr_bipush (v := (20 : Int32)) dX9_copy_49 (by decide) ?_
  obtain ⟨hg_12, h⟩ := drvC h
  refine jr_copyI wML_X9_59 (by decide) (Nat.le_of_ble_eq_true rfl) (kr_8_2 hk_a0) (kr_8_2 h0) hg_12 dX9_copy_51 ?_
  refine j_nmw (fun w_10 e_11 => ?_)
  replace h := drvL e_11 h
  refine jr_aload_n dX9_copy_54 rfl 1 rfl ?_
  refine gf_X9_18 (r := (a0 + 3)) rfl hk_a0 rfl dX9_copy_55 ?_
  refine jr_iconst (v := (0 : Int32)) dX9_copy_58 (by decide) ?_
  refine jr_aload_n dX9_copy_59 rfl 0 rfl ?_
  refine gf_X9_18 (r := (t + 3)) rfl h0 rfl dX9_copy_60 ?_
  refine jr_iconst (v := (0 : Int32)) dX9_copy_63 (by decide) ?_
  refine jr_bipush (v := (40 : Int32)) dX9_copy_64 (by decide) ?_
  obtain ⟨hg_15, h⟩ := drvC h
  refine jr_copyI wML_X9_59 (by decide) (Nat.le_of_ble_eq_true rfl) (kr_8_3 hk_a0) (kr_8_3 h0) hg_15 dX9_copy_66 ?_
  refine j_nmw (fun w_13 e_14 => ?_)
  replace h := drvL e_14 h
  refine jr_aload_n dX9_copy_69 rfl 1 rfl ?_
  refine gf_X9_21 (r := (a0 + 4)) rfl hk_a0 rfl dX9_copy_70 ?_
  refine jr_iconst (v := (0 : Int32)) dX9_copy_73 (by decide) ?_
  refine jr_aload_n dX9_copy_74 rfl 0 rfl ?_
  refine gf_X9_21 (r := (t + 4)) rfl h0 rfl dX9_copy_75 ?_
  refine jr_iconst (v := (0 : Int32)) dX9_copy_78 (by decide) ?_
  refine jr_bipush (v := (40 : Int32)) dX9_copy_79 (by decide) ?_
  obtain ⟨hg_18, h⟩ := drvC h
  refine jr_copyI wML_X9_59 (by decide) (Nat.le_of_ble_eq_true rfl) (kr_8_4 hk_a0) (kr_8_4 h0) hg_18 dX9_copy_81 ?_
  refine j_nmw (fun w_16 e_17 => ?_)
  replace h := drvL e_17 h
  refine jr_aload_n dX9_copy_84 rfl 1 rfl ?_
  refine gf_X9_24 (r := (a0 + 5)) rfl hk_a0 rfl dX9_copy_85 ?_
  refine jr_iconst (v := (0 : Int32)) dX9_copy_88 (by decide) ?_
  refine jr_aload_n dX9_copy_89 rfl 0 rfl ?_
  refine gf_X9_24 (r := (t + 5)) rfl h0 rfl dX9_copy_90 ?_
  refine jr_iconst (v := (0 : Int32)) dX9_copy_93 (by decide) ?_
  refine jr_bipush (v := (8 : Int32)) dX9_copy_94 (by decide) ?_
  obtain ⟨hg_21, h⟩ := drvC h
  refine jr_copyI wML_X9_59 (by decide) (Nat.le_of_ble_eq_true rfl) (kr_8_5 hk_a0) (kr_8_5 h0) hg_21 dX9_copy_96 ?_
  refine j_nmw (fun w_19 e_20 => ?_)
  replace h := drvL e_20 h
  refine jr_aload_n dX9_copy_99 rfl 1 rfl ?_
  refine gf_X9_27 (r := (a0 + 6)) rfl hk_a0 rfl dX9_copy_100 ?_
  refine jr_iconst (v := (0 : Int32)) dX9_copy_103 (by decide) ?_
  refine jr_aload_n dX9_copy_104 rfl 0 rfl ?_
  refine gf_X9_27 (r := (t + 6)) rfl h0 rfl dX9_copy_105 ?_
  refine jr_iconst (v := (0 : Int32)) dX9_copy_108 (by decide) ?_
  refine jr_bipush (v := (8 : Int32)) dX9_copy_109 (by decide) ?_
  obtain ⟨hg_24, h⟩ := drvC h
  refine jr_copyI wML_X9_59 (by decide) (Nat.le_of_ble_eq_true rfl) (kr_8_6 hk_a0) (kr_8_6 h0) hg_24 dX9_copy_111 ?_
  refine j_nmw (fun w_22 e_23 => ?_)
  replace h := drvL e_23 h
  obtain rfl := drvS1 h
  exact jr_vret rfl dX9_copy_114
set_option maxHeartbeats 4000000 in
set_option maxRecDepth 100000 in
theorem tX8_copy {t : Nat} {a0 : Nat} {w : jWd} {w' : jWd} (h0 : kd t = 7) (hk_a0 : kd a0 = 7) (h : fX8_copy t a0 w = some w') : JM yX8_copy MX8_copy 2 [.ref t, .ref a0] w none w' := by
  refine jm_of pl_X8 rfl (Nat.le_of_ble_eq_true rfl) ?_
  show J MX8_copy 2 w 0 [(0, .ref t), (1, .ref a0)] [] none w'
  unfold fX8_copy at h
  refine jr_aload_n dX8_copy_0 rfl 0 rfl ?_
  refine gf_X8_16 (r := (t + 1)) rfl h0 rfl dX8_copy_1 ?_
  refine jr_aload_n dX8_copy_4 rfl 1 rfl ?_
  refine gf_X8_16 (r := (a0 + 1)) rfl hk_a0 rfl dX8_copy_5 ?_
  obtain ⟨w_2, hq_1, h⟩ := drvB h
  refine j_callVn lk_X8_83 wIM_X5_copy wSE_X5_copy (kr_7_1 h0) (by decide) rfl (tX5_copy (kr_7_1 h0) (kr_7_1 hk_a0) hq_1) (by omega) rfl rfl (Nat.le_of_ble_eq_true rfl) dX8_copy_8 ?_
  refine jr_aload_n dX8_copy_11 rfl 0 rfl ?_
  refine gf_X8_20 (r := (t + 8)) rfl h0 rfl dX8_copy_12 ?_
  refine jr_aload_n dX8_copy_15 rfl 1 rfl ?_
  refine gf_X8_20 (r := (a0 + 8)) rfl hk_a0 rfl dX8_copy_16 ?_
  obtain ⟨w_4, hq_3, h⟩ := drvB h
  refine j_callVn lk_X8_83 wIM_X5_copy wSE_X5_copy (kr_7_8 h0) (by decide) rfl (tX5_copy (kr_7_8 h0) (kr_7_8 hk_a0) hq_3) (by omega) rfl rfl (Nat.le_of_ble_eq_true rfl) dX8_copy_19 ?_
  refine jr_aload_n dX8_copy_22 rfl 0 rfl ?_
  refine gf_X8_23 (r := (t + 15)) rfl h0 rfl dX8_copy_23 ?_
  refine jr_aload_n dX8_copy_26 rfl 1 rfl ?_
  refine gf_X8_23 (r := (a0 + 15)) rfl hk_a0 rfl dX8_copy_27 ?_
  obtain ⟨w_6, hq_5, h⟩ := drvB h
  refine j_callVn lk_X8_83 wIM_X5_copy wSE_X5_copy (kr_7_15 h0) (by decide) rfl (tX5_copy (kr_7_15 h0) (kr_7_15 hk_a0) hq_5) (by omega) rfl rfl (Nat.le_of_ble_eq_true rfl) dX8_copy_30 ?_
  refine jr_aload_n dX8_copy_33 rfl 0 rfl ?_
  refine gf_X8_26 (r := (t + 22)) rfl h0 rfl dX8_copy_34 ?_
  refine jr_aload_n dX8_copy_37 rfl 1 rfl ?_
  refine gf_X8_26 (r := (a0 + 22)) rfl hk_a0 rfl dX8_copy_38 ?_
  obtain ⟨w_8, hq_7, h⟩ := drvB h
  refine j_callVn lk_X8_83 wIM_X5_copy wSE_X5_copy (kr_7_22 h0) (by decide) rfl (tX5_copy (kr_7_22 h0) (kr_7_22 hk_a0) hq_7) (by omega) rfl rfl (Nat.le_of_ble_eq_true rfl) dX8_copy_41 ?_
  refine jr_aload_n dX8_copy_44 rfl 1 rfl ?_
  refine gf_X8_29 (r := (a0 + 29)) rfl hk_a0 rfl dX8_copy_45 ?_
  refine jr_iconst (v := (0 : Int32)) dX8_copy_48 (by decide) ?_
  refine jr_aload_n dX8_copy_49 rfl 0 rfl ?_
  refine gf_X8_29 (r := (t + 29)) rfl h0 rfl dX8_copy_50 ?_
  refine jr_iconst (v := (0 : Int32)) dX8_copy_53 (by decide) ?_
  refine jr_sipush (v := (480 : Int32)) dX8_copy_54 (by decide) ?_
  obtain ⟨hg_11, h⟩ := drvC h
  refine jr_copyJ wML_X8_87 (by decide) (Nat.le_of_ble_eq_true rfl) (kr_7_29 hk_a0) (kr_7_29 h0) hg_11 dX8_copy_57 ?_
  refine j_nmw (fun w_9 e_10 => ?_)
  replace h := drvL e_10 h
  refine jr_aload_n dX8_copy_60 rfl 1 rfl ?_
  refine gf_X8_33 (r := (a0 + 30)) rfl hk_a0 rfl dX8_copy_61 ?_
  refine jr_iconst (v := (0 : Int32)) dX8_copy_64 (by decide) ?_
  refine jr_aload_n dX8_copy_65 rfl 0 rfl ?_
  refine gf_X8_33 (r := (t + 30)) rfl h0 rfl dX8_copy_66 ?_
  refine jr_iconst (v := (0 : Int32)) dX8_copy_69 (by decide) ?_
  refine jr_sipush (v := (256 : Int32)) dX8_copy_70 (by decide) ?_
  obtain ⟨hg_14, h⟩ := drvC h
  refine jr_copyI wML_X8_87 (by decide) (Nat.le_of_ble_eq_true rfl) (kr_7_30 hk_a0) (kr_7_30 h0) hg_14 dX8_copy_73 ?_
  refine j_nmw (fun w_12 e_13 => ?_)
  replace h := drvL e_13 h
  refine jr_aload_n dX8_copy_76 rfl 0 rfl ?_
  refine gf_X8_40 (r := (t + 31)) rfl h0 rfl dX8_copy_77 ?_
  refine jr_aload_n dX8_copy_80 rfl 1 rfl ?_
  refine gf_X8_40 (r := (a0 + 31)) rfl hk_a0 rfl dX8_copy_81 ?_
  obtain ⟨w_16, hq_15, h⟩ := drvB h
  refine j_callVn lk_X8_93 wIM_X1_copy wSE_X1_copy (kr_7_31 h0) (by decide) rfl (tX1_copy (kr_7_31 h0) (kr_7_31 hk_a0) hq_15) (by omega) rfl rfl (Nat.le_of_ble_eq_true rfl) dX8_copy_84 ?_
  refine jr_aload_n dX8_copy_87 rfl 0 rfl ?_
  refine gf_X8_47 (r := (t + 38)) rfl h0 rfl dX8_copy_88 ?_
  refine jr_aload_n dX8_copy_91 rfl 1 rfl ?_
  refine gf_X8_47 (r := (a0 + 38)) rfl hk_a0 rfl dX8_copy_92 ?_
  obtain ⟨w_18, hq_17, h⟩ := drvB h
  refine j_callVn lk_X8_96 wIM_X3_copy wSE_X3_copy (kr_7_38 h0) (by decide) rfl (tX3_copy (kr_7_38 h0) (kr_7_38 hk_a0) hq_17) (by omega) rfl rfl (Nat.le_of_ble_eq_true rfl) dX8_copy_95 ?_
  refine jr_aload_n dX8_copy_98 rfl 0 rfl ?_
  refine gf_X8_54 (r := (t + 40)) rfl h0 rfl dX8_copy_99 ?_
  refine jr_aload_n dX8_copy_102 rfl 1 rfl ?_
  refine gf_X8_54 (r := (a0 + 40)) rfl hk_a0 rfl dX8_copy_103 ?_
  obtain ⟨w_20, hq_19, h⟩ := drvB h
  refine j_callVn lk_X8_99 wIM_X0_copy wSE_X0_copy (kr_7_40 h0) (by decide) rfl (tX0_copy (kr_7_40 h0) (kr_7_40 hk_a0) hq_19) (by omega) rfl rfl (Nat.le_of_ble_eq_true rfl) dX8_copy_106 ?_
  refine jr_aload_n dX8_copy_109 rfl 0 rfl ?_
  refine gf_X8_61 (r := (t + 47)) rfl h0 rfl dX8_copy_110 ?_
  refine jr_aload_n dX8_copy_113 rfl 1 rfl ?_
  refine gf_X8_61 (r := (a0 + 47)) rfl hk_a0 rfl dX8_copy_114 ?_
  obtain ⟨w_22, hq_21, h⟩ := drvB h
  refine j_callVn lk_X8_102 wIM_X9_copy wSE_X9_copy (kr_7_47 h0) (by decide) rfl (tX9_copy (kr_7_47 h0) (kr_7_47 hk_a0) hq_21) (by omega) rfl rfl (Nat.le_of_ble_eq_true rfl) dX8_copy_117 ?_
  refine jr_aload_n dX8_copy_120 rfl 0 rfl ?_
  refine gf_X8_68 (r := (t + 54)) rfl h0 rfl dX8_copy_121 ?_
  refine jr_aload_n dX8_copy_124 rfl 1 rfl ?_
  refine gf_X8_68 (r := (a0 + 54)) rfl hk_a0 rfl dX8_copy_125 ?_
  obtain ⟨w_24, hq_23, h⟩ := drvB h
  refine j_callVn lk_X8_105 wIM_X10_copy wSE_X10_copy (kr_7_54 h0) (by decide) rfl (tX10_copy (kr_7_54 h0) (kr_7_54 hk_a0) hq_23) (by omega) rfl rfl (Nat.le_of_ble_eq_true rfl) dX8_copy_128 ?_
  refine jr_aload_n dX8_copy_131 rfl 0 rfl ?_
  refine jr_aload_n dX8_copy_132 rfl 1 rfl ?_
  refine gf_X8_72 rfl hk_a0 dX8_copy_133 ?_
  refine pf_X8_72 rfl h0 dX8_copy_136 ?_
  refine j_nmw (fun w_25 e_26 => ?_)
  replace h := drvL e_26 h
  refine jr_aload_n dX8_copy_139 rfl 0 rfl ?_
  refine jr_aload_n dX8_copy_140 rfl 1 rfl ?_
  refine gf_X8_76 rfl hk_a0 dX8_copy_141 ?_
  refine pf_X8_76 rfl h0 dX8_copy_144 ?_
  refine j_nmw (fun w_27 e_28 => ?_)
  replace h := drvL e_28 h
  obtain rfl := drvS1 h
  exact jr_vret rfl dX8_copy_147
set_option maxHeartbeats 4000000 in
set_option maxRecDepth 100000 in
theorem hbX8_follow_23 {n : Nat} {t : Nat} {p2 : Int32} {k78 : jWd → (Option jWd)} {w' : jWd} {rec : Int32 → jWd → Option jWd} (h0 : kd t = 7) (hk78 : ∀ (w9 : jWd), k78 w9 = some w' → J MX8_follow 7 w9 78 [(0, .ref t), (2, .int p2)] [] none w')
    (hrec : ∀ (x3 : Int32) (w : jWd) , rec x3 w = some w' → J MX8_follow 7 w 23 [(0, .ref t), (2, .int p2), (3, .int x3)] [] none w') : ∀ (x3 : Int32) (w : jWd) , bX8_follow_23 n t p2 k78 rec x3 w = some w' → J MX8_follow 7 w 23 [(0, .ref t), (2, .int p2), (3, .int x3)] [] none w' := by
  intro x3 w h
  unfold bX8_follow_23 at h
  refine jr_iload_n dX8_follow_23 rfl 2 rfl ?_
  refine jr_aload_n dX8_follow_24 rfl 0 rfl ?_
  refine gf_X8_16 (r := (t + 1)) rfl h0 rfl dX8_follow_25 ?_
  refine gf_X8_132 (r := (t + 5)) rfl (kr_7_1 h0) rfl dX8_follow_28 ?_
  refine jr_iload_n dX8_follow_31 rfl 1 rfl ?_
  obtain ⟨hg_3, h⟩ := drvG h
  refine jr_iald (kr_7_5 h0) hg_3 dX8_follow_32 ?_
  refine jr_icmp_ge (tgt := 78) (nxt := 36) dX8_follow_33 (by decide) rfl (fun hc => ?_) (fun hc => ?_)
  · replace h := drvT hc h
    refine jr_sub [0, 1] rfl ?_
    exact hk78 _ h
  · replace h := drvE hc h
    refine jr_aload_n dX8_follow_36 rfl 0 rfl ?_
    refine gf_X8_29 (r := (t + 29)) rfl h0 rfl dX8_follow_37 ?_
    refine jr_iload_n dX8_follow_40 rfl 1 rfl ?_
    refine jr_bipush (v := (12 : Int32)) dX8_follow_41 (by decide) ?_
    refine jr_imul dX8_follow_43 ?_
    refine jr_iload_n dX8_follow_44 rfl 2 rfl ?_
    refine jr_iadd dX8_follow_45 ?_
    refine jr_aload_n dX8_follow_46 rfl 0 rfl ?_
    refine gf_X8_40 (r := (t + 31)) rfl h0 rfl dX8_follow_47 ?_
    refine jr_aload_n dX8_follow_50 rfl 0 rfl ?_
    refine gf_X8_16 (r := (t + 1)) rfl h0 rfl dX8_follow_51 ?_
    refine jr_iload_n dX8_follow_54 rfl 1 rfl ?_
    refine jr_iload_n dX8_follow_55 rfl 2 rfl ?_
    obtain ⟨r_5, hq_4, h⟩ := drvB h
    refine j_callVv lk_X8_135 wIM_X5_at wSE_X5_at (kr_7_1 h0) (by decide) rfl (tX5_at (kr_7_1 h0) hq_4) (by omega) rfl rfl (Nat.le_of_ble_eq_true rfl) dX8_follow_56 ?_
    refine jr_aload_n dX8_follow_59 rfl 0 rfl ?_
    refine gf_X8_16 (r := (t + 1)) rfl h0 rfl dX8_follow_60 ?_
    refine gf_X8_121 (r := (t + 2)) rfl (kr_7_1 h0) rfl dX8_follow_63 ?_
    refine jr_iload_n dX8_follow_66 rfl 1 rfl ?_
    obtain ⟨hg_6, h⟩ := drvG h
    refine jr_iald (kr_7_2 h0) hg_6 dX8_follow_67 ?_
    obtain ⟨r_8, hq_7, h⟩ := drvB h
    refine j_callVv lk_X8_128 wIM_X1_smooth wSE_X1_smooth (kr_7_31 h0) (by decide) rfl (tX1_smooth (kr_7_31 h0) hq_7) (by omega) rfl rfl (Nat.le_of_ble_eq_true rfl) dX8_follow_68 ?_
    obtain ⟨hg_11, h⟩ := drvG h
    refine jr_last (kr_7_29 h0) hg_11 dX8_follow_71 ?_
    refine j_nmw (fun w_9 e_10 => ?_)
    replace h := drvL e_10 h
    refine jr_iincN (c := (1 : Int32)) (lv' := fun (x3_12 : Int32) => [(3, .int x3_12), (0, .ref t), (2, .int p2)]) dX8_follow_72 (by decide) 2 rfl (by decide) (fun _ => rfl) (fun x3_12 e_13 => ?_)
    replace h := drvL e_13 h
    refine jr_goto (tgt := 23) dX8_follow_75 (by decide) ?_
    refine jr_sub [1, 2, 0] rfl ?_
    exact hrec _ _ h
theorem hlX8_follow_23 {n : Nat} {t : Nat} {p2 : Int32} {k78 : jWd → (Option jWd)} {w' : jWd} (h0 : kd t = 7) (hk78 : ∀ (w9 : jWd), k78 w9 = some w' → J MX8_follow 7 w9 78 [(0, .ref t), (2, .int p2)] [] none w') : ∀ (c : Nat) (x3 : Int32) (w : jWd) , lX8_follow_23 n t p2 k78 c x3 w = some w' → J MX8_follow 7 w 23 [(0, .ref t), (2, .int p2), (3, .int x3)] [] none w' := by
  intro c
  induction c with
  | zero => intro x3 w h; cases h
  | succ c ih => intro x3 w h; exact hbX8_follow_23 (n := n) h0 hk78 ih _ _ h
set_option maxHeartbeats 4000000 in
set_option maxRecDepth 100000 in
theorem hbX8_follow_10 {n : Nat} {t : Nat} {w' : jWd} {rec : Int32 → jWd → Option jWd} (h0 : kd t = 7) 
    (hrec : ∀ (x2 : Int32) (w : jWd) , rec x2 w = some w' → J MX8_follow 7 w 10 [(0, .ref t), (2, .int x2)] [] none w') : ∀ (x2 : Int32) (w : jWd) , bX8_follow_10 n t rec x2 w = some w' → J MX8_follow 7 w 10 [(0, .ref t), (2, .int x2)] [] none w' := by
  intro x2 w h
  unfold bX8_follow_10 at h
  refine jr_iload_n dX8_follow_10 rfl 1 rfl ?_
  refine jr_aload_n dX8_follow_11 rfl 0 rfl ?_
  refine gf_X8_16 (r := (t + 1)) rfl h0 rfl dX8_follow_12 ?_
  refine gf_X8_115 rfl (kr_7_1 h0) dX8_follow_15 ?_
  refine jr_icmp_ge (tgt := 84) (nxt := 21) dX8_follow_18 (by decide) rfl (fun hc => ?_) (fun hc => ?_)
  · replace h := drvT hc h
    obtain rfl := drvS1 h
    exact jr_vret rfl dX8_follow_84
  · replace h := drvE hc h
    refine jr_iconst (v := (0 : Int32)) dX8_follow_21 (by decide) ?_
    refine jr_istore_n (lv' := [(3, .int (0 : Int32)), (0, .ref t), (2, .int x2)]) dX8_follow_22 rfl (by decide) rfl ?_
    refine jr_sub [1, 2, 0] rfl ?_
    refine hlX8_follow_23 h0 ?_ _ _ _ h
    · intro w_14 h
      try dsimp only at h
      refine jr_iincN (c := (1 : Int32)) (lv' := fun (x2_15 : Int32) => [(2, .int x2_15), (0, .ref t)]) dX8_follow_78 (by decide) 1 rfl (by decide) (fun _ => rfl) (fun x2_15 e_16 => ?_)
      replace h := drvL e_16 h
      refine jr_goto (tgt := 10) dX8_follow_81 (by decide) ?_
      refine jr_sub [1, 0] rfl ?_
      exact hrec _ _ h
theorem hlX8_follow_10 {n : Nat} {t : Nat} {w' : jWd} (h0 : kd t = 7)  : ∀ (c : Nat) (x2 : Int32) (w : jWd) , lX8_follow_10 n t c x2 w = some w' → J MX8_follow 7 w 10 [(0, .ref t), (2, .int x2)] [] none w' := by
  intro c
  induction c with
  | zero => intro x2 w h; cases h
  | succ c ih => intro x2 w h; exact hbX8_follow_10 (n := n) h0 ih _ _ h
set_option maxHeartbeats 4000000 in
set_option maxRecDepth 100000 in
theorem tX8_follow {n : Nat} {t : Nat} {a0 : Nat} {w : jWd} {w' : jWd} (h0 : kd t = 7) (hk_a0 : kd a0 = 1) (h : fX8_follow n t a0 w = some w') : JM yX8_follow MX8_follow 7 [.ref t, .ref a0] w none w' := by
  refine jm_of pl_X8 rfl (Nat.le_of_ble_eq_true rfl) ?_
  show J MX8_follow 7 w 0 [(0, .ref t), (1, .ref a0)] [] none w'
  unfold fX8_follow at h
  refine jr_aload_n dX8_follow_0 rfl 0 rfl ?_
  refine gf_X8_40 (r := (t + 31)) rfl h0 rfl dX8_follow_1 ?_
  refine jr_aload_n dX8_follow_4 rfl 1 rfl ?_
  obtain ⟨w_2, hq_1, h⟩ := drvB h
  refine j_callVn lk_X8_93 wIM_X1_copy wSE_X1_copy (kr_7_31 h0) (by decide) rfl (tX1_copy (kr_7_31 h0) hk_a0 hq_1) (by omega) rfl rfl (Nat.le_of_ble_eq_true rfl) dX8_follow_5 ?_
  refine jr_iconst (v := (0 : Int32)) dX8_follow_8 (by decide) ?_
  refine jr_istore_n (lv' := [(2, .int (0 : Int32)), (0, .ref t), (1, .ref a0)]) dX8_follow_9 rfl (by decide) rfl ?_
  refine jr_sub [1, 0] rfl ?_
  refine hlX8_follow_10 h0  _ _ _ h
set_option maxHeartbeats 4000000 in
set_option maxRecDepth 100000 in
theorem hbX8_hasEarly_2 {n : Nat} {t : Nat} {w : jWd} {r : Int32} {rec : Int32 → Option Int32} (h0 : kd t = 7) 
    (hrec : ∀ (x1 : Int32) , rec x1 = some r → J MX8_hasEarly 3 w 2 [(0, .ref t), (1, .int x1)] [] (some (.int r)) w) : ∀ (x1 : Int32) , bX8_hasEarly_2 n t w rec x1 = some r → J MX8_hasEarly 3 w 2 [(0, .ref t), (1, .int x1)] [] (some (.int r)) w := by
  intro x1 h
  unfold bX8_hasEarly_2 at h
  refine jr_iload_n dX8_hasEarly_2 rfl 1 rfl ?_
  refine jr_aload_n dX8_hasEarly_3 rfl 0 rfl ?_
  refine gf_X8_16 (r := (t + 1)) rfl h0 rfl dX8_hasEarly_4 ?_
  refine gf_X8_115 rfl (kr_7_1 h0) dX8_hasEarly_7 ?_
  refine jr_icmp_ge (tgt := 29) (nxt := 13) dX8_hasEarly_10 (by decide) rfl (fun hc => ?_) (fun hc => ?_)
  · replace h := drvT hc h
    refine jr_iconst (v := (0 : Int32)) dX8_hasEarly_29 (by decide) ?_
    obtain rfl := drvS1 h
    exact jr_zret (ty := .boolean) rfl rfl dX8_hasEarly_30
  · replace h := drvE hc h
    refine jr_aload_n dX8_hasEarly_13 rfl 0 rfl ?_
    refine jr_iload_n dX8_hasEarly_14 rfl 1 rfl ?_
    obtain ⟨r_2, hq_1, h⟩ := drvB h
    refine j_callVv lk_X8_118 wIM_X8_isEarly wSE_X8_isEarly h0 (by decide) rfl (tX8_isEarly h0 hq_1) (by omega) rfl rfl (Nat.le_of_ble_eq_true rfl) dX8_hasEarly_15 ?_
    refine jr_if_eq (tgt := 23) (nxt := 21) dX8_hasEarly_18 (by decide) rfl (fun hc => ?_) (fun hc => ?_)
    · replace h := drvT hc h
      refine jr_iincN (c := (1 : Int32)) (lv' := fun (x1_3 : Int32) => [(1, .int x1_3), (0, .ref t)]) dX8_hasEarly_23 (by decide) 1 rfl (by decide) (fun _ => rfl) (fun x1_3 e_4 => ?_)
      replace h := drvL e_4 h
      refine jr_goto (tgt := 2) dX8_hasEarly_26 (by decide) ?_
      refine jr_sub [1, 0] rfl ?_
      exact hrec _ h
    · replace h := drvE hc h
      refine jr_iconst (v := (1 : Int32)) dX8_hasEarly_21 (by decide) ?_
      obtain rfl := drvS1 h
      exact jr_zret (ty := .boolean) rfl rfl dX8_hasEarly_22
theorem hlX8_hasEarly_2 {n : Nat} {t : Nat} {w : jWd} {r : Int32} (h0 : kd t = 7)  : ∀ (c : Nat) (x1 : Int32) , lX8_hasEarly_2 n t w c x1 = some r → J MX8_hasEarly 3 w 2 [(0, .ref t), (1, .int x1)] [] (some (.int r)) w := by
  intro c
  induction c with
  | zero => intro x1 h; cases h
  | succ c ih => intro x1 h; exact hbX8_hasEarly_2 (n := n) h0 ih _ h
set_option maxHeartbeats 4000000 in
set_option maxRecDepth 100000 in
theorem tX8_hasEarly {n : Nat} {t : Nat} {w : jWd} {r : Int32} (h0 : kd t = 7) (h : fX8_hasEarly n t w = some r) : JM yX8_hasEarly MX8_hasEarly 3 [.ref t] w (some (.int r)) w := by
  refine jm_of pl_X8 rfl (Nat.le_of_ble_eq_true rfl) ?_
  show J MX8_hasEarly 3 w 0 [(0, .ref t)] [] (some (.int r)) w
  unfold fX8_hasEarly at h
  refine jr_iconst (v := (0 : Int32)) dX8_hasEarly_0 (by decide) ?_
  refine jr_istore_n (lv' := [(1, .int (0 : Int32)), (0, .ref t)]) dX8_hasEarly_1 rfl (by decide) rfl ?_
  refine jr_sub [1, 0] rfl ?_
  refine hlX8_hasEarly_2 h0  _ _ h
set_option maxHeartbeats 4000000 in
set_option maxRecDepth 100000 in
theorem hbX8_hasWordAfter_3 {n : Nat} {t : Nat} {p1 : Int64} {p3 : Int32} {w : jWd} {r : Int32} {rec : Int32 → Option Int32} (h0 : kd t = 7) 
    (hrec : ∀ (x4 : Int32) , rec x4 = some r → J MX8_hasWordAfter 3 w 3 [(0, .ref t), (1, .long p1), (3, .int p3), (4, .int x4)] [] (some (.int r)) w) : ∀ (x4 : Int32) , bX8_hasWordAfter_3 n t p1 p3 w rec x4 = some r → J MX8_hasWordAfter 3 w 3 [(0, .ref t), (1, .long p1), (3, .int p3), (4, .int x4)] [] (some (.int r)) w := by
  intro x4 h
  unfold bX8_hasWordAfter_3 at h
  refine jr_iload dX8_hasWordAfter_3 3 rfl ?_
  refine jr_lload_n dX8_hasWordAfter_5 rfl 1 rfl ?_
  obtain ⟨r_2, hq_1, h⟩ := drvB h
  refine j_callSv lk_X8_139 wST_X4_length (tX4_length  hq_1) (by omega) rfl rfl (Nat.le_of_ble_eq_true rfl) dX8_hasWordAfter_6 ?_
  refine jr_icmp_ge (tgt := 35) (nxt := 12) dX8_hasWordAfter_9 (by decide) rfl (fun hc => ?_) (fun hc => ?_)
  · replace h := drvT hc h
    refine jr_iconst (v := (0 : Int32)) dX8_hasWordAfter_35 (by decide) ?_
    obtain rfl := drvS1 h
    exact jr_zret (ty := .boolean) rfl rfl dX8_hasWordAfter_36
  · replace h := drvE hc h
    refine jr_aload_n dX8_hasWordAfter_12 rfl 0 rfl ?_
    refine gf_X8_33 (r := (t + 30)) rfl h0 rfl dX8_hasWordAfter_13 ?_
    refine jr_lload_n dX8_hasWordAfter_16 rfl 1 rfl ?_
    refine jr_iload dX8_hasWordAfter_17 3 rfl ?_
    refine j_callSv lk_X8_145 wST_X4_word (tX4_word  (a0 := p1) (a1 := x4) (w := w)) (by omega) rfl rfl (Nat.le_of_ble_eq_true rfl) dX8_hasWordAfter_19 ?_
    obtain ⟨hg_3, h⟩ := drvG h
    refine jr_iald (kr_7_30 h0) hg_3 dX8_hasWordAfter_22 ?_
    refine jr_iload_n dX8_hasWordAfter_23 rfl 2 rfl ?_
    refine jr_icmp_le (tgt := 29) (nxt := 27) dX8_hasWordAfter_24 (by decide) rfl (fun hc => ?_) (fun hc => ?_)
    · replace h := drvT hc h
      refine jr_iincN (c := (1 : Int32)) (lv' := fun (x4_4 : Int32) => [(4, .int x4_4), (0, .ref t), (1, .long p1), (3, .int p3)]) dX8_hasWordAfter_29 (by decide) 3 rfl (by decide) (fun _ => rfl) (fun x4_4 e_5 => ?_)
      replace h := drvL e_5 h
      refine jr_goto (tgt := 3) dX8_hasWordAfter_32 (by decide) ?_
      refine jr_sub [1, 2, 3, 0] rfl ?_
      exact hrec _ h
    · replace h := drvE hc h
      refine jr_iconst (v := (1 : Int32)) dX8_hasWordAfter_27 (by decide) ?_
      obtain rfl := drvS1 h
      exact jr_zret (ty := .boolean) rfl rfl dX8_hasWordAfter_28
theorem hlX8_hasWordAfter_3 {n : Nat} {t : Nat} {p1 : Int64} {p3 : Int32} {w : jWd} {r : Int32} (h0 : kd t = 7)  : ∀ (c : Nat) (x4 : Int32) , lX8_hasWordAfter_3 n t p1 p3 w c x4 = some r → J MX8_hasWordAfter 3 w 3 [(0, .ref t), (1, .long p1), (3, .int p3), (4, .int x4)] [] (some (.int r)) w := by
  intro c
  induction c with
  | zero => intro x4 h; cases h
  | succ c ih => intro x4 h; exact hbX8_hasWordAfter_3 (n := n) h0 ih _ h
set_option maxHeartbeats 4000000 in
set_option maxRecDepth 100000 in
theorem tX8_hasWordAfter {n : Nat} {t : Nat} {a0 : Int64} {a1 : Int32} {w : jWd} {r : Int32} (h0 : kd t = 7) (h : fX8_hasWordAfter n t a0 a1 w = some r) : JM yX8_hasWordAfter MX8_hasWordAfter 3 [.ref t, .long a0, .int a1] w (some (.int r)) w := by
  refine jm_of pl_X8 rfl (Nat.le_of_ble_eq_true rfl) ?_
  show J MX8_hasWordAfter 3 w 0 [(0, .ref t), (1, .long a0), (3, .int a1)] [] (some (.int r)) w
  unfold fX8_hasWordAfter at h
  refine jr_iconst (v := (0 : Int32)) dX8_hasWordAfter_0 (by decide) ?_
  refine jr_istore (lv' := [(4, .int (0 : Int32)), (0, .ref t), (1, .long a0), (3, .int a1)]) dX8_hasWordAfter_1 (by decide) rfl ?_
  refine jr_sub [1, 2, 3, 0] rfl ?_
  refine hlX8_hasWordAfter_3 h0  _ _ h
set_option maxHeartbeats 4000000 in
set_option maxRecDepth 100000 in
theorem hbX8_moveAbout_6 {n : Nat} {t : Nat} {p1 : Nat} {p2 : Int32} {w' : jWd} {rec : Int32 → Int32 → jWd → Option jWd} (h0 : kd t = 7) (hk_p1 : kd p1 = 14) 
    (hrec : ∀ (x4 : Int32) (x5 : Int32) (w : jWd) , rec x4 x5 w = some w' → J MX8_moveAbout 2 w 6 [(0, .ref t), (1, .ref p1), (2, .int p2), (4, .int x4), (5, .int x5)] [] none w') : ∀ (x4 : Int32) (x5 : Int32) (w : jWd) , bX8_moveAbout_6 n t p1 p2 rec x4 x5 w = some w' → J MX8_moveAbout 2 w 6 [(0, .ref t), (1, .ref p1), (2, .int p2), (4, .int x4), (5, .int x5)] [] none w' := by
  intro x4 x5 w h
  unfold bX8_moveAbout_6 at h
  refine jr_iload dX8_moveAbout_6 4 rfl ?_
  refine jr_iconst (v := (1 : Int32)) dX8_moveAbout_8 (by decide) ?_
  refine jr_iadd dX8_moveAbout_9 ?_
  refine jr_iload_n dX8_moveAbout_10 rfl 2 rfl ?_
  refine jr_icmp_ge (tgt := 75) (nxt := 14) dX8_moveAbout_11 (by decide) rfl (fun hc => ?_) (fun hc => ?_)
  · replace h := drvT hc h
    obtain rfl := drvS1 h
    exact jr_vret rfl dX8_moveAbout_75
  · replace h := drvE hc h
    refine jr_iload dX8_moveAbout_14 4 rfl ?_
    refine jr_iconst (v := (1 : Int32)) dX8_moveAbout_16 (by decide) ?_
    refine jr_iadd dX8_moveAbout_17 ?_
    refine jr_aload_n dX8_moveAbout_18 rfl 1 rfl ?_
    refine jr_alen hk_p1 (by decide) (by decide) dX8_moveAbout_19 ?_
    refine jr_icmp_ge (tgt := 75) (nxt := 23) dX8_moveAbout_20 (by decide) rfl (fun hc => ?_) (fun hc => ?_)
    · replace h := drvT hc h
      obtain rfl := drvS1 h
      exact jr_vret rfl dX8_moveAbout_75
    · replace h := drvE hc h
      refine jr_iload dX8_moveAbout_23 3 rfl ?_
      refine j_callSv lk_X8_149 wST_X3_next (tX3_next  (a0 := x4) (w := w)) (by omega) rfl rfl (Nat.le_of_ble_eq_true rfl) dX8_moveAbout_25 ?_
      refine j_nmi (fun x4_1 e_2 => ?_)
      replace h := drvL e_2 h
      refine jr_istore (lv' := [(4, .int x4_1), (0, .ref t), (1, .ref p1), (2, .int p2), (5, .int x5)]) dX8_moveAbout_28 (by decide) rfl ?_
      refine jr_iload dX8_moveAbout_30 0 rfl ?_
      refine j_callSv lk_X8_153 wST_X3_drawn (tX3_drawn  (a0 := x4_1) (w := w)) (by omega) rfl rfl (Nat.le_of_ble_eq_true rfl) dX8_moveAbout_32 ?_
      refine jr_aload_n dX8_moveAbout_35 rfl 1 rfl ?_
      refine gf_X8_47 (r := (t + 38)) rfl h0 rfl dX8_moveAbout_36 ?_
      refine gf_X8_169 rfl (kr_7_38 h0) dX8_moveAbout_39 ?_
      refine jr_icmp_ge (tgt := 69) (nxt := 45) dX8_moveAbout_42 (by decide) rfl (fun hc => ?_) (fun hc => ?_)
      · replace h := drvT hc h
        refine jr_iincN (c := (1 : Int32)) (lv' := fun (x5_3 : Int32) => [(5, .int x5_3), (4, .int x4_1), (0, .ref t), (1, .ref p1), (2, .int p2)]) dX8_moveAbout_69 (by decide) 4 rfl (by decide) (fun _ => rfl) (fun x5_3 e_4 => ?_)
        replace h := drvL e_4 h
        refine jr_goto (tgt := 6) dX8_moveAbout_72 (by decide) ?_
        refine jr_sub [2, 3, 4, 1, 0] rfl ?_
        exact hrec _ _ _ h
      · replace h := drvE hc h
        refine jr_aload_n dX8_moveAbout_45 rfl 2 rfl ?_
        refine jr_iload dX8_moveAbout_46 4 rfl ?_
        obtain ⟨hg_5, h⟩ := drvG h
        refine jr_lald hk_p1 hg_5 dX8_moveAbout_48 ?_
        refine j_nml (fun x6_6 e_7 => ?_)
        replace h := drvL e_7 h
        refine jr_lstore (lv' := [(6, .long x6_6), (4, .int x4_1), (0, .ref t), (1, .ref p1), (2, .int p2), (5, .int x5)]) dX8_moveAbout_49 (by decide) rfl ?_
        refine jr_aload_n dX8_moveAbout_51 rfl 3 rfl ?_
        refine jr_iload dX8_moveAbout_52 5 rfl ?_
        refine jr_aload_n dX8_moveAbout_54 rfl 3 rfl ?_
        refine jr_iload dX8_moveAbout_55 5 rfl ?_
        refine jr_iconst (v := (1 : Int32)) dX8_moveAbout_57 (by decide) ?_
        refine jr_iadd dX8_moveAbout_58 ?_
        obtain ⟨hg_8, h⟩ := drvG h
        refine jr_lald hk_p1 hg_8 dX8_moveAbout_59 ?_
        obtain ⟨hg_11, h⟩ := drvG h
        refine jr_last hk_p1 hg_11 dX8_moveAbout_60 ?_
        refine j_nmw (fun w_9 e_10 => ?_)
        replace h := drvL e_10 h
        refine jr_aload_n dX8_moveAbout_61 rfl 3 rfl ?_
        refine jr_iload dX8_moveAbout_62 5 rfl ?_
        refine jr_iconst (v := (1 : Int32)) dX8_moveAbout_64 (by decide) ?_
        refine jr_iadd dX8_moveAbout_65 ?_
        refine jr_lload dX8_moveAbout_66 0 rfl ?_
        obtain ⟨hg_14, h⟩ := drvG h
        refine jr_last hk_p1 hg_14 dX8_moveAbout_68 ?_
        refine j_nmw (fun w_12 e_13 => ?_)
        replace h := drvL e_13 h
        refine jr_iincN (c := (1 : Int32)) (lv' := fun (x5_15 : Int32) => [(5, .int x5_15), (6, .long x6_6), (4, .int x4_1), (0, .ref t), (1, .ref p1), (2, .int p2)]) dX8_moveAbout_69 (by decide) 5 rfl (by decide) (fun _ => rfl) (fun x5_15 e_16 => ?_)
        replace h := drvL e_16 h
        refine jr_goto (tgt := 6) dX8_moveAbout_72 (by decide) ?_
        refine jr_sub [3, 4, 5, 2, 0] rfl ?_
        exact hrec _ _ _ h
theorem hlX8_moveAbout_6 {n : Nat} {t : Nat} {p1 : Nat} {p2 : Int32} {w' : jWd} (h0 : kd t = 7) (hk_p1 : kd p1 = 14)  : ∀ (c : Nat) (x4 : Int32) (x5 : Int32) (w : jWd) , lX8_moveAbout_6 n t p1 p2 c x4 x5 w = some w' → J MX8_moveAbout 2 w 6 [(0, .ref t), (1, .ref p1), (2, .int p2), (4, .int x4), (5, .int x5)] [] none w' := by
  intro c
  induction c with
  | zero => intro x4 x5 w h; cases h
  | succ c ih => intro x4 x5 w h; exact hbX8_moveAbout_6 (n := n) h0 hk_p1 ih _ _ _ h
set_option maxHeartbeats 4000000 in
set_option maxRecDepth 100000 in
theorem tX8_moveAbout {n : Nat} {t : Nat} {a0 : Nat} {a1 : Int32} {a2 : Int32} {w : jWd} {w' : jWd} (h0 : kd t = 7) (hk_a0 : kd a0 = 14) (h : fX8_moveAbout n t a0 a1 a2 w = some w') : JM yX8_moveAbout MX8_moveAbout 2 [.ref t, .ref a0, .int a1, .int a2] w none w' := by
  refine jm_of pl_X8 rfl (Nat.le_of_ble_eq_true rfl) ?_
  show J MX8_moveAbout 2 w 0 [(0, .ref t), (1, .ref a0), (2, .int a1), (3, .int a2)] [] none w'
  unfold fX8_moveAbout at h
  refine jr_iload_n dX8_moveAbout_0 rfl 3 rfl ?_
  refine jr_istore (lv' := [(4, .int a2), (0, .ref t), (1, .ref a0), (2, .int a1), (3, .int a2)]) dX8_moveAbout_1 (by decide) rfl ?_
  refine jr_iconst (v := (0 : Int32)) dX8_moveAbout_3 (by decide) ?_
  refine jr_istore (lv' := [(5, .int (0 : Int32)), (4, .int a2), (0, .ref t), (1, .ref a0), (2, .int a1), (3, .int a2)]) dX8_moveAbout_4 (by decide) rfl ?_
  refine jr_sub [2, 3, 4, 1, 0] rfl ?_
  refine hlX8_moveAbout_6 h0 hk_a0  _ _ _ _ h
set_option maxHeartbeats 4000000 in
set_option maxRecDepth 100000 in
theorem tX8_pile {t : Nat} {a0 : Int32} {w : jWd} (h0 : kd t = 7) : JM yX8_pile MX8_pile 1 [.ref t, .int a0] w (some (.ref (fX8_pile t a0))) w := by
  refine jm_of pl_X8 rfl (Nat.le_of_ble_eq_true rfl) ?_
  show J MX8_pile 1 w 0 [(0, .ref t), (1, .int a0)] [] (some (.ref (fX8_pile t a0))) w
  generalize h : (fX8_pile t a0) = r
  unfold fX8_pile at h
  refine jr_iload_n dX8_pile_0 rfl 1 rfl ?_
  by_cases hs_1 : a0 = (0 : Int32)
  · replace h := drvT hs_1 h
    refine jr_tableK (tgt := 28) dX8_pile_1 hs_1 (by decide) (by decide) rfl (by decide) ?_
    refine jr_aload_n dX8_pile_28 rfl 0 rfl ?_
    refine gf_X8_16 (r := (t + 1)) rfl h0 rfl dX8_pile_29 ?_
    subst h
    exact jr_aret rfl (Or.inl ⟨_, rfl⟩) dX8_pile_32
  replace h := drvE hs_1 h
  by_cases hs_2 : a0 = (1 : Int32)
  · replace h := drvT hs_2 h
    refine jr_tableK (tgt := 33) dX8_pile_1 hs_2 (by decide) (by decide) rfl (by decide) ?_
    refine jr_aload_n dX8_pile_33 rfl 0 rfl ?_
    refine gf_X8_20 (r := (t + 8)) rfl h0 rfl dX8_pile_34 ?_
    subst h
    exact jr_aret rfl (Or.inl ⟨_, rfl⟩) dX8_pile_37
  replace h := drvE hs_2 h
  by_cases hs_3 : a0 = (2 : Int32)
  · replace h := drvT hs_3 h
    refine jr_tableK (tgt := 38) dX8_pile_1 hs_3 (by decide) (by decide) rfl (by decide) ?_
    refine jr_aload_n dX8_pile_38 rfl 0 rfl ?_
    refine gf_X8_23 (r := (t + 15)) rfl h0 rfl dX8_pile_39 ?_
    subst h
    exact jr_aret rfl (Or.inl ⟨_, rfl⟩) dX8_pile_42
  replace h := drvE hs_3 h
  refine jr_tableOut (tgt := 43) dX8_pile_1 (by have a0 := lv_neT hs_1 (show (0 : Int32).toInt = 0 from rfl); have a1 := lv_neT hs_2 (show (1 : Int32).toInt = 1 from rfl); have a2 := lv_neT hs_3 (show (2 : Int32).toInt = 2 from rfl); omega) (by decide) ?_
  refine jr_aload_n dX8_pile_43 rfl 0 rfl ?_
  refine gf_X8_26 (r := (t + 22)) rfl h0 rfl dX8_pile_44 ?_
  subst h
  exact jr_aret rfl (Or.inl ⟨_, rfl⟩) dX8_pile_47
set_option maxHeartbeats 4000000 in
set_option maxRecDepth 100000 in
theorem tX8_putIntoSong {n : Nat} {t : Nat} {a0 : Int32} {a1 : Int64} {w : jWd} {r : Int32} {w' : jWd} (h0 : kd t = 7) (h : fX8_putIntoSong n t a0 a1 w = some (r, w')) : JM yX8_putIntoSong MX8_putIntoSong 7 [.ref t, .int a0, .long a1] w (some (.int r)) w' := by
  refine jm_of pl_X8 rfl (Nat.le_of_ble_eq_true rfl) ?_
  show J MX8_putIntoSong 7 w 0 [(0, .ref t), (1, .int a0), (2, .long a1)] [] (some (.int r)) w'
  unfold fX8_putIntoSong at h
  refine jr_aload_n dX8_putIntoSong_0 rfl 0 rfl ?_
  refine gf_X8_16 (r := (t + 1)) rfl h0 rfl dX8_putIntoSong_1 ?_
  refine jr_iload_n dX8_putIntoSong_4 rfl 1 rfl ?_
  refine j_callVv lk_X8_108 wIM_X5_has wSE_X5_has (kr_7_1 h0) (by decide) rfl (tX5_has (kr_7_1 h0) (a0 := a0) (t := (t + 1)) (w := w)) (by omega) rfl rfl (Nat.le_of_ble_eq_true rfl) dX8_putIntoSong_5 ?_
  refine jr_if_ne (tgt := 13) (nxt := 11) dX8_putIntoSong_8 (by decide) rfl (fun hc => ?_) (fun hc => ?_)
  · replace h := drvE hc h
    refine jr_aload_n dX8_putIntoSong_13 rfl 0 rfl ?_
    refine gf_X8_16 (r := (t + 1)) rfl h0 rfl dX8_putIntoSong_14 ?_
    refine jr_iload_n dX8_putIntoSong_17 rfl 1 rfl ?_
    refine jr_aload_n dX8_putIntoSong_18 rfl 0 rfl ?_
    refine gf_X8_16 (r := (t + 1)) rfl h0 rfl dX8_putIntoSong_19 ?_
    refine gf_X8_121 (r := (t + 2)) rfl (kr_7_1 h0) rfl dX8_putIntoSong_22 ?_
    refine jr_iload_n dX8_putIntoSong_25 rfl 1 rfl ?_
    obtain ⟨hg_1, h⟩ := drvG h
    refine jr_iald (kr_7_2 h0) hg_1 dX8_putIntoSong_26 ?_
    refine jr_lload_n dX8_putIntoSong_27 rfl 2 rfl ?_
    obtain ⟨r_4, w_3, hq_2, h⟩ := drvB2 h
    refine j_callVv lk_X8_124 wIM_X5_put wSE_X5_put (kr_7_1 h0) (by decide) rfl (tX5_put (kr_7_1 h0) hq_2) (by omega) rfl rfl (Nat.le_of_ble_eq_true rfl) dX8_putIntoSong_28 ?_
    refine jr_istore (lv' := [(4, .int r_4), (0, .ref t), (1, .int a0), (2, .long a1)]) dX8_putIntoSong_31 (by decide) rfl ?_
    refine jr_iload dX8_putIntoSong_33 0 rfl ?_
    refine jr_if_lt (tgt := 67) (nxt := 38) dX8_putIntoSong_35 (by decide) rfl (fun hc => ?_) (fun hc => ?_)
    · replace h := drvT hc h
      refine jr_iload dX8_putIntoSong_67 0 rfl ?_
      obtain ⟨rfl, rfl⟩ := drvS2 h
      exact jr_iret rfl dX8_putIntoSong_69
    · replace h := drvE hc h
      refine jr_aload_n dX8_putIntoSong_38 rfl 1 rfl ?_
      refine gf_X8_29 (r := (t + 29)) rfl h0 rfl dX8_putIntoSong_39 ?_
      refine jr_iload_n dX8_putIntoSong_42 rfl 2 rfl ?_
      refine jr_bipush (v := (12 : Int32)) dX8_putIntoSong_43 (by decide) ?_
      refine jr_imul dX8_putIntoSong_45 ?_
      refine jr_iload dX8_putIntoSong_46 0 rfl ?_
      refine jr_iadd dX8_putIntoSong_48 ?_
      refine jr_aload_n dX8_putIntoSong_49 rfl 1 rfl ?_
      refine gf_X8_40 (r := (t + 31)) rfl h0 rfl dX8_putIntoSong_50 ?_
      refine jr_lload_n dX8_putIntoSong_53 rfl 3 rfl ?_
      refine jr_aload_n dX8_putIntoSong_54 rfl 1 rfl ?_
      refine gf_X8_16 (r := (t + 1)) rfl h0 rfl dX8_putIntoSong_55 ?_
      refine gf_X8_121 (r := (t + 2)) rfl (kr_7_1 h0) rfl dX8_putIntoSong_58 ?_
      refine jr_iload_n dX8_putIntoSong_61 rfl 2 rfl ?_
      obtain ⟨hg_5, h⟩ := drvG h
      refine jr_iald (kr_7_2 h0) hg_5 dX8_putIntoSong_62 ?_
      obtain ⟨r_7, hq_6, h⟩ := drvB h
      refine j_callVv lk_X8_128 wIM_X1_smooth wSE_X1_smooth (kr_7_31 h0) (by decide) rfl (tX1_smooth (kr_7_31 h0) hq_6) (by omega) rfl rfl (Nat.le_of_ble_eq_true rfl) dX8_putIntoSong_63 ?_
      obtain ⟨hg_10, h⟩ := drvG h
      refine jr_last (kr_7_29 h0) hg_10 dX8_putIntoSong_66 ?_
      refine j_nmw (fun w_8 e_9 => ?_)
      replace h := drvL e_9 h
      refine jr_iload dX8_putIntoSong_67 0 rfl ?_
      obtain ⟨rfl, rfl⟩ := drvS2 h
      exact jr_iret rfl dX8_putIntoSong_69
  · replace h := drvT hc h
    refine jr_iconst (v := (-1 : Int32)) dX8_putIntoSong_11 (by decide) ?_
    obtain ⟨rfl, rfl⟩ := drvS2 h
    exact jr_iret rfl dX8_putIntoSong_12
set_option maxHeartbeats 4000000 in
set_option maxRecDepth 100000 in
theorem hbX8_tellOn_22 {n : Nat} {t : Nat} {p1 : Int32} {p3 : Nat} {k145 : Int32 → Int32 → jWd → (Option (Int32 × jWd))} {r : Int32} {w' : jWd} {rec : Int32 → Int32 → Int32 → jWd → Option (Int32 × jWd)} (h0 : kd t = 7) (hk_p3 : kd p3 = 14) (hk145 : ∀ (z4 : Int32) (z5 : Int32) (w9 : jWd), k145 z4 z5 w9 = some (r, w') → J MX8_tellOn 7 w9 145 [(0, .ref t), (3, .ref p3), (4, .int z4), (5, .int z5)] [] (some (.int r)) w')
    (hrec : ∀ (x4 : Int32) (x5 : Int32) (x6 : Int32) (w : jWd) , rec x4 x5 x6 w = some (r, w') → J MX8_tellOn 7 w 22 [(0, .ref t), (1, .int p1), (3, .ref p3), (4, .int x4), (5, .int x5), (6, .int x6)] [] (some (.int r)) w') : ∀ (x4 : Int32) (x5 : Int32) (x6 : Int32) (w : jWd) , bX8_tellOn_22 n t p1 p3 k145 rec x4 x5 x6 w = some (r, w') → J MX8_tellOn 7 w 22 [(0, .ref t), (1, .int p1), (3, .ref p3), (4, .int x4), (5, .int x5), (6, .int x6)] [] (some (.int r)) w' := by
  intro x4 x5 x6 w h
  unfold bX8_tellOn_22 at h
  refine jr_iload dX8_tellOn_22 5 rfl ?_
  refine jr_aload_n dX8_tellOn_24 rfl 0 rfl ?_
  refine gf_X8_16 (r := (t + 1)) rfl h0 rfl dX8_tellOn_25 ?_
  refine gf_X8_132 (r := (t + 5)) rfl (kr_7_1 h0) rfl dX8_tellOn_28 ?_
  refine jr_iload_n dX8_tellOn_31 rfl 1 rfl ?_
  obtain ⟨hg_1, h⟩ := drvG h
  refine jr_iald (kr_7_5 h0) hg_1 dX8_tellOn_32 ?_
  refine jr_icmp_ge (tgt := 145) (nxt := 36) dX8_tellOn_33 (by decide) rfl (fun hc => ?_) (fun hc => ?_)
  · replace h := drvT hc h
    refine jr_sub [0, 2, 3, 4] rfl ?_
    exact hk145 _ _ _ h
  · replace h := drvE hc h
    refine jr_iload dX8_tellOn_36 4 rfl ?_
    refine jr_aload_n dX8_tellOn_38 rfl 2 rfl ?_
    refine jr_alen hk_p3 (by decide) (by decide) dX8_tellOn_39 ?_
    refine jr_icmp_ge (tgt := 145) (nxt := 43) dX8_tellOn_40 (by decide) rfl (fun hc => ?_) (fun hc => ?_)
    · replace h := drvT hc h
      refine jr_sub [0, 2, 3, 4] rfl ?_
      exact hk145 _ _ _ h
    · replace h := drvE hc h
      refine jr_iload dX8_tellOn_43 3 rfl ?_
      refine j_callSv lk_X8_149 wST_X3_next (tX3_next  (a0 := x4) (w := w)) (by omega) rfl rfl (Nat.le_of_ble_eq_true rfl) dX8_tellOn_45 ?_
      refine j_nmi (fun x4_2 e_3 => ?_)
      replace h := drvL e_3 h
      refine jr_istore (lv' := [(4, .int x4_2), (0, .ref t), (1, .int p1), (3, .ref p3), (5, .int x5), (6, .int x6)]) dX8_tellOn_48 (by decide) rfl ?_
      refine jr_iload dX8_tellOn_50 0 rfl ?_
      refine j_callSv lk_X8_153 wST_X3_drawn (tX3_drawn  (a0 := x4_2) (w := w)) (by omega) rfl rfl (Nat.le_of_ble_eq_true rfl) dX8_tellOn_52 ?_
      refine jr_aload_n dX8_tellOn_55 rfl 1 rfl ?_
      refine gf_X8_47 (r := (t + 38)) rfl h0 rfl dX8_tellOn_56 ?_
      refine gf_X8_156 rfl (kr_7_38 h0) dX8_tellOn_59 ?_
      refine jr_icmp_ge (tgt := 68) (nxt := 65) dX8_tellOn_62 (by decide) rfl (fun hc => ?_) (fun hc => ?_)
      · replace h := drvT hc h
        refine jr_aload_n dX8_tellOn_68 rfl 1 rfl ?_
        refine gf_X8_47 (r := (t + 38)) rfl h0 rfl dX8_tellOn_69 ?_
        refine jr_aload_n dX8_tellOn_72 rfl 1 rfl ?_
        refine gf_X8_16 (r := (t + 1)) rfl h0 rfl dX8_tellOn_73 ?_
        refine jr_iload_n dX8_tellOn_76 rfl 2 rfl ?_
        refine jr_iload dX8_tellOn_77 5 rfl ?_
        obtain ⟨r_5, hq_4, h⟩ := drvB h
        refine j_callVv lk_X8_135 wIM_X5_at wSE_X5_at (kr_7_1 h0) (by decide) rfl (tX5_at (kr_7_1 h0) hq_4) (by omega) rfl rfl (Nat.le_of_ble_eq_true rfl) dX8_tellOn_79 ?_
        obtain ⟨r_7, hq_6, h⟩ := drvB h
        refine j_callVv lk_X8_159 wIM_X3_respoken wSE_X3_respoken (kr_7_38 h0) (by decide) rfl (tX3_respoken (kr_7_38 h0) hq_6) (by omega) rfl rfl (Nat.le_of_ble_eq_true rfl) dX8_tellOn_82 ?_
        refine jr_lstore (lv' := [(7, .long r_7), (4, .int x4_2), (0, .ref t), (1, .int p1), (3, .ref p3), (5, .int x5), (6, .int x6)]) dX8_tellOn_85 (by decide) rfl ?_
        refine jr_iload dX8_tellOn_87 1 rfl ?_
        refine j_callSv lk_X8_149 wST_X3_next (tX3_next  (a0 := x4_2) (w := w)) (by omega) rfl rfl (Nat.le_of_ble_eq_true rfl) dX8_tellOn_89 ?_
        refine j_nmi (fun x4_8 e_9 => ?_)
        replace h := drvL e_9 h
        refine jr_istore (lv' := [(4, .int x4_8), (7, .long r_7), (0, .ref t), (1, .int p1), (3, .ref p3), (5, .int x5), (6, .int x6)]) dX8_tellOn_92 (by decide) rfl ?_
        refine jr_aload_n dX8_tellOn_94 rfl 4 rfl ?_
        refine jr_iload dX8_tellOn_95 5 rfl ?_
        refine jr_iload dX8_tellOn_97 0 rfl ?_
        refine j_callSv lk_X8_153 wST_X3_drawn (tX3_drawn  (a0 := x4_8) (w := w)) (by omega) rfl rfl (Nat.le_of_ble_eq_true rfl) dX8_tellOn_99 ?_
        refine jr_aload_n dX8_tellOn_102 rfl 2 rfl ?_
        refine gf_X8_47 (r := (t + 38)) rfl h0 rfl dX8_tellOn_103 ?_
        refine gf_X8_163 rfl (kr_7_38 h0) dX8_tellOn_106 ?_
        obtain ⟨j135_11, ej135_11, h⟩ := drvF h
        have hj135_11 : ∀ (s_10 : Int64), j135_11 s_10 = some (r, w') → J MX8_tellOn 7 w 135 [(0, .ref t), (1, .int p1), (3, .ref p3), (4, .int x4_8), (5, .int x5), (6, .int x6)] [.long s_10, .int x5, .ref p3] (some (.int r)) w' := by
          intro s_10 h
          rw [ej135_11] at h
          try dsimp only at h
          obtain ⟨hg_14, h⟩ := drvG h
          refine jr_last hk_p3 hg_14 dX8_tellOn_135 ?_
          refine j_nmw (fun w_12 e_13 => ?_)
          replace h := drvL e_13 h
          refine jr_iincN (c := (1 : Int32)) (lv' := fun (x5_15 : Int32) => [(5, .int x5_15), (0, .ref t), (1, .int p1), (3, .ref p3), (4, .int x4_8), (6, .int x6)]) dX8_tellOn_136 (by decide) 4 rfl (by decide) (fun _ => rfl) (fun x5_15 e_16 => ?_)
          replace h := drvL e_16 h
          refine jr_iincN (c := (1 : Int32)) (lv' := fun (x6_17 : Int32) => [(6, .int x6_17), (5, .int x5_15), (0, .ref t), (1, .int p1), (3, .ref p3), (4, .int x4_8)]) dX8_tellOn_139 (by decide) 5 rfl (by decide) (fun _ => rfl) (fun x6_17 e_18 => ?_)
          replace h := drvL e_18 h
          refine jr_goto (tgt := 22) dX8_tellOn_142 (by decide) ?_
          refine jr_sub [2, 3, 4, 5, 1, 0] rfl ?_
          exact hrec _ _ _ _ h
        refine jr_icmp_ge (tgt := 133) (nxt := 112) dX8_tellOn_109 (by decide) rfl (fun hc => ?_) (fun hc => ?_)
        · replace h := drvT hc h
          refine jr_lload dX8_tellOn_133 1 rfl ?_
          refine jr_sub [2, 3, 4, 0, 5, 6] rfl ?_
          exact hj135_11 _ h
        · replace h := drvE hc h
          refine jr_aload_n dX8_tellOn_112 rfl 2 rfl ?_
          refine gf_X8_40 (r := (t + 31)) rfl h0 rfl dX8_tellOn_113 ?_
          refine jr_lload dX8_tellOn_116 1 rfl ?_
          refine jr_aload_n dX8_tellOn_118 rfl 2 rfl ?_
          refine gf_X8_16 (r := (t + 1)) rfl h0 rfl dX8_tellOn_119 ?_
          refine gf_X8_121 (r := (t + 2)) rfl (kr_7_1 h0) rfl dX8_tellOn_122 ?_
          refine jr_iload_n dX8_tellOn_125 rfl 3 rfl ?_
          obtain ⟨hg_19, h⟩ := drvG h
          refine jr_iald (kr_7_2 h0) hg_19 dX8_tellOn_126 ?_
          obtain ⟨r_21, hq_20, h⟩ := drvB h
          refine j_callVv lk_X8_128 wIM_X1_smooth wSE_X1_smooth (kr_7_31 h0) (by decide) rfl (tX1_smooth (kr_7_31 h0) hq_20) (by omega) rfl rfl (Nat.le_of_ble_eq_true rfl) dX8_tellOn_127 ?_
          refine jr_goto (tgt := 135) dX8_tellOn_130 (by decide) ?_
          refine jr_sub [2, 3, 4, 0, 5, 6] rfl ?_
          exact hj135_11 _ h
      · replace h := drvE hc h
        refine jr_goto (tgt := 139) dX8_tellOn_65 (by decide) ?_
        refine jr_iincN (c := (1 : Int32)) (lv' := fun (x6_22 : Int32) => [(6, .int x6_22), (4, .int x4_2), (0, .ref t), (1, .int p1), (3, .ref p3), (5, .int x5)]) dX8_tellOn_139 (by decide) 5 rfl (by decide) (fun _ => rfl) (fun x6_22 e_23 => ?_)
        replace h := drvL e_23 h
        refine jr_goto (tgt := 22) dX8_tellOn_142 (by decide) ?_
        refine jr_sub [2, 3, 4, 1, 5, 0] rfl ?_
        exact hrec _ _ _ _ h
theorem hlX8_tellOn_22 {n : Nat} {t : Nat} {p1 : Int32} {p3 : Nat} {k145 : Int32 → Int32 → jWd → (Option (Int32 × jWd))} {r : Int32} {w' : jWd} (h0 : kd t = 7) (hk_p3 : kd p3 = 14) (hk145 : ∀ (z4 : Int32) (z5 : Int32) (w9 : jWd), k145 z4 z5 w9 = some (r, w') → J MX8_tellOn 7 w9 145 [(0, .ref t), (3, .ref p3), (4, .int z4), (5, .int z5)] [] (some (.int r)) w') : ∀ (c : Nat) (x4 : Int32) (x5 : Int32) (x6 : Int32) (w : jWd) , lX8_tellOn_22 n t p1 p3 k145 c x4 x5 x6 w = some (r, w') → J MX8_tellOn 7 w 22 [(0, .ref t), (1, .int p1), (3, .ref p3), (4, .int x4), (5, .int x5), (6, .int x6)] [] (some (.int r)) w' := by
  intro c
  induction c with
  | zero => intro x4 x5 x6 w h; cases h
  | succ c ih => intro x4 x5 x6 w h; exact hbX8_tellOn_22 (n := n) h0 hk_p3 hk145 ih _ _ _ _ h
set_option maxHeartbeats 4000000 in
set_option maxRecDepth 100000 in
theorem tX8_tellOn {n : Nat} {t : Nat} {a0 : Int32} {a1 : Int32} {a2 : Nat} {w : jWd} {r : Int32} {w' : jWd} (h0 : kd t = 7) (hk_a2 : kd a2 = 14) (h : fX8_tellOn n t a0 a1 a2 w = some (r, w')) : JM yX8_tellOn MX8_tellOn 7 [.ref t, .int a0, .int a1, .ref a2] w (some (.int r)) w' := by
  refine jm_of pl_X8 rfl (Nat.le_of_ble_eq_true rfl) ?_
  show J MX8_tellOn 7 w 0 [(0, .ref t), (1, .int a0), (2, .int a1), (3, .ref a2)] [] (some (.int r)) w'
  unfold fX8_tellOn at h
  refine jr_aload_n dX8_tellOn_0 rfl 0 rfl ?_
  refine gf_X8_16 (r := (t + 1)) rfl h0 rfl dX8_tellOn_1 ?_
  refine jr_iload_n dX8_tellOn_4 rfl 1 rfl ?_
  refine j_callVv lk_X8_108 wIM_X5_has wSE_X5_has (kr_7_1 h0) (by decide) rfl (tX5_has (kr_7_1 h0) (a0 := a0) (t := (t + 1)) (w := w)) (by omega) rfl rfl (Nat.le_of_ble_eq_true rfl) dX8_tellOn_5 ?_
  refine jr_if_ne (tgt := 13) (nxt := 11) dX8_tellOn_8 (by decide) rfl (fun hc => ?_) (fun hc => ?_)
  · replace h := drvE hc h
    refine jr_iload_n dX8_tellOn_13 rfl 2 rfl ?_
    refine jr_istore (lv' := [(4, .int a1), (0, .ref t), (1, .int a0), (2, .int a1), (3, .ref a2)]) dX8_tellOn_14 (by decide) rfl ?_
    refine jr_iconst (v := (0 : Int32)) dX8_tellOn_16 (by decide) ?_
    refine jr_istore (lv' := [(5, .int (0 : Int32)), (4, .int a1), (0, .ref t), (1, .int a0), (2, .int a1), (3, .ref a2)]) dX8_tellOn_17 (by decide) rfl ?_
    refine jr_iconst (v := (0 : Int32)) dX8_tellOn_19 (by decide) ?_
    refine jr_istore (lv' := [(6, .int (0 : Int32)), (5, .int (0 : Int32)), (4, .int a1), (0, .ref t), (1, .int a0), (2, .int a1), (3, .ref a2)]) dX8_tellOn_20 (by decide) rfl ?_
    refine jr_sub [3, 4, 6, 2, 1, 0] rfl ?_
    refine hlX8_tellOn_22 h0 hk_a2 ?_ _ _ _ _ _ h
    · intro z4_25 z5_26 w_24 h
      try dsimp only at h
      refine jr_aload_n dX8_tellOn_145 rfl 0 rfl ?_
      refine jr_aload_n dX8_tellOn_146 rfl 1 rfl ?_
      refine jr_iload dX8_tellOn_147 3 rfl ?_
      refine jr_iload dX8_tellOn_149 2 rfl ?_
      obtain ⟨w_28, hq_27, h⟩ := drvB h
      refine j_callVn lk_X8_165 wIM_X8_moveAbout wSE_X8_moveAbout h0 (by decide) rfl (tX8_moveAbout h0 hk_a2 hq_27) (by omega) rfl rfl (Nat.le_of_ble_eq_true rfl) dX8_tellOn_151 ?_
      refine jr_iload dX8_tellOn_154 3 rfl ?_
      obtain ⟨rfl, rfl⟩ := drvS2 h
      exact jr_iret rfl dX8_tellOn_156
  · replace h := drvT hc h
    refine jr_iconst (v := (0 : Int32)) dX8_tellOn_11 (by decide) ?_
    obtain ⟨rfl, rfl⟩ := drvS2 h
    exact jr_iret rfl dX8_tellOn_12
set_option maxHeartbeats 4000000 in
set_option maxRecDepth 100000 in
theorem hbX9_allPaid_4 {n : Nat} {t : Nat} {w : jWd} {r : Int32} {rec : Int32 → Int32 → Option Int32} (h0 : kd t = 8) 
    (hrec : ∀ (x1 : Int32) (x2 : Int32) , rec x1 x2 = some r → J MX9_allPaid 1 w 4 [(0, .ref t), (1, .int x1), (2, .int x2)] [] (some (.int r)) w) : ∀ (x1 : Int32) (x2 : Int32) , bX9_allPaid_4 n t w rec x1 x2 = some r → J MX9_allPaid 1 w 4 [(0, .ref t), (1, .int x1), (2, .int x2)] [] (some (.int r)) w := by
  intro x1 x2 h
  unfold bX9_allPaid_4 at h
  refine jr_iload_n dX9_allPaid_4 rfl 2 rfl ?_
  refine jr_aload_n dX9_allPaid_5 rfl 0 rfl ?_
  refine gf_X9_30 rfl h0 dX9_allPaid_6 ?_
  refine jr_icmp_ge (tgt := 27) (nxt := 12) dX9_allPaid_9 (by decide) rfl (fun hc => ?_) (fun hc => ?_)
  · replace h := drvT hc h
    refine jr_iload_n dX9_allPaid_27 rfl 1 rfl ?_
    obtain rfl := drvS1 h
    exact jr_iret rfl dX9_allPaid_28
  · replace h := drvE hc h
    refine jr_iload_n dX9_allPaid_12 rfl 1 rfl ?_
    refine jr_aload_n dX9_allPaid_13 rfl 0 rfl ?_
    refine gf_X9_15 (r := (t + 2)) rfl h0 rfl dX9_allPaid_14 ?_
    refine jr_iload_n dX9_allPaid_17 rfl 2 rfl ?_
    obtain ⟨hg_1, h⟩ := drvG h
    refine jr_iald (kr_8_2 h0) hg_1 dX9_allPaid_18 ?_
    refine jr_iadd dX9_allPaid_19 ?_
    refine j_nmi (fun x1_2 e_3 => ?_)
    replace h := drvL e_3 h
    refine jr_istore_n (lv' := [(1, .int x1_2), (0, .ref t), (2, .int x2)]) dX9_allPaid_20 rfl (by decide) rfl ?_
    refine jr_iincN (c := (1 : Int32)) (lv' := fun (x2_4 : Int32) => [(2, .int x2_4), (1, .int x1_2), (0, .ref t)]) dX9_allPaid_21 (by decide) 2 rfl (by decide) (fun _ => rfl) (fun x2_4 e_5 => ?_)
    replace h := drvL e_5 h
    refine jr_goto (tgt := 4) dX9_allPaid_24 (by decide) ?_
    refine jr_sub [2, 1, 0] rfl ?_
    exact hrec _ _ h
theorem hlX9_allPaid_4 {n : Nat} {t : Nat} {w : jWd} {r : Int32} (h0 : kd t = 8)  : ∀ (c : Nat) (x1 : Int32) (x2 : Int32) , lX9_allPaid_4 n t w c x1 x2 = some r → J MX9_allPaid 1 w 4 [(0, .ref t), (1, .int x1), (2, .int x2)] [] (some (.int r)) w := by
  intro c
  induction c with
  | zero => intro x1 x2 h; cases h
  | succ c ih => intro x1 x2 h; exact hbX9_allPaid_4 (n := n) h0 ih _ _ h
set_option maxHeartbeats 4000000 in
set_option maxRecDepth 100000 in
theorem tX9_allPaid {n : Nat} {t : Nat} {w : jWd} {r : Int32} (h0 : kd t = 8) (h : fX9_allPaid n t w = some r) : JM yX9_allPaid MX9_allPaid 1 [.ref t] w (some (.int r)) w := by
  refine jm_of pl_X9 rfl (Nat.le_of_ble_eq_true rfl) ?_
  show J MX9_allPaid 1 w 0 [(0, .ref t)] [] (some (.int r)) w
  unfold fX9_allPaid at h
  refine jr_iconst (v := (0 : Int32)) dX9_allPaid_0 (by decide) ?_
  refine jr_istore_n (lv' := [(1, .int (0 : Int32)), (0, .ref t)]) dX9_allPaid_1 rfl (by decide) rfl ?_
  refine jr_iconst (v := (0 : Int32)) dX9_allPaid_2 (by decide) ?_
  refine jr_istore_n (lv' := [(2, .int (0 : Int32)), (1, .int (0 : Int32)), (0, .ref t)]) dX9_allPaid_3 rfl (by decide) rfl ?_
  refine jr_sub [2, 1, 0] rfl ?_
  refine hlX9_allPaid_4 h0  _ _ _ h
set_option maxHeartbeats 4000000 in
set_option maxRecDepth 100000 in
theorem tX9_fill {t : Nat} {a0 : Int32} {a1 : Int32} {w : jWd} {r : Int32} {w' : jWd} (h0 : kd t = 8) (h : fX9_fill t a0 a1 w = some (r, w')) : JM yX9_fill MX9_fill 1 [.ref t, .int a0, .int a1] w (some (.int r)) w' := by
  refine jm_of pl_X9 rfl (Nat.le_of_ble_eq_true rfl) ?_
  show J MX9_fill 1 w 0 [(0, .ref t), (1, .int a0), (2, .int a1)] [] (some (.int r)) w'
  unfold fX9_fill at h
  refine jr_aload_n dX9_fill_0 rfl 0 rfl ?_
  refine gf_X9_34 rfl h0 dX9_fill_1 ?_
  refine jr_bipush (v := (40 : Int32)) dX9_fill_4 (by decide) ?_
  obtain ⟨j39_2, ej39_2, h⟩ := drvF h
  have hj39_2 : ∀ (w_1 : jWd), j39_2 w_1 = some (r, w') → J MX9_fill 1 w_1 39 [(0, .ref t)] [] (some (.int r)) w' := by
    intro w_1 h
    rw [ej39_2] at h
    try dsimp only at h
    refine jr_aload_n dX9_fill_39 rfl 0 rfl ?_
    refine gf_X9_34 rfl h0 dX9_fill_40 ?_
    obtain ⟨rfl, rfl⟩ := drvS2 h
    exact jr_iret rfl dX9_fill_43
  refine jr_icmp_ge (tgt := 39) (nxt := 9) dX9_fill_6 (by decide) rfl (fun hc => ?_) (fun hc => ?_)
  · replace h := drvT hc h
    refine jr_sub [0] rfl ?_
    exact hj39_2 _ h
  · replace h := drvE hc h
    refine jr_aload_n dX9_fill_9 rfl 0 rfl ?_
    refine gf_X9_18 (r := (t + 3)) rfl h0 rfl dX9_fill_10 ?_
    refine jr_aload_n dX9_fill_13 rfl 0 rfl ?_
    refine gf_X9_34 rfl h0 dX9_fill_14 ?_
    refine jr_iload_n dX9_fill_17 rfl 1 rfl ?_
    obtain ⟨hg_5, h⟩ := drvG h
    refine jr_iast (kr_8_3 h0) hg_5 dX9_fill_18 ?_
    refine j_nmw (fun w_3 e_4 => ?_)
    replace h := drvL e_4 h
    refine jr_aload_n dX9_fill_19 rfl 0 rfl ?_
    refine gf_X9_21 (r := (t + 4)) rfl h0 rfl dX9_fill_20 ?_
    refine jr_aload_n dX9_fill_23 rfl 0 rfl ?_
    refine gf_X9_34 rfl h0 dX9_fill_24 ?_
    refine jr_iload_n dX9_fill_27 rfl 2 rfl ?_
    obtain ⟨hg_8, h⟩ := drvG h
    refine jr_iast (kr_8_4 h0) hg_8 dX9_fill_28 ?_
    refine j_nmw (fun w_6 e_7 => ?_)
    replace h := drvL e_7 h
    refine jr_aload_n dX9_fill_29 rfl 0 rfl ?_
    refine jr_dup dX9_fill_30 rfl ?_
    refine gf_X9_34 rfl h0 dX9_fill_31 ?_
    refine jr_iconst (v := (1 : Int32)) dX9_fill_34 (by decide) ?_
    refine jr_iadd dX9_fill_35 ?_
    refine pf_X9_34 rfl h0 dX9_fill_36 ?_
    refine j_nmw (fun w_9 e_10 => ?_)
    replace h := drvL e_10 h
    refine jr_sub [0] rfl ?_
    exact hj39_2 _ h
set_option maxHeartbeats 4000000 in
set_option maxRecDepth 100000 in
theorem hbX9_firstSpanEndingFrom_4 {n : Nat} {t : Nat} {p1 : Int32} {w : jWd} {r : Int32} {rec : Int32 → Int32 → Option Int32} (h0 : kd t = 8) 
    (hrec : ∀ (x2 : Int32) (x3 : Int32) , rec x2 x3 = some r → J MX9_firstSpanEndingFrom 1 w 4 [(0, .ref t), (1, .int p1), (2, .int x2), (3, .int x3)] [] (some (.int r)) w) : ∀ (x2 : Int32) (x3 : Int32) , bX9_firstSpanEndingFrom_4 n t p1 w rec x2 x3 = some r → J MX9_firstSpanEndingFrom 1 w 4 [(0, .ref t), (1, .int p1), (2, .int x2), (3, .int x3)] [] (some (.int r)) w := by
  intro x2 x3 h
  unfold bX9_firstSpanEndingFrom_4 at h
  refine jr_iload_n dX9_firstSpanEndingFrom_4 rfl 3 rfl ?_
  refine jr_aload_n dX9_firstSpanEndingFrom_5 rfl 0 rfl ?_
  refine gf_X9_37 rfl h0 dX9_firstSpanEndingFrom_6 ?_
  refine jr_icmp_ge (tgt := 50) (nxt := 12) dX9_firstSpanEndingFrom_9 (by decide) rfl (fun hc => ?_) (fun hc => ?_)
  · replace h := drvT hc h
    refine jr_iload_n dX9_firstSpanEndingFrom_50 rfl 2 rfl ?_
    obtain rfl := drvS1 h
    exact jr_iret rfl dX9_firstSpanEndingFrom_51
  · replace h := drvE hc h
    refine jr_aload_n dX9_firstSpanEndingFrom_12 rfl 0 rfl ?_
    refine gf_X9_27 (r := (t + 6)) rfl h0 rfl dX9_firstSpanEndingFrom_13 ?_
    refine jr_iload_n dX9_firstSpanEndingFrom_16 rfl 3 rfl ?_
    obtain ⟨hg_1, h⟩ := drvG h
    refine jr_iald (kr_8_6 h0) hg_1 dX9_firstSpanEndingFrom_17 ?_
    refine jr_iload_n dX9_firstSpanEndingFrom_18 rfl 1 rfl ?_
    refine jr_icmp_lt (tgt := 44) (nxt := 22) dX9_firstSpanEndingFrom_19 (by decide) rfl (fun hc => ?_) (fun hc => ?_)
    · replace h := drvT hc h
      refine jr_iincN (c := (1 : Int32)) (lv' := fun (x3_2 : Int32) => [(3, .int x3_2), (0, .ref t), (1, .int p1), (2, .int x2)]) dX9_firstSpanEndingFrom_44 (by decide) 3 rfl (by decide) (fun _ => rfl) (fun x3_2 e_3 => ?_)
      replace h := drvL e_3 h
      refine jr_goto (tgt := 4) dX9_firstSpanEndingFrom_47 (by decide) ?_
      refine jr_sub [1, 2, 3, 0] rfl ?_
      exact hrec _ _ h
    · replace h := drvE hc h
      refine jr_iload_n dX9_firstSpanEndingFrom_22 rfl 2 rfl ?_
      refine jr_iconst (v := (-1 : Int32)) dX9_firstSpanEndingFrom_23 (by decide) ?_
      refine jr_icmp_eq (tgt := 42) (nxt := 27) dX9_firstSpanEndingFrom_24 (by decide) rfl (fun hc => ?_) (fun hc => ?_)
      · replace h := drvT hc h
        refine jr_iload_n dX9_firstSpanEndingFrom_42 rfl 3 rfl ?_
        refine jr_istore_n (lv' := [(2, .int x3), (0, .ref t), (1, .int p1), (3, .int x3)]) dX9_firstSpanEndingFrom_43 rfl (by decide) rfl ?_
        refine jr_iincN (c := (1 : Int32)) (lv' := fun (x3_4 : Int32) => [(3, .int x3_4), (2, .int x3), (0, .ref t), (1, .int p1)]) dX9_firstSpanEndingFrom_44 (by decide) 3 rfl (by decide) (fun _ => rfl) (fun x3_4 e_5 => ?_)
        replace h := drvL e_5 h
        refine jr_goto (tgt := 4) dX9_firstSpanEndingFrom_47 (by decide) ?_
        refine jr_sub [2, 3, 1, 0] rfl ?_
        exact hrec _ _ h
      · replace h := drvE hc h
        refine jr_aload_n dX9_firstSpanEndingFrom_27 rfl 0 rfl ?_
        refine gf_X9_24 (r := (t + 5)) rfl h0 rfl dX9_firstSpanEndingFrom_28 ?_
        refine jr_iload_n dX9_firstSpanEndingFrom_31 rfl 3 rfl ?_
        obtain ⟨hg_6, h⟩ := drvG h
        refine jr_iald (kr_8_5 h0) hg_6 dX9_firstSpanEndingFrom_32 ?_
        refine jr_aload_n dX9_firstSpanEndingFrom_33 rfl 0 rfl ?_
        refine gf_X9_24 (r := (t + 5)) rfl h0 rfl dX9_firstSpanEndingFrom_34 ?_
        refine jr_iload_n dX9_firstSpanEndingFrom_37 rfl 2 rfl ?_
        obtain ⟨hg_7, h⟩ := drvG h
        refine jr_iald (kr_8_5 h0) hg_7 dX9_firstSpanEndingFrom_38 ?_
        refine jr_icmp_ge (tgt := 44) (nxt := 42) dX9_firstSpanEndingFrom_39 (by decide) rfl (fun hc => ?_) (fun hc => ?_)
        · replace h := drvT hc h
          refine jr_iincN (c := (1 : Int32)) (lv' := fun (x3_8 : Int32) => [(3, .int x3_8), (0, .ref t), (1, .int p1), (2, .int x2)]) dX9_firstSpanEndingFrom_44 (by decide) 3 rfl (by decide) (fun _ => rfl) (fun x3_8 e_9 => ?_)
          replace h := drvL e_9 h
          refine jr_goto (tgt := 4) dX9_firstSpanEndingFrom_47 (by decide) ?_
          refine jr_sub [1, 2, 3, 0] rfl ?_
          exact hrec _ _ h
        · replace h := drvE hc h
          refine jr_iload_n dX9_firstSpanEndingFrom_42 rfl 3 rfl ?_
          refine jr_istore_n (lv' := [(2, .int x3), (0, .ref t), (1, .int p1), (3, .int x3)]) dX9_firstSpanEndingFrom_43 rfl (by decide) rfl ?_
          refine jr_iincN (c := (1 : Int32)) (lv' := fun (x3_10 : Int32) => [(3, .int x3_10), (2, .int x3), (0, .ref t), (1, .int p1)]) dX9_firstSpanEndingFrom_44 (by decide) 3 rfl (by decide) (fun _ => rfl) (fun x3_10 e_11 => ?_)
          replace h := drvL e_11 h
          refine jr_goto (tgt := 4) dX9_firstSpanEndingFrom_47 (by decide) ?_
          refine jr_sub [2, 3, 1, 0] rfl ?_
          exact hrec _ _ h
theorem hlX9_firstSpanEndingFrom_4 {n : Nat} {t : Nat} {p1 : Int32} {w : jWd} {r : Int32} (h0 : kd t = 8)  : ∀ (c : Nat) (x2 : Int32) (x3 : Int32) , lX9_firstSpanEndingFrom_4 n t p1 w c x2 x3 = some r → J MX9_firstSpanEndingFrom 1 w 4 [(0, .ref t), (1, .int p1), (2, .int x2), (3, .int x3)] [] (some (.int r)) w := by
  intro c
  induction c with
  | zero => intro x2 x3 h; cases h
  | succ c ih => intro x2 x3 h; exact hbX9_firstSpanEndingFrom_4 (n := n) h0 ih _ _ h
set_option maxHeartbeats 4000000 in
set_option maxRecDepth 100000 in
theorem tX9_firstSpanEndingFrom {n : Nat} {t : Nat} {a0 : Int32} {w : jWd} {r : Int32} (h0 : kd t = 8) (h : fX9_firstSpanEndingFrom n t a0 w = some r) : JM yX9_firstSpanEndingFrom MX9_firstSpanEndingFrom 1 [.ref t, .int a0] w (some (.int r)) w := by
  refine jm_of pl_X9 rfl (Nat.le_of_ble_eq_true rfl) ?_
  show J MX9_firstSpanEndingFrom 1 w 0 [(0, .ref t), (1, .int a0)] [] (some (.int r)) w
  unfold fX9_firstSpanEndingFrom at h
  refine jr_iconst (v := (-1 : Int32)) dX9_firstSpanEndingFrom_0 (by decide) ?_
  refine jr_istore_n (lv' := [(2, .int (-1 : Int32)), (0, .ref t), (1, .int a0)]) dX9_firstSpanEndingFrom_1 rfl (by decide) rfl ?_
  refine jr_iconst (v := (0 : Int32)) dX9_firstSpanEndingFrom_2 (by decide) ?_
  refine jr_istore_n (lv' := [(3, .int (0 : Int32)), (2, .int (-1 : Int32)), (0, .ref t), (1, .int a0)]) dX9_firstSpanEndingFrom_3 rfl (by decide) rfl ?_
  refine jr_sub [2, 3, 1, 0] rfl ?_
  refine hlX9_firstSpanEndingFrom_4 h0  _ _ _ h
set_option maxHeartbeats 4000000 in
set_option maxRecDepth 100000 in
theorem hbX9_freeUpTo_7 {n : Nat} {t : Nat} {p1 : Int32} {w : jWd} {r : Int32} {rec : Int32 → Int32 → Int32 → Option Int32} (h0 : kd t = 8) 
    (hrec : ∀ (x2 : Int32) (x3 : Int32) (x4 : Int32) , rec x2 x3 x4 = some r → J MX9_freeUpTo 2 w 7 [(0, .ref t), (1, .int p1), (2, .int x2), (3, .int x3), (4, .int x4)] [] (some (.int r)) w) : ∀ (x2 : Int32) (x3 : Int32) (x4 : Int32) , bX9_freeUpTo_7 n t p1 w rec x2 x3 x4 = some r → J MX9_freeUpTo 2 w 7 [(0, .ref t), (1, .int p1), (2, .int x2), (3, .int x3), (4, .int x4)] [] (some (.int r)) w := by
  intro x2 x3 x4 h
  unfold bX9_freeUpTo_7 at h
  refine jr_iload dX9_freeUpTo_7 4 rfl ?_
  refine jr_aload_n dX9_freeUpTo_9 rfl 0 rfl ?_
  refine gf_X9_37 rfl h0 dX9_freeUpTo_10 ?_
  refine jr_icmp_ge (tgt := 87) (nxt := 16) dX9_freeUpTo_13 (by decide) rfl (fun hc => ?_) (fun hc => ?_)
  · replace h := drvT hc h
    refine jr_iload_n dX9_freeUpTo_87 rfl 2 rfl ?_
    obtain rfl := drvS1 h
    exact jr_iret rfl dX9_freeUpTo_88
  · replace h := drvE hc h
    refine jr_aload_n dX9_freeUpTo_16 rfl 0 rfl ?_
    refine jr_iload_n dX9_freeUpTo_17 rfl 3 rfl ?_
    obtain ⟨r_2, hq_1, h⟩ := drvB h
    refine j_callVv lk_X9_53 wIM_X9_firstSpanEndingFrom wSE_X9_firstSpanEndingFrom h0 (by decide) rfl (tX9_firstSpanEndingFrom h0 hq_1) (by omega) rfl rfl (Nat.le_of_ble_eq_true rfl) dX9_freeUpTo_18 ?_
    refine jr_istore (lv' := [(5, .int r_2), (0, .ref t), (1, .int p1), (2, .int x2), (3, .int x3), (4, .int x4)]) dX9_freeUpTo_21 (by decide) rfl ?_
    refine jr_iload dX9_freeUpTo_23 0 rfl ?_
    refine jr_iconst (v := (-1 : Int32)) dX9_freeUpTo_25 (by decide) ?_
    refine jr_icmp_ne (tgt := 31) (nxt := 29) dX9_freeUpTo_26 (by decide) rfl (fun hc => ?_) (fun hc => ?_)
    · replace h := drvE hc h
      refine jr_iload_n dX9_freeUpTo_31 rfl 4 rfl ?_
      refine jr_aload_n dX9_freeUpTo_32 rfl 1 rfl ?_
      refine gf_X9_24 (r := (t + 5)) rfl h0 rfl dX9_freeUpTo_33 ?_
      refine jr_iload dX9_freeUpTo_36 0 rfl ?_
      obtain ⟨hg_3, h⟩ := drvG h
      refine jr_iald (kr_8_5 h0) hg_3 dX9_freeUpTo_38 ?_
      refine jr_imax wML_X9_48 (by decide) (Nat.le_of_ble_eq_true rfl) dX9_freeUpTo_39 ?_
      refine j_nmi (fun x6_4 e_5 => ?_)
      replace h := drvL e_5 h
      refine jr_istore (lv' := [(6, .int x6_4), (5, .int r_2), (0, .ref t), (1, .int p1), (2, .int x2), (3, .int x3), (4, .int x4)]) dX9_freeUpTo_42 (by decide) rfl ?_
      refine jr_iload_n dX9_freeUpTo_44 rfl 3 rfl ?_
      refine jr_aload_n dX9_freeUpTo_45 rfl 2 rfl ?_
      refine gf_X9_27 (r := (t + 6)) rfl h0 rfl dX9_freeUpTo_46 ?_
      refine jr_iload dX9_freeUpTo_49 1 rfl ?_
      obtain ⟨hg_6, h⟩ := drvG h
      refine jr_iald (kr_8_6 h0) hg_6 dX9_freeUpTo_51 ?_
      refine jr_imin wML_X9_56 (by decide) (Nat.le_of_ble_eq_true rfl) dX9_freeUpTo_52 ?_
      refine j_nmi (fun x7_7 e_8 => ?_)
      replace h := drvL e_8 h
      refine jr_istore (lv' := [(7, .int x7_7), (6, .int x6_4), (5, .int r_2), (0, .ref t), (1, .int p1), (2, .int x2), (3, .int x3), (4, .int x4)]) dX9_freeUpTo_55 (by decide) rfl ?_
      refine jr_iload_n dX9_freeUpTo_57 rfl 5 rfl ?_
      refine jr_iconst (v := (0 : Int32)) dX9_freeUpTo_58 (by decide) ?_
      refine jr_iload dX9_freeUpTo_59 0 rfl ?_
      refine jr_iload dX9_freeUpTo_61 1 rfl ?_
      refine jr_isub dX9_freeUpTo_63 ?_
      refine jr_iconst (v := (1 : Int32)) dX9_freeUpTo_64 (by decide) ?_
      refine jr_iadd dX9_freeUpTo_65 ?_
      refine jr_imax wML_X9_48 (by decide) (Nat.le_of_ble_eq_true rfl) dX9_freeUpTo_66 ?_
      refine jr_iadd dX9_freeUpTo_69 ?_
      refine j_nmi (fun x2_9 e_10 => ?_)
      replace h := drvL e_10 h
      refine jr_istore_n (lv' := [(2, .int x2_9), (7, .int x7_7), (6, .int x6_4), (5, .int r_2), (0, .ref t), (1, .int p1), (3, .int x3), (4, .int x4)]) dX9_freeUpTo_70 rfl (by decide) rfl ?_
      refine jr_aload_n dX9_freeUpTo_71 rfl 4 rfl ?_
      refine gf_X9_27 (r := (t + 6)) rfl h0 rfl dX9_freeUpTo_72 ?_
      refine jr_iload dX9_freeUpTo_75 3 rfl ?_
      obtain ⟨hg_11, h⟩ := drvG h
      refine jr_iald (kr_8_6 h0) hg_11 dX9_freeUpTo_77 ?_
      refine jr_iconst (v := (1 : Int32)) dX9_freeUpTo_78 (by decide) ?_
      refine jr_iadd dX9_freeUpTo_79 ?_
      refine j_nmi (fun x3_12 e_13 => ?_)
      replace h := drvL e_13 h
      refine jr_istore_n (lv' := [(3, .int x3_12), (2, .int x2_9), (7, .int x7_7), (6, .int x6_4), (5, .int r_2), (0, .ref t), (1, .int p1), (4, .int x4)]) dX9_freeUpTo_80 rfl (by decide) rfl ?_
      refine jr_iincN (c := (1 : Int32)) (lv' := fun (x4_14 : Int32) => [(4, .int x4_14), (3, .int x3_12), (2, .int x2_9), (7, .int x7_7), (6, .int x6_4), (5, .int r_2), (0, .ref t), (1, .int p1)]) dX9_freeUpTo_81 (by decide) 7 rfl (by decide) (fun _ => rfl) (fun x4_14 e_15 => ?_)
      replace h := drvL e_15 h
      refine jr_goto (tgt := 7) dX9_freeUpTo_84 (by decide) ?_
      refine jr_sub [6, 7, 2, 1, 0] rfl ?_
      exact hrec _ _ _ h
    · replace h := drvT hc h
      refine jr_iload_n dX9_freeUpTo_29 rfl 3 rfl ?_
      obtain rfl := drvS1 h
      exact jr_iret rfl dX9_freeUpTo_30
theorem hlX9_freeUpTo_7 {n : Nat} {t : Nat} {p1 : Int32} {w : jWd} {r : Int32} (h0 : kd t = 8)  : ∀ (c : Nat) (x2 : Int32) (x3 : Int32) (x4 : Int32) , lX9_freeUpTo_7 n t p1 w c x2 x3 x4 = some r → J MX9_freeUpTo 2 w 7 [(0, .ref t), (1, .int p1), (2, .int x2), (3, .int x3), (4, .int x4)] [] (some (.int r)) w := by
  intro c
  induction c with
  | zero => intro x2 x3 x4 h; cases h
  | succ c ih => intro x2 x3 x4 h; exact hbX9_freeUpTo_7 (n := n) h0 ih _ _ _ h
set_option maxHeartbeats 4000000 in
set_option maxRecDepth 100000 in
theorem tX9_freeUpTo {n : Nat} {t : Nat} {a0 : Int32} {w : jWd} {r : Int32} (h0 : kd t = 8) (h : fX9_freeUpTo n t a0 w = some r) : JM yX9_freeUpTo MX9_freeUpTo 2 [.ref t, .int a0] w (some (.int r)) w := by
  refine jm_of pl_X9 rfl (Nat.le_of_ble_eq_true rfl) ?_
  show J MX9_freeUpTo 2 w 0 [(0, .ref t), (1, .int a0)] [] (some (.int r)) w
  unfold fX9_freeUpTo at h
  refine jr_iconst (v := (0 : Int32)) dX9_freeUpTo_0 (by decide) ?_
  refine jr_istore_n (lv' := [(2, .int (0 : Int32)), (0, .ref t), (1, .int a0)]) dX9_freeUpTo_1 rfl (by decide) rfl ?_
  refine jr_iconst (v := (0 : Int32)) dX9_freeUpTo_2 (by decide) ?_
  refine jr_istore_n (lv' := [(3, .int (0 : Int32)), (2, .int (0 : Int32)), (0, .ref t), (1, .int a0)]) dX9_freeUpTo_3 rfl (by decide) rfl ?_
  refine jr_iconst (v := (0 : Int32)) dX9_freeUpTo_4 (by decide) ?_
  refine jr_istore (lv' := [(4, .int (0 : Int32)), (3, .int (0 : Int32)), (2, .int (0 : Int32)), (0, .ref t), (1, .int a0)]) dX9_freeUpTo_5 (by decide) rfl ?_
  refine jr_sub [3, 4, 2, 1, 0] rfl ?_
  refine hlX9_freeUpTo_7 h0  _ _ _ _ h
set_option maxHeartbeats 4000000 in
set_option maxRecDepth 100000 in
theorem hbX9_pagesOf_5 {n : Nat} {t : Nat} {p1 : Int32} {p2 : Int32} {w : jWd} {r : Int32} {rec : Int32 → Int32 → Option Int32} (h0 : kd t = 8) 
    (hrec : ∀ (x3 : Int32) (x4 : Int32) , rec x3 x4 = some r → J MX9_pagesOf 1 w 5 [(0, .ref t), (1, .int p1), (2, .int p2), (3, .int x3), (4, .int x4)] [] (some (.int r)) w) : ∀ (x3 : Int32) (x4 : Int32) , bX9_pagesOf_5 n t p1 p2 w rec x3 x4 = some r → J MX9_pagesOf 1 w 5 [(0, .ref t), (1, .int p1), (2, .int p2), (3, .int x3), (4, .int x4)] [] (some (.int r)) w := by
  intro x3 x4 h
  unfold bX9_pagesOf_5 at h
  refine jr_iload dX9_pagesOf_5 4 rfl ?_
  refine jr_aload_n dX9_pagesOf_7 rfl 0 rfl ?_
  refine gf_X9_34 rfl h0 dX9_pagesOf_8 ?_
  refine jr_icmp_ge (tgt := 52) (nxt := 14) dX9_pagesOf_11 (by decide) rfl (fun hc => ?_) (fun hc => ?_)
  · replace h := drvT hc h
    refine jr_iload_n dX9_pagesOf_52 rfl 3 rfl ?_
    obtain rfl := drvS1 h
    exact jr_iret rfl dX9_pagesOf_53
  · replace h := drvE hc h
    refine jr_aload_n dX9_pagesOf_14 rfl 0 rfl ?_
    refine gf_X9_18 (r := (t + 3)) rfl h0 rfl dX9_pagesOf_15 ?_
    refine jr_iload dX9_pagesOf_18 4 rfl ?_
    obtain ⟨hg_1, h⟩ := drvG h
    refine jr_iald (kr_8_3 h0) hg_1 dX9_pagesOf_20 ?_
    refine jr_iload_n dX9_pagesOf_21 rfl 1 rfl ?_
    refine jr_icmp_lt (tgt := 46) (nxt := 25) dX9_pagesOf_22 (by decide) rfl (fun hc => ?_) (fun hc => ?_)
    · replace h := drvT hc h
      refine jr_iincN (c := (1 : Int32)) (lv' := fun (x4_2 : Int32) => [(4, .int x4_2), (0, .ref t), (1, .int p1), (2, .int p2), (3, .int x3)]) dX9_pagesOf_46 (by decide) 4 rfl (by decide) (fun _ => rfl) (fun x4_2 e_3 => ?_)
      replace h := drvL e_3 h
      refine jr_goto (tgt := 5) dX9_pagesOf_49 (by decide) ?_
      refine jr_sub [1, 2, 3, 4, 0] rfl ?_
      exact hrec _ _ h
    · replace h := drvE hc h
      refine jr_aload_n dX9_pagesOf_25 rfl 0 rfl ?_
      refine gf_X9_18 (r := (t + 3)) rfl h0 rfl dX9_pagesOf_26 ?_
      refine jr_iload dX9_pagesOf_29 4 rfl ?_
      obtain ⟨hg_4, h⟩ := drvG h
      refine jr_iald (kr_8_3 h0) hg_4 dX9_pagesOf_31 ?_
      refine jr_iload_n dX9_pagesOf_32 rfl 2 rfl ?_
      refine jr_icmp_gt (tgt := 46) (nxt := 36) dX9_pagesOf_33 (by decide) rfl (fun hc => ?_) (fun hc => ?_)
      · replace h := drvT hc h
        refine jr_iincN (c := (1 : Int32)) (lv' := fun (x4_5 : Int32) => [(4, .int x4_5), (0, .ref t), (1, .int p1), (2, .int p2), (3, .int x3)]) dX9_pagesOf_46 (by decide) 4 rfl (by decide) (fun _ => rfl) (fun x4_5 e_6 => ?_)
        replace h := drvL e_6 h
        refine jr_goto (tgt := 5) dX9_pagesOf_49 (by decide) ?_
        refine jr_sub [1, 2, 3, 4, 0] rfl ?_
        exact hrec _ _ h
      · replace h := drvE hc h
        refine jr_iload_n dX9_pagesOf_36 rfl 3 rfl ?_
        refine jr_aload_n dX9_pagesOf_37 rfl 0 rfl ?_
        refine gf_X9_21 (r := (t + 4)) rfl h0 rfl dX9_pagesOf_38 ?_
        refine jr_iload dX9_pagesOf_41 4 rfl ?_
        obtain ⟨hg_7, h⟩ := drvG h
        refine jr_iald (kr_8_4 h0) hg_7 dX9_pagesOf_43 ?_
        refine jr_iadd dX9_pagesOf_44 ?_
        refine j_nmi (fun x3_8 e_9 => ?_)
        replace h := drvL e_9 h
        refine jr_istore_n (lv' := [(3, .int x3_8), (0, .ref t), (1, .int p1), (2, .int p2), (4, .int x4)]) dX9_pagesOf_45 rfl (by decide) rfl ?_
        refine jr_iincN (c := (1 : Int32)) (lv' := fun (x4_10 : Int32) => [(4, .int x4_10), (3, .int x3_8), (0, .ref t), (1, .int p1), (2, .int p2)]) dX9_pagesOf_46 (by decide) 4 rfl (by decide) (fun _ => rfl) (fun x4_10 e_11 => ?_)
        replace h := drvL e_11 h
        refine jr_goto (tgt := 5) dX9_pagesOf_49 (by decide) ?_
        refine jr_sub [2, 3, 4, 1, 0] rfl ?_
        exact hrec _ _ h
theorem hlX9_pagesOf_5 {n : Nat} {t : Nat} {p1 : Int32} {p2 : Int32} {w : jWd} {r : Int32} (h0 : kd t = 8)  : ∀ (c : Nat) (x3 : Int32) (x4 : Int32) , lX9_pagesOf_5 n t p1 p2 w c x3 x4 = some r → J MX9_pagesOf 1 w 5 [(0, .ref t), (1, .int p1), (2, .int p2), (3, .int x3), (4, .int x4)] [] (some (.int r)) w := by
  intro c
  induction c with
  | zero => intro x3 x4 h; cases h
  | succ c ih => intro x3 x4 h; exact hbX9_pagesOf_5 (n := n) h0 ih _ _ h
set_option maxHeartbeats 4000000 in
set_option maxRecDepth 100000 in
theorem tX9_pagesOf {n : Nat} {t : Nat} {a0 : Int32} {a1 : Int32} {w : jWd} {r : Int32} (h0 : kd t = 8) (h : fX9_pagesOf n t a0 a1 w = some r) : JM yX9_pagesOf MX9_pagesOf 1 [.ref t, .int a0, .int a1] w (some (.int r)) w := by
  refine jm_of pl_X9 rfl (Nat.le_of_ble_eq_true rfl) ?_
  show J MX9_pagesOf 1 w 0 [(0, .ref t), (1, .int a0), (2, .int a1)] [] (some (.int r)) w
  unfold fX9_pagesOf at h
  refine jr_iconst (v := (0 : Int32)) dX9_pagesOf_0 (by decide) ?_
  refine jr_istore_n (lv' := [(3, .int (0 : Int32)), (0, .ref t), (1, .int a0), (2, .int a1)]) dX9_pagesOf_1 rfl (by decide) rfl ?_
  refine jr_iconst (v := (0 : Int32)) dX9_pagesOf_2 (by decide) ?_
  refine jr_istore (lv' := [(4, .int (0 : Int32)), (3, .int (0 : Int32)), (0, .ref t), (1, .int a0), (2, .int a1)]) dX9_pagesOf_3 (by decide) rfl ?_
  refine jr_sub [2, 3, 4, 1, 0] rfl ?_
  refine hlX9_pagesOf_5 h0  _ _ _ h
set_option maxHeartbeats 4000000 in
set_option maxRecDepth 100000 in
theorem hbX9_leastRate_4 {n : Nat} {t : Nat} {k61 : Int32 → (Option Int32)} {w : jWd} {r : Int32} {rec : Int32 → Int32 → Option Int32} (h0 : kd t = 8) (hk61 : ∀ (z1 : Int32), k61 z1 = some r → J MX9_leastRate 3 w 61 [(1, .int z1)] [] (some (.int r)) w)
    (hrec : ∀ (x1 : Int32) (x2 : Int32) , rec x1 x2 = some r → J MX9_leastRate 3 w 4 [(0, .ref t), (1, .int x1), (2, .int x2)] [] (some (.int r)) w) : ∀ (x1 : Int32) (x2 : Int32) , bX9_leastRate_4 n t k61 w rec x1 x2 = some r → J MX9_leastRate 3 w 4 [(0, .ref t), (1, .int x1), (2, .int x2)] [] (some (.int r)) w := by
  intro x1 x2 h
  unfold bX9_leastRate_4 at h
  refine jr_iload_n dX9_leastRate_4 rfl 2 rfl ?_
  refine jr_aload_n dX9_leastRate_5 rfl 0 rfl ?_
  refine gf_X9_34 rfl h0 dX9_leastRate_6 ?_
  refine jr_icmp_ge (tgt := 61) (nxt := 12) dX9_leastRate_9 (by decide) rfl (fun hc => ?_) (fun hc => ?_)
  · replace h := drvT hc h
    refine jr_sub [1] rfl ?_
    exact hk61 _ h
  · replace h := drvE hc h
    refine jr_aload_n dX9_leastRate_12 rfl 0 rfl ?_
    refine jr_aload_n dX9_leastRate_13 rfl 0 rfl ?_
    refine gf_X9_18 (r := (t + 3)) rfl h0 rfl dX9_leastRate_14 ?_
    refine jr_iload_n dX9_leastRate_17 rfl 2 rfl ?_
    obtain ⟨hg_1, h⟩ := drvG h
    refine jr_iald (kr_8_3 h0) hg_1 dX9_leastRate_18 ?_
    obtain ⟨r_3, hq_2, h⟩ := drvB h
    refine j_callVv lk_X9_44 wIM_X9_freeUpTo wSE_X9_freeUpTo h0 (by decide) rfl (tX9_freeUpTo h0 hq_2) (by omega) rfl rfl (Nat.le_of_ble_eq_true rfl) dX9_leastRate_19 ?_
    refine jr_istore_n (lv' := [(3, .int r_3), (0, .ref t), (1, .int x1), (2, .int x2)]) dX9_leastRate_22 rfl (by decide) rfl ?_
    refine jr_iload_n dX9_leastRate_23 rfl 0 rfl ?_
    refine jr_if_ne (tgt := 29) (nxt := 27) dX9_leastRate_24 (by decide) rfl (fun hc => ?_) (fun hc => ?_)
    · replace h := drvE hc h
      refine jr_aload_n dX9_leastRate_29 rfl 1 rfl ?_
      refine jr_iconst (v := (0 : Int32)) dX9_leastRate_30 (by decide) ?_
      refine jr_aload_n dX9_leastRate_31 rfl 1 rfl ?_
      refine gf_X9_18 (r := (t + 3)) rfl h0 rfl dX9_leastRate_32 ?_
      refine jr_iload_n dX9_leastRate_35 rfl 3 rfl ?_
      obtain ⟨hg_4, h⟩ := drvG h
      refine jr_iald (kr_8_3 h0) hg_4 dX9_leastRate_36 ?_
      obtain ⟨r_6, hq_5, h⟩ := drvB h
      refine j_callVv lk_X9_40 wIM_X9_pagesOf wSE_X9_pagesOf h0 (by decide) rfl (tX9_pagesOf h0 hq_5) (by omega) rfl rfl (Nat.le_of_ble_eq_true rfl) dX9_leastRate_37 ?_
      refine jr_istore (lv' := [(4, .int r_6), (3, .int r_3), (0, .ref t), (1, .int x1), (2, .int x2)]) dX9_leastRate_40 (by decide) rfl ?_
      refine jr_iload_n dX9_leastRate_42 rfl 3 rfl ?_
      refine jr_iload dX9_leastRate_43 0 rfl ?_
      refine jr_iload_n dX9_leastRate_45 rfl 1 rfl ?_
      refine jr_iadd dX9_leastRate_46 ?_
      refine jr_iconst (v := (1 : Int32)) dX9_leastRate_47 (by decide) ?_
      refine jr_isub dX9_leastRate_48 ?_
      refine jr_iload_n dX9_leastRate_49 rfl 1 rfl ?_
      obtain ⟨hz_7, h⟩ := drvZi h
      refine jr_idiv dX9_leastRate_50 hz_7 ?_
      refine jr_imax wML_X9_48 (by decide) (Nat.le_of_ble_eq_true rfl) dX9_leastRate_51 ?_
      refine j_nmi (fun x1_8 e_9 => ?_)
      replace h := drvL e_9 h
      refine jr_istore_n (lv' := [(1, .int x1_8), (4, .int r_6), (3, .int r_3), (0, .ref t), (2, .int x2)]) dX9_leastRate_54 rfl (by decide) rfl ?_
      refine jr_iincN (c := (1 : Int32)) (lv' := fun (x2_10 : Int32) => [(2, .int x2_10), (1, .int x1_8), (4, .int r_6), (3, .int r_3), (0, .ref t)]) dX9_leastRate_55 (by decide) 4 rfl (by decide) (fun _ => rfl) (fun x2_10 e_11 => ?_)
      replace h := drvL e_11 h
      refine jr_goto (tgt := 4) dX9_leastRate_58 (by decide) ?_
      refine jr_sub [4, 1, 0] rfl ?_
      exact hrec _ _ h
    · replace h := drvT hc h
      refine jr_iconst (v := (-1 : Int32)) dX9_leastRate_27 (by decide) ?_
      obtain rfl := drvS1 h
      exact jr_iret rfl dX9_leastRate_28
theorem hlX9_leastRate_4 {n : Nat} {t : Nat} {k61 : Int32 → (Option Int32)} {w : jWd} {r : Int32} (h0 : kd t = 8) (hk61 : ∀ (z1 : Int32), k61 z1 = some r → J MX9_leastRate 3 w 61 [(1, .int z1)] [] (some (.int r)) w) : ∀ (c : Nat) (x1 : Int32) (x2 : Int32) , lX9_leastRate_4 n t k61 w c x1 x2 = some r → J MX9_leastRate 3 w 4 [(0, .ref t), (1, .int x1), (2, .int x2)] [] (some (.int r)) w := by
  intro c
  induction c with
  | zero => intro x1 x2 h; cases h
  | succ c ih => intro x1 x2 h; exact hbX9_leastRate_4 (n := n) h0 hk61 ih _ _ h
set_option maxHeartbeats 4000000 in
set_option maxRecDepth 100000 in
theorem tX9_leastRate {n : Nat} {t : Nat} {w : jWd} {r : Int32} (h0 : kd t = 8) (h : fX9_leastRate n t w = some r) : JM yX9_leastRate MX9_leastRate 3 [.ref t] w (some (.int r)) w := by
  refine jm_of pl_X9 rfl (Nat.le_of_ble_eq_true rfl) ?_
  show J MX9_leastRate 3 w 0 [(0, .ref t)] [] (some (.int r)) w
  unfold fX9_leastRate at h
  refine jr_iconst (v := (1 : Int32)) dX9_leastRate_0 (by decide) ?_
  refine jr_istore_n (lv' := [(1, .int (1 : Int32)), (0, .ref t)]) dX9_leastRate_1 rfl (by decide) rfl ?_
  refine jr_iconst (v := (0 : Int32)) dX9_leastRate_2 (by decide) ?_
  refine jr_istore_n (lv' := [(2, .int (0 : Int32)), (1, .int (1 : Int32)), (0, .ref t)]) dX9_leastRate_3 rfl (by decide) rfl ?_
  refine jr_sub [2, 1, 0] rfl ?_
  refine hlX9_leastRate_4 h0 ?_ _ _ _ h
  · intro z1_12 h
    try dsimp only at h
    refine jr_iload_n dX9_leastRate_61 rfl 0 rfl ?_
    refine jr_bipush (v := (99 : Int32)) dX9_leastRate_62 (by decide) ?_
    refine jr_icmp_le (tgt := 71) (nxt := 67) dX9_leastRate_64 (by decide) rfl (fun hc => ?_) (fun hc => ?_)
    · replace h := drvT hc h
      refine jr_iload_n dX9_leastRate_71 rfl 0 rfl ?_
      obtain rfl := drvS1 h
      exact jr_iret rfl dX9_leastRate_72
    · replace h := drvE hc h
      refine jr_iconst (v := (-1 : Int32)) dX9_leastRate_67 (by decide) ?_
      refine jr_goto (tgt := 72) dX9_leastRate_68 (by decide) ?_
      obtain rfl := drvS1 h
      exact jr_iret rfl dX9_leastRate_72
set_option maxHeartbeats 4000000 in
set_option maxRecDepth 100000 in
theorem tX9_leave {t : Nat} {a0 : Int32} {a1 : Int32} {w : jWd} {r : Int32} {w' : jWd} (h0 : kd t = 8) (h : fX9_leave t a0 a1 w = some (r, w')) : JM yX9_leave MX9_leave 1 [.ref t, .int a0, .int a1] w (some (.int r)) w' := by
  refine jm_of pl_X9 rfl (Nat.le_of_ble_eq_true rfl) ?_
  show J MX9_leave 1 w 0 [(0, .ref t), (1, .int a0), (2, .int a1)] [] (some (.int r)) w'
  unfold fX9_leave at h
  refine jr_aload_n dX9_leave_0 rfl 0 rfl ?_
  refine gf_X9_37 rfl h0 dX9_leave_1 ?_
  refine jr_bipush (v := (8 : Int32)) dX9_leave_4 (by decide) ?_
  obtain ⟨j39_2, ej39_2, h⟩ := drvF h
  have hj39_2 : ∀ (w_1 : jWd), j39_2 w_1 = some (r, w') → J MX9_leave 1 w_1 39 [(0, .ref t)] [] (some (.int r)) w' := by
    intro w_1 h
    rw [ej39_2] at h
    try dsimp only at h
    refine jr_aload_n dX9_leave_39 rfl 0 rfl ?_
    refine gf_X9_37 rfl h0 dX9_leave_40 ?_
    obtain ⟨rfl, rfl⟩ := drvS2 h
    exact jr_iret rfl dX9_leave_43
  refine jr_icmp_ge (tgt := 39) (nxt := 9) dX9_leave_6 (by decide) rfl (fun hc => ?_) (fun hc => ?_)
  · replace h := drvT hc h
    refine jr_sub [0] rfl ?_
    exact hj39_2 _ h
  · replace h := drvE hc h
    refine jr_aload_n dX9_leave_9 rfl 0 rfl ?_
    refine gf_X9_24 (r := (t + 5)) rfl h0 rfl dX9_leave_10 ?_
    refine jr_aload_n dX9_leave_13 rfl 0 rfl ?_
    refine gf_X9_37 rfl h0 dX9_leave_14 ?_
    refine jr_iload_n dX9_leave_17 rfl 1 rfl ?_
    obtain ⟨hg_5, h⟩ := drvG h
    refine jr_iast (kr_8_5 h0) hg_5 dX9_leave_18 ?_
    refine j_nmw (fun w_3 e_4 => ?_)
    replace h := drvL e_4 h
    refine jr_aload_n dX9_leave_19 rfl 0 rfl ?_
    refine gf_X9_27 (r := (t + 6)) rfl h0 rfl dX9_leave_20 ?_
    refine jr_aload_n dX9_leave_23 rfl 0 rfl ?_
    refine gf_X9_37 rfl h0 dX9_leave_24 ?_
    refine jr_iload_n dX9_leave_27 rfl 2 rfl ?_
    obtain ⟨hg_8, h⟩ := drvG h
    refine jr_iast (kr_8_6 h0) hg_8 dX9_leave_28 ?_
    refine j_nmw (fun w_6 e_7 => ?_)
    replace h := drvL e_7 h
    refine jr_aload_n dX9_leave_29 rfl 0 rfl ?_
    refine jr_dup dX9_leave_30 rfl ?_
    refine gf_X9_37 rfl h0 dX9_leave_31 ?_
    refine jr_iconst (v := (1 : Int32)) dX9_leave_34 (by decide) ?_
    refine jr_iadd dX9_leave_35 ?_
    refine pf_X9_37 rfl h0 dX9_leave_36 ?_
    refine j_nmw (fun w_9 e_10 => ?_)
    replace h := drvL e_10 h
    refine jr_sub [0] rfl ?_
    exact hj39_2 _ h
set_option maxHeartbeats 4000000 in
set_option maxRecDepth 100000 in
theorem hbX9_moreBy_4 {n : Nat} {t : Nat} {p1 : Int32} {w : jWd} {r : Int32} {rec : Int32 → Int32 → Option Int32} (h0 : kd t = 8) 
    (hrec : ∀ (x2 : Int32) (x3 : Int32) , rec x2 x3 = some r → J MX9_moreBy 2 w 4 [(0, .ref t), (1, .int p1), (2, .int x2), (3, .int x3)] [] (some (.int r)) w) : ∀ (x2 : Int32) (x3 : Int32) , bX9_moreBy_4 n t p1 w rec x2 x3 = some r → J MX9_moreBy 2 w 4 [(0, .ref t), (1, .int p1), (2, .int x2), (3, .int x3)] [] (some (.int r)) w := by
  intro x2 x3 h
  unfold bX9_moreBy_4 at h
  refine jr_iload_n dX9_moreBy_4 rfl 3 rfl ?_
  refine jr_aload_n dX9_moreBy_5 rfl 0 rfl ?_
  refine gf_X9_30 rfl h0 dX9_moreBy_6 ?_
  refine jr_icmp_ge (tgt := 54) (nxt := 12) dX9_moreBy_9 (by decide) rfl (fun hc => ?_) (fun hc => ?_)
  · replace h := drvT hc h
    refine jr_iload_n dX9_moreBy_54 rfl 2 rfl ?_
    obtain rfl := drvS1 h
    exact jr_iret rfl dX9_moreBy_55
  · replace h := drvE hc h
    refine jr_aload_n dX9_moreBy_12 rfl 0 rfl ?_
    refine gf_X9_11 (r := (t + 1)) rfl h0 rfl dX9_moreBy_13 ?_
    refine jr_iload_n dX9_moreBy_16 rfl 3 rfl ?_
    obtain ⟨hg_1, h⟩ := drvG h
    refine jr_iald (kr_8_1 h0) hg_1 dX9_moreBy_17 ?_
    refine j_nmi (fun x4_2 e_3 => ?_)
    replace h := drvL e_3 h
    refine jr_istore (lv' := [(4, .int x4_2), (0, .ref t), (1, .int p1), (2, .int x2), (3, .int x3)]) dX9_moreBy_18 (by decide) rfl ?_
    refine jr_iload_n dX9_moreBy_20 rfl 3 rfl ?_
    refine jr_aload_n dX9_moreBy_21 rfl 1 rfl ?_
    refine jr_iload dX9_moreBy_22 0 rfl ?_
    refine jr_iconst (v := (1 : Int32)) dX9_moreBy_24 (by decide) ?_
    refine jr_iadd dX9_moreBy_25 ?_
    refine jr_iload dX9_moreBy_26 0 rfl ?_
    refine jr_iload_n dX9_moreBy_28 rfl 2 rfl ?_
    refine jr_iadd dX9_moreBy_29 ?_
    obtain ⟨r_5, hq_4, h⟩ := drvB h
    refine j_callVv lk_X9_40 wIM_X9_pagesOf wSE_X9_pagesOf h0 (by decide) rfl (tX9_pagesOf h0 hq_4) (by omega) rfl rfl (Nat.le_of_ble_eq_true rfl) dX9_moreBy_30 ?_
    refine jr_aload_n dX9_moreBy_33 rfl 1 rfl ?_
    refine jr_iload dX9_moreBy_34 0 rfl ?_
    refine jr_iload_n dX9_moreBy_36 rfl 2 rfl ?_
    refine jr_isub dX9_moreBy_37 ?_
    refine jr_iload dX9_moreBy_38 0 rfl ?_
    refine jr_iconst (v := (1 : Int32)) dX9_moreBy_40 (by decide) ?_
    refine jr_isub dX9_moreBy_41 ?_
    obtain ⟨r_7, hq_6, h⟩ := drvB h
    refine j_callVv lk_X9_40 wIM_X9_pagesOf wSE_X9_pagesOf h0 (by decide) rfl (tX9_pagesOf h0 hq_6) (by omega) rfl rfl (Nat.le_of_ble_eq_true rfl) dX9_moreBy_42 ?_
    refine jr_isub dX9_moreBy_45 ?_
    refine jr_iadd dX9_moreBy_46 ?_
    refine j_nmi (fun x2_8 e_9 => ?_)
    replace h := drvL e_9 h
    refine jr_istore_n (lv' := [(2, .int x2_8), (4, .int x4_2), (0, .ref t), (1, .int p1), (3, .int x3)]) dX9_moreBy_47 rfl (by decide) rfl ?_
    refine jr_iincN (c := (1 : Int32)) (lv' := fun (x3_10 : Int32) => [(3, .int x3_10), (2, .int x2_8), (4, .int x4_2), (0, .ref t), (1, .int p1)]) dX9_moreBy_48 (by decide) 4 rfl (by decide) (fun _ => rfl) (fun x3_10 e_11 => ?_)
    replace h := drvL e_11 h
    refine jr_goto (tgt := 4) dX9_moreBy_51 (by decide) ?_
    refine jr_sub [3, 4, 1, 0] rfl ?_
    exact hrec _ _ h
theorem hlX9_moreBy_4 {n : Nat} {t : Nat} {p1 : Int32} {w : jWd} {r : Int32} (h0 : kd t = 8)  : ∀ (c : Nat) (x2 : Int32) (x3 : Int32) , lX9_moreBy_4 n t p1 w c x2 x3 = some r → J MX9_moreBy 2 w 4 [(0, .ref t), (1, .int p1), (2, .int x2), (3, .int x3)] [] (some (.int r)) w := by
  intro c
  induction c with
  | zero => intro x2 x3 h; cases h
  | succ c ih => intro x2 x3 h; exact hbX9_moreBy_4 (n := n) h0 ih _ _ h
set_option maxHeartbeats 4000000 in
set_option maxRecDepth 100000 in
theorem tX9_moreBy {n : Nat} {t : Nat} {a0 : Int32} {w : jWd} {r : Int32} (h0 : kd t = 8) (h : fX9_moreBy n t a0 w = some r) : JM yX9_moreBy MX9_moreBy 2 [.ref t, .int a0] w (some (.int r)) w := by
  refine jm_of pl_X9 rfl (Nat.le_of_ble_eq_true rfl) ?_
  show J MX9_moreBy 2 w 0 [(0, .ref t), (1, .int a0)] [] (some (.int r)) w
  unfold fX9_moreBy at h
  refine jr_iconst (v := (0 : Int32)) dX9_moreBy_0 (by decide) ?_
  refine jr_istore_n (lv' := [(2, .int (0 : Int32)), (0, .ref t), (1, .int a0)]) dX9_moreBy_1 rfl (by decide) rfl ?_
  refine jr_iconst (v := (0 : Int32)) dX9_moreBy_2 (by decide) ?_
  refine jr_istore_n (lv' := [(3, .int (0 : Int32)), (2, .int (0 : Int32)), (0, .ref t), (1, .int a0)]) dX9_moreBy_3 rfl (by decide) rfl ?_
  refine jr_sub [2, 3, 1, 0] rfl ?_
  refine hlX9_moreBy_4 h0  _ _ _ h
set_option maxHeartbeats 4000000 in
set_option maxRecDepth 100000 in
theorem tX9_pay {t : Nat} {a0 : Int32} {a1 : Int32} {w : jWd} {r : Int32} {w' : jWd} (h0 : kd t = 8) (h : fX9_pay t a0 a1 w = some (r, w')) : JM yX9_pay MX9_pay 1 [.ref t, .int a0, .int a1] w (some (.int r)) w' := by
  refine jm_of pl_X9 rfl (Nat.le_of_ble_eq_true rfl) ?_
  show J MX9_pay 1 w 0 [(0, .ref t), (1, .int a0), (2, .int a1)] [] (some (.int r)) w'
  unfold fX9_pay at h
  refine jr_aload_n dX9_pay_0 rfl 0 rfl ?_
  refine gf_X9_30 rfl h0 dX9_pay_1 ?_
  refine jr_bipush (v := (20 : Int32)) dX9_pay_4 (by decide) ?_
  obtain ⟨j39_2, ej39_2, h⟩ := drvF h
  have hj39_2 : ∀ (w_1 : jWd), j39_2 w_1 = some (r, w') → J MX9_pay 1 w_1 39 [(0, .ref t)] [] (some (.int r)) w' := by
    intro w_1 h
    rw [ej39_2] at h
    try dsimp only at h
    refine jr_aload_n dX9_pay_39 rfl 0 rfl ?_
    refine gf_X9_30 rfl h0 dX9_pay_40 ?_
    obtain ⟨rfl, rfl⟩ := drvS2 h
    exact jr_iret rfl dX9_pay_43
  refine jr_icmp_ge (tgt := 39) (nxt := 9) dX9_pay_6 (by decide) rfl (fun hc => ?_) (fun hc => ?_)
  · replace h := drvT hc h
    refine jr_sub [0] rfl ?_
    exact hj39_2 _ h
  · replace h := drvE hc h
    refine jr_aload_n dX9_pay_9 rfl 0 rfl ?_
    refine gf_X9_11 (r := (t + 1)) rfl h0 rfl dX9_pay_10 ?_
    refine jr_aload_n dX9_pay_13 rfl 0 rfl ?_
    refine gf_X9_30 rfl h0 dX9_pay_14 ?_
    refine jr_iload_n dX9_pay_17 rfl 1 rfl ?_
    obtain ⟨hg_5, h⟩ := drvG h
    refine jr_iast (kr_8_1 h0) hg_5 dX9_pay_18 ?_
    refine j_nmw (fun w_3 e_4 => ?_)
    replace h := drvL e_4 h
    refine jr_aload_n dX9_pay_19 rfl 0 rfl ?_
    refine gf_X9_15 (r := (t + 2)) rfl h0 rfl dX9_pay_20 ?_
    refine jr_aload_n dX9_pay_23 rfl 0 rfl ?_
    refine gf_X9_30 rfl h0 dX9_pay_24 ?_
    refine jr_iload_n dX9_pay_27 rfl 2 rfl ?_
    obtain ⟨hg_8, h⟩ := drvG h
    refine jr_iast (kr_8_2 h0) hg_8 dX9_pay_28 ?_
    refine j_nmw (fun w_6 e_7 => ?_)
    replace h := drvL e_7 h
    refine jr_aload_n dX9_pay_29 rfl 0 rfl ?_
    refine jr_dup dX9_pay_30 rfl ?_
    refine gf_X9_30 rfl h0 dX9_pay_31 ?_
    refine jr_iconst (v := (1 : Int32)) dX9_pay_34 (by decide) ?_
    refine jr_iadd dX9_pay_35 ?_
    refine pf_X9_30 rfl h0 dX9_pay_36 ?_
    refine j_nmw (fun w_9 e_10 => ?_)
    replace h := drvL e_10 h
    refine jr_sub [0] rfl ?_
    exact hj39_2 _ h
