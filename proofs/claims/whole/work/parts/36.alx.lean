/-! the hundredths by which two lines are alike; the class -/
def pop8 (v : Nat) : Nat := (v.testBit 0).toNat + (v.testBit 1).toNat + (v.testBit 2).toNat + (v.testBit 3).toNat + (v.testBit 4).toNat + (v.testBit 5).toNat + (v.testBit 6).toNat + (v.testBit 7).toNat
set_option maxRecDepth 100000 in
theorem bc_8 : ∀ v : Nat, v < 256 → fJ6_bitCount_0f7a4 (nI v) = nI (pop8 v) := by decide +kernel
theorem lcV_pop {V : Int32} {r : Nat → Nat} (h : lcV V r) (h0 : r 0 = 0) (hh : ∀ j, 8 ≤ j → V.toBitVec.getLsbD j = false) : (8 : Int32) - fJ6_bitCount_0f7a4 V = nI (r 8) := by
  have hv : V.toBitVec.toNat < 2 ^ 8 := Nat.lt_pow_two_of_testBit _ (fun i hi => by rw [BitVec.testBit_toNat]; exact hh i hi)
  have eV : V = nI V.toBitVec.toNat := by
    apply Int32.toBitVec_inj.mp
    show _ = BitVec.ofNat 32 V.toBitVec.toNat
    rw [BitVec.ofNat_toNat, BitVec.setWidth_eq]
  have hr : ∀ j, j < 8 → r (j + 1) + (V.toBitVec.toNat.testBit j).toNat = r j + 1 := by
    intro j hj
    rw [h j hj, BitVec.testBit_toNat]
    cases V.toBitVec.getLsbD j <;> simp
  generalize V.toBitVec.toNat = v at hv eV hr
  have hp : r 8 + pop8 v = 8 := by
    have a0 : r 1 + (v.testBit 0).toNat = r 0 + 1 := hr 0 (by decide)
    have a1 : r 2 + (v.testBit 1).toNat = r 1 + 1 := hr 1 (by decide)
    have a2 : r 3 + (v.testBit 2).toNat = r 2 + 1 := hr 2 (by decide)
    have a3 : r 4 + (v.testBit 3).toNat = r 3 + 1 := hr 3 (by decide)
    have a4 : r 5 + (v.testBit 4).toNat = r 4 + 1 := hr 4 (by decide)
    have a5 : r 6 + (v.testBit 5).toNat = r 5 + 1 := hr 5 (by decide)
    have a6 : r 7 + (v.testBit 6).toNat = r 6 + 1 := hr 6 (by decide)
    have a7 : r 8 + (v.testBit 7).toNat = r 7 + 1 := hr 7 (by decide)
    unfold pop8
    omega
  rw [eV, bc_8 v hv, show (8 : Int32) = nI 8 from rfl, pk_sub (by omega)]
  congr 1
  omega
def lcN (x y : Int64) : Nat := lcT (bt x) (bt y) (lnB x) (lnB y)
def alkN (x y : Int64) : Nat := 100 * lcN x y / max (lnB x) (lnB y)
theorem lcN_le (x y : Int64) : lcN x y ≤ 8 := Nat.le_trans (lcT_le _ _ _ _) (lnB_le y)
theorem lcN_sym (x y : Int64) : lcN x y = lcN y x := lcT_sym _ _ _ _
theorem alkN_sym (x y : Int64) : alkN x y = alkN y x := by unfold alkN; rw [lcN_sym, Nat.max_comm]
theorem lcN_8 {x y : Int64} (hy : isC y) : lcT (bt x) (bt y) (lnB x) 8 = lcN x y := by
  refine lcT_col (bt x) (bt y) (lnB x) (lnB y) 8 (lnB x) (Nat.le_refl _) ?_ 8 (lnB_le y) (Nat.le_refl _)
  intro p q hp hq hq8
  rw [hy q hq8 hq]
  exact lnB_nz x hp
theorem alkN_le (x y : Int64) : alkN x y ≤ 100 := by
  unfold alkN
  have h1 : lcN x y ≤ lnB y := lcT_le _ _ _ _
  have h2 : lcN x y ≤ max (lnB x) (lnB y) := by omega
  by_cases h : max (lnB x) (lnB y) = 0
  · rw [h, Nat.div_zero]; omega
  · exact Nat.div_le_of_le_mul (by rw [Nat.mul_comm (max _ _)]; exact Nat.mul_le_mul_left 100 h2)
theorem cm_X {n : Nat} (hn : 8 < n) {x y : Int64} (hx : isC x) (hy : isC y) : fX4_common n x y = some (nI (lcN x y)) := by
  unfold fX4_common
  obtain ⟨V, h1, h2, h3⟩ := cm_Xl n hn x y hx (fun z4 => some ((8 : Int32) - fJ6_bitCount_0f7a4 z4)) 8 0 n 255 x rfl (Nat.zero_le _) hn (fun j hj => by
    rw [lcT_00, lcT_00, if_pos]
    have : ∀ j : Nat, j < 8 → (255 : Int32).toBitVec.getLsbD j = true := by decide
    exact this j hj) (fun j hj => by
    rw [show (255 : Int32).toBitVec = 255#32 from rfl, BitVec.getLsbD_ofNat, show (255 : Nat) = 2 ^ 8 - 1 from rfl, Nat.testBit_two_pow_sub_one, decide_eq_false (show ¬ j < 8 by omega), Bool.and_false]) (fun q hq => by rw [Nat.add_zero, if_pos hq])
  refine Eq.trans h1 (congrArg some ?_)
  rw [lcV_pop h2 (lcT_0 _ _ _) h3, lcN_8 hy]
theorem imax_N {a b : Nat} (ha : a < 2 ^ 31) (hb : b < 2 ^ 31) : imax (nI a) (nI b) = nI (max a b) := by
  unfold imax
  by_cases h : a < b
  · rw [if_pos (nI_lt h hb), Nat.max_eq_right (by omega)]
  · rw [if_neg (nI_nlt (by omega) ha), Nat.max_eq_left (by omega)]
theorem alk_X {n : Nat} (hn : 8 < n) {x y : Int64} (hx : isC x) (hy : isC y) (h0 : ¬ (x = 0 ∧ y = 0)) : fX4_alike n x y = some (nI (alkN x y)) := by
  unfold fX4_alike
  have hlx := lnB_le x
  have hly := lnB_le y
  by_cases he : x = y
  · rw [if_pos ((lg_cmp_eq _ _).mpr he)]
    subst he
    have hx0 : ¬ x = 0 := fun q => h0 ⟨q, q⟩
    have hl : 0 < lnB x := Nat.pos_of_ne_zero (fun q => hx0 (by have := cln_0.mpr q; rwa [cln_id hx] at this))
    have : alkN x x = 100 := by
      unfold alkN lcN
      rw [lcT_dia, Nat.max_self]
      exact Nat.mul_div_cancel 100 hl
    rw [this]
    rfl
  · rw [if_neg (fun q => he ((lg_cmp_eq _ _).mp q)), len_X hn]
    show bO (fX4_length n y) _ = _
    rw [len_X hn]
    show (if imax (nI (lnB x)) (nI (lnB y)) = 0 then _ else _) = _
    rw [imax_N (by omega) (by omega)]
    by_cases hm : max (lnB x) (lnB y) = 0
    · rw [hm, if_pos nI_0]
      unfold alkN
      rw [hm, Nat.div_zero]
      rfl
    · rw [if_neg (fun q => hm ((nI_z (by omega)).mp q)), cm_X hn hx hy]
      show grzi (nI (max (lnB x) (lnB y))) (some ((100 : Int32) * nI (lcN x y) / nI (max (lnB x) (lnB y)))) = _
      have := lcN_le x y
      unfold grzi
      rw [if_neg (fun q => hm ((nI_z (by omega)).mp q)), show (100 : Int32) = nI 100 from rfl, pk_mul, pk_div (by omega) (by omega) (by omega)]
      rfl
