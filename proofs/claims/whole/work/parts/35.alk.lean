/-! ALIKE in the class: places of a word, common run, the hundredths -/
theorem top_8 (y : Int64) : (l_ushr y (56 : Int32)).toInt32 = nI (bt y 0) := by
  apply Int32.toBitVec_inj.mp
  apply BitVec.eq_of_getLsbD_eq
  intro j hj
  rw [Int64.toBitVec_toInt32, show (56 : Int32) = nI 56 from rfl, ushr_bv y (by decide), BitVec.getLsbD_signExtend, show (nI (bt y 0)).toBitVec = BitVec.ofNat 32 (bt y 0) from rfl, BitVec.getLsbD_ofNat, if_pos (by omega), BitVec.getLsbD_ushiftRight, bt_bit]
  by_cases h : j < 8
  · rw [decide_eq_true h, Bool.true_and]
  · rw [decide_eq_false h, Bool.false_and, Bool.and_false, BitVec.getLsbD_of_ge _ _ (by omega), Bool.and_false]
theorem one_at : ∀ i : Nat, i < 8 → (i_shl (1 : Int32) (nI i)).toBitVec = BitVec.twoPow 32 i := by decide +kernel
theorem l0_iff (x : Int64) : lg_cmp x (0 : Int64) = 0 ↔ x = 0 := lg_cmp_eq x 0
theorem shl8 (x : Int64) {i : Nat} (hi : i < 8) : bt (l_shl x (8 : Int32)) i = if i + 1 < 8 then bt x (i + 1) else 0 := bt_shl x (k := 1) (by decide) hi
/-- the places of a word in a line, as bits -/
def isPl (y : Int64) (b : Nat) (M : Int32) : Prop := ∀ j, M.toBitVec.getLsbD j = (decide (j < 8) && decide (bt y j = b))
theorem pl_Xl (n : Nat) (y : Int64) {b : Nat} (hb : b < 256) (h0 : 0 < b) : ∀ c i f (x3 : Int32) (x4 : Int64), i + c = 8 → c < f → (∀ j, x3.toBitVec.getLsbD j = (decide (j < i) && decide (bt y j = b))) → (∀ q, q < 8 → bt x4 q = if q + i < 8 then bt y (q + i) else 0) → ∃ M, lX4_places_8 n (nI b) f x3 x4 (nI i) = some M ∧ isPl y b M := by
  intro c
  induction c with
  | zero =>
    intro i f x3 x4 h hf h3 h4
    obtain ⟨f, rfl⟩ : ∃ g, f = g + 1 := ⟨f - 1, by omega⟩
    have : i = 8 := by omega
    subst this
    exact ⟨x3, rfl, h3⟩
  | succ c ih =>
    intro i f x3 x4 h hf h3 h4
    obtain ⟨f, rfl⟩ : ∃ g, f = g + 1 := ⟨f - 1, by omega⟩
    unfold lX4_places_8 bX4_places_8 letV
    rw [if_neg (show ¬ (8 : Int32) ≤ nI i from nI_ge (b := 8) (by omega) (by decide))]
    by_cases hz : x4 = 0
    · rw [if_pos ((l0_iff x4).mpr hz)]
      refine ⟨x3, rfl, fun j => ?_⟩
      rw [h3 j]
      by_cases h1 : j < i
      · rw [decide_eq_true h1, decide_eq_true (show j < 8 by omega)]
      · rw [decide_eq_false h1, Bool.false_and]
        by_cases h2 : j < 8
        · have e := h4 (j - i) (by omega)
          rw [hz, bt_0, if_pos (by omega), show j - i + i = j by omega] at e
          rw [decide_eq_false (show ¬ bt y j = b by omega), Bool.and_false]
        · rw [decide_eq_false h2, Bool.false_and]
    · rw [if_neg (fun q => hz ((l0_iff x4).mp q)), top_8, h4 0 (by decide), if_pos (by omega), Nat.zero_add, nI_1]
      dsimp only
      have hs : ∀ q, q < 8 → bt (l_shl x4 (8 : Int32)) q = if q + (i + 1) < 8 then bt y (q + (i + 1)) else 0 := by
        intro q hq
        rw [shl8 x4 hq]
        by_cases h1 : q + 1 < 8
        · rw [if_pos h1, h4 (q + 1) h1, Nat.add_assoc, Nat.add_comm 1 i]
        · rw [if_neg h1, if_neg (by omega)]
      have hby := bt_lt y i
      by_cases he : bt y i = b
      · rw [if_pos (show nI (bt y i) = nI b by rw [he])]
        refine ih (i + 1) f _ _ (by omega) (by omega) (fun j => ?_) hs
        rw [Int32.toBitVec_or, BitVec.getLsbD_or, h3 j, one_at i (by omega), BitVec.getLsbD_twoPow]
        by_cases h1 : j = i
        · subst h1
          rw [decide_eq_true he, decide_eq_true (show j < 32 by omega), decide_eq_true (rfl : j = j), decide_eq_true (show j < j + 1 by omega)]
          simp
        · rw [decide_eq_false (show ¬ i = j from fun q => h1 q.symm), Bool.and_false, Bool.or_false]
          by_cases h2 : j < i
          · rw [decide_eq_true h2, decide_eq_true (show j < i + 1 by omega)]
          · rw [decide_eq_false h2, decide_eq_false (show ¬ j < i + 1 by omega)]
      · rw [if_neg (show ¬ nI (bt y i) = nI b from fun q => he ((nI_eq (by omega) (by omega)).mp q))]
        refine ih (i + 1) f _ _ (by omega) (by omega) (fun j => ?_) hs
        rw [h3 j]
        by_cases h1 : j = i
        · subst h1
          rw [decide_eq_false he, Bool.and_false, Bool.and_false]
        · by_cases h2 : j < i
          · rw [decide_eq_true h2, decide_eq_true (show j < i + 1 by omega)]
          · rw [decide_eq_false h2, decide_eq_false (show ¬ j < i + 1 by omega)]
theorem pl_X {n : Nat} (hn : 8 < n) (y : Int64) {b : Nat} (hb : b < 256) (h0 : 0 < b) : ∃ M, fX4_places n y (nI b) = some M ∧ isPl y b M :=
  pl_Xl n y hb h0 8 0 n 0 y rfl hn (fun j => by rw [decide_eq_false (show ¬ j < 0 by omega), Bool.false_and]; exact BitVec.getLsbD_zero) (fun q hq => by rw [Nat.add_zero, if_pos hq])
theorem isPl_0 {y : Int64} {b : Nat} {M : Int32} (h : isPl y b M) : M = 0 ↔ ∀ j, j < 8 → ¬ bt y j = b := by
  constructor
  · intro e j hj q
    have := h j
    rw [e, decide_eq_true hj, decide_eq_true q] at this
    exact absurd this (by rw [show (0 : Int32).toBitVec = 0#32 from rfl, BitVec.getLsbD_zero]; decide)
  · intro q
    apply Int32.toBitVec_inj.mp
    apply BitVec.eq_of_getLsbD_eq
    intro j hj
    rw [h j, show (0 : Int32).toBitVec = 0#32 from rfl, BitVec.getLsbD_zero]
    by_cases h1 : j < 8
    · rw [decide_eq_false (q j h1), Bool.and_false]
    · rw [decide_eq_false h1, Bool.false_and]
/-- the loop over the first line's words -/
theorem cm_Xl (n : Nat) (hn : 8 < n) (x y : Int64) (hx : isC x) (k : Int32 → Option Int32) : ∀ c i f (V : Int32) (x5 : Int64), i + c = 8 → i ≤ lnB x → c < f → lcV V (lcT (bt x) (bt y) i) → (∀ j, 8 ≤ j → V.toBitVec.getLsbD j = false) → (∀ q, q < 8 → bt x5 q = if q + i < 8 then bt x (q + i) else 0) → ∃ V', lX4_common_11 n y k f V x5 (nI i) = k V' ∧ lcV V' (lcT (bt x) (bt y) (lnB x)) ∧ ∀ j, 8 ≤ j → V'.toBitVec.getLsbD j = false := by
  intro c
  induction c with
  | zero =>
    intro i f V x5 h hl hf hV hh h5
    obtain ⟨f, rfl⟩ : ∃ g, f = g + 1 := ⟨f - 1, by omega⟩
    have e8 : i = 8 := by omega
    have := lnB_le x
    have el : lnB x = 8 := by omega
    subst e8
    exact ⟨V, rfl, by rw [el]; exact hV, hh⟩
  | succ c ih =>
    intro i f V x5 h hl hf hV hh h5
    obtain ⟨f, rfl⟩ : ∃ g, f = g + 1 := ⟨f - 1, by omega⟩
    unfold lX4_common_11 bX4_common_11 letV
    rw [if_neg (show ¬ (8 : Int32) ≤ nI i from nI_ge (b := 8) (by omega) (by decide))]
    by_cases hz : x5 = 0
    · rw [if_pos ((l0_iff x5).mpr hz)]
      have e0 := h5 0 (by decide)
      rw [hz, bt_0, if_pos (by omega), Nat.zero_add] at e0
      have el : i = lnB x := by
        apply Nat.le_antisymm hl
        apply Nat.le_of_not_lt
        intro q
        exact lnB_nz x q e0.symm
      exact ⟨V, rfl, el ▸ hV, hh⟩
    · rw [if_neg (fun q => hz ((l0_iff x5).mp q)), top_8, h5 0 (by decide), if_pos (by omega), Nat.zero_add, nI_1]
      have hi : i < lnB x := by
        apply Nat.lt_of_le_of_ne hl
        intro q
        apply hz
        apply bt_ext
        intro r hr
        rw [h5 r hr, bt_0]
        split
        · exact hx (r + i) (by omega) (by omega)
        · rfl
      have hnz := lnB_nz x hi
      obtain ⟨M, e1, e2⟩ := pl_X hn y (bt_lt x i) (by omega)
      rw [e1]
      refine ih (i + 1) f _ _ (by omega) (by omega) (by omega) ?_ ?_ ?_
      · refine lcV_step hV (lcT_0 _ _ _) (fun j hj => ?_)
        rw [e2 j, decide_eq_true hj, Bool.true_and]
      · intro j hj
        rw [Int32.toBitVec_and, BitVec.getLsbD_and, show (255 : Int32).toBitVec = 255#32 from rfl, BitVec.getLsbD_ofNat, show (255 : Nat) = 2 ^ 8 - 1 from rfl, Nat.testBit_two_pow_sub_one, decide_eq_false (show ¬ j < 8 by omega), Bool.and_false, Bool.and_false]
      · intro q hq
        rw [shl8 x5 hq]
        by_cases h1 : q + 1 < 8
        · rw [if_pos h1, h5 (q + 1) h1, Nat.add_assoc, Nat.add_comm 1 i]
        · rw [if_neg h1, if_neg (by omega)]
