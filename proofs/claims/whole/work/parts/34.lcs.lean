/-! ALIKE: the longest common run of words, row by row -/
def lcR (b : Nat → Nat) (ch : Nat) (r : Nat → Nat) : Nat → Nat
  | 0 => 0
  | j + 1 => max (max (r (j + 1)) (lcR b ch r j)) (if ch = b j then r j + 1 else 0)
def lcT (a b : Nat → Nat) : Nat → Nat → Nat
  | 0 => fun _ => 0
  | i + 1 => lcR b (a i) (lcT a b i)
theorem lcT_0 (a b : Nat → Nat) (i : Nat) : lcT a b i 0 = 0 := by cases i <;> rfl
theorem lcT_00 (a b : Nat → Nat) (j : Nat) : lcT a b 0 j = 0 := rfl
theorem lcT_ss (a b : Nat → Nat) (i j : Nat) : lcT a b (i + 1) (j + 1) = max (max (lcT a b i (j + 1)) (lcT a b (i + 1) j)) (if a i = b j then lcT a b i j + 1 else 0) := rfl
theorem lcT_sym (a b : Nat → Nat) : ∀ i j, lcT a b i j = lcT b a j i := by
  intro i
  induction i with
  | zero => intro j; rw [lcT_0]; rfl
  | succ i ih =>
    intro j
    induction j with
    | zero => rw [lcT_0]; rfl
    | succ j jh =>
      rw [lcT_ss, lcT_ss, ih (j + 1), jh, ih j, Nat.max_comm (lcT b a (j + 1) i)]
      by_cases e : a i = b j
      · rw [if_pos e, if_pos e.symm]
      · rw [if_neg e, if_neg (fun q => e q.symm)]
theorem lcT_i (a b : Nat → Nat) (i : Nat) : ∀ j, lcT a b i j ≤ lcT a b (i + 1) j := by
  intro j
  cases j with
  | zero => rw [lcT_0]; exact Nat.zero_le _
  | succ j => rw [lcT_ss]; omega
theorem lcT_j (a b : Nat → Nat) (i j : Nat) : lcT a b i j ≤ lcT a b i (j + 1) := by
  rw [lcT_sym a b i j, lcT_sym a b i (j + 1)]
  exact lcT_i b a j i
theorem lcT_st (a b : Nat → Nat) : ∀ i j, lcT a b (i + 1) j ≤ lcT a b i j + 1 ∧ lcT a b i (j + 1) ≤ lcT a b i j + 1 := by
  intro i
  induction i with
  | zero =>
    intro j
    refine ⟨?_, by rw [lcT_00]; omega⟩
    induction j with
    | zero => rw [lcT_0]; omega
    | succ j jh =>
      rw [lcT_ss, lcT_00, lcT_00] at *
      split <;> omega
  | succ i ih =>
    intro j
    induction j with
    | zero =>
      refine ⟨by rw [lcT_0]; omega, ?_⟩
      rw [lcT_ss, lcT_0, lcT_0]
      have := (ih 0).2
      rw [lcT_0] at this
      split <;> omega
    | succ j jh =>
      have h1 := lcT_i a b i (j + 1)
      have h2 := lcT_i a b i j
      have h3 := (ih (j + 1)).1
      have h4 := (ih (j + 1)).2
      have h5 := (ih j).1
      have h6 := (ih j).2
      have h7 := lcT_j a b (i + 1) j
      have h8 := lcT_j a b i j
      constructor
      · rw [lcT_ss a b (i + 1) j]
        split <;> omega
      · rw [lcT_ss a b i (j + 1)]
        split <;> omega
theorem lcT_le (a b : Nat → Nat) : ∀ i j, lcT a b i j ≤ j := by
  intro i j
  induction j with
  | zero => rw [lcT_0]; exact Nat.le_refl _
  | succ j jh => have := (lcT_st a b i j).2; omega
theorem lcT_dia (a : Nat → Nat) : ∀ i, lcT a a i i = i := by
  intro i
  induction i with
  | zero => rfl
  | succ i ih =>
    apply Nat.le_antisymm (lcT_le a a _ _)
    rw [lcT_ss, if_pos rfl]
    omega
/-- columns that match nothing add nothing -/
theorem lcT_col (a b : Nat → Nat) (m n B : Nat) : ∀ i, i ≤ m → (∀ p q, p < m → n ≤ q → q < B → ¬ a p = b q) → ∀ j, n ≤ j → j ≤ B → lcT a b i j = lcT a b i n := by
  intro i
  induction i with
  | zero => intro _ _ j _ _; rfl
  | succ i ih =>
    intro hi h j hj hB
    obtain ⟨k, rfl⟩ : ∃ k, j = n + k := ⟨j - n, by omega⟩
    induction k with
    | zero => rfl
    | succ k kh =>
      rw [← Nat.add_assoc, lcT_ss, kh (by omega) (by omega), if_neg (h i (n + k) (by omega) (by omega) (by omega)), Nat.add_assoc, ih (by omega) h (n + (k + 1)) (by omega) hB]
      have := lcT_i a b i n
      omega
/-- the row as bits: a zero where the row steps up -/
def lcV (V : Int32) (r : Nat → Nat) : Prop := ∀ j, j < 8 → r (j + 1) = r j + (if V.toBitVec.getLsbD j then 0 else 1)
theorem sub_and (V M : BitVec 32) : V - (V &&& M) = V &&& ~~~M := by
  have e : V = (V &&& M) + (V &&& ~~~M) := by
    rw [BitVec.add_eq_or_of_and_eq_zero]
    · apply BitVec.eq_of_getLsbD_eq
      intro i hi
      simp only [BitVec.getLsbD_or, BitVec.getLsbD_and, BitVec.getLsbD_not, decide_eq_true hi, Bool.true_and]
      cases V.getLsbD i <;> cases M.getLsbD i <;> rfl
    · apply BitVec.eq_of_getLsbD_eq
      intro i hi
      simp only [BitVec.getLsbD_and, BitVec.getLsbD_not, decide_eq_true hi, Bool.true_and, BitVec.getLsbD_zero]
      cases V.getLsbD i <;> cases M.getLsbD i <;> rfl
  conv => lhs; lhs; rw [e]
  rw [BitVec.add_comm, BitVec.add_sub_cancel]
theorem lcV_step {V M : Int32} {r : Nat → Nat} {b : Nat → Nat} {ch : Nat} (h : lcV V r) (h0 : r 0 = 0) (hM : ∀ j, j < 8 → M.toBitVec.getLsbD j = decide (b j = ch)) : lcV (((V + (V &&& M)) ||| (V - (V &&& M))) &&& 255) (lcR b ch r) := by
  have key : ∀ j, j ≤ 8 → lcR b ch r j = r j + (BitVec.carry j V.toBitVec (V.toBitVec &&& M.toBitVec) false).toNat := by
    intro j
    induction j with
    | zero => intro _; rw [h0]; simp [lcR]
    | succ j ih =>
      intro hj
      have hr := h j (by omega)
      have hm := hM j (by omega)
      have e := ih (by omega)
      show max (max (r (j + 1)) (lcR b ch r j)) (if ch = b j then r j + 1 else 0) = _
      rw [BitVec.carry_succ, BitVec.getLsbD_and, e, hr]
      by_cases q : b j = ch
      · rw [decide_eq_true q] at hm
        rw [hm, if_pos q.symm]
        cases V.toBitVec.getLsbD j <;> cases BitVec.carry j V.toBitVec (V.toBitVec &&& M.toBitVec) false <;> simp [Bool.atLeastTwo] <;> omega
      · rw [decide_eq_false q] at hm
        rw [hm, if_neg (show ¬ ch = b j from fun z => q z.symm)]
        cases V.toBitVec.getLsbD j <;> cases BitVec.carry j V.toBitVec (V.toBitVec &&& M.toBitVec) false <;> simp [Bool.atLeastTwo] <;> omega
  intro j hj
  have hr := h j hj
  have hm := hM j hj
  have e := key j (by omega)
  have e1 := key (j + 1) (by omega)
  rw [BitVec.carry_succ, BitVec.getLsbD_and] at e1
  have e255 : (255 : Int32).toBitVec.getLsbD j = true := by
    have : ∀ j : Nat, j < 8 → (255 : Int32).toBitVec.getLsbD j = true := by decide
    exact this j hj
  rw [Int32.toBitVec_and, Int32.toBitVec_or, Int32.toBitVec_add, Int32.toBitVec_sub, Int32.toBitVec_and, sub_and, BitVec.getLsbD_and, e255, Bool.and_true, BitVec.getLsbD_or, BitVec.getLsbD_add (by omega), BitVec.getLsbD_and, BitVec.getLsbD_and, BitVec.getLsbD_not, decide_eq_true (show j < 32 by omega), Bool.true_and, e1, e, hr]
  by_cases q : b j = ch
  · rw [decide_eq_true q] at hm
    rw [hm]
    cases V.toBitVec.getLsbD j <;> cases BitVec.carry j V.toBitVec (V.toBitVec &&& M.toBitVec) false <;> simp [Bool.atLeastTwo]
  · rw [decide_eq_false q] at hm
    rw [hm]
    cases V.toBitVec.getLsbD j <;> cases BitVec.carry j V.toBitVec (V.toBitVec &&& M.toBitVec) false <;> simp [Bool.atLeastTwo]
