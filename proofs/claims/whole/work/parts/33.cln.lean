/-! LINES: parts of a line, the cleaned line -/
theorem bt_0 (i : Nat) : bt 0 i = 0 := by
  unfold bt
  rw [show (0 : Int64).toBitVec = 0#64 from rfl, BitVec.zero_ushiftRight]
  rfl
theorem bt_without (x : Int64) {k i : Nat} (hk : k < 2 ^ 28) (hi : i < 8) : bt (fX4_without x (nI k)) i = if i + k < 8 then bt x (i + k) else 0 := by
  unfold fX4_without
  by_cases h : k < 8
  · rw [if_pos (show nI k < (8 : Int32) from nI_lt (b := 8) h (by decide)), ml_8, bt_shl x h hi]
  · rw [if_neg (show ¬ nI k < (8 : Int32) from nI_nlt (b := 8) (by omega) (by omega)), bt_0, if_neg (by omega)]
theorem bt_behind (x : Int64) {k i : Nat} (hk : k < 2 ^ 28) (hi : i < 8) : bt (fX4_behind x (nI k)) i = if i < k then 0 else bt x (i - k) := by
  unfold fX4_behind
  by_cases h : k < 8
  · rw [if_pos (show nI k < (8 : Int32) from nI_lt (b := 8) h (by decide)), ml_8, bt_ushr x h hi]
  · rw [if_neg (show ¬ nI k < (8 : Int32) from nI_nlt (b := 8) (by omega) (by omega)), bt_0, if_pos (by omega)]
theorem bt_head (x : Int64) {k i : Nat} (hk : k < 2 ^ 28) (hi : i < 8) : bt (fX4_head x (nI k)) i = if i < k then bt x i else 0 := by
  unfold fX4_head
  by_cases h0 : k = 0
  · subst h0
    rw [if_neg (by decide), bt_0, if_neg (by omega)]
  · rw [if_pos (show (0 : Int32) < nI k from nI_lt (a := 0) (by omega) (by omega))]
    by_cases h : k < 8
    · rw [if_pos (show nI k < (8 : Int32) from nI_lt (b := 8) h (by decide)), ml_8, show (64 : Int32) = nI 64 from rfl, pk_sub (by omega)]
      apply bt_of
      · split
        · exact bt_lt _ _
        · decide
      intro j hj
      rw [Int64.toBitVec_and, BitVec.getLsbD_and, shl_bv _ (by omega), BitVec.getLsbD_shiftLeft, show (-1 : Int64).toBitVec = BitVec.allOnes 64 from rfl, BitVec.getLsbD_allOnes, decide_eq_true (show 56 - 8 * i + j < 64 by omega), Bool.true_and]
      split
      · rw [decide_eq_false (show ¬ 56 - 8 * i + j < 64 - 8 * k by omega), decide_eq_true (show 56 - 8 * i + j - (64 - 8 * k) < 64 by omega), Bool.not_false, Bool.true_and, Bool.and_true, bt_bit, decide_eq_true hj, Bool.true_and]
      · rw [decide_eq_true (show 56 - 8 * i + j < 64 - 8 * k by omega), Bool.not_true, Bool.false_and, Bool.and_false, Nat.zero_testBit]
    · rw [if_neg (show ¬ nI k < (8 : Int32) from nI_nlt (b := 8) (by omega) (by omega)), if_pos (by omega)]
/-- the cleaned line: the words before the first zero -/
def cln (x : Int64) : Int64 := fX4_head x (nI (lnB x))
theorem bt_cln (x : Int64) {i : Nat} (hi : i < 8) : bt (cln x) i = if i < lnB x then bt x i else 0 := bt_head x (by have := lnB_le x; omega) hi
theorem cln_X {n : Nat} (hn : 8 < n) (x : Int64) : fX4_clean n x = some (cln x) := by
  unfold fX4_clean
  rw [len_X hn]
  rfl
theorem lnB_of {x : Int64} {k : Nat} (hk : k ≤ 8) (h1 : ∀ j, j < k → ¬ bt x j = 0) (h2 : k < 8 → bt x k = 0) : lnB x = k := by
  apply Nat.le_antisymm
  · apply Nat.le_of_not_lt
    intro q
    exact lnB_nz x q (h2 (by have := lnB_le x; omega))
  · apply Nat.le_of_not_lt
    intro q
    exact h1 _ q (lnB_z x (by omega))
theorem lnB_cln (x : Int64) : lnB (cln x) = lnB x := by
  have hl := lnB_le x
  apply lnB_of hl
  · intro j hj
    rw [bt_cln x (by omega), if_pos hj]
    exact lnB_nz x hj
  · intro h
    rw [bt_cln x h, if_neg (Nat.lt_irrefl _)]
theorem lnB_0 : lnB 0 = 0 := lnB_of (by decide) (fun j h => absurd h (by omega)) (fun _ => bt_0 0)
theorem cln_0 {x : Int64} : cln x = 0 ↔ lnB x = 0 := by
  constructor
  · intro h
    rw [← lnB_cln, h, lnB_0]
  · intro h
    apply bt_ext
    intro i hi
    rw [bt_cln x hi, h, if_neg (by omega), bt_0]
/-- clean lines -/
def isC (x : Int64) : Prop := ∀ i, i < 8 → lnB x ≤ i → bt x i = 0
theorem isC_cln (x : Int64) : isC (cln x) := by
  intro i hi h
  rw [lnB_cln] at h
  rw [bt_cln x hi, if_neg (by omega)]
theorem cln_id {x : Int64} (h : isC x) : cln x = x := by
  apply bt_ext
  intro i hi
  rw [bt_cln x hi]
  split
  · rfl
  · rw [h i hi (by omega)]
theorem isC_0 : isC 0 := fun i _ _ => bt_0 i
/-- the reference cleans word by word -/
theorem l63 {b : Nat} (h : b < 2 ^ 31) : (nI b).toInt64 = lN b := nI_l h
theorem lN_bv (b : Nat) : (lN b).toBitVec = BitVec.ofNat 64 b := rfl
theorem bt_at {b k i : Nat} (hb : b < 256) (hk : k < 8) (hi : i < 8) : bt (l_shl (nI b).toInt64 (nI (56 - 8 * k))) i = if i = k then b else 0 := by
  apply bt_of
  · split
    · exact hb
    · decide
  intro j hj
  rw [shl_bv _ (by omega), l63 (by omega), lN_bv, BitVec.getLsbD_shiftLeft, decide_eq_true (show 56 - 8 * i + j < 64 by omega), Bool.true_and]
  have big : ∀ m, 8 ≤ m → b.testBit m = false := fun m hm => Nat.testBit_lt_two_pow (Nat.lt_of_lt_of_le hb (by rw [show (256 : Nat) = 2 ^ 8 from rfl]; exact Nat.pow_le_pow_right (by decide) hm))
  split
  · rename_i e
    subst e
    rw [decide_eq_false (show ¬ 56 - 8 * i + j < 56 - 8 * i by omega), Bool.not_false, Bool.true_and, BitVec.getLsbD_ofNat, decide_eq_true (show 56 - 8 * i + j - (56 - 8 * i) < 64 by omega), Bool.true_and, show 56 - 8 * i + j - (56 - 8 * i) = j by omega]
  · rw [Nat.zero_testBit]
    by_cases h : 56 - 8 * i + j < 56 - 8 * k
    · rw [decide_eq_true h, Bool.not_true, Bool.false_and]
    · rw [BitVec.getLsbD_ofNat, big _ (by omega), Bool.and_false, Bool.and_false]
theorem pl_l (n : Nat) (x : Int64) {m : Nat} (hm : m ≤ 8) : ∀ c i f (y : Int64), i + c = m → c < f → (∀ q, q < 8 → bt y q = if q < i then bt x q else 0) → ∃ z, lX12_plain_11 n x (nI m) f y (nI i) = some z ∧ ∀ q, q < 8 → bt z q = if q < m then bt x q else 0 := by
  intro c
  induction c with
  | zero =>
    intro i f y h hf hy
    obtain ⟨f, rfl⟩ : ∃ g, f = g + 1 := ⟨f - 1, by omega⟩
    have : i = m := by omega
    subst this
    refine ⟨y, ?_, hy⟩
    unfold lX12_plain_11 bX12_plain_11
    rw [if_pos (nI_le (Nat.le_refl _) (by omega))]
  | succ c ih =>
    intro i f y h hf hy
    obtain ⟨f, rfl⟩ : ∃ g, f = g + 1 := ⟨f - 1, by omega⟩
    unfold lX12_plain_11 bX12_plain_11 letV
    rw [if_neg (nI_ge (show i < m by omega) (by omega)), word_M x (by omega), nI_1, ix_8 (by omega)]
    refine ih (i + 1) f _ (by omega) (by omega) ?_
    intro q hq
    rw [bt_or, hy q hq, bt_at (bt_lt x i) (by omega) hq]
    by_cases e : q = i
    · subst e
      rw [if_neg (Nat.lt_irrefl _), if_pos rfl, if_pos (by omega), Nat.zero_or]
    · rw [if_neg e, Nat.or_zero]
      by_cases e2 : q < i
      · rw [if_pos e2, if_pos (by omega)]
      · rw [if_neg e2, if_neg (by omega)]
theorem cln_M {n : Nat} (hn : 8 < n) (x : Int64) : fX12_plain n x = some (cln x) := by
  unfold fX12_plain
  rw [len_M hn]
  have hl := lnB_le x
  obtain ⟨z, h1, h2⟩ := pl_l n x hl (lnB x) 0 n 0 (by omega) (by omega) (fun q _ => by rw [bt_0, if_neg (by omega)])
  refine Eq.trans h1 (congrArg some ?_)
  apply bt_ext
  intro i hi
  rw [h2 i hi, bt_cln x hi]
