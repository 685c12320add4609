/-! LINES: the eight bytes of a long, and what class and reference do with them -/
def bt (x : Int64) (i : Nat) : Nat := (x.toBitVec >>> (56 - 8 * i)).toNat % 256
theorem bt_lt (x : Int64) (i : Nat) : bt x i < 256 := Nat.mod_lt _ (by decide)
theorem bt_bit (x : Int64) (i j : Nat) : (bt x i).testBit j = (decide (j < 8) && x.toBitVec.getLsbD (56 - 8 * i + j)) := by
  unfold bt
  rw [show (256 : Nat) = 2 ^ 8 from rfl, Nat.testBit_mod_two_pow, BitVec.testBit_toNat, BitVec.getLsbD_ushiftRight]
theorem bt_ext {x y : Int64} (h : ∀ i, i < 8 → bt x i = bt y i) : x = y := by
  apply Int64.toBitVec_inj.mp
  apply BitVec.eq_of_getLsbD_eq
  intro k hk
  have e := congrArg (fun n => n.testBit (k % 8)) (h (7 - k / 8) (by omega))
  simp only [bt_bit] at e
  rw [show 56 - 8 * (7 - k / 8) + k % 8 = k by omega, decide_eq_true (show k % 8 < 8 by omega), Bool.true_and, Bool.true_and] at e
  exact e
theorem bt_of {x : Int64} {i n : Nat} (hn : n < 256) (h : ∀ j, j < 8 → x.toBitVec.getLsbD (56 - 8 * i + j) = n.testBit j) : bt x i = n := by
  apply Nat.eq_of_testBit_eq
  intro j
  rw [bt_bit]
  by_cases hj : j < 8
  · rw [decide_eq_true hj, Bool.true_and, h j hj]
  · rw [decide_eq_false hj, Bool.false_and, Nat.testBit_lt_two_pow (Nat.lt_of_lt_of_le hn (by rw [show (256 : Nat) = 2 ^ 8 from rfl]; exact Nat.pow_le_pow_right (by decide) (by omega)))]
theorem sh_l : ∀ k : Nat, k < 64 → ((nI k).toInt64 &&& 63).toBitVec.smod 64 = BitVec.ofNat 64 k := by decide +kernel
theorem sh_u : ∀ k : Nat, k < 64 → ((nI k).toInt64.toUInt64 &&& Int64.toUInt64 63).toBitVec % 64 = BitVec.ofNat 64 k := by decide +kernel
theorem shl_bv (x : Int64) {k : Nat} (h : k < 64) : (l_shl x (nI k)).toBitVec = x.toBitVec <<< k := by
  unfold l_shl
  rw [Int64.toBitVec_shiftLeft, sh_l k h, BitVec.shiftLeft_eq', BitVec.toNat_ofNat, Nat.mod_eq_of_lt (by omega)]
theorem ushr_bv (x : Int64) {k : Nat} (h : k < 64) : (l_ushr x (nI k)).toBitVec = x.toBitVec >>> k := by
  unfold l_ushr
  show (x.toUInt64 >>> _).toBitVec = _
  rw [UInt64.toBitVec_shiftRight, sh_u k h, BitVec.ushiftRight_eq', BitVec.toNat_ofNat, Nat.mod_eq_of_lt (by omega)]
  rfl
theorem bt_or (x y : Int64) (i : Nat) : bt (x ||| y) i = bt x i ||| bt y i := by
  apply Nat.eq_of_testBit_eq
  intro j
  rw [Nat.testBit_or, bt_bit, bt_bit, bt_bit, Int64.toBitVec_or, BitVec.getLsbD_or, Bool.and_or_distrib_left]
theorem bt_shl (x : Int64) {k i : Nat} (hk : k < 8) (hi : i < 8) : bt (l_shl x (nI (8 * k))) i = if i + k < 8 then bt x (i + k) else 0 := by
  apply bt_of
  · split
    · exact bt_lt _ _
    · decide
  intro j hj
  rw [shl_bv x (by omega), BitVec.getLsbD_shiftLeft, decide_eq_true (show 56 - 8 * i + j < 64 by omega), Bool.true_and]
  split
  · rw [decide_eq_false (show ¬ 56 - 8 * i + j < 8 * k by omega), Bool.not_false, Bool.true_and, bt_bit, decide_eq_true hj, Bool.true_and, show 56 - 8 * i + j - 8 * k = 56 - 8 * (i + k) + j by omega]
  · rw [decide_eq_true (show 56 - 8 * i + j < 8 * k by omega), Bool.not_true, Bool.false_and, Nat.zero_testBit]
theorem bt_ushr (x : Int64) {k i : Nat} (hk : k < 8) (hi : i < 8) : bt (l_ushr x (nI (8 * k))) i = if i < k then 0 else bt x (i - k) := by
  apply bt_of
  · split
    · decide
    · exact bt_lt _ _
  intro j hj
  rw [ushr_bv x (by omega), BitVec.getLsbD_ushiftRight]
  split
  · rw [BitVec.getLsbD_of_ge _ _ (by omega), Nat.zero_testBit]
  · rw [bt_bit, decide_eq_true hj, Bool.true_and, show 8 * k + (56 - 8 * i + j) = 56 - 8 * (i - k) + j by omega]
/-- the word at a place, both ways -/
theorem ix_8 {i : Nat} (h : i ≤ 7) : (56 : Int32) - (8 : Int32) * nI i = nI (56 - 8 * i) := by
  rw [show (8 : Int32) = nI 8 from rfl, show (56 : Int32) = nI 56 from rfl, pk_mul, pk_sub (by omega)]
theorem ml_8 (i : Nat) : (8 : Int32) * nI i = nI (8 * i) := by
  rw [show (8 : Int32) = nI 8 from rfl, pk_mul]
theorem lo_8 (y : Int64) : (y.toInt32 &&& (255 : Int32)) = nI (y.toBitVec.toNat % 256) := by
  rw [pk_and y.toInt32 8 rfl, Int64.toBitVec_toInt32]
  refine congrArg nI ?_
  apply Nat.eq_of_testBit_eq
  intro j
  rw [show (256 : Nat) = 2 ^ 8 from rfl, Nat.testBit_mod_two_pow, Nat.testBit_mod_two_pow, BitVec.testBit_toNat, BitVec.testBit_toNat, BitVec.getLsbD_signExtend]
  by_cases hj : j < 8
  · rw [decide_eq_true (show j < 32 by omega), if_pos (show j < 64 by omega), Bool.true_and]
  · rw [decide_eq_false hj, Bool.false_and, Bool.false_and]
theorem word_X (x : Int64) {i : Nat} (h : i < 8) : fX4_word x (nI i) = nI (bt x i) := by
  unfold fX4_word bt
  rw [ix_8 (by omega), lo_8, ushr_bv x (by omega)]
theorem word_M (x : Int64) {i : Nat} (h : i < 8) : fX12_wordAt x (nI i) = nI (bt x i) := by
  unfold fX12_wordAt bt
  rw [if_pos (show nI i ≤ (7 : Int32) from nI_le (b := 7) (by omega) (by decide)), ix_8 (by omega), lo_8, ushr_bv x (by omega)]
theorem word_M0 (x : Int64) {i : Nat} (h : 8 ≤ i) (hi : i < 2 ^ 31) : fX12_wordAt x (nI i) = nI 0 := by
  unfold fX12_wordAt
  rw [if_neg (show ¬ nI i ≤ (7 : Int32) from nI_ge (a := 7) (by omega) hi)]
  rfl
/-- how many words a line has -/
def lnF (x : Int64) : Nat → Nat → Nat
  | 0, i => i
  | c + 1, i => if bt x i = 0 then i else lnF x c (i + 1)
def lnB (x : Int64) : Nat := lnF x 8 0
theorem lnF_le (x : Int64) : ∀ c i, i ≤ lnF x c i ∧ lnF x c i ≤ i + c := by
  intro c
  induction c with
  | zero => intro i; exact ⟨Nat.le_refl _, Nat.le_refl _⟩
  | succ c ih =>
    intro i
    unfold lnF
    split
    · omega
    · have := ih (i + 1)
      omega
theorem lnF_nz (x : Int64) : ∀ c i j, i ≤ j → j < lnF x c i → ¬ bt x j = 0 := by
  intro c
  induction c with
  | zero => intro i j h1 h2; exact absurd h2 (by unfold lnF; omega)
  | succ c ih =>
    intro i j h1 h2
    unfold lnF at h2
    split at h2
    · omega
    · rename_i hz
      by_cases e : j = i
      · subst e; exact hz
      · exact ih (i + 1) j (by omega) h2
theorem lnF_z (x : Int64) : ∀ c i, lnF x c i < i + c → bt x (lnF x c i) = 0 := by
  intro c
  induction c with
  | zero => intro i h; exact absurd h (by unfold lnF; omega)
  | succ c ih =>
    intro i h
    unfold lnF at h ⊢
    split at h
    · rename_i hz
      rw [if_pos hz]
      exact hz
    · rename_i hz
      rw [if_neg hz]
      exact ih (i + 1) (by omega)
theorem lnB_le (x : Int64) : lnB x ≤ 8 := by have := (lnF_le x 8 0).2; unfold lnB; omega
theorem lnB_nz (x : Int64) {j : Nat} (h : j < lnB x) : ¬ bt x j = 0 := lnF_nz x 8 0 j (Nat.zero_le _) h
theorem lnB_z (x : Int64) (h : lnB x < 8) : bt x (lnB x) = 0 := lnF_z x 8 0 (by unfold lnB at h; omega)
theorem nI_z {n : Nat} (h : n < 2 ^ 31) : nI n = (0 : Int32) ↔ n = 0 := nI_eq (b := 0) h (by decide)
theorem len_Xl (n : Nat) (x : Int64) : ∀ c i f, i + c = 8 → c < f → lX4_length_2 n x f (nI i) = some (nI (lnF x c i)) := by
  intro c
  induction c with
  | zero =>
    intro i f h hf
    obtain ⟨f, rfl⟩ : ∃ g, f = g + 1 := ⟨f - 1, by omega⟩
    have : i = 8 := by omega
    subst this
    rfl
  | succ c ih =>
    intro i f h hf
    obtain ⟨f, rfl⟩ : ∃ g, f = g + 1 := ⟨f - 1, by omega⟩
    unfold lX4_length_2 bX4_length_2 lnF letV
    rw [if_neg (show ¬ (8 : Int32) ≤ nI i from nI_ge (b := 8) (by omega) (by decide)), word_X x (by omega)]
    have hb := bt_lt x i
    by_cases hz : bt x i = 0
    · rw [if_pos hz, if_pos ((nI_z (by omega)).mpr hz)]
    · rw [if_neg hz, if_neg (fun q => hz ((nI_z (by omega)).mp q)), nI_1]
      exact ih (i + 1) f (by omega) (by omega)
theorem len_X {n : Nat} (hn : 8 < n) (x : Int64) : fX4_length n x = some (nI (lnB x)) := len_Xl n x 8 0 n rfl hn
theorem len_Ml (n : Nat) (x : Int64) : ∀ c i f, i + c = 8 → c < f → lX12_lengthOf_2 n x f (nI i) = some (nI (lnF x c i)) := by
  intro c
  induction c with
  | zero =>
    intro i f h hf
    obtain ⟨f, rfl⟩ : ∃ g, f = g + 1 := ⟨f - 1, by omega⟩
    have : i = 8 := by omega
    subst this
    rfl
  | succ c ih =>
    intro i f h hf
    obtain ⟨f, rfl⟩ : ∃ g, f = g + 1 := ⟨f - 1, by omega⟩
    unfold lX12_lengthOf_2 bX12_lengthOf_2 lnF letV
    rw [if_neg (show ¬ (8 : Int32) ≤ nI i from nI_ge (b := 8) (by omega) (by decide)), word_M x (by omega)]
    have hb := bt_lt x i
    by_cases hz : bt x i = 0
    · rw [if_pos hz, if_pos ((nI_z (by omega)).mpr hz)]
    · rw [if_neg hz, if_neg (fun q => hz ((nI_z (by omega)).mp q)), nI_1]
      exact ih (i + 1) f (by omega) (by omega)
theorem len_M {n : Nat} (hn : 8 < n) (x : Int64) : fX12_lengthOf n x = some (nI (lnB x)) := len_Ml n x 8 0 n rfl hn
