/-! ask -/
section ASK
theorem ak_or {x j : Nat} (h : x < 2 ^ j) : x ||| 2 ^ j = x + 2 ^ j := by
  have := Nat.two_pow_add_eq_or_of_lt h 1
  rw [Nat.mul_one] at this
  rw [Nat.or_comm, ← this, Nat.add_comm]
theorem ak_and {s j : Nat} : s &&& 2 ^ j = if s / 2 ^ j % 2 = 1 then 2 ^ j else 0 := by
  have e := Nat.testBit_eq_decide_div_mod_eq (i := j) (x := s)
  apply Nat.eq_of_testBit_eq
  intro i
  rw [Nat.testBit_and, Nat.testBit_two_pow]
  by_cases h : j = i
  · subst h
    rw [e]
    by_cases q : s / 2 ^ j % 2 = 1
    · rw [if_pos q, Nat.testBit_two_pow, decide_eq_true q]; rfl
    · rw [if_neg q, Nat.zero_testBit, decide_eq_false q]; rfl
  · rw [decide_eq_false h, Bool.and_false]
    split
    · rw [Nat.testBit_two_pow, decide_eq_false h]
    · rw [Nat.zero_testBit]
theorem ak_nor (a b : Nat) : nI a ||| nI b = nI (a ||| b) := by
  apply Int32.toBitVec_inj.mp
  rw [Int32.toBitVec_or]
  exact BitVec.ofNat_or.symm
theorem ak_nand (a b : Nat) : nI a &&& nI b = nI (a &&& b) := by
  apply Int32.toBitVec_inj.mp
  rw [Int32.toBitVec_and]
  exact BitVec.ofNat_and.symm
variable {A : Nat → Nat} {L : Nat → Int64} {F W : Nat → Nat} {w : jWd}
def wsN (A : Nat → Nat) (g a : Nat) : Nat → Nat
  | 0 => 0
  | j + 1 => wsN A g a j + if A (996 + 16 * j + g) = a then 2 ^ j else 0
def ptN (A : Nat → Nat) (g a s : Nat) : Nat → Nat
  | 0 => 0
  | j + 1 => ptN A g a s j + if s / 2 ^ j % 2 = 1 ∧ A (996 + 16 * j + g) = a then 2 ^ j else 0
theorem wsN_lt (A : Nat → Nat) (g a : Nat) : ∀ j, wsN A g a j < 2 ^ j
  | 0 => Nat.one_pos
  | j + 1 => by
    have := wsN_lt A g a j
    rw [Nat.pow_succ]
    show wsN A g a j + (if A (996 + 16 * j + g) = a then 2 ^ j else 0) < _
    split <;> omega
theorem ptN_lt (A : Nat → Nat) (g a s : Nat) : ∀ j, ptN A g a s j < 2 ^ j
  | 0 => Nat.one_pos
  | j + 1 => by
    have := ptN_lt A g a s j
    rw [Nat.pow_succ]
    show ptN A g a s j + (if s / 2 ^ j % 2 = 1 ∧ A (996 + 16 * j + g) = a then 2 ^ j else 0) < _
    split <;> omega
theorem ws_and (A : Nat → Nat) (g a s : Nat) : ∀ j, s &&& wsN A g a j = ptN A g a s j
  | 0 => Nat.and_zero s
  | j + 1 => by
    have ih := ws_and A g a s j
    show s &&& (wsN A g a j + if A (996 + 16 * j + g) = a then 2 ^ j else 0) = ptN A g a s j + if s / 2 ^ j % 2 = 1 ∧ A (996 + 16 * j + g) = a then 2 ^ j else 0
    by_cases c : A (996 + 16 * j + g) = a
    · rw [if_pos c, ← ak_or (wsN_lt A g a j), Nat.and_or_distrib_left, ih, ak_and]
      by_cases q : s / 2 ^ j % 2 = 1
      · rw [if_pos q, if_pos ⟨q, c⟩, ak_or (ptN_lt A g a s j)]
      · rw [if_neg q, if_neg (fun z => q z.1), Nat.or_zero, Nat.add_zero]
    · rw [if_neg c, if_neg (fun z => c z.2), Nat.add_zero, Nat.add_zero, ih]
theorem ptN_s (A : Nat → Nat) (g a s j : Nat) : ptN A g a s (j + 1) = ptN A g a s j + if s / 2 ^ j % 2 = 1 ∧ A (996 + 16 * j + g) = a then 2 ^ j else 0 := rfl
theorem pt_sum {g s m : Nat} (h3 : ∀ i, i < m → A (996 + 16 * i + g) ≤ 3) : ∀ j, j ≤ m → ptN A g 0 s j + ptN A g 1 s j + ptN A g 2 s j + ptN A g 3 s j = s % 2 ^ j
  | 0, _ => by
    show 0 = s % 1
    omega
  | j + 1, hj => by
    have ih := pt_sum (s := s) h3 j (by omega)
    have b := h3 j (by omega)
    rw [Nat.mod_pow_succ, ← ih, ptN_s, ptN_s, ptN_s, ptN_s]
    generalize 2 ^ j = P
    generalize A (996 + 16 * j + g) = y at b ⊢
    by_cases q : s / P % 2 = 1
    · rw [q]
      rcases (show y = 0 ∨ y = 1 ∨ y = 2 ∨ y = 3 by omega) with rfl | rfl | rfl | rfl <;> simp <;> omega
    · rw [show s / P % 2 = 0 by omega]
      simp
def wtN (A : Nat → Nat) (s : Nat) : Nat → Nat
  | 0 => 0
  | j + 1 => wtN A s j + if s / 2 ^ j % 2 = 1 then A (988 + j) else 0
theorem wtN_le {s m : Nat} (h : ∀ i, i < m → A (988 + i) ≤ 99) : ∀ j, j ≤ m → wtN A s j ≤ 99 * j
  | 0, _ => Nat.le_refl _
  | j + 1, hj => by
    have := wtN_le h (s := s) j (by omega)
    have := h j (by omega)
    unfold wtN
    split <;> omega
/-- COST of the parts, one after another -/
def cpS (A : Nat → Nat) (c : Nat → Nat) (m s g : Nat) : Nat → Nat → Nat → Option Nat
  | 0, _, x => some x
  | k + 1, a, x => if ptN A g a s m = s then none else cpS A c m s g k (a + 1) (x + c (ptN A g a s m))
theorem cpS_sh {c : Nat → Nat} {m s g y : Nat} : ∀ k a x, cpS A c m s g k a (x + y) = (cpS A c m s g k a x).map (fun v => v + y)
  | 0, _, _ => rfl
  | k + 1, a, x => by
    unfold cpS
    split
    · rfl
    · rw [show x + y + c (ptN A g a s m) = x + c (ptN A g a s m) + y by omega]
      exact cpS_sh k (a + 1) _
def oJ : Option Nat → Int32
  | none => -1
  | some v => nI v
theorem cp_bd {c : Nat → Nat} {m s g x v : Nat} (hc : ∀ p, c p ≤ 792 * (2 * p - 1)) (hs : s < 2 ^ m) (h3 : ∀ i, i < m → A (996 + 16 * i + g) ≤ 3) (h : cpS A c m s g 4 0 x = some v) : 1 ≤ s ∧ x ≤ v ∧ v ≤ x + 792 * (2 * s - 2) := by
  have e := pt_sum (A := A) (s := s) h3 m (Nat.le_refl m)
  rw [Nat.mod_eq_of_lt hs] at e
  unfold cpS at h
  split at h
  · exact absurd h (by simp)
  unfold cpS at h
  split at h
  · exact absurd h (by simp)
  unfold cpS at h
  split at h
  · exact absurd h (by simp)
  unfold cpS at h
  split at h
  · exact absurd h (by simp)
  unfold cpS at h
  rename_i n0 n1 n2 n3
  have h := Option.some.inj h
  have c0 := hc (ptN A g 0 s m)
  have c1 := hc (ptN A g (0 + 1) s m)
  have c2 := hc (ptN A g (0 + 1 + 1) s m)
  have c3 := hc (ptN A g (0 + 1 + 1 + 1) s m)
  simp only [Nat.zero_add, Nat.reduceAdd] at h n0 n1 n2 n3 c0 c1 c2 c3
  omega
def bC : Option (Nat × Nat) → Nat
  | none => 0
  | some (v, _) => v
def bF : Option (Nat × Nat) → Int32
  | none => -1
  | some (_, g) => nI g
def bsU (b : Option (Nat × Nat)) (g v : Nat) : Option (Nat × Nat) :=
  match b with
  | none => some (v, g)
  | some (u, h) => if u ≤ v then some (u, h) else some (v, g)
/-- the first GLEN of least COST -/
def bsS (A : Nat → Nat) (c : Nat → Nat) (m s : Nat) : Nat → Nat → Option (Nat × Nat) → Option (Nat × Nat)
  | 0, _, b => b
  | k + 1, g, b => bsS A c m s k (g + 1) (match cpS A c m s g 4 0 (wtN A s m) with
    | none => b
    | some v => bsU b g v)
theorem pt_0 (A : Nat → Nat) (g a m : Nat) : ptN A g a 0 m = 0 := by rw [← ws_and, Nat.zero_and]
theorem bs_0 {c : Nat → Nat} {m : Nat} : ∀ k g, bsS A c m 0 k g none = none
  | 0, _ => rfl
  | k + 1, g => by
    unfold bsS
    have e : cpS A c m 0 g 4 0 (wtN A 0 m) = none := by
      unfold cpS
      rw [if_pos (pt_0 A g 0 m)]
    rw [e]
    exact bs_0 k (g + 1)
/-- COSTS of the sets below k -/
def csN (A : Nat → Nat) (m : Nat) : Nat → Nat → Nat
  | 0 => fun _ => 0
  | k + 1 => fun p => if p = k then bC (bsS A (csN A m k) m k 16 0 none) else csN A m k p
theorem csN_st {m : Nat} {p : Nat} : ∀ k, p < k → csN A m k p = bC (bsS A (csN A m p) m p 16 0 none)
  | 0, h => absurd h (Nat.not_lt_zero p)
  | k + 1, h => by
    show (if p = k then bC (bsS A (csN A m k) m k 16 0 none) else csN A m k p) = _
    by_cases e : p = k
    · subst e; rw [if_pos rfl]
    · rw [if_neg e]; exact csN_st k (by omega)
theorem bs_bd {c : Nat → Nat} {m s B : Nat} (hB : 792 ≤ B) (hc : ∀ p, c p ≤ 792 * (2 * p - 1)) (hs : s < 2 ^ m) (hm : m ≤ 8) (hw : ∀ i, i < m → A (988 + i) ≤ 99) (h3 : ∀ i g, i < m → g < 16 → A (996 + 16 * i + g) ≤ 3) : ∀ k g b, g + k ≤ 16 → bC b ≤ 792 * (2 * s - 1) → bC (bsS A c m s k g b) ≤ 792 * (2 * s - 1)
  | 0, _, _, _, h => h
  | k + 1, g, b, hg, h => by
    unfold bsS
    refine bs_bd hB hc hs hm hw h3 k (g + 1) _ (by omega) ?_
    cases e : cpS A c m s g 4 0 (wtN A s m) with
    | none => exact h
    | some v =>
      have b1 := cp_bd hc hs (fun i hi => h3 i g hi (by omega)) e
      have b2 := wtN_le hw (s := s) m (Nat.le_refl m)
      show bC (bsU b g v) ≤ _
      have hv : v ≤ 792 * (2 * s - 1) := by omega
      cases b with
      | none => exact hv
      | some q =>
        obtain ⟨u, h'⟩ := q
        show bC (if u ≤ v then some (u, h') else some (v, g)) ≤ _
        split
        · exact h
        · exact hv
theorem csN_bd {m : Nat} (hm : m ≤ 8) (hw : ∀ i, i < m → A (988 + i) ≤ 99) (h3 : ∀ i g, i < m → g < 16 → A (996 + 16 * i + g) ≤ 3) : ∀ k, k ≤ 2 ^ m → ∀ p, csN A m k p ≤ 792 * (2 * p - 1)
  | 0, _, p => Nat.zero_le _
  | k + 1, hk, p => by
    unfold csN
    have ih := csN_bd hm hw h3 k (by omega)
    by_cases e : p = k
    · subst e
      rw [if_pos rfl]
      exact bs_bd (B := 792) (Nat.le_refl _) ih (by omega) hm hw h3 16 0 none (by omega) (Nat.zero_le _)
    · rw [if_neg e]; exact ih p
def subI (set p : Nat) : Prop := (nI p &&& (nI set ^^^ (-1 : Int32))) = 0
theorem sub_self (s : Nat) : subI s s := by
  unfold subI
  rw [Int32.xor_neg_one, Int32.and_not_self]
theorem sub_pt {set s y : Nat} (h : subI set s) : subI set (s &&& y) := by
  unfold subI at h ⊢
  rw [← ak_nand, Int32.and_assoc, Int32.and_comm (nI y), ← Int32.and_assoc, h, Int32.zero_and]
theorem RN_wd (h : RN A L F W w) : wI w 55 0 = nI (A 987) ∧ ∀ i, i < A 987 → wI w 56 i = nI (A (988 + i)) ∧ ∀ g, g < 16 → wI w 57 (16 * i + g) = nI (A (996 + 16 * i + g)) := ⟨h.2.1.2.2.2.2.2.2.2.2.2.1.1, h.2.1.2.2.2.2.2.2.2.2.2.1.2.1⟩
theorem RN_wb (h : RN A L F W w) : A 987 ≤ 8 ∧ (∀ i, i < A 987 → A (988 + i) ≤ 99) ∧ ∀ i g, i < A 987 → g < 16 → A (996 + 16 * i + g) ≤ 3 := ⟨h.1.1.2.2.2.2.2.2.2.2.2.2.2.2, h.1.2.1.1, h.1.2.1.2.1⟩
theorem ak_sm : ∀ k : Nat, k < 32 → ((nI k &&& 31).toBitVec.smod 32).toNat = k := by decide +kernel
theorem ak_shl {j : Nat} (h : j < 30) : i_shl (1 : Int32) (nI j) = nI (2 ^ j) := by
  have e := pk_shlN (n := 1) (nI j &&& 31) j (ak_sm j (by omega)) (by
    have : 2 ^ j < 2 ^ 32 := Nat.pow_lt_pow_right (by decide) (by omega)
    omega)
  rw [Nat.one_mul] at e
  exact e
theorem ak_bit {s j : Nat} (hs : s < 2 ^ 31) (h : j < 32) : ((i_shr (nI s) (nI j)) &&& (1 : Int32)) = nI (s / 2 ^ j % 2) := by
  unfold i_shr
  rw [pk_shrN hs (nI j &&& 31) j (ak_sm j h), pk_andN (k := 1) (Nat.lt_of_le_of_lt (Nat.div_le_self _ _) (by omega)) rfl]
theorem ak_b1 {s j : Nat} : (nI (s / 2 ^ j % 2) = (1 : Int32)) ↔ s / 2 ^ j % 2 = 1 := by
  rw [show (1 : Int32) = nI 1 from rfl]
  exact nI_eq (by omega) (by decide)
theorem ak_p2 {m j : Nat} (hm : m ≤ 8) (hj : j ≤ m) : 2 ^ j ≤ 256 := Nat.le_trans (Nat.pow_le_pow_right (by decide) (show j ≤ 8 by omega)) (by decide)
/-- weights -/
theorem wt_X {n s : Nat} (h : RN A L F W w) (hs : s < 256) : ∀ c i f, i + c = A 987 → c < f → lX10_weightOf_4 n 55 (nI s) w f (nI (wtN A s i)) (nI i) = some (nI (wtN A s (A 987))) := by
  obtain ⟨d1, d2⟩ := RN_wd h
  obtain ⟨m8, b1, b2⟩ := RN_wb h
  have l1 : ln (55 + 1) = 8 := rfl
  intro c
  induction c with
  | zero =>
    intro i f hi hf
    obtain ⟨f, rfl⟩ : ∃ g, f = g + 1 := ⟨f - 1, by omega⟩
    show bX10_weightOf_4 n 55 (nI s) w _ (nI (wtN A s i)) (nI i) = _
    unfold bX10_weightOf_4
    rw [d1, if_pos (nI_le (by omega) (by omega)), show i = A 987 by omega]
  | succ c ih =>
    intro i f hi hf
    obtain ⟨f, rfl⟩ : ∃ g, f = g + 1 := ⟨f - 1, by omega⟩
    have hi2 := ih (i + 1) f (by omega) (by omega)
    have ew : wtN A s (i + 1) = wtN A s i + if s / 2 ^ i % 2 = 1 then A (988 + i) else 0 := rfl
    rw [ew] at hi2
    have e1 : wI w (55 + 1) i = nI (A (988 + i)) := (d2 i (by omega)).1
    show bX10_weightOf_4 n 55 (nI s) w (lX10_weightOf_4 n 55 (nI s) w f) (nI (wtN A s i)) (nI i) = _
    unfold bX10_weightOf_4 letV
    dsimp only
    rw [d1, if_neg (nI_ge (by omega) (by omega)), ak_bit (by omega) (by omega), nI_1]
    by_cases q : s / 2 ^ i % 2 = 1
    · rw [if_pos (ak_b1.mpr q), l1, grd_N (by omega) (by decide), nI_clamp (by omega), e1, nI_add]
      rw [if_pos q] at hi2
      exact hi2
    · rw [if_neg (fun z => q (ak_b1.mp z))]
      rw [if_neg q, Nat.add_zero] at hi2
      exact hi2
theorem wt_M {n s : Nat} (h : RN A L F W w) (hs : s < 256) : ∀ c i f, i + c = A 987 → c < f → lX12_weightOf_4 n (nI s) w f (nI (wtN A s i)) (nI i) = some (nI (wtN A s (A 987))) := by
  obtain ⟨m8, b1, b2⟩ := RN_wb h
  have l7 : ln 207 = 3372 := rfl
  intro c
  induction c with
  | zero =>
    intro i f hi hf
    obtain ⟨f, rfl⟩ : ∃ g, f = g + 1 := ⟨f - 1, by omega⟩
    show bX12_weightOf_4 n (nI s) w _ (nI (wtN A s i)) (nI i) = _
    unfold bX12_weightOf_4
    rw [RN_A h (show 987 < 1124 by decide), if_pos (nI_le (by omega) (by omega)), show i = A 987 by omega]
  | succ c ih =>
    intro i f hi hf
    obtain ⟨f, rfl⟩ : ∃ g, f = g + 1 := ⟨f - 1, by omega⟩
    have hi2 := ih (i + 1) f (by omega) (by omega)
    have ew : wtN A s (i + 1) = wtN A s i + if s / 2 ^ i % 2 = 1 then A (988 + i) else 0 := rfl
    rw [ew] at hi2
    show bX12_weightOf_4 n (nI s) w (lX12_weightOf_4 n (nI s) w f) (nI (wtN A s i)) (nI i) = _
    unfold bX12_weightOf_4 letV
    dsimp only
    rw [RN_A h (show 987 < 1124 by decide), if_neg (nI_ge (by omega) (by omega)), ak_bit (by omega) (by omega), nI_1, Int32.add_zero]
    by_cases q : s / 2 ^ i % 2 = 1
    · rw [if_pos (ak_b1.mpr q), show (988 : Int32) + nI i = nI (988 + i) from nI_add 988 i, l7, grd_N (by omega) (by decide), nI_clamp (by omega), RN_A h (show 988 + i < 1124 by omega), nI_add]
      rw [if_pos q] at hi2
      exact hi2
    · rw [if_neg (fun z => q (ak_b1.mp z))]
      rw [if_neg q, Nat.add_zero] at hi2
      exact hi2
/-- the reference's part of a set -/
theorem sy_M {n s g a : Nat} (h : RN A L F W w) (hs : s < 256) (hg : g < 16) (ha : a < 4) : ∀ c i f, i + c = A 987 → c < f → lX12_saying_6 n (nI s) (nI g) (nI a) w f (nI (ptN A g a s i)) (nI i) = some (nI (ptN A g a s (A 987))) := by
  obtain ⟨m8, b1, b2⟩ := RN_wb h
  have l7 : ln 207 = 3372 := rfl
  intro c
  induction c with
  | zero =>
    intro i f hi hf
    obtain ⟨f, rfl⟩ : ∃ g, f = g + 1 := ⟨f - 1, by omega⟩
    show bX12_saying_6 n (nI s) (nI g) (nI a) w _ (nI (ptN A g a s i)) (nI i) = _
    unfold bX12_saying_6
    rw [RN_A h (show 987 < 1124 by decide), if_pos (nI_le (by omega) (by omega)), show i = A 987 by omega]
  | succ c ih =>
    intro i f hi hf
    obtain ⟨f, rfl⟩ : ∃ g, f = g + 1 := ⟨f - 1, by omega⟩
    have hi2 := ih (i + 1) f (by omega) (by omega)
    rw [ptN_s] at hi2
    have b3 := b2 i g (by omega) hg
    show bX12_saying_6 n (nI s) (nI g) (nI a) w (lX12_saying_6 n (nI s) (nI g) (nI a) w f) (nI (ptN A g a s i)) (nI i) = _
    unfold bX12_saying_6 letV
    dsimp only
    rw [RN_A h (show 987 < 1124 by decide), if_neg (nI_ge (by omega) (by omega)), ak_bit (by omega) (by omega), nI_1]
    by_cases q : s / 2 ^ i % 2 = 1
    · rw [if_pos (ak_b1.mpr q), show (16 : Int32) * nI i = nI (16 * i) from pk_mul 16 i, show (996 : Int32) + nI (16 * i) = nI (996 + 16 * i) from nI_add 996 (16 * i), nI_add, l7, grd_N (by omega) (by decide), nI_clamp (by omega), RN_A h (show 996 + 16 * i + g < 1124 by omega)]
      by_cases q2 : A (996 + 16 * i + g) = a
      · rw [if_pos ((nI_eq (by omega) (by omega)).mpr q2), ak_shl (by omega), ak_nor, ak_or (ptN_lt A g a s i)]
        rw [if_pos ⟨q, q2⟩] at hi2
        exact hi2
      · rw [if_neg (fun z => q2 ((nI_eq (by omega) (by omega)).mp z))]
        rw [if_neg (fun z => q2 z.2), Nat.add_zero] at hi2
        exact hi2
    · rw [if_neg (fun z => q (ak_b1.mp z))]
      rw [if_neg (fun z => q z.1), Nat.add_zero] at hi2
      exact hi2
/-- COST of the parts, the class's and the reference's -/
theorem cp_X {n s g set : Nat} {cc : Nat → Nat} (hs : s < 256) (hm : A 987 ≤ 8) (hg : g < 16) (hsb : subI set s) (h58 : ∀ g a, g < 16 → a < 4 → wI w 58 (4 * g + a) = nI (wsN A g a (A 987))) (h59 : ∀ p, p < s → subI set p → wI w 59 p = nI (cc p)) : ∀ k a f x, a + k = 4 → k < f → lX10_costOfParts_5 n 55 (nI s) (nI g) w f (nI x) (nI a) = some (oJ (cpS A cc (A 987) s g k a x)) := by
  have l3 : ln (55 + 3) = 64 := rfl
  have l4 : ln (55 + 4) = 256 := rfl
  intro k
  induction k with
  | zero =>
    intro a f x hi hf
    obtain ⟨f, rfl⟩ : ∃ g, f = g + 1 := ⟨f - 1, by omega⟩
    show bX10_costOfParts_5 n 55 (nI s) (nI g) w _ (nI x) (nI a) = some (nI x)
    unfold bX10_costOfParts_5
    rw [if_pos (show (4 : Int32) ≤ nI a from nI_le (a := 4) (by omega) (by omega))]
  | succ k ih =>
    intro a f x hi hf
    obtain ⟨f, rfl⟩ : ∃ g, f = g + 1 := ⟨f - 1, by omega⟩
    have e58 : wI w (55 + 3) (g * 4 + a) = nI (wsN A g a (A 987)) := by rw [Nat.mul_comm g 4]; exact h58 g a hg (by omega)
    have hle : ptN A g a s (A 987) ≤ s := by rw [← ws_and]; exact Nat.and_le_left
    show bX10_costOfParts_5 n 55 (nI s) (nI g) w (lX10_costOfParts_5 n 55 (nI s) (nI g) w f) (nI x) (nI a) = some (oJ (if ptN A g a s (A 987) = s then none else cpS A cc (A 987) s g k (a + 1) (x + cc (ptN A g a s (A 987)))))
    unfold bX10_costOfParts_5 letV
    dsimp only
    rw [if_neg (show ¬ (4 : Int32) ≤ nI a from nI_ge (b := 4) (by omega) (by decide)), show nI g * (4 : Int32) = nI (g * 4) from pk_mul g 4, nI_add, l3, grd_N (by omega) (by decide), nI_clamp (by omega), e58, ak_nand, ws_and]
    by_cases q : ptN A g a s (A 987) = s
    · rw [if_pos (by rw [q]), if_pos q]
      rfl
    · have e59 : wI w (55 + 4) (ptN A g a s (A 987)) = nI (cc (ptN A g a s (A 987))) := h59 _ (by omega) (by rw [← ws_and]; exact sub_pt hsb)
      rw [if_neg (fun z => q ((nI_eq (by omega) (by omega)).mp z)), if_neg q, l4, grd_N (by omega) (by decide), nI_clamp (by omega), e59, nI_add, nI_1]
      exact ih (a + 1) f _ (by omega) (by omega)
theorem cp_M {n s g set : Nat} {cc : Nat → Nat} (hn : 10 < n) (h : RN A L F W w) (hs : s < 256) (hg : g < 16) (hsb : subI set s) (h59 : ∀ p, p < s → subI set p → wI w 220 p = nI (cc p)) : ∀ k a f x, a + k = 4 → k < f → lX12_costBy_9 n (nI s) (nI g) w f (nI x) (nI a) = some (oJ (cpS A cc (A 987) s g k a x)) := by
  obtain ⟨m8, b1, b2⟩ := RN_wb h
  have l4 : ln 220 = 256 := rfl
  intro k
  induction k with
  | zero =>
    intro a f x hi hf
    obtain ⟨f, rfl⟩ : ∃ g, f = g + 1 := ⟨f - 1, by omega⟩
    show bX12_costBy_9 n (nI s) (nI g) w _ (nI x) (nI a) = some (nI x)
    unfold bX12_costBy_9
    rw [if_pos (show (4 : Int32) ≤ nI a from nI_le (a := 4) (by omega) (by omega))]
  | succ k ih =>
    intro a f x hi hf
    obtain ⟨f, rfl⟩ : ∃ g, f = g + 1 := ⟨f - 1, by omega⟩
    have es : fX12_saying n (nI s) (nI g) (nI a) w = some (nI (ptN A g a s (A 987))) := sy_M h hs hg (by omega) (A 987) 0 n (by omega) (by omega)
    have hle : ptN A g a s (A 987) ≤ s := by rw [← ws_and]; exact Nat.and_le_left
    show bX12_costBy_9 n (nI s) (nI g) w (lX12_costBy_9 n (nI s) (nI g) w f) (nI x) (nI a) = some (oJ (if ptN A g a s (A 987) = s then none else cpS A cc (A 987) s g k (a + 1) (x + cc (ptN A g a s (A 987)))))
    unfold bX12_costBy_9 letV
    dsimp only
    rw [if_neg (show ¬ (4 : Int32) ≤ nI a from nI_ge (b := 4) (by omega) (by decide)), es, ev_bO]
    by_cases q : ptN A g a s (A 987) = s
    · rw [if_pos (by rw [q]), if_pos q]
      rfl
    · have e59 : wI w 220 (ptN A g a s (A 987)) = nI (cc (ptN A g a s (A 987))) := h59 _ (by omega) (by rw [← ws_and]; exact sub_pt hsb)
      rw [if_neg (fun z => q ((nI_eq (by omega) (by omega)).mp z)), if_neg q, l4, grd_N (by omega) (by decide), nI_clamp (by omega), e59, nI_add, nI_1]
      exact ih (a + 1) f _ (by omega) (by omega)
theorem oJ_m1 {o : Option Nat} {v : Nat} (h : o = some v) (hv : v < 2 ^ 31) : ¬ oJ o = (-1 : Int32) := by
  subst h
  exact fun z => nI_pos (n := v) hv (by show oJ (some v) < 0; rw [z]; decide)
theorem bF_no : bF none = (-1 : Int32) := rfl
/-- one set, the class -/
theorem wo_X {n s set : Nat} {cc : Nat → Nat} (hn : 10 < n) (hs : s < 2 ^ A 987) (hm : A 987 ≤ 8) (hw9 : ∀ i, i < A 987 → A (988 + i) ≤ 99) (h3 : ∀ i g, i < A 987 → g < 16 → A (996 + 16 * i + g) ≤ 3) (hc : ∀ p, cc p ≤ 792 * (2 * p - 1)) (hsb : subI set s) : ∀ k g f b (w : jWd), g + k = 16 → k < f → (∀ g a, g < 16 → a < 4 → wI w 58 (4 * g + a) = nI (wsN A g a (A 987))) → (∀ p, p < s → subI set p → wI w 59 p = nI (cc p)) → wI w 59 s = nI (bC b) → wI w 60 s = bF b → bC b ≤ 792 * (2 * s - 1) → (∀ v h, b = some (v, h) → h < 16) → ∃ w', lX10_weighOne_22 n 55 (nI s) (nI (wtN A s (A 987))) f (nI g) w = some w' ∧ wI w' 59 s = nI (bC (bsS A cc (A 987) s k g b)) ∧ wI w' 60 s = bF (bsS A cc (A 987) s k g b) ∧ frP (fun c k => (c = 59 ∨ c = 60) ∧ k = s) w w' := by
  have l4 : ln (55 + 4) = 256 := rfl
  have l5 : ln (55 + 5) = 256 := rfl
  have hs8 : s < 256 := Nat.lt_of_lt_of_le hs (ak_p2 hm (Nat.le_refl _))
  intro k
  induction k with
  | zero =>
    intro g f b w hi hf h58 h59 hC hF hb hh
    obtain ⟨f, rfl⟩ : ∃ g, f = g + 1 := ⟨f - 1, by omega⟩
    refine ⟨w, ?_, hC, hF, frP_refl _ _⟩
    show bX10_weighOne_22 n 55 (nI s) (nI (wtN A s (A 987))) _ (nI g) w = _
    unfold bX10_weighOne_22
    rw [if_pos (show (16 : Int32) ≤ nI g from nI_le (a := 16) (by omega) (by omega))]
  | succ k ih =>
    intro g f b w hi hf h58 h59 hC hF hb hh
    obtain ⟨f, rfl⟩ : ∃ g, f = g + 1 := ⟨f - 1, by omega⟩
    have ecp : fX10_costOfParts n 55 (nI s) (nI g) w = some (oJ (cpS A cc (A 987) s g 4 0 0)) := cp_X hs8 hm (by omega) hsb h58 h59 4 0 n 0 (by omega) (by omega)
    have esh : cpS A cc (A 987) s g 4 0 (wtN A s (A 987)) = (cpS A cc (A 987) s g 4 0 0).map (fun v => v + wtN A s (A 987)) := by
      have := cpS_sh (A := A) (c := cc) (m := A 987) (s := s) (g := g) (y := wtN A s (A 987)) 4 0 0
      rw [Nat.zero_add] at this
      exact this
    have ewt := wtN_le hw9 (s := s) (A 987) (Nat.le_refl _)
    show ∃ w', bX10_weighOne_22 n 55 (nI s) (nI (wtN A s (A 987))) (lX10_weighOne_22 n 55 (nI s) (nI (wtN A s (A 987))) f) (nI g) w = some w' ∧ wI w' 59 s = nI (bC (bsS A cc (A 987) s k (g + 1) (match cpS A cc (A 987) s g 4 0 (wtN A s (A 987)) with
      | none => b
      | some v => bsU b g v))) ∧ wI w' 60 s = bF (bsS A cc (A 987) s k (g + 1) (match cpS A cc (A 987) s g 4 0 (wtN A s (A 987)) with
      | none => b
      | some v => bsU b g v)) ∧ frP (fun c k => (c = 59 ∨ c = 60) ∧ k = s) w w'
    unfold bX10_weighOne_22 letV
    dsimp only
    rw [if_neg (show ¬ (16 : Int32) ≤ nI g from nI_ge (b := 16) (by omega) (by decide)), ecp, ev_bO, nI_1, l4, l5, grd_N (by omega) (by decide), grd_N (by omega) (by decide), grd_N (by omega) (by decide), nI_clamp (by omega), esh]
    cases eo : cpS A cc (A 987) s g 4 0 0 with
    | none =>
      rw [show oJ none = (-1 : Int32) from rfl, if_pos rfl]
      exact ih (g + 1) f b w (by omega) (by omega) h58 h59 hC hF hb hh
    | some v =>
      have bd := cp_bd hc hs (fun i hi' => h3 i g hi' (by omega)) eo
      rw [if_neg (oJ_m1 rfl (by omega)), show oJ (some v) = nI v from rfl, nI_add, Nat.add_comm (wtN A s (A 987)) v]
      show ∃ w', _ = some w' ∧ wI w' 59 s = nI (bC (bsS A cc (A 987) s k (g + 1) (bsU b g (v + wtN A s (A 987))))) ∧ wI w' 60 s = bF (bsS A cc (A 987) s k (g + 1) (bsU b g (v + wtN A s (A 987)))) ∧ frP (fun c k => (c = 59 ∨ c = 60) ∧ k = s) w w'
      have set1 : ∃ w', lX10_weighOne_22 n 55 (nI s) (nI (wtN A s (A 987))) f (nI (g + 1)) (sI (sI w (55 + 4) s (nI (v + wtN A s (A 987)))) (55 + 5) s (nI g)) = some w' ∧ wI w' 59 s = nI (bC (bsS A cc (A 987) s k (g + 1) (some (v + wtN A s (A 987), g)))) ∧ wI w' 60 s = bF (bsS A cc (A 987) s k (g + 1) (some (v + wtN A s (A 987), g))) ∧ frP (fun c k => (c = 59 ∨ c = 60) ∧ k = s) w w' := by
        obtain ⟨w', d1, d2, d3, d4⟩ := ih (g + 1) f (some (v + wtN A s (A 987), g)) (sI (sI w (55 + 4) s (nI (v + wtN A s (A 987)))) (55 + 5) s (nI g)) (by omega) (by omega) (fun g a hg ha => by rw [ev_wIn _ (by omega), ev_wIn _ (by omega)]; exact h58 g a hg ha) (fun p hp hp2 => by rw [ev_wIn _ (by omega), ev_wIn _ (by omega)]; exact h59 p hp hp2) (by rw [ev_wIn _ (by omega)]; exact ev_wIs _ _ _ _) (ev_wIs _ _ _ _) (by show v + wtN A s (A 987) ≤ _; omega) (fun v' h' e => by
          have e := Option.some.inj e
          have e := (Prod.mk.inj e).2
          omega)
        exact ⟨w', d1, d2, d3, frP_trans (frP_trans (frP_sI _ _ ⟨.inl rfl, rfl⟩) (frP_sI _ _ ⟨.inr rfl, rfl⟩)) d4⟩
      have e60 : wI w (55 + 5) s = bF b := hF
      have e59 : wI w (55 + 4) s = nI (bC b) := hC
      rw [e60, e59]
      cases b with
      | none =>
        rw [if_pos bF_no]
        exact set1
      | some q =>
        obtain ⟨u, h'⟩ := q
        have hh' := hh u h' rfl
        have hu : u ≤ 792 * (2 * s - 1) := hb
        rw [if_neg (show ¬ bF (some (u, h')) = (-1 : Int32) from fun z => nI_pos (n := h') (by omega) (by show bF (some (u, h')) < 0; rw [z]; decide)), show bC (some (u, h')) = u from rfl, show bsU (some (u, h')) g (v + wtN A s (A 987)) = if u ≤ v + wtN A s (A 987) then some (u, h') else some (v + wtN A s (A 987), g) from rfl, grd_N (by omega) (by decide)]
        by_cases q : u ≤ v + wtN A s (A 987)
        · rw [if_pos (nI_le q (by omega)), if_pos q]
          exact ih (g + 1) f (some (u, h')) w (by omega) (by omega) h58 h59 hC hF hb hh
        · rw [if_neg (nI_ge (by omega) (by omega)), if_neg q]
          exact set1
/-- one set, the reference -/
theorem wo_M {n s set : Nat} {cc : Nat → Nat} {P1 P2 : Int32} (K : Int32 → jWd → Option (Int32 × jWd)) (hn : 10 < n) (hs : s < 2 ^ A 987) (hc : ∀ p, cc p ≤ 792 * (2 * p - 1)) (hsb : subI set s) : ∀ k g f b (w : jWd), RN A L F W w → g + k = 16 → k < f → (∀ p, p < s → subI set p → wI w 220 p = nI (cc p)) → wI w 220 s = nI (bC b) → bC b ≤ 792 * (2 * s - 1) → (∀ v h, b = some (v, h) → h < 16) → ∃ w', lX12_ask_85 n P1 P2 (nI s) K f (bF b) (nI g) w = K (bF (bsS A cc (A 987) s k g b)) w' ∧ wI w' 220 s = nI (bC (bsS A cc (A 987) s k g b)) ∧ frP (fun c k => c = 220 ∧ k = s) w w' := by
  have l4 : ln 220 = 256 := rfl
  intro k
  induction k with
  | zero =>
    intro g f b w h hi hf h59 hC hb hh
    obtain ⟨f, rfl⟩ : ∃ g, f = g + 1 := ⟨f - 1, by omega⟩
    refine ⟨w, ?_, hC, frP_refl _ _⟩
    show bX12_ask_85 n P1 P2 (nI s) K _ (bF b) (nI g) w = _
    unfold bX12_ask_85
    rw [if_pos (show (16 : Int32) ≤ nI g from nI_le (a := 16) (by omega) (by omega))]
    rfl
  | succ k ih =>
    intro g f b w h hi hf h59 hC hb hh
    obtain ⟨f, rfl⟩ : ∃ g, f = g + 1 := ⟨f - 1, by omega⟩
    obtain ⟨m8, hw9, h3⟩ := RN_wb h
    have hs8 : s < 256 := Nat.lt_of_lt_of_le hs (ak_p2 m8 (Nat.le_refl _))
    have ewt : fX12_weightOf n (nI s) w = some (nI (wtN A s (A 987))) := wt_M h hs8 (A 987) 0 n (by omega) (by omega)
    have ecp : fX12_costBy n (nI s) (nI g) w = some (oJ (cpS A cc (A 987) s g 4 0 (wtN A s (A 987)))) := by
      unfold fX12_costBy
      rw [ewt, ev_bO]
      exact cp_M hn h hs8 (by omega) hsb h59 4 0 n _ (by omega) (by omega)
    have bwt := wtN_le hw9 (s := s) (A 987) (Nat.le_refl _)
    show ∃ w', bX12_ask_85 n P1 P2 (nI s) K (lX12_ask_85 n P1 P2 (nI s) K f) (bF b) (nI g) w = K (bF (bsS A cc (A 987) s k (g + 1) (match cpS A cc (A 987) s g 4 0 (wtN A s (A 987)) with
      | none => b
      | some v => bsU b g v))) w' ∧ wI w' 220 s = nI (bC (bsS A cc (A 987) s k (g + 1) (match cpS A cc (A 987) s g 4 0 (wtN A s (A 987)) with
      | none => b
      | some v => bsU b g v))) ∧ frP (fun c k => c = 220 ∧ k = s) w w'
    unfold bX12_ask_85 letV
    dsimp only
    rw [if_neg (show ¬ (16 : Int32) ≤ nI g from nI_ge (b := 16) (by omega) (by decide)), ecp, ev_bO, nI_1, l4, grd_N (by omega) (by decide), grd_N (by omega) (by decide), nI_clamp (by omega)]
    cases eo : cpS A cc (A 987) s g 4 0 (wtN A s (A 987)) with
    | none =>
      rw [show oJ none = (-1 : Int32) from rfl, if_pos rfl]
      exact ih (g + 1) f b w h (by omega) (by omega) h59 hC hb hh
    | some v =>
      have bd := cp_bd hc hs (fun i hi' => h3 i g hi' (by omega)) eo
      rw [if_neg (oJ_m1 rfl (by omega)), show oJ (some v) = nI v from rfl]
      show ∃ w', _ = K (bF (bsS A cc (A 987) s k (g + 1) (bsU b g v))) w' ∧ wI w' 220 s = nI (bC (bsS A cc (A 987) s k (g + 1) (bsU b g v))) ∧ frP (fun c k => c = 220 ∧ k = s) w w'
      have set1 : ∃ w', lX12_ask_85 n P1 P2 (nI s) K f (nI g) (nI (g + 1)) (sI w 220 s (nI v)) = K (bF (bsS A cc (A 987) s k (g + 1) (some (v, g)))) w' ∧ wI w' 220 s = nI (bC (bsS A cc (A 987) s k (g + 1) (some (v, g)))) ∧ frP (fun c k => c = 220 ∧ k = s) w w' := by
        obtain ⟨w', d1, d2, d3⟩ := ih (g + 1) f (some (v, g)) (sI w 220 s (nI v)) (RN_fr (frP_sI _ _ (by unfold Scr; omega)) h) (by omega) (by omega) (fun p hp hp2 => by rw [ev_wIn _ (by omega)]; exact h59 p hp hp2) (ev_wIs _ _ _ _) (by show v ≤ _; omega) (fun v' h' e => by
          have e := Option.some.inj e
          have e := (Prod.mk.inj e).2
          omega)
        exact ⟨w', d1, d2, frP_trans (frP_sI _ _ ⟨rfl, rfl⟩) d3⟩
      rw [hC]
      cases b with
      | none =>
        rw [if_pos bF_no]
        exact set1
      | some q =>
        obtain ⟨u, h'⟩ := q
        have hh' := hh u h' rfl
        have hu : u ≤ 792 * (2 * s - 1) := hb
        rw [if_neg (show ¬ bF (some (u, h')) = (-1 : Int32) from fun z => nI_pos (n := h') (by omega) (by show bF (some (u, h')) < 0; rw [z]; decide)), show bC (some (u, h')) = u from rfl, show bsU (some (u, h')) g v = if u ≤ v then some (u, h') else some (v, g) from rfl]
        by_cases q : u ≤ v
        · rw [if_neg (nI_nlt q (by omega)), if_pos q]
          exact ih (g + 1) f (some (u, h')) w h (by omega) (by omega) h59 hC hb hh
        · rw [if_pos (nI_lt (by omega) (by omega)), if_neg q]
          exact set1
end ASK
