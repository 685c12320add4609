/-! fractions; sums; matches, most -/
theorem lz_iff {b : Nat} (hb : b < 2 ^ 63) : lg_cmp (lN b) (0 : Int64) = 0 ↔ b = 0 := (l0_iff _).trans (pk_lEQ (b := 0) hb (by decide))
theorem mod_half {b r : Nat} (h0 : 0 < r) (h : r < b) : 2 * (b % r) < b := by
  by_cases q : 2 * r ≤ b
  · have := Nat.mod_lt b h0
    omega
  · have e : b % r = b - r := by
      rw [Nat.mod_eq_sub_mod (by omega), Nat.mod_eq_of_lt (by omega)]
    omega
theorem gcd_st (a b : Nat) : Nat.gcd a b = Nat.gcd b (a % b) := by rw [Nat.gcd_comm, Nat.gcd_rec, Nat.gcd_comm]
theorem rem_N {a b : Nat} (ha : a < 2 ^ 63) (h0 : 0 < b) (hb : b < 2 ^ 63) : l_rem (lN a) (lN b) = lN (a % b) := pk_lRem ha h0 hb
theorem gc_X {n : Nat} : ∀ c a b i f, b < 2 ^ c → c ≤ 62 → a < 2 ^ 63 → i + 2 * c ≤ 199 → 2 * c < f → lX2_greatestCommon_9 n f (lN a) (lN b) (nI i) = some (lN (Nat.gcd a b)) := by
  have zero : ∀ a i f, a < 2 ^ 63 → i ≤ 199 → lX2_greatestCommon_9 n (f + 1) (lN a) (lN 0) (nI i) = some (lN (Nat.gcd a 0)) := by
    intro a i f ha hi
    show bX2_greatestCommon_9 n _ (lN a) (lN 0) (nI i) = _
    unfold bX2_greatestCommon_9
    rw [if_neg (show ¬ (200 : Int32) ≤ nI i from nI_ge (b := 200) (by omega) (by decide)), if_pos ((lz_iff (by decide)).mpr rfl), Nat.gcd_zero_right]
  have step : ∀ a b i f, a < 2 ^ 63 → 0 < b → b < 2 ^ 63 → i ≤ 199 → lX2_greatestCommon_9 n (f + 1) (lN a) (lN b) (nI i) = lX2_greatestCommon_9 n f (lN b) (lN (a % b)) (nI (i + 1)) := by
    intro a b i f ha hb0 hb hi
    show bX2_greatestCommon_9 n (lX2_greatestCommon_9 n f) (lN a) (lN b) (nI i) = _
    unfold bX2_greatestCommon_9 letV grzl
    rw [if_neg (show ¬ (200 : Int32) ≤ nI i from nI_ge (b := 200) (by omega) (by decide)), if_neg (fun q => by have := (lz_iff hb).mp q; omega), if_neg (fun q => by have := (pk_lEQ (b := 0) hb (by decide)).mp q; omega), rem_N ha hb0 hb, nI_1]
  intro c
  induction c with
  | zero =>
    intro a b i f hb _ ha hi hf
    obtain ⟨f, rfl⟩ : ∃ g, f = g + 1 := ⟨f - 1, by omega⟩
    have : b = 0 := by omega
    subst this
    exact zero a i f ha (by omega)
  | succ c ih =>
    intro a b i f hb hc ha hi hf
    obtain ⟨f, rfl⟩ : ∃ g, f = g + 1 := ⟨f - 1, by omega⟩
    have hp : 2 ^ (c + 1) ≤ 2 ^ 62 := Nat.pow_le_pow_right (by decide) hc
    by_cases q : b = 0
    · subst q
      exact zero a i f ha (by omega)
    · have hm := Nat.mod_lt a (show 0 < b by omega)
      rw [step a b i f ha (by omega) (by omega) (by omega), gcd_st a b]
      obtain ⟨f, rfl⟩ : ∃ g, f = g + 1 := ⟨f - 1, by omega⟩
      by_cases q2 : a % b = 0
      · rw [q2]
        exact zero b (i + 1) f (by omega) (by omega)
      · rw [step b (a % b) (i + 1) f (by omega) (by omega) (by omega) (by omega), gcd_st b (a % b)]
        have := mod_half (show 0 < a % b by omega) hm
        have e2 : 2 ^ (c + 1) = 2 * 2 ^ c := by rw [Nat.pow_succ, Nat.mul_comm]
        exact ih (a % b) (b % (a % b)) (i + 1 + 1) f (by omega) (by omega) (by omega) (by omega) (by omega)
theorem gc_M {n : Nat} : ∀ c a b f, b < 2 ^ c → c ≤ 62 → a < 2 ^ 63 → 2 * c < f → lX12_common_6 n f (lN a) (lN b) = some (lN (Nat.gcd a b)) := by
  have zero : ∀ a f, a < 2 ^ 63 → lX12_common_6 n (f + 1) (lN a) (lN 0) = some (lN (Nat.gcd a 0)) := by
    intro a f ha
    show bX12_common_6 n _ (lN a) (lN 0) = _
    unfold bX12_common_6
    rw [if_pos ((lz_iff (by decide)).mpr rfl), Nat.gcd_zero_right]
  have step : ∀ a b f, a < 2 ^ 63 → 0 < b → b < 2 ^ 63 → lX12_common_6 n (f + 1) (lN a) (lN b) = lX12_common_6 n f (lN b) (lN (a % b)) := by
    intro a b f ha hb0 hb
    show bX12_common_6 n (lX12_common_6 n f) (lN a) (lN b) = _
    unfold bX12_common_6 letV grzl
    rw [if_neg (fun q => by have := (lz_iff hb).mp q; omega), if_neg (fun q => by have := (pk_lEQ (b := 0) hb (by decide)).mp q; omega), rem_N ha hb0 hb]
  intro c
  induction c with
  | zero =>
    intro a b f hb _ ha hf
    obtain ⟨f, rfl⟩ : ∃ g, f = g + 1 := ⟨f - 1, by omega⟩
    have : b = 0 := by omega
    subst this
    exact zero a f ha
  | succ c ih =>
    intro a b f hb hc ha hf
    obtain ⟨f, rfl⟩ : ∃ g, f = g + 1 := ⟨f - 1, by omega⟩
    have hp : 2 ^ (c + 1) ≤ 2 ^ 62 := Nat.pow_le_pow_right (by decide) hc
    by_cases q : b = 0
    · subst q
      exact zero a f ha
    · have hm := Nat.mod_lt a (show 0 < b by omega)
      rw [step a b f ha (by omega) (by omega), gcd_st a b]
      obtain ⟨f, rfl⟩ : ∃ g, f = g + 1 := ⟨f - 1, by omega⟩
      by_cases q2 : a % b = 0
      · rw [q2]
        exact zero b f (by omega)
      · rw [step b (a % b) f (by omega) (by omega) (by omega), gcd_st b (a % b)]
        have := mod_half (show 0 < a % b by omega) hm
        have e2 : 2 ^ (c + 1) = 2 * 2 ^ c := by rw [Nat.pow_succ, Nat.mul_comm]
        exact ih (a % b) (b % (a % b)) f (by omega) (by omega) (by omega) (by omega)
def frN (a b k : Nat) : Nat := if Nat.gcd a b = 0 then 0 else (if k = 0 then a else b) / Nat.gcd a b
theorem gcd_b {a b : Nat} (ha : a < 2 ^ 62) (hb : b < 2 ^ 62) : Nat.gcd a b < 2 ^ 62 := by
  by_cases q : a = 0
  · subst q
    rw [Nat.gcd_zero_left]
    exact hb
  · exact Nat.lt_of_le_of_lt (Nat.gcd_le_left b (by omega)) ha
theorem fr_X {n : Nat} (hn : 200 < n) {a b k : Nat} (ha : a < 2 ^ 62) (hb : b < 2 ^ 62) (hk : k ≤ 1) : fX2_fraction n (lN a) (lN b) (nI k) = some (lN (frN a b k)) := by
  have hg := gcd_b ha hb
  have ek : ∀ J : Int64 → Option Int64, (if nI k = 0 then J (lN a) else J (lN b)) = J (lN (if k = 0 then a else b)) := by
    intro J
    rcases (show k = 0 ∨ k = 1 by omega) with e | e <;> subst e <;> rfl
  unfold fX2_fraction
  refine letJ (x := lN (if k = 0 then a else b)) ek ?_
  dsimp only [letV]
  unfold fX2_greatestCommon
  have g1 : lX2_greatestCommon_9 n n (lN a) (lN b) (0 : Int32) = some (lN (Nat.gcd a b)) := gc_X 62 a b 0 n hb (by decide) (by omega) (by decide) (by omega)
  have hw : (if k = 0 then a else b) < 2 ^ 62 := by split <;> omega
  rw [g1]
  dsimp only [bO]
  unfold frN
  by_cases z : a = 0 ∨ b = 0
  · have lhs : ∀ R : Option Int64, (if lg_cmp (lN a) (0 : Int64) = 0 then (if lg_cmp (lN (if k = 0 then a else b)) (0 : Int64) = 0 then some (0 : Int64) else some (1 : Int64)) else if lg_cmp (lN b) (0 : Int64) = 0 then (if lg_cmp (lN (if k = 0 then a else b)) (0 : Int64) = 0 then some (0 : Int64) else some (1 : Int64)) else R) = (if (if k = 0 then a else b) = 0 then some (0 : Int64) else some (1 : Int64)) := by
      intro R
      have e : (if lg_cmp (lN (if k = 0 then a else b)) (0 : Int64) = 0 then some (0 : Int64) else some (1 : Int64)) = (if (if k = 0 then a else b) = 0 then some (0 : Int64) else some (1 : Int64)) := by
        by_cases u : (if k = 0 then a else b) = 0
        · rw [if_pos ((lz_iff (by omega)).mpr u), if_pos u]
        · rw [if_neg (fun q => u ((lz_iff (by omega)).mp q)), if_neg u]
      rw [e]
      by_cases za : a = 0
      · rw [if_pos ((lz_iff (by omega)).mpr za)]
      · rw [if_neg (fun q => za ((lz_iff (by omega)).mp q)), if_pos ((lz_iff (by omega)).mpr (z.resolve_left za))]
    rw [lhs]
    rcases z with z | z
    · subst z
      rw [Nat.gcd_zero_left]
      by_cases hb0 : b = 0
      · subst hb0
        rw [if_pos (by split <;> rfl), if_pos rfl]
        rfl
      · rw [if_neg hb0]
        rcases (show k = 0 ∨ k = 1 by omega) with e | e <;> subst e
        · show some (0 : Int64) = some (lN (0 / b))
          rw [Nat.zero_div]
          rfl
        · show (if b = 0 then some (0 : Int64) else some (1 : Int64)) = some (lN (b / b))
          rw [if_neg hb0, Nat.div_self (by omega)]
          rfl
    · subst z
      rw [Nat.gcd_zero_right]
      by_cases ha0 : a = 0
      · subst ha0
        rw [if_pos (by split <;> rfl), if_pos rfl]
        rfl
      · rw [if_neg ha0]
        rcases (show k = 0 ∨ k = 1 by omega) with e | e <;> subst e
        · show (if a = 0 then some (0 : Int64) else some (1 : Int64)) = some (lN (a / a))
          rw [if_neg ha0, Nat.div_self (by omega)]
          rfl
        · show some (0 : Int64) = some (lN (0 / a))
          rw [Nat.zero_div]
          rfl
  · have g0 : 0 < Nat.gcd a b := Nat.gcd_pos_of_pos_left b (by omega)
    have em : lmax (1 : Int64) (lN (Nat.gcd a b)) = lN (Nat.gcd a b) := by
      unfold lmax
      rw [if_neg (fun q => by have := (pk_lLT (b := 1) (by omega) (by decide)).mp q; omega)]
    rw [if_neg (fun q => z (.inl ((lz_iff (by omega)).mp q))), if_neg (fun q => z (.inr ((lz_iff (by omega)).mp q))), em, if_neg (show ¬ Nat.gcd a b = 0 by omega)]
    unfold grzl
    rw [if_neg (fun q => by have := (pk_lEQ (b := 0) (by omega) (by decide)).mp q; omega), pk_lDiv (by omega) g0 (by omega)]
theorem fr_M {n : Nat} (hn : 200 < n) {a b k : Nat} (ha : a < 2 ^ 62) (hb : b < 2 ^ 62) (hk : k ≤ 1) : fX12_part n (lN a) (lN b) (nI k) = some (lN (frN a b k)) := by
  have hg := gcd_b ha hb
  have hw : (if k = 0 then a else b) < 2 ^ 62 := by split <;> omega
  unfold fX12_part fX12_common frN
  rw [gc_M 62 a b n hb (by decide) (by omega) (by omega)]
  dsimp only [bO]
  by_cases z : Nat.gcd a b = 0
  · rw [if_pos ((lz_iff (by omega)).mpr z), if_pos z]
    rfl
  · rw [if_neg (fun q => z ((lz_iff (by omega)).mp q)), if_neg z]
    refine letJ (x := lN (if k = 0 then a else b)) (fun J => ?_) ?_
    · rcases (show k = 0 ∨ k = 1 by omega) with e | e <;> subst e <;> rfl
    · unfold grzl
      rw [if_neg (fun q => by have := (pk_lEQ (b := 0) (by omega) (by decide)).mp q; omega), pk_lDiv (by omega) (by omega) (by omega)]
/-- sums -/
def sm (f : Nat → Nat) : Nat → Nat
  | 0 => 0
  | n + 1 => sm f n + f n
theorem sm_le {f : Nat → Nat} {b : Nat} : ∀ n, (∀ i, i < n → f i ≤ b) → sm f n ≤ n * b := by
  intro n
  induction n with
  | zero => intro _; exact Nat.zero_le _
  | succ n ih =>
    intro h
    have h1 := ih (fun i hi => h i (by omega))
    have h2 := h n (by omega)
    show sm f n + f n ≤ (n + 1) * b
    rw [Nat.succ_mul]
    omega
theorem sm_cg {f g : Nat → Nat} : ∀ n, (∀ i, i < n → f i = g i) → sm f n = sm g n := by
  intro n
  induction n with
  | zero => intro _; rfl
  | succ n ih =>
    intro h
    show sm f n + f n = sm g n + g n
    rw [ih (fun i hi => h i (by omega)), h n (by omega)]
theorem sm_add (f g : Nat → Nat) : ∀ n, sm (fun i => f i + g i) n = sm f n + sm g n := by
  intro n
  induction n with
  | zero => rfl
  | succ n ih =>
    show sm (fun i => f i + g i) n + (f n + g n) = (sm f n + f n) + (sm g n + g n)
    rw [ih]
    omega
theorem sm_const (c : Nat) : ∀ n, sm (fun _ => c) n = n * c := by
  intro n
  induction n with
  | zero => exact (Nat.zero_mul c).symm
  | succ n ih =>
    show sm (fun _ => c) n + c = (n + 1) * c
    rw [ih, Nat.succ_mul]
theorem sm_z : ∀ n, sm (fun _ => 0) n = 0 := fun n => by rw [sm_const, Nat.mul_zero]
theorem sm_swap (x : Nat → Nat → Nat) (m : Nat) : ∀ n, sm (fun i => sm (fun j => x i j) m) n = sm (fun j => sm (fun i => x i j) n) m := by
  intro n
  induction n with
  | zero => exact (sm_z m).symm
  | succ n ih =>
    show sm (fun i => sm (fun j => x i j) m) n + sm (fun j => x n j) m = sm (fun j => sm (fun i => x i j) n + x n j) m
    rw [ih, sm_add]
section MAT
variable {A : Nat → Nat} {L : Nat → Int64} {F W : Nat → Nat} {w : jWd}
/-- a book has a line like that one -/
def anB (A : Nat → Nat) (L : Nat → Int64) (b t : Nat) (l : Int64) : Nat → Nat → Bool
  | 0, _ => false
  | c + 1, i => if alkN (L (540 + 12 * b + i)) l < t then anB A L b t l c (i + 1) else true
def mtS (A : Nat → Nat) (L : Nat → Int64) (b t p : Nat) : Nat := sm (fun p => if anB A L b t (L (480 + p)) (A (236 + b)) 0 = true then 1 else 0) p
theorem mtS_s (b t p : Nat) : mtS A L b t (p + 1) = mtS A L b t p + if anB A L b t (L (480 + p)) (A (236 + b)) 0 = true then 1 else 0 := rfl
theorem mtS_le (b t p : Nat) : mtS A L b t p ≤ p := by
  induction p with
  | zero => exact Nat.le_refl _
  | succ p ih => rw [mtS_s]; split <;> omega
theorem bk_at (h : RN A L F W w) {b i : Nat} (hb : b < A 223) (hi : i < A (236 + b)) : fX5_at 9 (nI b) (nI i) w = some (L (540 + 12 * b + i)) := at_X (k := 3) (g := b) h (by decide) (by decide) hb hi
theorem bh_l {n : Nat} (hn : 20 < n) (h : RN A L F W w) {b t : Nat} (hb : b < A 223) (ht : t < 2147483648) {l : Int64} (hl : isL l) : ∀ c i f, i + c = A (236 + b) → c < f → lX2_bookHasLike_19 n (nI b) l (nI t) w f (nI i) = some (bI (anB A L b t l c i)) := by
  have h12 := h.1.1.2.2.2.2.1
  have h9 := h.1.1.2.2.2.2.2.1 b (by omega)
  have l13 : ln 13 = 12 := rfl
  have e13 : wI w 13 b = nI (A (236 + b)) := (h.2.1.2.1.2 b hb).2.1
  intro c
  induction c with
  | zero =>
    intro i f hi hf
    obtain ⟨f, rfl⟩ : ∃ g, f = g + 1 := ⟨f - 1, by omega⟩
    show bX2_bookHasLike_19 n (nI b) l (nI t) w _ (nI i) = _
    unfold bX2_bookHasLike_19
    rw [l13, grd_N (by omega) (by decide), nI_clamp (by omega), e13, if_pos (nI_le (by omega) (by omega))]
    rfl
  | succ c ih =>
    intro i f hi hf
    obtain ⟨f, rfl⟩ : ∃ g, f = g + 1 := ⟨f - 1, by omega⟩
    have hL := h.1.2.2.1.2.1 b i hb (by omega)
    have ha := alkN_le (L (540 + 12 * b + i)) l
    show bX2_bookHasLike_19 n (nI b) l (nI t) w (lX2_bookHasLike_19 n (nI b) l (nI t) w f) (nI i) = _
    unfold bX2_bookHasLike_19 anB
    rw [l13, grd_N (by omega) (by decide), nI_clamp (by omega), e13, if_neg (nI_ge (by omega) (by omega)), bk_at h hb (by omega)]
    dsimp only [bO]
    rw [alk_X (by omega) hL.1 hl.1 (fun q => hL.2 q.1)]
    dsimp only [bO, letV]
    rw [nI_1]
    by_cases q : alkN (L (540 + 12 * b + i)) l < t
    · rw [if_pos (nI_lt q ht), if_pos q]
      exact ih (i + 1) f (by omega) (by omega)
    · rw [if_neg (nI_nlt (by omega) (by omega)), if_neg q]
      rfl
theorem bh_X {n : Nat} (hn : 20 < n) (h : RN A L F W w) {b t : Nat} (hb : b < A 223) (ht : t < 2147483648) {l : Int64} (hl : isL l) : fX2_bookHasLike n (nI b) l (nI t) w = some (bI (anB A L b t l (A (236 + b)) 0)) := by
  have h12 := h.1.1.2.2.2.2.1
  have h9 := h.1.1.2.2.2.2.2.1 b (by omega)
  unfold fX2_bookHasLike
  rw [has_yes hb (by omega) h.2.1.2.1.1, if_neg (by decide)]
  exact bh_l hn h hb ht hl (A (236 + b)) 0 n (by omega) (by omega)
theorem mt_l {n : Nat} (hn : 20 < n) (h : RN A L F W w) {b t : Nat} (hb : b < A 223) (ht : t < 2147483648) : ∀ c p f, p + c = A 162 → c < f → lX2_matchesOf_5 n (nI b) (nI t) w f (nI (mtS A L b t p)) (nI p) = some (nI (mtS A L b t (A 162))) := by
  have h60 := h.1.1.2.2.2.1
  have e20 : wI w 20 0 = nI (A 162) := h.2.1.2.2.1.2.1
  intro c
  induction c with
  | zero =>
    intro p f hp hf
    obtain ⟨f, rfl⟩ : ∃ g, f = g + 1 := ⟨f - 1, by omega⟩
    show bX2_matchesOf_5 n (nI b) (nI t) w _ (nI (mtS A L b t p)) (nI p) = _
    unfold bX2_matchesOf_5
    rw [e20, if_pos (nI_le (by omega) (by omega)), show p = A 162 by omega]
  | succ c ih =>
    intro p f hp hf
    obtain ⟨f, rfl⟩ : ∃ g, f = g + 1 := ⟨f - 1, by omega⟩
    have hL := h.1.2.2.1.2.2.1 p (by omega)
    have hi := ih (p + 1) f (by omega) (by omega)
    rw [mtS_s] at hi
    show bX2_matchesOf_5 n (nI b) (nI t) w (lX2_matchesOf_5 n (nI b) (nI t) w f) (nI (mtS A L b t p)) (nI p) = _
    unfold bX2_matchesOf_5
    rw [e20, if_neg (nI_ge (by omega) (by omega)), pr_at h (by omega)]
    dsimp only [bO]
    rw [bh_X hn h hb ht hL]
    dsimp only [bO, letV]
    rw [nI_1, nI_1]
    cases hc : anB A L b t (L (480 + p)) (A (236 + b)) 0
    · rw [hc] at hi
      rw [if_pos (by decide)]
      exact hi
    · rw [hc] at hi
      rw [if_neg (by decide)]
      exact hi
theorem mt_X {n : Nat} (hn : 70 < n) (h : RN A L F W w) {b t : Nat} (hb : b < A 223) (ht : t < 2147483648) : fX2_matchesOf n (nI b) (nI t) w = some (nI (mtS A L b t (A 162))) :=
  mt_l (by omega) h hb ht (A 162) 0 n (by omega) (by have := h.1.1.2.2.2.1; omega)
theorem mi_M {n : Nat} (hn : 20 < n) {b t p : Nat} (ht : t < 2147483648) (p3 : Int32) (K : Int32 → jWd → Option (Int32 × jWd)) : ∀ c i f (w : jWd), RN A L F W w → b < A 223 → p < A 162 → i + c = A (236 + b) → c < f → (∀ w', RN A L F W w' → lX12_matchesOf_24 n (nI b) (nI t) p3 (nI p) K f (1 : Int32) (nI i) w' = K 1 w') ∧ ∃ w', lX12_matchesOf_24 n (nI b) (nI t) p3 (nI p) K f (0 : Int32) (nI i) w = K (bI (anB A L b t (L (480 + p)) c i)) w' ∧ frP P210 w w' := by
  have l7 : ln 207 = 3372 := rfl
  have l8 : ln 208 = 2352 := rfl
  have one : ∀ i f (w' : jWd), RN A L F W w' → b < A 223 → i ≤ 12 → lX12_matchesOf_24 n (nI b) (nI t) p3 (nI p) K (f + 1) (1 : Int32) (nI i) w' = K 1 w' := by
    intro i f w' h' hb hi
    have h12 := h'.1.1.2.2.2.2.1
    show bX12_matchesOf_24 n (nI b) (nI t) p3 (nI p) K _ (1 : Int32) (nI i) w' = _
    unfold bX12_matchesOf_24
    rw [show (236 : Int32) + nI b = nI (236 + b) from nI_add 236 b, l7, grd_N (by omega) (by decide), nI_clamp (by omega), RN_A h' (show 236 + b < 1124 by omega), if_neg (show ¬ (1 : Int32) = 0 by decide)]
    split <;> rfl
  intro c
  induction c with
  | zero =>
    intro i f w h hb hp hi hf
    obtain ⟨f, rfl⟩ : ∃ g, f = g + 1 := ⟨f - 1, by omega⟩
    have h12 := h.1.1.2.2.2.2.1
    have h9 := h.1.1.2.2.2.2.2.1 b (by omega)
    refine ⟨fun w' h' => one i f w' h' hb (by omega), w, ?_, frP_refl _ _⟩
    show bX12_matchesOf_24 n (nI b) (nI t) p3 (nI p) K _ (0 : Int32) (nI i) w = _
    unfold bX12_matchesOf_24
    rw [show (236 : Int32) + nI b = nI (236 + b) from nI_add 236 b, l7, grd_N (by omega) (by decide), nI_clamp (by omega), RN_A h (show 236 + b < 1124 by omega), if_pos (nI_le (by omega) (by omega))]
    rfl
  | succ c ih =>
    intro i f w h hb hp hi hf
    obtain ⟨f, rfl⟩ : ∃ g, f = g + 1 := ⟨f - 1, by omega⟩
    have h12 := h.1.1.2.2.2.2.1
    have h9 := h.1.1.2.2.2.2.2.1 b (by omega)
    have h60 := h.1.1.2.2.2.1
    refine ⟨fun w' h' => one i f w' h' hb (by omega), ?_⟩
    obtain ⟨w1, e1, e2⟩ := alk_M hn (L (480 + p)) (L (540 + 12 * b + i)) w
    have e2 := frP_of e2
    have ha := alkN_le (L (540 + 12 * b + i)) (L (480 + p))
    have h1 := RN_fr (frP_mono p210_s e2) h
    obtain ⟨i1, w2, i2, i3⟩ := ih (i + 1) f w1 h1 hb hp (by omega) (by omega)
    have step : lX12_matchesOf_24 n (nI b) (nI t) p3 (nI p) K (f + 1) (0 : Int32) (nI i) w = if alkN (L (540 + 12 * b + i)) (L (480 + p)) < t then lX12_matchesOf_24 n (nI b) (nI t) p3 (nI p) K f (0 : Int32) (nI (i + 1)) w1 else lX12_matchesOf_24 n (nI b) (nI t) p3 (nI p) K f (1 : Int32) (nI (i + 1)) w1 := by
      show bX12_matchesOf_24 n (nI b) (nI t) p3 (nI p) K (lX12_matchesOf_24 n (nI b) (nI t) p3 (nI p) K f) (0 : Int32) (nI i) w = _
      unfold bX12_matchesOf_24
      rw [show (236 : Int32) + nI b = nI (236 + b) from nI_add 236 b, l7, grd_N (by omega) (by decide), nI_clamp (by omega), RN_A h (show 236 + b < 1124 by omega), if_neg (nI_ge (by omega) (by omega)), if_pos rfl, show (480 : Int32) + nI p = nI (480 + p) from nI_add 480 p, show (540 : Int32) + (12 : Int32) * nI b + nI i = nI (540 + 12 * b + i) by rw [show (12 : Int32) = nI 12 from rfl, ev_mul, show (540 : Int32) = nI 540 from rfl, nI_add, nI_add], l8, grd_N (by omega) (by decide), grd_N (by omega) (by decide), nI_clamp (by omega), nI_clamp (by omega), RN_L h (by omega), RN_L h (by omega), e1, alkN_sym]
      dsimp only [bO2, letV]
      rw [nI_1]
      by_cases q : alkN (L (540 + 12 * b + i)) (L (480 + p)) < t
      · rw [if_pos (nI_lt q ht), if_pos q]
      · rw [if_neg (nI_nlt (by omega) (by omega)), if_neg q]
    rw [step]
    unfold anB
    by_cases q : alkN (L (540 + 12 * b + i)) (L (480 + p)) < t
    · rw [if_pos q, if_pos q]
      exact ⟨w2, i2, frP_trans e2 i3⟩
    · rw [if_neg q, if_neg q]
      exact ⟨w1, i1 w1 h1, e2⟩
theorem mo_l {n : Nat} (hn : 70 < n) {b t : Nat} (ht : t < 2147483648) : ∀ c p f (w : jWd), RN A L F W w → b < A 223 → p + c = A 162 → c < f → ∃ w', lX12_matchesOf_5 n (nI b) (nI t) f (nI (mtS A L b t p)) (nI p) w = some (nI (mtS A L b t (A 162)), w') ∧ frP P210 w w' := by
  intro c
  induction c with
  | zero =>
    intro p f w h hb hp hf
    obtain ⟨f, rfl⟩ : ∃ g, f = g + 1 := ⟨f - 1, by omega⟩
    have h60 := h.1.1.2.2.2.1
    refine ⟨w, ?_, frP_refl _ _⟩
    show bX12_matchesOf_5 n (nI b) (nI t) _ (nI (mtS A L b t p)) (nI p) w = _
    unfold bX12_matchesOf_5
    rw [RN_A h (show 162 < 1124 by decide), if_pos (nI_le (by omega) (by omega)), show p = A 162 by omega]
  | succ c ih =>
    intro p f w h hb hp hf
    obtain ⟨f, rfl⟩ : ∃ g, f = g + 1 := ⟨f - 1, by omega⟩
    have h60 := h.1.1.2.2.2.1
    have h12 := h.1.1.2.2.2.2.1
    have h9 := h.1.1.2.2.2.2.2.1 b (by omega)
    obtain ⟨-, w1, e1, e2⟩ := mi_M (n := n) (by omega) (b := b) (t := t) (p := p) ht (nI (mtS A L b t p)) (fun (z5_12 : Int32) (w_11 : jWd) => if z5_12 = 0 then letV ((nI (mtS A L b t p) + (0 : Int32))) (fun (x3_13 : Int32) => letV (nI p + (1 : Int32)) (fun (x4_15 : Int32) => lX12_matchesOf_5 n (nI b) (nI t) f x3_13 x4_15 w_11)) else letV ((nI (mtS A L b t p) + (1 : Int32))) (fun (x3_17 : Int32) => letV (nI p + (1 : Int32)) (fun (x4_19 : Int32) => lX12_matchesOf_5 n (nI b) (nI t) f x3_17 x4_19 w_11))) (A (236 + b)) 0 n w h hb (by omega) (by omega) (by omega)
    obtain ⟨w2, i1, i2⟩ := ih (p + 1) f w1 (RN_fr (frP_mono p210_s e2) h) hb (by omega) (by omega)
    rw [mtS_s] at i1
    refine ⟨w2, ?_, frP_trans e2 i2⟩
    show bX12_matchesOf_5 n (nI b) (nI t) (lX12_matchesOf_5 n (nI b) (nI t) f) (nI (mtS A L b t p)) (nI p) w = _
    unfold bX12_matchesOf_5
    rw [RN_A h (show 162 < 1124 by decide), if_neg (nI_ge (by omega) (by omega))]
    refine e1.trans ?_
    dsimp only [letV]
    rw [nI_1, nI_1]
    cases hc : anB A L b t (L (480 + p)) (A (236 + b)) 0
    · rw [hc] at i1
      rw [if_pos (by decide), Int32.add_zero]
      exact i1
    · rw [hc] at i1
      rw [if_neg (by decide)]
      exact i1
theorem mt_M {n : Nat} (hn : 70 < n) (h : RN A L F W w) {b t : Nat} (hb : b < A 223) (ht : t < 2147483648) : ∃ w', fX12_matchesOf n (nI b) (nI t) w = some (nI (mtS A L b t (A 162)), w') ∧ frP P210 w w' :=
  mo_l hn ht (A 162) 0 n w h hb (by omega) (by have := h.1.1.2.2.2.1; omega)
end MAT
theorem rd_M {A : Nat → Nat} {L : Nat → Int64} {F W : Nat → Nat} {w : jWd} (h : RN A L F W w) : ∀ w1, frS2 w w1 → RN A L F W (sI w1 205 0 (0 : Int32)) := fun w1 f1 => RN_fr2 (frP_trans f1 (frS_2 (frS_0 w1))) h
theorem s_matches : fS_matches RR := by
  intro w a0 a1 hw
  obtain ⟨⟨A, L, F, W, h⟩, -⟩ := id hw
  have h12 := h.1.1.2.2.2.2.1
  have hM := rd_M h
  refine ⟨20000, rr_call hw ?_⟩
  rcases ix_cs a0 (A 223) with ⟨b, hb, rfl⟩ | hn
  · rcases bd_cs a1 with hh | ⟨t, ht1, ht2, rfl, ht3, ht4⟩
    · refine .inr ⟨-3, 3, by decide, by decide, ⟨w, ?_, frP_refl _ _⟩, fun w1 f1 => ⟨sI w1 205 0 (0 : Int32), ?_, frS_0 w1⟩⟩
      · unfold fX11_matches
        rw [has_yes hb (by omega) h.2.1.2.1.1, if_neg (by decide), if_pos hh.1, rx_id3]
      · unfold fX12_matches letV
        dsimp only
        rw [RN_A (hM w1 f1) (show 223 < 1124 by decide), if_neg (wi_yes hb (by omega)), if_pos hh.2, no_id3]
    · refine .inl ⟨nI (mtS A L b t (A 162)), ⟨w, ?_, frP_refl _ _⟩, fun w1 f1 => ?_⟩
      · unfold fX11_matches
        rw [has_yes hb (by omega) h.2.1.2.1.1, if_neg (by decide), if_neg ht3, mt_X (by decide) h hb (by omega)]
        rfl
      · obtain ⟨w2, e1, e2⟩ := mt_M (n := 20000) (by decide) (hM w1 f1) hb (t := t) (by omega)
        refine ⟨w2, ?_, frP_trans (frS_0 w1) (frP_mono p210_s e2)⟩
        unfold fX12_matches letV
        dsimp only
        rw [RN_A (hM w1 f1) (show 223 < 1124 by decide), if_neg (wi_yes hb (by omega)), if_neg ht4, e1]
        rfl
  · refine .inr ⟨-2, 2, by decide, by decide, ⟨w, ?_, frP_refl _ _⟩, fun w1 f1 => ⟨sI w1 205 0 (0 : Int32), ?_, frS_0 w1⟩⟩
    · unfold fX11_matches
      rw [has_no hn (by omega) h.2.1.2.1.1, if_pos (by decide), rx_id2]
    · unfold fX12_matches letV
      dsimp only
      rw [RN_A (hM w1 f1) (show 223 < 1124 by decide), if_pos (wi_no hn (by omega)), no_id2]
