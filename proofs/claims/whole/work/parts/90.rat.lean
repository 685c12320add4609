/-! rate -/
section RAT
variable {A : Nat → Nat} {L : Nat → Int64} {F W : Nat → Nat} {w : jWd}
/-- is a day free, by the first m spans -/
def frB (A : Nat → Nat) (d : Nat) : Nat → Bool
  | 0 => false
  | m + 1 => frB A d m || decide (A (971 + m) ≤ d ∧ d ≤ A (979 + m))
theorem frB_iff (A : Nat → Nat) (d : Nat) : ∀ m, frB A d m = true ↔ ∃ j, j < m ∧ A (971 + j) ≤ d ∧ d ≤ A (979 + j)
  | 0 => ⟨fun h => absurd (show false = true from h) (by decide), fun ⟨j, hj, _⟩ => absurd hj (Nat.not_lt_zero j)⟩
  | m + 1 => by
    show (frB A d m || decide (A (971 + m) ≤ d ∧ d ≤ A (979 + m))) = true ↔ _
    rw [Bool.or_eq_true, frB_iff A d m, decide_eq_true_eq]
    constructor
    · rintro (⟨j, h1, h2⟩ | h)
      · exact ⟨j, by omega, h2⟩
      · exact ⟨m, by omega, h⟩
    · rintro ⟨j, h1, h2⟩
      by_cases e : j = m
      · subst e; exact .inr h2
      · exact .inl ⟨j, by omega, h2⟩
/-- how many days below are free -/
def gF (A : Nat → Nat) : Nat → Nat
  | 0 => 0
  | d + 1 => gF A d + if frB A d (A 970) = true then 1 else 0
theorem gF_le (A : Nat → Nat) : ∀ d, gF A d ≤ d
  | 0 => Nat.le_refl _
  | d + 1 => by
    have := gF_le A d
    unfold gF
    split <;> omega
theorem gF_none {a : Nat} : ∀ c, (∀ d, a ≤ d → d < a + c → ¬ frB A d (A 970) = true) → gF A (a + c) = gF A a
  | 0, _ => rfl
  | c + 1, h => by
    show gF A (a + c) + (if frB A (a + c) (A 970) = true then 1 else 0) = _
    rw [if_neg (h (a + c) (by omega) (by omega)), gF_none c (fun d h1 h2 => h d h1 (by omega)), Nat.add_zero]
theorem gF_all {a : Nat} : ∀ c, (∀ d, a ≤ d → d < a + c → frB A d (A 970) = true) → gF A (a + c) = gF A a + c
  | 0, _ => rfl
  | c + 1, h => by
    show gF A (a + c) + (if frB A (a + c) (A 970) = true then 1 else 0) = _
    rw [if_pos (h (a + c) (by omega) (by omega)), gF_all c (fun d h1 h2 => h d h1 (by omega)), Nat.add_assoc]
theorem gF_no {a b : Nat} (hab : a ≤ b) (h : ∀ d, a ≤ d → d < b → ¬ frB A d (A 970) = true) : gF A b = gF A a := by
  obtain ⟨c, rfl⟩ := Nat.le.dest hab
  exact gF_none c h
theorem gF_al {a b : Nat} (hab : a ≤ b) (h : ∀ d, a ≤ d → d < b → frB A d (A 970) = true) : gF A b = gF A a + (b - a) := by
  obtain ⟨c, rfl⟩ := Nat.le.dest hab
  rw [gF_all c h, Nat.add_sub_cancel_left]
theorem if_M {n d : Nat} (h : RN A L F W w) (hd : d ≤ 9999) : ∀ c i f, i + c = A 970 → c < f → lX12_isFree_4 n (nI d) w f (bI (frB A d i)) (nI i) = some (bI (frB A d (A 970))) := by
  obtain ⟨m1, m2, m3⟩ := RN_wl h
  have l7 : ln 207 = 3372 := rfl
  have hA := h.1.1.1
  intro c
  induction c with
  | zero =>
    intro i f hi hf
    obtain ⟨f, rfl⟩ : ∃ g, f = g + 1 := ⟨f - 1, by omega⟩
    show bX12_isFree_4 n (nI d) w _ (bI (frB A d i)) (nI i) = _
    unfold bX12_isFree_4
    rw [RN_A h (show 970 < 1124 by decide), if_pos (nI_le (by omega) (by omega)), show i = A 970 by omega]
    cases frB A d (A 970) <;> rfl
  | succ c ih =>
    intro i f hi hf
    obtain ⟨f, rfl⟩ : ∃ g, f = g + 1 := ⟨f - 1, by omega⟩
    have hi2 := ih (i + 1) f (by omega) (by omega)
    show bX12_isFree_4 n (nI d) w (lX12_isFree_4 n (nI d) w f) (bI (frB A d i)) (nI i) = _
    unfold bX12_isFree_4 letV
    dsimp only
    rw [RN_A h (show 970 < 1124 by decide), if_neg (nI_ge (by omega) (by omega)), nI_1]
    have eb : frB A d (i + 1) = (frB A d i || decide (A (971 + i) ≤ d ∧ d ≤ A (979 + i))) := rfl
    rw [eb] at hi2
    cases hb : frB A d i
    · rw [hb, Bool.false_or] at hi2
      rw [show bI false = 0 from rfl, if_pos rfl, show (971 : Int32) + nI i = nI (971 + i) from nI_add 971 i, show (979 : Int32) + nI i = nI (979 + i) from nI_add 979 i, l7, grd_N (by omega) (by decide), grd_N (by omega) (by decide), nI_clamp (by omega), nI_clamp (by omega), RN_A h (show 971 + i < 1124 by omega), RN_A h (show 979 + i < 1124 by omega)]
      have b1 := hA (971 + i)
      have b2 := hA (979 + i)
      by_cases q : A (971 + i) ≤ d ∧ d ≤ A (979 + i)
      · rw [if_neg (fun z => (w64 _ _ _).mp z ⟨nI_le q.1 (by omega), nI_le q.2 (by omega)⟩)]
        rw [decide_eq_true q] at hi2
        exact hi2
      · rw [if_pos ((w64 _ _ _).mpr (fun z => q ⟨(nI_leI (by omega) (by omega)).mp z.1, (nI_leI (by omega) (by omega)).mp z.2⟩))]
        rw [decide_eq_false q] at hi2
        exact hi2
    · rw [hb, Bool.true_or] at hi2
      rw [show bI true = 1 from rfl, if_neg (by decide)]
      exact hi2
theorem fu_M {n D : Nat} (hn : 50 < n) (h : RN A L F W w) (hD : D ≤ 9999) : ∀ c d f, d + c = D + 1 → c < f → lX12_freeUpTo_4 n (nI D) w f (nI (gF A d)) (nI d) = some (nI (gF A (D + 1))) := by
  obtain ⟨m1, m2, m3⟩ := RN_wl h
  intro c
  induction c with
  | zero =>
    intro d f hi hf
    obtain ⟨f, rfl⟩ : ∃ g, f = g + 1 := ⟨f - 1, by omega⟩
    show bX12_freeUpTo_4 n (nI D) w _ (nI (gF A d)) (nI d) = _
    unfold bX12_freeUpTo_4
    rw [if_pos (nI_lt (by omega) (by omega)), show d = D + 1 by omega]
  | succ c ih =>
    intro d f hi hf
    obtain ⟨f, rfl⟩ : ∃ g, f = g + 1 := ⟨f - 1, by omega⟩
    have hi2 := ih (d + 1) f (by omega) (by omega)
    have e : fX12_isFree n (nI d) w = some (bI (frB A d (A 970))) := if_M h (by omega) (A 970) 0 n (by omega) (by omega)
    have eg : gF A (d + 1) = gF A d + if frB A d (A 970) = true then 1 else 0 := rfl
    rw [eg] at hi2
    show bX12_freeUpTo_4 n (nI D) w (lX12_freeUpTo_4 n (nI D) w f) (nI (gF A d)) (nI d) = _
    unfold bX12_freeUpTo_4 letV
    dsimp only
    rw [if_neg (nI_nlt (by omega) (by omega)), e, ev_bO, nI_1, Int32.add_zero, nI_1]
    cases hb : frB A d (A 970)
    · rw [hb, if_neg (by decide), Nat.add_zero] at hi2
      rw [show bI false = 0 from rfl, if_pos rfl]
      exact hi2
    · rw [hb, if_pos rfl] at hi2
      rw [show bI true = 1 from rfl, if_neg (by decide)]
      exact hi2
/-- the span that the class picks -/
def FsI (A : Nat → Nat) (nx i : Nat) (r : Int32) : Prop := (r = -1 ∧ ∀ j, j < i → A (979 + j) < nx) ∨ ∃ s, s < i ∧ r = nI s ∧ nx ≤ A (979 + s) ∧ ∀ j, j < i → nx ≤ A (979 + j) → A (971 + s) ≤ A (971 + j)
theorem fs_X {n nx : Nat} (h : RN A L F W w) (hx : nx ≤ 10000) : ∀ c i f x2, i + c = A 970 → c < f → FsI A nx i x2 → ∃ r, lX9_firstSpanEndingFrom_4 n 48 (nI nx) w f x2 (nI i) = some r ∧ FsI A nx (A 970) r := by
  obtain ⟨k0, k1, k2, k3, k4, k5⟩ := RN_wk h
  obtain ⟨m1, m2, m3⟩ := RN_wl h
  have hA := h.1.1.1
  have l5 : ln (48 + 5) = 8 := rfl
  have l6 : ln (48 + 6) = 8 := rfl
  intro c
  induction c with
  | zero =>
    intro i f x2 hi hf hF
    obtain ⟨f, rfl⟩ : ∃ g, f = g + 1 := ⟨f - 1, by omega⟩
    refine ⟨x2, ?_, by rw [show A 970 = i by omega]; exact hF⟩
    show bX9_firstSpanEndingFrom_4 n 48 (nI nx) w _ x2 (nI i) = _
    unfold bX9_firstSpanEndingFrom_4
    rw [k2, if_pos (nI_le (by omega) (by omega))]
  | succ c ih =>
    intro i f x2 hi hf hF
    obtain ⟨f, rfl⟩ : ∃ g, f = g + 1 := ⟨f - 1, by omega⟩
    obtain ⟨e1, e2⟩ := k5 i (by omega)
    have e1 : wI w (48 + 5) i = nI (A (971 + i)) := e1
    have e2 : wI w (48 + 6) i = nI (A (979 + i)) := e2
    have b1 := hA (971 + i)
    have b2 := hA (979 + i)
    by_cases q1 : A (979 + i) < nx
    · obtain ⟨r, r1, r2⟩ := ih (i + 1) f x2 (by omega) (by omega) (by
        rcases hF with ⟨g1, g2⟩ | ⟨s, g1, g2, g3, g4⟩
        · refine .inl ⟨g1, fun j hj => ?_⟩
          by_cases e : j = i
          · subst e; exact q1
          · exact g2 j (by omega)
        · refine .inr ⟨s, by omega, g2, g3, fun j hj hj2 => ?_⟩
          by_cases e : j = i
          · subst e; omega
          · exact g4 j (by omega) hj2)
      refine ⟨r, ?_, r2⟩
      show bX9_firstSpanEndingFrom_4 n 48 (nI nx) w (lX9_firstSpanEndingFrom_4 n 48 (nI nx) w f) x2 (nI i) = _
      unfold bX9_firstSpanEndingFrom_4 letV
      dsimp only
      rw [k2, if_neg (nI_ge (by omega) (by omega)), l6, grd_N (by omega) (by decide), nI_clamp (by omega), e2, if_pos (nI_lt q1 (by omega)), nI_1]
      exact r1
    · rcases hF with ⟨rfl, g2⟩ | ⟨s, g1, rfl, g3, g4⟩
      · obtain ⟨r, r1, r2⟩ := ih (i + 1) f (nI i) (by omega) (by omega) (.inr ⟨i, by omega, rfl, by omega, fun j hj hj2 => by
          by_cases e : j = i
          · subst e; omega
          · have := g2 j (by omega)
            omega⟩)
        refine ⟨r, ?_, r2⟩
        show bX9_firstSpanEndingFrom_4 n 48 (nI nx) w (lX9_firstSpanEndingFrom_4 n 48 (nI nx) w f) (-1) (nI i) = _
        unfold bX9_firstSpanEndingFrom_4 letV
        dsimp only
        rw [k2, if_neg (nI_ge (by omega) (by omega)), l6, grd_N (by omega) (by decide), nI_clamp (by omega), e2, if_neg (nI_nlt (by omega) (by omega)), if_pos rfl, nI_1]
        exact r1
      · obtain ⟨e3, -⟩ := k5 s (by omega)
        have e3 : wI w (48 + 5) s = nI (A (971 + s)) := e3
        have b3 := hA (971 + s)
        have hs1 : ¬ nI s = (-1 : Int32) := fun z => nI_pos (n := s) (by omega) (by rw [z]; decide)
        by_cases q2 : A (971 + s) ≤ A (971 + i)
        · obtain ⟨r, r1, r2⟩ := ih (i + 1) f (nI s) (by omega) (by omega) (.inr ⟨s, by omega, rfl, g3, fun j hj hj2 => by
            by_cases e : j = i
            · subst e; exact q2
            · exact g4 j (by omega) hj2⟩)
          refine ⟨r, ?_, r2⟩
          show bX9_firstSpanEndingFrom_4 n 48 (nI nx) w (lX9_firstSpanEndingFrom_4 n 48 (nI nx) w f) (nI s) (nI i) = _
          unfold bX9_firstSpanEndingFrom_4 letV
          dsimp only
          rw [k2, if_neg (nI_ge (by omega) (by omega)), l5, l6, grd_N (k := i) (by omega) (by decide), nI_clamp (n := i) (by omega), e2, if_neg (nI_nlt (by omega) (by omega)), if_neg hs1, grd_N (k := i) (by omega) (by decide), grd_N (k := s) (by omega) (by decide), nI_clamp (n := s) (by omega), e1, e3, if_pos (nI_le q2 (by omega)), nI_1]
          exact r1
        · obtain ⟨r, r1, r2⟩ := ih (i + 1) f (nI i) (by omega) (by omega) (.inr ⟨i, by omega, rfl, by omega, fun j hj hj2 => by
            by_cases e : j = i
            · subst e; omega
            · have := g4 j (by omega) hj2
              omega⟩)
          refine ⟨r, ?_, r2⟩
          show bX9_firstSpanEndingFrom_4 n 48 (nI nx) w (lX9_firstSpanEndingFrom_4 n 48 (nI nx) w f) (nI s) (nI i) = _
          unfold bX9_firstSpanEndingFrom_4 letV
          dsimp only
          rw [k2, if_neg (nI_ge (by omega) (by omega)), l5, l6, grd_N (k := i) (by omega) (by decide), nI_clamp (n := i) (by omega), e2, if_neg (nI_nlt (by omega) (by omega)), if_neg hs1, grd_N (k := i) (by omega) (by decide), grd_N (k := s) (by omega) (by decide), nI_clamp (n := s) (by omega), e1, e3, if_neg (nI_ge (by omega) (by omega)), nI_1]
          exact r1
/-- how many spans aren't over -/
def alv (A : Nat → Nat) (nx : Nat) : Nat → Nat
  | 0 => 0
  | m + 1 => alv A nx m + if nx ≤ A (979 + m) then 1 else 0
theorem alv_le (A : Nat → Nat) (nx : Nat) : ∀ m, alv A nx m ≤ m
  | 0 => Nat.le_refl _
  | m + 1 => by
    have := alv_le A nx m
    unfold alv
    split <;> omega
theorem alv_0 {nx : Nat} : ∀ m, alv A nx m = 0 → ∀ j, j < m → A (979 + j) < nx
  | 0, _, j, hj => absurd hj (Nat.not_lt_zero j)
  | m + 1, h, j, hj => by
    unfold alv at h
    by_cases e : j = m
    · subst e
      by_cases q : nx ≤ A (979 + j)
      · rw [if_pos q] at h; omega
      · omega
    · exact alv_0 m (by omega) j (by omega)
theorem alv_mono {nx ny : Nat} (hx : nx ≤ ny) : ∀ m, alv A ny m ≤ alv A nx m
  | 0 => Nat.le_refl _
  | m + 1 => by
    have := alv_mono hx m
    unfold alv
    split <;> split <;> omega
theorem alv_lt {nx ny s : Nat} (hx : nx ≤ ny) (h1 : nx ≤ A (979 + s)) (h2 : A (979 + s) < ny) : ∀ m, s < m → alv A ny m + 1 ≤ alv A nx m
  | 0, h => absurd h (Nat.not_lt_zero s)
  | m + 1, h => by
    unfold alv
    by_cases e : s = m
    · subst e
      have := alv_mono (A := A) hx s
      rw [if_neg (by omega), if_pos h1]
      omega
    · have := alv_lt hx h1 h2 m (by omega)
      split <;> split <;> omega
theorem imaxd {hi lo : Nat} (hh : hi < 100000) (hl : lo < 100000) : imax (0 : Int32) ((nI hi - nI lo) + (1 : Int32)) = nI (hi + 1 - lo) := by
  have e : nI hi - nI lo + (1 : Int32) = nI (hi + 1) - nI lo := by
    rw [← nI_1, Int32.sub_eq_add_neg, Int32.sub_eq_add_neg, Int32.add_assoc, Int32.add_comm (-nI lo), ← Int32.add_assoc]
  rw [e]
  by_cases q : lo ≤ hi + 1
  · rw [pk_sub q, show (0 : Int32) = nI 0 from rfl, imax_N (by omega) (by omega), Nat.zero_max]
  · have := pk_sneg (a := hi + 1) (b := lo) (by omega) (by omega)
    unfold imax
    rw [if_neg (fun z => absurd (Int32.lt_trans z this) (by decide)), show hi + 1 - lo = 0 by omega]
    rfl
theorem imin_N {a b : Nat} (ha : a < 2 ^ 31) (hb : b < 2 ^ 31) : imin (nI a) (nI b) = nI (min a b) := by
  unfold imin
  by_cases q : b < a
  · rw [if_pos (nI_lt q ha), Nat.min_eq_right (by omega)]
  · rw [if_neg (nI_nlt (by omega) hb), Nat.min_eq_left (by omega)]
theorem gF_fin {nx D : Nat} (h : ∀ j, j < A 970 → A (979 + j) < nx) : gF A (min nx (D + 1)) = gF A (D + 1) := by
  refine (gF_no (by omega) (fun d h1 h2 z => ?_)).symm
  obtain ⟨j, j1, j2, j3⟩ := (frB_iff A d _).mp z
  have := h j j1
  omega
theorem gF_step {nx D s : Nat} (hs : s < A 970) (h1 : nx ≤ A (979 + s)) (h2 : ∀ j, j < A 970 → nx ≤ A (979 + j) → A (971 + s) ≤ A (971 + j)) : gF A (min (A (979 + s) + 1) (D + 1)) = gF A (min nx (D + 1)) + (min D (A (979 + s)) + 1 - max nx (A (971 + s))) := by
  have none : ∀ d, nx ≤ d → d < max nx (A (971 + s)) → ¬ frB A d (A 970) = true := by
    intro d d1 d2 z
    obtain ⟨j, j1, j2, j3⟩ := (frB_iff A d _).mp z
    have := h2 j j1 (by omega)
    omega
  rw [show min (A (979 + s) + 1) (D + 1) = min D (A (979 + s)) + 1 by omega]
  by_cases q : nx ≤ D
  · rw [show min nx (D + 1) = nx by omega]
    by_cases q2 : max nx (A (971 + s)) ≤ min D (A (979 + s))
    · rw [gF_al (a := max nx (A (971 + s))) (b := min D (A (979 + s)) + 1) (by omega) (fun d d1 d2 => (frB_iff A d _).mpr ⟨s, hs, by omega, by omega⟩), gF_no (a := nx) (b := max nx (A (971 + s))) (by omega) none]
    · rw [gF_no (a := nx) (b := min D (A (979 + s)) + 1) (by omega) (fun d d1 d2 => none d d1 (by omega)), show min D (A (979 + s)) + 1 - max nx (A (971 + s)) = 0 by omega, Nat.add_zero]
  · rw [show min nx (D + 1) = D + 1 by omega, show min D (A (979 + s)) + 1 - max nx (A (971 + s)) = 0 by omega, show min D (A (979 + s)) = D by omega]
    rfl
theorem fu_X {n D : Nat} (hn : 50 < n) (h : RN A L F W w) (hD : D ≤ 9999) : ∀ c t f nx, t + c = A 970 → c < f → alv A nx (A 970) ≤ c → nx ≤ 10000 → lX9_freeUpTo_7 n 48 (nI D) w f (nI (gF A (min nx (D + 1)))) (nI nx) (nI t) = some (nI (gF A (D + 1))) := by
  obtain ⟨k0, k1, k2, k3, k4, k5⟩ := RN_wk h
  obtain ⟨m1, m2, m3⟩ := RN_wl h
  have hA := h.1.1.1
  have l5 : ln (48 + 5) = 8 := rfl
  have l6 : ln (48 + 6) = 8 := rfl
  intro c
  induction c with
  | zero =>
    intro t f nx ht hf ha hx
    obtain ⟨f, rfl⟩ : ∃ g, f = g + 1 := ⟨f - 1, by omega⟩
    show bX9_freeUpTo_7 n 48 (nI D) w _ (nI (gF A (min nx (D + 1)))) (nI nx) (nI t) = _
    unfold bX9_freeUpTo_7
    rw [k2, if_pos (nI_le (by omega) (by omega)), gF_fin (alv_0 _ (by omega))]
  | succ c ih =>
    intro t f nx ht hf ha hx
    obtain ⟨f, rfl⟩ : ∃ g, f = g + 1 := ⟨f - 1, by omega⟩
    obtain ⟨r, r1, r2⟩ := fs_X (n := n) h hx (A 970) 0 n (-1) (by omega) (by omega) (.inl ⟨rfl, fun j hj => absurd hj (Nat.not_lt_zero j)⟩)
    have r1 : fX9_firstSpanEndingFrom n 48 (nI nx) w = some r := r1
    show bX9_freeUpTo_7 n 48 (nI D) w (lX9_freeUpTo_7 n 48 (nI D) w f) (nI (gF A (min nx (D + 1)))) (nI nx) (nI t) = _
    unfold bX9_freeUpTo_7 letV
    dsimp only
    rw [k2, if_neg (nI_ge (by omega) (by omega)), r1, ev_bO]
    rcases r2 with ⟨rfl, g2⟩ | ⟨s, g1, rfl, g3, g4⟩
    · rw [if_pos rfl, gF_fin g2]
    · obtain ⟨e1, e2⟩ := k5 s g1
      have e1 : wI w (48 + 5) s = nI (A (971 + s)) := e1
      have e2 : wI w (48 + 6) s = nI (A (979 + s)) := e2
      have b1 := hA (971 + s)
      have b2 := hA (979 + s)
      have hs1 : ¬ nI s = (-1 : Int32) := fun z => nI_pos (n := s) (by omega) (by rw [z]; decide)
      rw [if_neg hs1, l5, l6, grd_N (by omega) (by decide), grd_N (by omega) (by decide), grd_N (by omega) (by decide), nI_clamp (by omega), e1, e2, imax_N (by omega) (by omega), imin_N (by omega) (by omega), imaxd (by omega) (by omega), nI_add, ← gF_step g1 g3 g4, nI_1, nI_1]
      have := alv_lt (A := A) (nx := nx) (ny := A (979 + s) + 1) (by omega) g3 (by omega) (A 970) g1
      exact ih (t + 1) f (A (979 + s) + 1) (by omega) (by omega) (by omega) (by omega)
/-- rate: what is left of the heaps -/
def rtS (A : Nat → Nat) : Nat → Nat → Int32 → Int32
  | 0, _, x => if x ≤ (99 : Int32) then x else -1
  | c + 1, i, x => if gF A (A (890 + i) + 1) = 0 then -1 else rtS A c (i + 1) (imax x ((pgS A 0 (nI (A (890 + i))) + nI (gF A (A (890 + i) + 1)) - 1) / nI (gF A (A (890 + i) + 1))))
theorem rt_X {n : Nat} (K : Int32 → Option Int32) (hK : ∀ z, K z = some (if z ≤ (99 : Int32) then z else -1)) (hn : 50 < n) (h : RN A L F W w) : ∀ c i f x, i + c = A 889 → c < f → lX9_leastRate_4 n 48 K w f x (nI i) = some (rtS A c i x) := by
  obtain ⟨k0, k1, k2, k3, k4, k5⟩ := RN_wk h
  obtain ⟨m1, m2, m3⟩ := RN_wl h
  have hA := h.1.1.1
  have l3 : ln (48 + 3) = 40 := rfl
  intro c
  induction c with
  | zero =>
    intro i f x hi hf
    obtain ⟨f, rfl⟩ : ∃ g, f = g + 1 := ⟨f - 1, by omega⟩
    show bX9_leastRate_4 n 48 K w _ x (nI i) = some (if x ≤ (99 : Int32) then x else -1)
    unfold bX9_leastRate_4
    rw [k1, if_pos (nI_le (by omega) (by omega)), hK]
  | succ c ih =>
    intro i f x hi hf
    obtain ⟨f, rfl⟩ : ∃ g, f = g + 1 := ⟨f - 1, by omega⟩
    obtain ⟨e1, e2⟩ := k4 i (by omega)
    have e1 : wI w (48 + 3) i = nI (A (890 + i)) := e1
    have b1 := hA (890 + i)
    have b2 := gF_le A (A (890 + i) + 1)
    have b3 := alv_le A 0 (A 970)
    have ef : fX9_freeUpTo n 48 (nI (A (890 + i))) w = some (nI (gF A (A (890 + i) + 1))) := by
      have := fu_X hn h b1 (A 970) 0 n 0 (by omega) (by omega) b3 (by omega)
      rw [Nat.zero_min] at this
      exact this
    show bX9_leastRate_4 n 48 K w (lX9_leastRate_4 n 48 K w f) x (nI i) = some (if gF A (A (890 + i) + 1) = 0 then -1 else rtS A c (i + 1) (imax x ((pgS A 0 (nI (A (890 + i))) + nI (gF A (A (890 + i) + 1)) - 1) / nI (gF A (A (890 + i) + 1)))))
    unfold bX9_leastRate_4 letV
    dsimp only
    rw [k1, if_neg (nI_ge (by omega) (by omega)), l3, grd_N (by omega) (by decide), nI_clamp (by omega), e1, ef, ev_bO]
    by_cases q : gF A (A (890 + i) + 1) = 0
    · rw [if_pos (by rw [q]; rfl), if_pos q]
    · have q2 : ¬ nI (gF A (A (890 + i) + 1)) = 0 := nI_ne0 (by omega) (by omega)
      rw [if_neg q2, if_neg q, grd_N (by omega) (by decide), pgs_X hn h, ev_bO]
      unfold grzi
      rw [if_neg q2, nI_1]
      exact ih (i + 1) f _ (by omega) (by omega)
theorem rt_M {n : Nat} (K : Int32 → Option (Int32 × jWd)) (hK : ∀ z, K z = some (if z ≤ (99 : Int32) then z else -1, w)) (hn : 10001 < n) (h : RN A L F W w) : ∀ c i f x, i + c = A 889 → c < f → lX12_rate_27 n K w f x (nI i) = some (rtS A c i x, w) := by
  obtain ⟨m1, m2, m3⟩ := RN_wl h
  have hA := h.1.1.1
  have l7 : ln 207 = 3372 := rfl
  intro c
  induction c with
  | zero =>
    intro i f x hi hf
    obtain ⟨f, rfl⟩ : ∃ g, f = g + 1 := ⟨f - 1, by omega⟩
    show bX12_rate_27 n K w _ x (nI i) = some (if x ≤ (99 : Int32) then x else -1, w)
    unfold bX12_rate_27
    rw [RN_A h (show 889 < 1124 by decide), if_pos (nI_le (by omega) (by omega)), hK]
  | succ c ih =>
    intro i f x hi hf
    obtain ⟨f, rfl⟩ : ∃ g, f = g + 1 := ⟨f - 1, by omega⟩
    have b1 := hA (890 + i)
    have b2 := gF_le A (A (890 + i) + 1)
    have ef : fX12_freeUpTo n (nI (A (890 + i))) w = some (nI (gF A (A (890 + i) + 1))) := fu_M (by omega) h b1 (A (890 + i) + 1) 0 n (by omega) (by omega)
    show bX12_rate_27 n K w (lX12_rate_27 n K w f) x (nI i) = some (if gF A (A (890 + i) + 1) = 0 then -1 else rtS A c (i + 1) (imax x ((pgS A 0 (nI (A (890 + i))) + nI (gF A (A (890 + i) + 1)) - 1) / nI (gF A (A (890 + i) + 1)))), w)
    unfold bX12_rate_27 letV
    dsimp only
    rw [RN_A h (show 889 < 1124 by decide), if_neg (nI_ge (by omega) (by omega)), show (890 : Int32) + nI i = nI (890 + i) from nI_add 890 i, l7, grd_N (by omega) (by decide), nI_clamp (by omega), RN_A h (show 890 + i < 1124 by omega), ef, ev_bO, grd_N (by omega) (by decide), pgs_M (by omega) h, ev_bO]
    by_cases q : gF A (A (890 + i) + 1) = 0
    · rw [if_pos (by rw [q]; rfl), if_pos q]
    · have q2 : ¬ nI (gF A (A (890 + i) + 1)) = 0 := nI_ne0 (by omega) (by omega)
      rw [if_neg q2, if_neg q]
      unfold grzi
      rw [if_neg q2, nI_1]
      have key := fun y => ih (i + 1) f y (by omega) (by omega)
      generalize (pgS A 0 (nI (A (890 + i))) + nI (gF A (A (890 + i) + 1)) - 1) / nI (gF A (A (890 + i) + 1)) = v
      unfold imax
      by_cases q3 : x < v
      · rw [if_pos q3, if_neg (fun z => absurd q3 (Int32.not_lt.mpr z))]
        exact key v
      · rw [if_neg q3, if_pos (Int32.not_lt.mp q3)]
        exact key x
theorem s_rate_n {n : Nat} (hn : 10001 < n) (w : jWd) (hw : RR w) : ∃ (v : Int32) (w1 w2 : jWd), fX11_rate n w = some (v, w1) ∧ fX12_rate n w1 = some (v, w2) ∧ RR w2 := by
  obtain ⟨⟨A, L, F, W, h⟩, -⟩ := id hw
  obtain ⟨k0, k1, k2, k3, k4, k5⟩ := RN_wk h
  obtain ⟨m1, m2, m3⟩ := RN_wl h
  have hM : ∀ w1, frS2 w w1 → RN A L F W (sI w1 205 0 (0 : Int32)) := fun w1 f1 => RN_fr2 (frP_trans f1 (frS_2 (frS_0 w1))) h
  refine rr_call hw ?_
  by_cases q : A 889 = 0
  · refine .inr ⟨-5, 5, by decide, by decide, ⟨w, ?_, frP_refl _ _⟩, fun w1 f1 => ⟨sI w1 205 0 (0 : Int32), ?_, frS_0 w1⟩⟩
    · unfold fX11_rate
      rw [k1, q, if_pos (by decide), rx_id5]
    · unfold fX12_rate letV
      dsimp only
      rw [RN_A (hM w1 f1) (show 889 < 1124 by decide), q, if_pos (by decide), no_id5]
  · refine .inl ⟨rtS A (A 889) 0 1, ⟨w, ?_, frP_refl _ _⟩, fun w1 f1 => ⟨sI w1 205 0 (0 : Int32), ?_, frS_0 w1⟩⟩
    · have e : fX9_leastRate n 48 w = some (rtS A (A 889) 0 1) := rt_X _ (fun z => by split <;> rfl) (by omega) h (A 889) 0 n 1 (by omega) (by omega)
      unfold fX11_rate
      rw [k1, if_neg (nI_ne0 (by omega) (by omega)), e, ev_bO]
    · unfold fX12_rate letV
      dsimp only
      rw [RN_A (hM w1 f1) (show 889 < 1124 by decide), if_neg (nI_ne0 (by omega) (by omega))]
      exact rt_M _ (fun z => by split <;> rfl) hn (hM w1 f1) (A 889) 0 n 1 (by omega) (by omega)
theorem s_rate : fS_rate RR := fun w hw => ⟨20000, s_rate_n (by decide) w hw⟩
end RAT
