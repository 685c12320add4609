/-! the reference's copies of its rows -/
theorem cq_207 {n p q : Nat} (K : jWd → Option jWd) (hp : p ≤ 2) (hq : q ≤ 2) (hne : p ≠ q) : ∀ c i f (w : jWd), i + c = 1124 → c < f → ∃ w', lX12_copies_2 n (nI p) (nI q) K f (nI i) w = K w' ∧ (∀ k, i ≤ k → k < 1124 → wI w' 207 (1124 * q + k) = wI w 207 (1124 * p + k)) ∧ frP (fun c k => c = 207 ∧ 1124 * q + i ≤ k ∧ k < 1124 * q + 1124) w w' := by
  have l7 : ln 207 = 3372 := rfl
  intro c
  induction c with
  | zero =>
    intro i f w hi hf
    obtain ⟨f, rfl⟩ : ∃ g, f = g + 1 := ⟨f - 1, by omega⟩
    refine ⟨w, ?_, fun k h1 h2 => absurd h1 (by omega), frP_refl _ _⟩
    show bX12_copies_2 n (nI p) (nI q) K _ (nI i) w = _
    unfold bX12_copies_2
    rw [if_pos (show (1124 : Int32) ≤ nI i from nI_le (a := 1124) (by omega) (by omega))]
  | succ c ih =>
    intro i f w hi hf
    obtain ⟨f, rfl⟩ : ∃ g, f = g + 1 := ⟨f - 1, by omega⟩
    have e1 : (1124 : Int32) * nI p + nI i = nI (1124 * p + i) := by rw [show (1124 : Int32) = nI 1124 from rfl, ev_mul, nI_add]
    have e2 : (1124 : Int32) * nI q + nI i = nI (1124 * q + i) := by rw [show (1124 : Int32) = nI 1124 from rfl, ev_mul, nI_add]
    obtain ⟨w', d1, d2, d3⟩ := ih (i + 1) f (sI w 207 (1124 * q + i) (wI w 207 (1124 * p + i))) (by omega) (by omega)
    refine ⟨w', ?_, fun k h1 h2 => ?_, frP_trans (frP_sI _ _ ⟨rfl, by omega, by omega⟩) (frP_mono (fun c k z => ⟨z.1, by omega, z.2.2⟩) d3)⟩
    · show bX12_copies_2 n (nI p) (nI q) K (lX12_copies_2 n (nI p) (nI q) K f) (nI i) w = _
      unfold bX12_copies_2 letV
      dsimp only
      rw [if_neg (show ¬ (1124 : Int32) ≤ nI i from nI_ge (b := 1124) (by omega) (by decide)), e1, e2, l7, grd_N (by omega) (by decide), grd_N (by omega) (by decide), nI_clamp (by omega), nI_clamp (by omega), nI_1]
      exact d1
    · by_cases e : k = i
      · subst e
        rw [frP_I d3 (by omega)]
        exact ev_wIs _ _ _ _
      · rw [d2 k (by omega) h2, ev_wIn _ (by omega)]
theorem cq_208 {n p q : Nat} (K : jWd → Option jWd) (hp : p ≤ 2) (hq : q ≤ 2) (hne : p ≠ q) : ∀ c i f (w : jWd), i + c = 784 → c < f → ∃ w', lX12_copies_41 n (nI p) (nI q) K f (nI i) w = K w' ∧ (∀ k, i ≤ k → k < 784 → wJ w' 208 (784 * q + k) = wJ w 208 (784 * p + k)) ∧ frP (fun c k => c = 208 ∧ 784 * q + i ≤ k ∧ k < 784 * q + 784) w w' := by
  have l7 : ln 208 = 2352 := rfl
  intro c
  induction c with
  | zero =>
    intro i f w hi hf
    obtain ⟨f, rfl⟩ : ∃ g, f = g + 1 := ⟨f - 1, by omega⟩
    refine ⟨w, ?_, fun k h1 h2 => absurd h1 (by omega), frP_refl _ _⟩
    show bX12_copies_41 n (nI p) (nI q) K _ (nI i) w = _
    unfold bX12_copies_41
    rw [if_pos (show (784 : Int32) ≤ nI i from nI_le (a := 784) (by omega) (by omega))]
  | succ c ih =>
    intro i f w hi hf
    obtain ⟨f, rfl⟩ : ∃ g, f = g + 1 := ⟨f - 1, by omega⟩
    have e1 : (784 : Int32) * nI p + nI i = nI (784 * p + i) := by rw [show (784 : Int32) = nI 784 from rfl, ev_mul, nI_add]
    have e2 : (784 : Int32) * nI q + nI i = nI (784 * q + i) := by rw [show (784 : Int32) = nI 784 from rfl, ev_mul, nI_add]
    obtain ⟨w', d1, d2, d3⟩ := ih (i + 1) f (sJ w 208 (784 * q + i) (wJ w 208 (784 * p + i))) (by omega) (by omega)
    refine ⟨w', ?_, fun k h1 h2 => ?_, frP_trans (frP_sJ _ _ ⟨rfl, by omega, by omega⟩) (frP_mono (fun c k z => ⟨z.1, by omega, z.2.2⟩) d3)⟩
    · show bX12_copies_41 n (nI p) (nI q) K (lX12_copies_41 n (nI p) (nI q) K f) (nI i) w = _
      unfold bX12_copies_41 letV
      dsimp only
      rw [if_neg (show ¬ (784 : Int32) ≤ nI i from nI_ge (b := 784) (by omega) (by decide)), e1, e2, l7, grd_N (by omega) (by decide), grd_N (by omega) (by decide), nI_clamp (by omega), nI_clamp (by omega), nI_1]
      exact d1
    · by_cases e : k = i
      · subst e
        rw [frP_J d3 (by omega)]
        exact ev_wJs _ _ _ _
      · rw [d2 k (by omega) h2, ev_wJn _ (by omega)]
theorem cq_211 {n p q : Nat} (K : jWd → Option jWd) (hp : p ≤ 2) (hq : q ≤ 2) (hne : p ≠ q) : ∀ c i f (w : jWd), i + c = 645 → c < f → ∃ w', lX12_copies_80 n (nI p) (nI q) K f (nI i) w = K w' ∧ (∀ k, i ≤ k → k < 645 → wI w' 211 (645 * q + k) = wI w 211 (645 * p + k)) ∧ frP (fun c k => c = 211 ∧ 645 * q + i ≤ k ∧ k < 645 * q + 645) w w' := by
  have l7 : ln 211 = 2580 := rfl
  intro c
  induction c with
  | zero =>
    intro i f w hi hf
    obtain ⟨f, rfl⟩ : ∃ g, f = g + 1 := ⟨f - 1, by omega⟩
    refine ⟨w, ?_, fun k h1 h2 => absurd h1 (by omega), frP_refl _ _⟩
    show bX12_copies_80 n (nI p) (nI q) K _ (nI i) w = _
    unfold bX12_copies_80
    rw [if_pos (show (645 : Int32) ≤ nI i from nI_le (a := 645) (by omega) (by omega))]
  | succ c ih =>
    intro i f w hi hf
    obtain ⟨f, rfl⟩ : ∃ g, f = g + 1 := ⟨f - 1, by omega⟩
    have e1 : (645 : Int32) * nI p + nI i = nI (645 * p + i) := by rw [show (645 : Int32) = nI 645 from rfl, ev_mul, nI_add]
    have e2 : (645 : Int32) * nI q + nI i = nI (645 * q + i) := by rw [show (645 : Int32) = nI 645 from rfl, ev_mul, nI_add]
    obtain ⟨w', d1, d2, d3⟩ := ih (i + 1) f (sI w 211 (645 * q + i) (wI w 211 (645 * p + i))) (by omega) (by omega)
    refine ⟨w', ?_, fun k h1 h2 => ?_, frP_trans (frP_sI _ _ ⟨rfl, by omega, by omega⟩) (frP_mono (fun c k z => ⟨z.1, by omega, z.2.2⟩) d3)⟩
    · show bX12_copies_80 n (nI p) (nI q) K (lX12_copies_80 n (nI p) (nI q) K f) (nI i) w = _
      unfold bX12_copies_80 letV
      dsimp only
      rw [if_neg (show ¬ (645 : Int32) ≤ nI i from nI_ge (b := 645) (by omega) (by decide)), e1, e2, l7, grd_N (by omega) (by decide), grd_N (by omega) (by decide), nI_clamp (by omega), nI_clamp (by omega), nI_1]
      exact d1
    · by_cases e : k = i
      · subst e
        rw [frP_I d3 (by omega)]
        exact ev_wIs _ _ _ _
      · rw [d2 k (by omega) h2, ev_wIn _ (by omega)]
theorem cq_212 {n p q : Nat} (hp : p ≤ 2) (hq : q ≤ 2) (hne : p ≠ q) : ∀ c i f (w : jWd), i + c = 29 → c < f → ∃ w', lX12_copies_119 n (nI p) (nI q) f (nI i) w = some w' ∧ (∀ k, i ≤ k → k < 29 → wI w' 212 (29 * q + k) = wI w 212 (29 * p + k)) ∧ frP (fun c k => c = 212 ∧ 29 * q + i ≤ k ∧ k < 29 * q + 29) w w' := by
  have l7 : ln 212 = 116 := rfl
  intro c
  induction c with
  | zero =>
    intro i f w hi hf
    obtain ⟨f, rfl⟩ : ∃ g, f = g + 1 := ⟨f - 1, by omega⟩
    refine ⟨w, ?_, fun k h1 h2 => absurd h1 (by omega), frP_refl _ _⟩
    show bX12_copies_119 n (nI p) (nI q) _ (nI i) w = _
    unfold bX12_copies_119
    rw [if_pos (show (29 : Int32) ≤ nI i from nI_le (a := 29) (by omega) (by omega))]
  | succ c ih =>
    intro i f w hi hf
    obtain ⟨f, rfl⟩ : ∃ g, f = g + 1 := ⟨f - 1, by omega⟩
    have e1 : (29 : Int32) * nI p + nI i = nI (29 * p + i) := by rw [show (29 : Int32) = nI 29 from rfl, ev_mul, nI_add]
    have e2 : (29 : Int32) * nI q + nI i = nI (29 * q + i) := by rw [show (29 : Int32) = nI 29 from rfl, ev_mul, nI_add]
    obtain ⟨w', d1, d2, d3⟩ := ih (i + 1) f (sI w 212 (29 * q + i) (wI w 212 (29 * p + i))) (by omega) (by omega)
    refine ⟨w', ?_, fun k h1 h2 => ?_, frP_trans (frP_sI _ _ ⟨rfl, by omega, by omega⟩) (frP_mono (fun c k z => ⟨z.1, by omega, z.2.2⟩) d3)⟩
    · show bX12_copies_119 n (nI p) (nI q) (lX12_copies_119 n (nI p) (nI q) f) (nI i) w = _
      unfold bX12_copies_119 letV
      dsimp only
      rw [if_neg (show ¬ (29 : Int32) ≤ nI i from nI_ge (b := 29) (by omega) (by decide)), e1, e2, l7, grd_N (by omega) (by decide), grd_N (by omega) (by decide), nI_clamp (by omega), nI_clamp (by omega), nI_1]
      exact d1
    · by_cases e : k = i
      · subst e
        rw [frP_I d3 (by omega)]
        exact ev_wIs _ _ _ _
      · rw [d2 k (by omega) h2, ev_wIn _ (by omega)]
def CqS (q c k : Nat) : Prop := (c = 207 ∧ 1124 * q ≤ k ∧ k < 1124 * q + 1124) ∨ (c = 208 ∧ 784 * q ≤ k ∧ k < 784 * q + 784) ∨ (c = 211 ∧ 645 * q ≤ k ∧ k < 645 * q + 645) ∨ (c = 212 ∧ 29 * q ≤ k ∧ k < 29 * q + 29)
/-- the reference's rows at p, laid at q too -/
theorem cq_M {A : Nat → Nat} {L : Nat → Int64} {F W : Nat → Nat} {n p q : Nat} {w : jWd} (hn : 1200 < n) (hp : p ≤ 2) (hq : q ≤ 2) (hne : p ≠ q) (h : RM A L F W p w) : ∃ w', fX12_copies n (nI p) (nI q) w = some w' ∧ RM A L F W q w' ∧ frP (CqS q) w w' := by
  obtain ⟨w1, a1, a2, a3⟩ := cq_207 (n := n) (fun (w_7 : jWd) => lX12_copies_41 n (nI p) (nI q) (fun (w_14 : jWd) => lX12_copies_80 n (nI p) (nI q) (fun (w_21 : jWd) => lX12_copies_119 n (nI p) (nI q) n (0 : Int32) w_21) n (0 : Int32) w_14) n (0 : Int32) w_7) hp hq hne 1124 0 n w (by omega) (by omega)
  obtain ⟨w2, b1, b2, b3⟩ := cq_208 (n := n) (fun (w_14 : jWd) => lX12_copies_80 n (nI p) (nI q) (fun (w_21 : jWd) => lX12_copies_119 n (nI p) (nI q) n (0 : Int32) w_21) n (0 : Int32) w_14) hp hq hne 784 0 n w1 (by omega) (by omega)
  obtain ⟨w3, c1, c2, c3⟩ := cq_211 (n := n) (fun (w_21 : jWd) => lX12_copies_119 n (nI p) (nI q) n (0 : Int32) w_21) hp hq hne 645 0 n w2 (by omega) (by omega)
  obtain ⟨w4, d1, d2, d3⟩ := cq_212 (n := n) hp hq hne 29 0 n w3 (by omega) (by omega)
  refine ⟨w4, ?_, ⟨fun k hk => ?_, fun k hk => ?_, fun k hk => ?_, fun k hk => ?_⟩, ?_⟩
  · unfold fX12_copies
    exact a1.trans (b1.trans (c1.trans d1))
  · rw [frP_I d3 (by omega), frP_I c3 (by omega), frP_I b3 (by omega), a2 k (by omega) hk]
    exact h.1 k hk
  · rw [frP_J d3 (by omega), frP_J c3 (by omega), b2 k (by omega) hk, frP_J a3 (by omega)]
    exact h.2.1 k hk
  · rw [frP_I d3 (by omega), c2 k (by omega) hk, frP_I b3 (by omega), frP_I a3 (by omega)]
    exact h.2.2.1 k hk
  · rw [d2 k (by omega) hk, frP_I c3 (by omega), frP_I b3 (by omega), frP_I a3 (by omega)]
    exact h.2.2.2 k hk
  · exact frP_trans (frP_trans (frP_trans (frP_mono (fun c k z => .inl ⟨z.1, by omega, z.2.2⟩) a3) (frP_mono (fun c k z => .inr (.inl ⟨z.1, by omega, z.2.2⟩)) b3)) (frP_mono (fun c k z => .inr (.inr (.inl ⟨z.1, by omega, z.2.2⟩))) c3)) (frP_mono (fun c k z => .inr (.inr (.inr ⟨z.1, by omega, z.2.2⟩))) d3)
