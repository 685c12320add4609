/-! the class's copies, piece by piece -/
section CPX
variable {w : jWd} {a b c k n sp dp : Nat}
theorem grc_L {α : Type} {m n0 n1 : Nat} {x : Option α} {v : Int32} (hv : ¬ v < 0) (hm : v.toNatClampNeg = m) (h0 : m ≤ n0) (h1 : m ≤ n1) : grc (0 : Int32) (0 : Int32) v n0 n1 x = x := by
  have z0 : ((0 : Int32)).toNatClampNeg = 0 := by decide
  unfold grc
  rw [if_pos ⟨by decide, by decide, hv, by omega, by omega⟩]
theorem ev_cIs (h : k < n) : wI (cpI w a 0 b 0 n) b k = wI w a k := by
  show (if b = b then va_cpy (wI w a) (wI w b) 0 0 n k else _) = _
  rw [if_pos rfl]
  exact sb_cpy0 h
theorem ev_cIn (h : c ≠ b) : wI (cpI w a sp b dp n) c k = wI w c k := by
  show (if c = b then _ else w.1 c k) = w.1 c k
  exact if_neg h
theorem wJ_cpI : wJ (cpI w a sp b dp n) c k = wJ w c k := rfl
theorem ev_cJs (h : k < n) : wJ (cpJ w a 0 b 0 n) b k = wJ w a k := by
  show (if b = b then va_cpy (wJ w a) (wJ w b) 0 0 n k else _) = _
  rw [if_pos rfl]
  show (if 0 ≤ k ∧ k < 0 + n then wJ w a (0 + (k - 0)) else _) = _
  rw [if_pos (by omega), Nat.sub_zero, Nat.zero_add]
theorem ev_cJn (h : c ≠ b) : wJ (cpJ w a sp b dp n) c k = wJ w c k := by
  show (if c = b then _ else w.2 c k) = w.2 c k
  exact if_neg h
theorem wI_cpJ : wI (cpJ w a sp b dp n) c k = wI w c k := rfl
theorem frP_cI {P : Nat → Nat → Prop} (h : ∀ k, P b k) : frP P w (cpI w a sp b dp n) := fun c k hp => ⟨ev_cIn (fun e => hp (by rw [e]; exact h k)), rfl⟩
theorem frP_cJ {P : Nat → Nat → Prop} (h : ∀ k, P b k) : frP P w (cpJ w a sp b dp n) := fun c k hp => ⟨rfl, ev_cJn (fun e => hp (by rw [e]; exact h k))⟩
end CPX
theorem cp_X0 {t a : Nat} {w : jWd} (hd : a + 6 < t ∨ t + 6 < a) (hl : (60 ≤ ln (a + 1) ∧ 60 ≤ ln (t + 1)) ∧ (60 ≤ ln (a + 2) ∧ 60 ≤ ln (t + 2)) ∧ (60 ≤ ln (a + 3) ∧ 60 ≤ ln (t + 3)) ∧ (60 ≤ ln (a + 4) ∧ 60 ≤ ln (t + 4)) ∧ (60 ≤ ln (a + 5) ∧ 60 ≤ ln (t + 5)) ∧ (60 ≤ ln (a + 6) ∧ 60 ≤ ln (t + 6))) : ∃ w', fX0_copy t a w = some w' ∧ frP (fun c _ => t ≤ c ∧ c ≤ t + 6) w w' ∧ (∀ i k, (i = 0 ∧ k = 0) ∨ (i = 1 ∧ k < 60) ∨ (i = 2 ∧ k < 60) ∨ (i = 3 ∧ k < 60) ∨ (i = 4 ∧ k < 60) ∨ (i = 5 ∧ k < 60) → wI w' (t + i) k = wI w (a + i) k) ∧ (∀ i k, (i = 6 ∧ k < 60) → wJ w' (t + i) k = wJ w (a + i) k) := by
  have z0 : ((0 : Int32)).toNatClampNeg = 0 := by decide
  have z60 : ((60 : Int32)).toNatClampNeg = 60 := by decide
  obtain ⟨⟨g1, h1⟩, ⟨g2, h2⟩, ⟨g3, h3⟩, ⟨g4, h4⟩, ⟨g5, h5⟩, ⟨g6, h6⟩⟩ := hl
  refine ⟨(cpJ (cpI (cpI (cpI (cpI (cpI (sI w t 0 (wI w a 0)) (a + 1) 0 (t + 1) 0 60) (a + 2) 0 (t + 2) 0 60) (a + 3) 0 (t + 3) 0 60) (a + 4) 0 (t + 4) 0 60) (a + 5) 0 (t + 5) 0 60) (a + 6) 0 (t + 6) 0 60), ?_, ?_, fun i k h => ?_, fun i k h => ?_⟩
  · unfold fX0_copy letV
    dsimp only
    rw [z0, z60, grc_L (by decide) z60 g1 h1, grc_L (by decide) z60 g2 h2, grc_L (by decide) z60 g3 h3, grc_L (by decide) z60 g4 h4, grc_L (by decide) z60 g5 h5, grc_L (by decide) z60 g6 h6]
  · exact frP_trans (frP_trans (frP_trans (frP_trans (frP_trans (frP_trans (frP_trans (frP_refl _ _) (frP_sI _ _ ⟨by omega, by omega⟩)) (frP_cI (fun _ => ⟨by omega, by omega⟩))) (frP_cI (fun _ => ⟨by omega, by omega⟩))) (frP_cI (fun _ => ⟨by omega, by omega⟩))) (frP_cI (fun _ => ⟨by omega, by omega⟩))) (frP_cI (fun _ => ⟨by omega, by omega⟩))) (frP_cJ (fun _ => ⟨by omega, by omega⟩))
  · rcases h with ⟨rfl, rfl⟩ | ⟨rfl, h⟩ | ⟨rfl, h⟩ | ⟨rfl, h⟩ | ⟨rfl, h⟩ | ⟨rfl, h⟩
    · simp (disch := omega) only [wI_cpJ, ev_cIn, ev_wIn]
      exact ev_wIs _ _ _ _
    · simp (disch := omega) only [wI_cpJ, ev_cIn, ev_cIs, ev_wIn]
    · simp (disch := omega) only [wI_cpJ, ev_cIn, ev_cIs, ev_wIn]
    · simp (disch := omega) only [wI_cpJ, ev_cIn, ev_cIs, ev_wIn]
    · simp (disch := omega) only [wI_cpJ, ev_cIn, ev_cIs, ev_wIn]
    · simp (disch := omega) only [wI_cpJ, ev_cIn, ev_cIs, ev_wIn]
  · rcases h with ⟨rfl, h⟩
    · simp (disch := omega) only [wJ_cpI, ev_cJn, ev_cJs, wJ_sI]
theorem cp_X10 {t a : Nat} {w : jWd} (hd : a + 6 < t ∨ t + 6 < a) (hl : (8 ≤ ln (a + 1) ∧ 8 ≤ ln (t + 1)) ∧ (128 ≤ ln (a + 2) ∧ 128 ≤ ln (t + 2))) : ∃ w', fX10_copy t a w = some w' ∧ frP (fun c _ => t ≤ c ∧ c ≤ t + 2) w w' ∧ (∀ i k, (i = 0 ∧ k = 0) ∨ (i = 1 ∧ k < 8) ∨ (i = 2 ∧ k < 128) → wI w' (t + i) k = wI w (a + i) k) := by
  have z0 : ((0 : Int32)).toNatClampNeg = 0 := by decide
  have z8 : ((8 : Int32)).toNatClampNeg = 8 := by decide
  have z128 : ((128 : Int32)).toNatClampNeg = 128 := by decide
  obtain ⟨⟨g1, h1⟩, ⟨g2, h2⟩⟩ := hl
  refine ⟨(cpI (cpI (sI w t 0 (wI w a 0)) (a + 1) 0 (t + 1) 0 8) (a + 2) 0 (t + 2) 0 128), ?_, ?_, fun i k h => ?_⟩
  · unfold fX10_copy letV
    dsimp only
    rw [z0, z8, z128, grc_L (by decide) z8 g1 h1, grc_L (by decide) z128 g2 h2]
  · exact frP_trans (frP_trans (frP_trans (frP_refl _ _) (frP_sI _ _ ⟨by omega, by omega⟩)) (frP_cI (fun _ => ⟨by omega, by omega⟩))) (frP_cI (fun _ => ⟨by omega, by omega⟩))
  · rcases h with ⟨rfl, rfl⟩ | ⟨rfl, h⟩ | ⟨rfl, h⟩
    · simp (disch := omega) only [wI_cpJ, ev_cIn, ev_wIn]
      exact ev_wIs _ _ _ _
    · simp (disch := omega) only [wI_cpJ, ev_cIn, ev_cIs, ev_wIn]
    · simp (disch := omega) only [wI_cpJ, ev_cIn, ev_cIs, ev_wIn]
theorem cp_X1 {t a : Nat} {w : jWd} (hd : a + 6 < t ∨ t + 6 < a) (hl : (12 ≤ ln (a + 1) ∧ 12 ≤ ln (t + 1)) ∧ (12 ≤ ln (a + 2) ∧ 12 ≤ ln (t + 2)) ∧ (12 ≤ ln (a + 3) ∧ 12 ≤ ln (t + 3)) ∧ (12 ≤ ln (a + 4) ∧ 12 ≤ ln (t + 4)) ∧ (200 ≤ ln (a + 5) ∧ 200 ≤ ln (t + 5)) ∧ (200 ≤ ln (a + 6) ∧ 200 ≤ ln (t + 6))) : ∃ w', fX1_copy t a w = some w' ∧ frP (fun c _ => t ≤ c ∧ c ≤ t + 6) w w' ∧ (∀ i k, (i = 0 ∧ k = 0) ∨ (i = 0 ∧ k = 1) ∨ (i = 3 ∧ k < 12) ∨ (i = 4 ∧ k < 12) ∨ (i = 5 ∧ k < 200) ∨ (i = 6 ∧ k < 200) → wI w' (t + i) k = wI w (a + i) k) ∧ (∀ i k, (i = 1 ∧ k < 12) ∨ (i = 2 ∧ k < 12) → wJ w' (t + i) k = wJ w (a + i) k) := by
  have z0 : ((0 : Int32)).toNatClampNeg = 0 := by decide
  have z12 : ((12 : Int32)).toNatClampNeg = 12 := by decide
  have z200 : ((200 : Int32)).toNatClampNeg = 200 := by decide
  obtain ⟨⟨g1, h1⟩, ⟨g2, h2⟩, ⟨g3, h3⟩, ⟨g4, h4⟩, ⟨g5, h5⟩, ⟨g6, h6⟩⟩ := hl
  have f0 : wI (sI w t 0 (wI w a 0)) a 1 = wI w a 1 := by simp (disch := omega) only [ev_wIn]
  refine ⟨(cpI (cpI (cpI (cpI (cpJ (cpJ (sI (sI w t 0 (wI w a 0)) t 1 (wI w a 1)) (a + 1) 0 (t + 1) 0 12) (a + 2) 0 (t + 2) 0 12) (a + 3) 0 (t + 3) 0 12) (a + 4) 0 (t + 4) 0 12) (a + 5) 0 (t + 5) 0 200) (a + 6) 0 (t + 6) 0 200), ?_, ?_, fun i k h => ?_, fun i k h => ?_⟩
  · unfold fX1_copy letV
    dsimp only
    rw [f0, z0, z12, z200, grc_L (by decide) z12 g1 h1, grc_L (by decide) z12 g2 h2, grc_L (by decide) z12 g3 h3, grc_L (by decide) z12 g4 h4, grc_L (by decide) z200 g5 h5, grc_L (by decide) z200 g6 h6]
  · exact frP_trans (frP_trans (frP_trans (frP_trans (frP_trans (frP_trans (frP_trans (frP_trans (frP_refl _ _) (frP_sI _ _ ⟨by omega, by omega⟩)) (frP_sI _ _ ⟨by omega, by omega⟩)) (frP_cJ (fun _ => ⟨by omega, by omega⟩))) (frP_cJ (fun _ => ⟨by omega, by omega⟩))) (frP_cI (fun _ => ⟨by omega, by omega⟩))) (frP_cI (fun _ => ⟨by omega, by omega⟩))) (frP_cI (fun _ => ⟨by omega, by omega⟩))) (frP_cI (fun _ => ⟨by omega, by omega⟩))
  · rcases h with ⟨rfl, rfl⟩ | ⟨rfl, rfl⟩ | ⟨rfl, h⟩ | ⟨rfl, h⟩ | ⟨rfl, h⟩ | ⟨rfl, h⟩
    · simp (disch := omega) only [wI_cpJ, ev_cIn, ev_wIn]
      exact ev_wIs _ _ _ _
    · simp (disch := omega) only [wI_cpJ, ev_cIn, ev_wIn]
      exact ev_wIs _ _ _ _
    · simp (disch := omega) only [wI_cpJ, ev_cIn, ev_cIs, ev_wIn]
    · simp (disch := omega) only [wI_cpJ, ev_cIn, ev_cIs, ev_wIn]
    · simp (disch := omega) only [wI_cpJ, ev_cIn, ev_cIs, ev_wIn]
    · simp (disch := omega) only [wI_cpJ, ev_cIn, ev_cIs, ev_wIn]
  · rcases h with ⟨rfl, h⟩ | ⟨rfl, h⟩
    · simp (disch := omega) only [wJ_cpI, ev_cJn, ev_cJs, wJ_sI]
    · simp (disch := omega) only [wJ_cpI, ev_cJn, ev_cJs, wJ_sI]
theorem cp_X3 {t a : Nat} {w : jWd} (hd : a + 6 < t ∨ t + 6 < a) (hl : (256 ≤ ln (a + 1) ∧ 256 ≤ ln (t + 1))) : ∃ w', fX3_copy t a w = some w' ∧ frP (fun c _ => t ≤ c ∧ c ≤ t + 6) w w' ∧ (∀ i k, (i = 0 ∧ k = 0) ∨ (i = 0 ∧ k = 1) ∨ (i = 0 ∧ k = 2) ∨ (i = 0 ∧ k = 3) ∨ (i = 1 ∧ k < 256) → wI w' (t + i) k = wI w (a + i) k) := by
  have z0 : ((0 : Int32)).toNatClampNeg = 0 := by decide
  have z256 : ((256 : Int32)).toNatClampNeg = 256 := by decide
  obtain ⟨g1, h1⟩ := hl
  have f0 : wI (sI w t 0 (wI w a 0)) a 1 = wI w a 1 := by simp (disch := omega) only [ev_wIn]
  have f1 : wI (sI (sI w t 0 (wI w a 0)) t 1 (wI w a 1)) a 2 = wI w a 2 := by simp (disch := omega) only [ev_wIn]
  have f2 : wI (sI (sI (sI w t 0 (wI w a 0)) t 1 (wI w a 1)) t 2 (wI w a 2)) a 3 = wI w a 3 := by simp (disch := omega) only [ev_wIn]
  refine ⟨(cpI (sI (sI (sI (sI w t 0 (wI w a 0)) t 1 (wI w a 1)) t 2 (wI w a 2)) t 3 (wI w a 3)) (a + 1) 0 (t + 1) 0 256), ?_, ?_, fun i k h => ?_⟩
  · unfold fX3_copy letV
    dsimp only
    rw [f0, f1, f2, z0, z256, grc_L (by decide) z256 g1 h1]
  · exact frP_trans (frP_trans (frP_trans (frP_trans (frP_trans (frP_refl _ _) (frP_sI _ _ ⟨by omega, by omega⟩)) (frP_sI _ _ ⟨by omega, by omega⟩)) (frP_sI _ _ ⟨by omega, by omega⟩)) (frP_sI _ _ ⟨by omega, by omega⟩)) (frP_cI (fun _ => ⟨by omega, by omega⟩))
  · rcases h with ⟨rfl, rfl⟩ | ⟨rfl, rfl⟩ | ⟨rfl, rfl⟩ | ⟨rfl, rfl⟩ | ⟨rfl, h⟩
    · simp (disch := omega) only [wI_cpJ, ev_cIn, ev_wIn]
      exact ev_wIs _ _ _ _
    · simp (disch := omega) only [wI_cpJ, ev_cIn, ev_wIn]
      exact ev_wIs _ _ _ _
    · simp (disch := omega) only [wI_cpJ, ev_cIn, ev_wIn]
      exact ev_wIs _ _ _ _
    · simp (disch := omega) only [wI_cpJ, ev_cIn, ev_wIn]
      exact ev_wIs _ _ _ _
    · simp (disch := omega) only [wI_cpJ, ev_cIn, ev_cIs, ev_wIn]
theorem cp_X9 {t a : Nat} {w : jWd} (hd : a + 6 < t ∨ t + 6 < a) (hl : (20 ≤ ln (a + 1) ∧ 20 ≤ ln (t + 1)) ∧ (20 ≤ ln (a + 2) ∧ 20 ≤ ln (t + 2)) ∧ (40 ≤ ln (a + 3) ∧ 40 ≤ ln (t + 3)) ∧ (40 ≤ ln (a + 4) ∧ 40 ≤ ln (t + 4)) ∧ (8 ≤ ln (a + 5) ∧ 8 ≤ ln (t + 5)) ∧ (8 ≤ ln (a + 6) ∧ 8 ≤ ln (t + 6))) : ∃ w', fX9_copy t a w = some w' ∧ frP (fun c _ => t ≤ c ∧ c ≤ t + 6) w w' ∧ (∀ i k, (i = 0 ∧ k = 0) ∨ (i = 0 ∧ k = 1) ∨ (i = 0 ∧ k = 2) ∨ (i = 1 ∧ k < 20) ∨ (i = 2 ∧ k < 20) ∨ (i = 3 ∧ k < 40) ∨ (i = 4 ∧ k < 40) ∨ (i = 5 ∧ k < 8) ∨ (i = 6 ∧ k < 8) → wI w' (t + i) k = wI w (a + i) k) := by
  have z0 : ((0 : Int32)).toNatClampNeg = 0 := by decide
  have z8 : ((8 : Int32)).toNatClampNeg = 8 := by decide
  have z20 : ((20 : Int32)).toNatClampNeg = 20 := by decide
  have z40 : ((40 : Int32)).toNatClampNeg = 40 := by decide
  obtain ⟨⟨g1, h1⟩, ⟨g2, h2⟩, ⟨g3, h3⟩, ⟨g4, h4⟩, ⟨g5, h5⟩, ⟨g6, h6⟩⟩ := hl
  have f0 : wI (sI w t 0 (wI w a 0)) a 1 = wI w a 1 := by simp (disch := omega) only [ev_wIn]
  have f1 : wI (sI (sI w t 0 (wI w a 0)) t 1 (wI w a 1)) a 2 = wI w a 2 := by simp (disch := omega) only [ev_wIn]
  refine ⟨(cpI (cpI (cpI (cpI (cpI (cpI (sI (sI (sI w t 0 (wI w a 0)) t 1 (wI w a 1)) t 2 (wI w a 2)) (a + 1) 0 (t + 1) 0 20) (a + 2) 0 (t + 2) 0 20) (a + 3) 0 (t + 3) 0 40) (a + 4) 0 (t + 4) 0 40) (a + 5) 0 (t + 5) 0 8) (a + 6) 0 (t + 6) 0 8), ?_, ?_, fun i k h => ?_⟩
  · unfold fX9_copy letV
    dsimp only
    rw [f0, f1, z0, z8, z20, z40, grc_L (by decide) z20 g1 h1, grc_L (by decide) z20 g2 h2, grc_L (by decide) z40 g3 h3, grc_L (by decide) z40 g4 h4, grc_L (by decide) z8 g5 h5, grc_L (by decide) z8 g6 h6]
  · exact frP_trans (frP_trans (frP_trans (frP_trans (frP_trans (frP_trans (frP_trans (frP_trans (frP_trans (frP_refl _ _) (frP_sI _ _ ⟨by omega, by omega⟩)) (frP_sI _ _ ⟨by omega, by omega⟩)) (frP_sI _ _ ⟨by omega, by omega⟩)) (frP_cI (fun _ => ⟨by omega, by omega⟩))) (frP_cI (fun _ => ⟨by omega, by omega⟩))) (frP_cI (fun _ => ⟨by omega, by omega⟩))) (frP_cI (fun _ => ⟨by omega, by omega⟩))) (frP_cI (fun _ => ⟨by omega, by omega⟩))) (frP_cI (fun _ => ⟨by omega, by omega⟩))
  · rcases h with ⟨rfl, rfl⟩ | ⟨rfl, rfl⟩ | ⟨rfl, rfl⟩ | ⟨rfl, h⟩ | ⟨rfl, h⟩ | ⟨rfl, h⟩ | ⟨rfl, h⟩ | ⟨rfl, h⟩ | ⟨rfl, h⟩
    · simp (disch := omega) only [wI_cpJ, ev_cIn, ev_wIn]
      exact ev_wIs _ _ _ _
    · simp (disch := omega) only [wI_cpJ, ev_cIn, ev_wIn]
      exact ev_wIs _ _ _ _
    · simp (disch := omega) only [wI_cpJ, ev_cIn, ev_wIn]
      exact ev_wIs _ _ _ _
    · simp (disch := omega) only [wI_cpJ, ev_cIn, ev_cIs, ev_wIn]
    · simp (disch := omega) only [wI_cpJ, ev_cIn, ev_cIs, ev_wIn]
    · simp (disch := omega) only [wI_cpJ, ev_cIn, ev_cIs, ev_wIn]
    · simp (disch := omega) only [wI_cpJ, ev_cIn, ev_cIs, ev_wIn]
    · simp (disch := omega) only [wI_cpJ, ev_cIn, ev_cIs, ev_wIn]
    · simp (disch := omega) only [wI_cpJ, ev_cIn, ev_cIs, ev_wIn]
theorem cp_X5 {t a M E : Nat} {w : jWd} (hd : a + 6 < t ∨ t + 6 < a) (hM : M ≤ 480) (hE : E ≤ 480) (hME : M * E ≤ 480) (at0 : wI w t 0 = nI M) (aa0 : wI w a 0 = nI M) (at1 : wI w t 1 = nI E) (aa1 : wI w a 1 = nI E) (hl : (∀ i, 1 ≤ i → i ≤ 4 → M ≤ ln (a + i) ∧ M ≤ ln (t + i)) ∧ (∀ i, 5 ≤ i → i ≤ 6 → M * E ≤ ln (a + i) ∧ M * E ≤ ln (t + i))) : ∃ w', fX5_copy t a w = some w' ∧ frP (fun c k => t ≤ c ∧ c ≤ t + 6 ∧ (c = t → k = 2)) w w' ∧ (∀ i k, (i = 0 ∧ k = 2) ∨ (1 ≤ i ∧ i ≤ 4 ∧ k < M) ∨ (i = 5 ∧ k < M * E) → wI w' (t + i) k = wI w (a + i) k) ∧ (∀ k, k < M * E → wJ w' (t + 6) k = wJ w (a + 6) k) := by
  have z0 : ((0 : Int32)).toNatClampNeg = 0 := by decide
  have zM : (nI M).toNatClampNeg = M := nI_clamp (by omega)
  have zE : (nI (M * E)).toNatClampNeg = M * E := nI_clamp (by omega)
  have pM : ¬ nI M < 0 := nI_pos (by omega)
  have pE : ¬ nI (M * E) < 0 := nI_pos (by omega)
  obtain ⟨l1, l2⟩ := hl
  refine ⟨(cpJ (cpI (cpI (cpI (cpI (cpI (sI w t 2 (wI w a 2)) (a + 1) 0 (t + 1) 0 M) (a + 2) 0 (t + 2) 0 M) (a + 3) 0 (t + 3) 0 M) (a + 4) 0 (t + 4) 0 M) (a + 5) 0 (t + 5) 0 (M * E)) (a + 6) 0 (t + 6) 0 (M * E)), ?_, ?_, fun i k h => ?_, fun k h => ?_⟩
  · unfold fX5_copy letV
    dsimp only
    rw [aa0, at0, if_pos rfl, aa1, at1, if_pos rfl]
    simp (disch := omega) only [ev_cIn, ev_wIn, at0, at1, ev_mul, z0, zM, zE]
    rw [grc_L pM zM (l1 1 (by omega) (by omega)).1 (l1 1 (by omega) (by omega)).2, grc_L pM zM (l1 2 (by omega) (by omega)).1 (l1 2 (by omega) (by omega)).2, grc_L pM zM (l1 3 (by omega) (by omega)).1 (l1 3 (by omega) (by omega)).2, grc_L pM zM (l1 4 (by omega) (by omega)).1 (l1 4 (by omega) (by omega)).2, grc_L pE zE (l2 5 (by omega) (by omega)).1 (l2 5 (by omega) (by omega)).2, grc_L pE zE (l2 6 (by omega) (by omega)).1 (l2 6 (by omega) (by omega)).2]
  · exact frP_trans (frP_trans (frP_trans (frP_trans (frP_trans (frP_trans (frP_sI _ _ ⟨by omega, by omega, fun _ => rfl⟩) (frP_cI (fun _ => ⟨by omega, by omega, by omega⟩))) (frP_cI (fun _ => ⟨by omega, by omega, by omega⟩))) (frP_cI (fun _ => ⟨by omega, by omega, by omega⟩))) (frP_cI (fun _ => ⟨by omega, by omega, by omega⟩))) (frP_cI (fun _ => ⟨by omega, by omega, by omega⟩))) (frP_cJ (fun _ => ⟨by omega, by omega, by omega⟩))
  · rcases h with ⟨rfl, rfl⟩ | ⟨i1, i4, h⟩ | ⟨rfl, h⟩
    · simp (disch := omega) only [wI_cpJ, ev_cIn, ev_wIn]
      exact ev_wIs _ _ _ _
    · have e : i = 1 ∨ i = 2 ∨ i = 3 ∨ i = 4 := by omega
      rcases e with rfl | rfl | rfl | rfl <;> simp (disch := omega) only [wI_cpJ, ev_cIn, ev_cIs, ev_wIn]
    · simp (disch := omega) only [wI_cpJ, ev_cIn, ev_cIs, ev_wIn]
  · simp (disch := omega) only [wJ_cpI, ev_cJn, ev_cJs, wJ_sI]
