/-! THE JUDGE in the reference: the best of a kind, whose a line is, the most of songs and of THE PRINT -/
section JDM
variable {A : Nat → Nat} {L : Nat → Int64} {F W : Nat → Nat} {w : jWd}
def bsR (st : Nat × Nat) (w : jWd) : Prop := (st.1 = 0 → wI w 205 28 = -1 ∨ wI w 205 28 = nI 0) ∧ (st.1 ≠ 0 → wI w 205 28 = nI st.1 ∧ wI w 205 29 = nI st.2)
def Pbs (c k : Nat) : Prop := (c = 205 ∧ 28 ≤ k ∧ k ≤ 30) ∨ c = 210
theorem pbs_s : ∀ c k, Pbs c k → Scr c k := fun c k h => by unfold Pbs at h; unfold Scr; omega
theorem p210_bs : ∀ c k, P210 c k → Pbs c k := fun c k h => .inr h
theorem SLn_fr {w' : jWd} {s : Nat} (hf : frP Pbs w w') (h : SLn A L F w s) : SLn A L F w' s := fun i k h1 h2 h3 => by rw [frP_J hf (show ¬ Pbs 218 _ by unfold Pbs; omega)]; exact h i k h1 h2 h3
theorem looks_M {n : Nat} (hn : 20 < n) (x y : Int64) (fr : Nat) {st : Nat × Nat} (hst : st.1 ≤ 100) (h : bsR st w) : ∃ w', fX12_looks n x y (nI fr) w = some w' ∧ bsR (if st.1 < alkN x y then (alkN x y, fr) else st) w' ∧ frP Pbs w w' := by
  obtain ⟨w1, e1, e2⟩ := alk_M hn x y w
  have f1 : frP Pbs w w1 := frP_mono p210_bs (frP_of e2)
  have hle := alkN_le x y
  have e28 : wI w1 205 28 = wI w 205 28 := e2.1 _ _ (by unfold P210; omega)
  have e29 : wI w1 205 29 = wI w 205 29 := e2.1 _ _ (by unfold P210; omega)
  have hset : frP Pbs w (sI (sI w1 205 28 (nI (alkN x y))) 205 29 (nI fr)) := frP_trans f1 (frP_trans (frP_sI _ _ (.inl ⟨rfl, by decide, by decide⟩)) (frP_sI _ _ (.inl ⟨rfl, by decide, by decide⟩)))
  have hnew : wI (sI (sI w1 205 28 (nI (alkN x y))) 205 29 (nI fr)) 205 28 = nI (alkN x y) ∧ wI (sI (sI w1 205 28 (nI (alkN x y))) 205 29 (nI fr)) 205 29 = nI fr := ⟨by rw [ev_wIn _ (by omega), ev_wIs], by rw [ev_wIs]⟩
  unfold fX12_looks
  rw [e1]
  dsimp only [bO2, letV]
  by_cases h0 : st.1 = 0
  · rcases h.1 h0 with q | q
    · rw [e28, q, if_pos (show (-1 : Int32) < nI (alkN x y) from Int32.lt_of_lt_of_le (by decide) (nI_pos' (by omega)))]
      refine ⟨_, rfl, ?_, hset⟩
      by_cases z : alkN x y = 0
      · rw [if_neg (by omega)]
        exact ⟨fun _ => .inr (by rw [hnew.1, z]), fun y => absurd h0 y⟩
      · rw [if_pos (by omega)]
        exact ⟨fun y => absurd y z, fun _ => hnew⟩
    · rw [e28, q]
      by_cases z : alkN x y = 0
      · rw [if_neg (nI_nlt (by omega) (by omega)), if_neg (by omega)]
        exact ⟨_, rfl, ⟨fun _ => .inr (by rw [e28, q]), fun y => absurd h0 y⟩, f1⟩
      · rw [if_pos (nI_lt (by omega) (by omega)), if_pos (by omega)]
        exact ⟨_, rfl, ⟨fun y => absurd y z, fun _ => hnew⟩, hset⟩
  · obtain ⟨q1, q2⟩ := h.2 h0
    rw [e28, q1]
    by_cases z : st.1 < alkN x y
    · rw [if_pos (nI_lt z (by omega)), if_pos z]
      exact ⟨_, rfl, ⟨fun y => by have y : alkN _ _ = 0 := y; omega, fun _ => hnew⟩, hset⟩
    · rw [if_neg (nI_nlt (by omega) (by omega)), if_neg z]
      exact ⟨_, rfl, ⟨fun y => absurd y h0, fun _ => ⟨by rw [e28, q1], by rw [e29, q2]⟩⟩, f1⟩
theorem nrL_1 {lk : Nat → Nat} (hlk : ∀ i, lk i ≤ 100) {g : Nat} : ∀ c i st, st.1 ≤ 100 → (nrL lk g c i st).1 ≤ 100 := by
  intro c
  induction c with
  | zero => intro i st h; exact h
  | succ c ih =>
    intro i st h
    unfold nrL
    split
    · exact ih _ _ (hlk i)
    · exact ih _ _ h
theorem bb_M {n : Nat} (hn : 20 < n) {g : Nat} {l : Int64} (K : jWd → Option jWd) : ∀ c i f st (w : jWd), RN A L F W w → g < A 223 → i + c = cK A 3 g → c < f → st.1 ≤ 100 → bsR st w → ∃ w', lX12_best_45 n l (nI g) K f (nI i) w = K w' ∧ bsR (nrL (fun i => alkN l (yK A L F 3 g i)) g c i st) w' ∧ frP Pbs w w' := by
  intro c
  induction c with
  | zero =>
    intro i f st w h hg hi hf h1 h2
    obtain ⟨f, rfl⟩ : ∃ g, f = g + 1 := ⟨f - 1, by omega⟩
    have h12 := h.1.1.2.2.2.2.1
    have hc : cK A 3 g = A (236 + g) := rfl
    have h9 := RN_9 h (236 + g)
    have l7 : ln 207 = 3372 := rfl
    refine ⟨w, ?_, h2, frP_refl _ _⟩
    show bX12_best_45 n l (nI g) K _ (nI i) w = _
    unfold bX12_best_45
    rw [show (236 : Int32) + nI g = nI (236 + g) from nI_add 236 g, l7, grd_N (by omega) (by decide), nI_clamp (by omega), RN_A h (show 236 + g < 1124 by omega), if_pos (nI_le (by omega) (by omega))]
  | succ c ih =>
    intro i f st w h hg hi hf h1 h2
    obtain ⟨f, rfl⟩ : ∃ g, f = g + 1 := ⟨f - 1, by omega⟩
    have h12 := h.1.1.2.2.2.2.1
    have hc : cK A 3 g = A (236 + g) := rfl
    have h9 := h.1.1.2.2.2.2.2.1 g (by omega)
    have l7 : ln 207 = 3372 := rfl
    have l8 : ln 208 = 2352 := rfl
    obtain ⟨w1, e1, e2, e3⟩ := looks_M hn l (L (540 + 12 * g + i)) (100 * g + i) h1 h2
    have ha := alkN_le l (L (540 + 12 * g + i))
    obtain ⟨w2, i1, i2, i3⟩ := ih (i + 1) f _ w1 (RN_fr (frP_mono pbs_s e3) h) hg (by omega) (by omega) (by split; exact ha; exact h1) e2
    refine ⟨w2, ?_, i2, frP_trans e3 i3⟩
    show bX12_best_45 n l (nI g) K (lX12_best_45 n l (nI g) K f) (nI i) w = _
    unfold bX12_best_45
    rw [show (236 : Int32) + nI g = nI (236 + g) from nI_add 236 g, l7, grd_N (by omega) (by decide), nI_clamp (by omega), RN_A h (show 236 + g < 1124 by omega), if_neg (nI_ge (by omega) (by omega)), show (540 : Int32) + (12 : Int32) * nI g + nI i = nI (540 + 12 * g + i) by rw [show (12 : Int32) = nI 12 from rfl, ev_mul, show (540 : Int32) = nI 540 from rfl, nI_add, nI_add], l8, grd_N (by omega) (by decide), nI_clamp (by omega), RN_L h (by omega), show (100 : Int32) * nI g + nI i = nI (100 * g + i) by rw [show (100 : Int32) = nI 100 from rfl, ev_mul, nI_add], e1]
    dsimp only [bO, letV]
    rw [nI_1]
    exact i1
theorem bs_M {n : Nat} (hn : 20 < n) {g k : Nat} (hk : k ≤ 2) {l : Int64} (p1 : Int32) (K : jWd → Option jWd) : ∀ c i f st (w : jWd), RN A L F W w → SLn A L F w (A 0) → g < A 0 → A (81 + g) ≤ A 161 → i + c = A (121 + g) → c < f → st.1 ≤ 100 → bsR st w → ∃ w', lX12_best_181 n p1 (nI k) l (nI g) K f (nI i) w = K w' ∧ bsR (nrL (fun i => alkN l (yK A L F k g i)) g c i st) w' ∧ frP Pbs w w' := by
  intro c
  induction c with
  | zero =>
    intro i f st w h hS hg he hi hf h1 h2
    obtain ⟨f, rfl⟩ : ∃ g, f = g + 1 := ⟨f - 1, by omega⟩
    have h40 := h.1.1.2.1
    have h9 := RN_9 h (121 + g)
    have l7 : ln 207 = 3372 := rfl
    refine ⟨w, ?_, h2, frP_refl _ _⟩
    show bX12_best_181 n p1 (nI k) l (nI g) K _ (nI i) w = _
    unfold bX12_best_181
    rw [show (121 : Int32) + nI g = nI (121 + g) from nI_add 121 g, l7, grd_N (by omega) (by decide), nI_clamp (by omega), RN_A h (show 121 + g < 1124 by omega), if_pos (nI_le (by omega) (by omega))]
  | succ c ih =>
    intro i f st w h hS hg he hi hf h1 h2
    obtain ⟨f, rfl⟩ : ∃ g, f = g + 1 := ⟨f - 1, by omega⟩
    have h40 := h.1.1.2.1
    have h9 := h.1.1.2.2.1 g (by omega)
    have l7 : ln 207 = 3372 := rfl
    have l8 : ln 208 = 2352 := rfl
    have l18 : ln 218 = 480 := rfl
    obtain ⟨w1, e1, e2, e3⟩ := looks_M hn l (yK A L F k g i) (100 * g + i) h1 h2
    have ha := alkN_le l (yK A L F k g i)
    obtain ⟨w2, i1, i2, i3⟩ := ih (i + 1) f _ w1 (RN_fr (frP_mono pbs_s e3) h) (SLn_fr e3 hS) hg he (by omega) (by omega) (by split; exact ha; exact h1) e2
    refine ⟨w2, ?_, i2, frP_trans e3 i3⟩
    show bX12_best_181 n p1 (nI k) l (nI g) K (lX12_best_181 n p1 (nI k) l (nI g) K f) (nI i) w = _
    unfold bX12_best_181
    rw [show (121 : Int32) + nI g = nI (121 + g) from nI_add 121 g, l7, grd_N (by omega) (by decide), nI_clamp (by omega), RN_A h (show 121 + g < 1124 by omega), if_neg (nI_ge (by omega) (by omega)), show (12 : Int32) * nI g + nI i = nI (12 * g + i) by rw [show (12 : Int32) = nI 12 from rfl, ev_mul, nI_add], l8, l18, show (100 : Int32) * nI g + nI i = nI (100 * g + i) by rw [show (100 : Int32) = nI 100 from rfl, ev_mul, nI_add]]
    refine letJ (x := yK A L F k g i) (fun J => ?_) ?_
    · have hy : yK A L F k g i = if k = 2 then smS F (A (1 + g)) (L (12 * g + i)) else L (12 * g + i) := by unfold yK; rw [if_neg (by omega), if_neg (by omega)]
      rw [hy]
      by_cases e : k = 2
      · rw [if_pos e, if_pos (show nI k = (2 : Int32) by rw [e]; rfl), grd_N (by omega) (by decide), nI_clamp (by omega), hS g i hg he (by omega)]
      · rw [if_neg e, if_neg (show ¬ nI k = (2 : Int32) from fun z => e ((nI_eq (b := 2) (by omega) (by decide)).mp z)), grd_N (by omega) (by decide), nI_clamp (by omega), RN_L h (by omega)]
    · rw [e1]
      dsimp only [bO, letV]
      rw [nI_1]
      exact i1
theorem bG3_M {n : Nat} (hn : 70 < n) {l : Int64} {t : Nat} : ∀ c g f st (w : jWd), RN A L F W w → g + c = A 223 → c < f → st.1 ≤ 100 → bsR st w → ∃ w', lX12_best_29 n l f (nI g) w = some w' ∧ bsR (nrG (amK A t 3) (cK A 3) (fun g i => alkN l (yK A L F 3 g i)) c g st) w' ∧ frP Pbs w w' := by
  intro c
  induction c with
  | zero =>
    intro g f st w h hg hf h1 h2
    obtain ⟨f, rfl⟩ : ∃ g, f = g + 1 := ⟨f - 1, by omega⟩
    have h12 := h.1.1.2.2.2.2.1
    refine ⟨w, ?_, h2, frP_refl _ _⟩
    show bX12_best_29 n l _ (nI g) w = _
    unfold bX12_best_29
    rw [RN_A h (show 223 < 1124 by decide), if_pos (nI_le (by omega) (by omega))]
  | succ c ih =>
    intro g f st w h hg hf h1 h2
    obtain ⟨f, rfl⟩ : ∃ g, f = g + 1 := ⟨f - 1, by omega⟩
    have h12 := h.1.1.2.2.2.2.1
    have h9 := h.1.1.2.2.2.2.2.1 g (by omega)
    have hc : cK A 3 g = A (236 + g) := rfl
    obtain ⟨w1, e1, e2, e3⟩ := bb_M (n := n) (by omega) (g := g) (l := l) (fun (w_40 : jWd) => lX12_best_29 n l f (nI (g + 1)) w_40) (cK A 3 g) 0 n st w h (by omega) (by omega) (by omega) h1 h2
    obtain ⟨w2, i1, i2, i3⟩ := ih (g + 1) f _ w1 (RN_fr (frP_mono pbs_s e3) h) (by omega) (by omega) (nrL_1 (fun i => alkN_le _ _) _ _ _ h1) e2
    refine ⟨w2, ?_, i2, frP_trans e3 i3⟩
    show bX12_best_29 n l (lX12_best_29 n l f) (nI g) w = _
    unfold bX12_best_29
    rw [RN_A h (show 223 < 1124 by decide), if_neg (nI_ge (by omega) (by omega))]
    dsimp only [letV]
    rw [nI_1]
    exact e1.trans i1
theorem bG_M {n : Nat} (hn : 70 < n) {l : Int64} {p k : Nat} (hk : k ≤ 2) (hp : p < 60) : ∀ c g f st (w : jWd), RN A L F W w → SLn A L F w (A 0) → g + c = A 0 → c < f → st.1 ≤ 100 → bsR st w → ∃ w', lX12_best_107 n (nI p) (nI k) l f (nI g) w = some w' ∧ bsR (nrG (amK A (A (163 + p)) k) (cK A k) (fun g i => alkN l (yK A L F k g i)) c g st) w' ∧ frP Pbs w w' := by
  intro c
  induction c with
  | zero =>
    intro g f st w h hS hg hf h1 h2
    obtain ⟨f, rfl⟩ : ∃ g, f = g + 1 := ⟨f - 1, by omega⟩
    have h40 := h.1.1.2.1
    refine ⟨w, ?_, h2, frP_refl _ _⟩
    show bX12_best_107 n (nI p) (nI k) l _ (nI g) w = _
    unfold bX12_best_107
    rw [RN_A h (show 0 < 1124 by decide), if_pos (nI_le (by omega) (by omega))]
  | succ c ih =>
    intro g f st w h hS hg hf h1 h2
    obtain ⟨f, rfl⟩ : ∃ g, f = g + 1 := ⟨f - 1, by omega⟩
    have h40 := h.1.1.2.1
    have h9 := h.1.1.2.2.1 g (by omega)
    have hc : cK A k g = A (121 + g) := by unfold cK; rw [if_neg (by omega), if_neg (by omega)]
    have t1 := RN_9 h (1 + g)
    have t2 := RN_9 h (163 + p)
    have l7 : ln 207 = 3372 := rfl
    have step : bX12_best_107 n (nI p) (nI k) l (lX12_best_107 n (nI p) (nI k) l f) (nI g) w = (if amK A (A (163 + p)) k g = true then lX12_best_181 n (nI p) (nI k) l (nI g) (fun (w_27 : jWd) => lX12_best_107 n (nI p) (nI k) l f (nI (g + 1)) w_27) n (nI 0) w else lX12_best_107 n (nI p) (nI k) l f (nI (g + 1)) w) := by
      unfold bX12_best_107
      rw [RN_A h (show 0 < 1124 by decide), if_neg (nI_ge (by omega) (by omega)), show (1 : Int32) + nI g = nI (1 + g) from nI_add 1 g, show (163 : Int32) + nI p = nI (163 + p) from nI_add 163 p, l7, grd_N (by omega) (by decide), grd_N (by omega) (by decide), nI_clamp (by omega), nI_clamp (by omega), RN_A h (show 1 + g < 1124 by omega), RN_A h (show 163 + p < 1124 by omega)]
      refine letJ (x := bI (decide (A (1 + g) = A (163 + p)))) (fun J => ?_) ?_
      · by_cases z : A (1 + g) = A (163 + p)
        · rw [if_pos (by rw [z]), decide_eq_true z]; rfl
        · rw [if_neg (fun y => z ((nI_eq (by omega) (by omega)).mp y)), decide_eq_false z]; rfl
      · rw [early_M h (by omega)]
        dsimp only [bO, letV]
        rw [ev_bI, ev_bI, nI_1]
        rcases (show k = 0 ∨ k = 1 ∨ k = 2 by omega) with e | e | e <;> subst e
        · rw [if_pos (show nI 0 = (0 : Int32) from rfl), if_neg (show ¬ nI 0 = (1 : Int32) by decide)]
          show _ = if (decide (A (81 + g) ≤ A 161) && decide (A (1 + g) = A (163 + p))) = true then _ else _
          by_cases q : A (81 + g) ≤ A 161
          · rw [if_pos q, decide_eq_true q, Bool.true_and]
            by_cases z : A (1 + g) = A (163 + p)
            · rw [if_pos z, decide_eq_true z, if_pos rfl]; rfl
            · rw [if_neg z, decide_eq_false z, if_neg (by decide)]
          · rw [if_neg q, decide_eq_false q, Bool.false_and, if_neg (by decide)]
        · rw [if_neg (show ¬ nI 1 = (0 : Int32) by decide), if_pos (show nI 1 = (1 : Int32) from rfl), ev_bI]
          show _ = if (decide (A (81 + g) ≤ A 161) && !decide (A (1 + g) = A (163 + p))) = true then _ else _
          by_cases q : A (81 + g) ≤ A 161
          · rw [if_pos q, decide_eq_true q, Bool.true_and]
            by_cases z : A (1 + g) = A (163 + p)
            · rw [if_pos z, decide_eq_true z, if_neg (by decide)]
            · rw [if_neg z, decide_eq_false z, if_pos (by decide)]; rfl
          · rw [if_neg q, decide_eq_false q, Bool.false_and, if_neg (by decide)]
        · rw [if_neg (show ¬ nI 2 = (0 : Int32) by decide), if_neg (show ¬ nI 2 = (1 : Int32) by decide)]
          show _ = if (decide (A (81 + g) ≤ A 161)) = true then _ else _
          by_cases q : A (81 + g) ≤ A 161
          · rw [if_pos q, decide_eq_true q, if_pos rfl]; rfl
          · rw [if_neg q, decide_eq_false q, if_neg (by decide)]
    show ∃ w', bX12_best_107 n (nI p) (nI k) l (lX12_best_107 n (nI p) (nI k) l f) (nI g) w = some w' ∧ _
    rw [step]
    unfold nrG
    by_cases q : amK A (A (163 + p)) k g = true
    · have he : A (81 + g) ≤ A 161 := by
        unfold amK at q
        rcases (show k = 0 ∨ k = 1 ∨ k = 2 by omega) with e | e | e <;> subst e
        · rw [if_pos rfl, Bool.and_eq_true] at q; exact of_decide_eq_true q.1
        · rw [if_neg (by decide), if_pos rfl, Bool.and_eq_true] at q; exact of_decide_eq_true q.1
        · rw [if_neg (by decide), if_neg (by decide), if_pos (by decide)] at q; exact of_decide_eq_true q
      rw [if_pos q, if_pos q, hc]
      obtain ⟨w1, e1, e2, e3⟩ := bs_M (n := n) (by omega) (g := g) hk (l := l) (nI p) (fun (w_27 : jWd) => lX12_best_107 n (nI p) (nI k) l f (nI (g + 1)) w_27) (A (121 + g)) 0 n st w h hS (by omega) he (by omega) (by omega) h1 h2
      obtain ⟨w2, i1, i2, i3⟩ := ih (g + 1) f _ w1 (RN_fr (frP_mono pbs_s e3) h) (SLn_fr e3 hS) (by omega) (by omega) (nrL_1 (fun i => alkN_le _ _) _ _ _ h1) e2
      exact ⟨w2, e1.trans i1, i2, frP_trans e3 i3⟩
    · rw [if_neg q, if_neg q]
      exact ih (g + 1) f st w h hS (by omega) (by omega) h1 h2
theorem best_M {n : Nat} (hn : 70 < n) (h : RN A L F W w) (hS : SLn A L F w (A 0)) {p k : Nat} (hk : k ≤ 3) (hp : p < 60) : ∃ w', fX12_best n (nI p) (nI k) w = some w' ∧ bsR (nrS A L F k (A (163 + p)) (L (480 + p))) w' ∧ frP Pbs w w' := by
  have l8 : ln 208 = 2352 := rfl
  have f1 : frP Pbs w (sI (sI w 205 28 (-1 : Int32)) 205 29 (-1 : Int32)) := frP_trans (frP_sI _ _ (.inl ⟨rfl, by decide, by decide⟩)) (frP_sI _ _ (.inl ⟨rfl, by decide, by decide⟩))
  have h1 := RN_fr (frP_mono pbs_s f1) h
  have hS1 := SLn_fr f1 hS
  have hb : bsR (0, 0) (sI (sI w 205 28 (-1 : Int32)) 205 29 (-1 : Int32)) := ⟨fun _ => .inl (by rw [ev_wIn _ (by omega), ev_wIs]), fun z => absurd rfl z⟩
  have h40 := h.1.1.2.1
  have h12 := h.1.1.2.2.2.2.1
  unfold fX12_best
  dsimp only [letV]
  rw [show (480 : Int32) + nI p = nI (480 + p) from nI_add 480 p, l8, grd_N (by omega) (by decide), nI_clamp (by omega), RN_L h1 (by omega)]
  by_cases e : k = 3
  · subst e
    rw [if_pos (show nI 3 = (3 : Int32) from rfl)]
    obtain ⟨w', e1, e2, e3⟩ := bG3_M (n := n) hn (l := L (480 + p)) (t := A (163 + p)) (A 223) 0 n (0, 0) _ h1 (by omega) (by omega) (by decide) hb
    exact ⟨w', e1, e2, frP_trans f1 e3⟩
  · rw [if_neg (show ¬ nI k = (3 : Int32) from fun z => e ((nI_eq (b := 3) (by omega) (by decide)).mp z))]
    obtain ⟨w', e1, e2, e3⟩ := bG_M (n := n) hn (l := L (480 + p)) (k := k) (by omega) hp (A 0) 0 n (0, 0) _ h1 hS1 (by omega) (by omega) (by decide) hb
    have hg : gK A k = A 0 := by unfold gK; rw [if_neg (by omega), if_neg (by omega)]
    refine ⟨w', e1, ?_, frP_trans f1 e3⟩
    unfold nrS
    rw [hg]
    exact e2
theorem who_l {n : Nat} (hn : 70 < n) {p : Nat} (hp : p < 60) (K : Int32 → jWd → Option (Int32 × jWd)) (w0 : jWd) (h0 : RN A L F W w0) (hS : SLn A L F w0 (A 0)) (V : Nat × Int32) (hK : ∀ m w, frP Pbs w0 w → (if A 249 ≤ m then 4 else 5, -1) = V → ∃ w', K (bI (decide (A 249 ≤ m))) w = some (nI V.1, w') ∧ wI w' 205 30 = V.2 ∧ frP Pbs w0 w') : ∀ c k f m (w : jWd), frP Pbs w0 w → k + c = 4 → c < f → m ≤ 100 → whF A L F (A (163 + p)) (L (480 + p)) c k m = V → ∃ w', lX12_whoseIs_4 n (nI p) K f (bI (decide (A 249 ≤ m))) (nI k) w = some (nI V.1, w') ∧ wI w' 205 30 = V.2 ∧ frP Pbs w0 w' := by
  obtain ⟨b1, b2, b3⟩ := h0.1.1.2.2.2.2.2.2.1
  intro c
  induction c with
  | zero =>
    intro k f m w hw hk hf hm hV
    obtain ⟨f, rfl⟩ : ∃ g, f = g + 1 := ⟨f - 1, by omega⟩
    obtain ⟨w', e1, e2⟩ := hK m w hw hV
    refine ⟨w', ?_, e2⟩
    show bX12_whoseIs_4 n (nI p) K _ (bI (decide (A 249 ≤ m))) (nI k) w = _
    unfold bX12_whoseIs_4
    rw [if_pos (show (4 : Int32) ≤ nI k from nI_le (a := 4) (by omega) (by omega))]
    exact e1
  | succ c ih =>
    intro k f m w hw hk hf hm hV
    obtain ⟨f, rfl⟩ : ∃ g, f = g + 1 := ⟨f - 1, by omega⟩
    have h := RN_fr (frP_mono pbs_s hw) h0
    obtain ⟨w1, e1, e2, e3⟩ := best_M hn h (SLn_fr hw hS) (k := k) (by omega) hp
    have hle := nrS_le (L := L) (F := F) h0.1.1 (k := k) (t := A (163 + p)) (l := L (480 + p))
    have f1 : frP Pbs w0 (sI w1 205 30 (wI w1 205 29)) := frP_trans (frP_trans hw e3) (frP_sI _ _ (.inl ⟨rfl, by decide, by decide⟩))
    have h1 := RN_fr (frP_mono pbs_s f1) h0
    have e48 := RN_A h1 (show 248 < 1124 by decide)
    have e49 := RN_A h1 (show 249 < 1124 by decide)
    have lt : ∀ b : Nat, 1 ≤ b → b ≤ 100 → ((wI w1 205 28 < nI b) ↔ (nrS A L F k (A (163 + p)) (L (480 + p))).1 < b) := by
      intro b hb1 hb2
      by_cases z : (nrS A L F k (A (163 + p)) (L (480 + p))).1 = 0
      · refine ⟨fun _ => by omega, fun _ => ?_⟩
        rcases e2.1 z with y | y
        · rw [y]; exact Int32.lt_of_lt_of_le (by decide) (nI_pos' (by omega))
        · rw [y]; exact nI_lt (by omega) (by omega)
      · rw [(e2.2 z).1]
        exact nI_ltI (by omega) (by omega)
    have step : bX12_whoseIs_4 n (nI p) K (lX12_whoseIs_4 n (nI p) K f) (bI (decide (A 249 ≤ m))) (nI k) w = (if (nrS A L F k (A (163 + p)) (L (480 + p))).1 < A 248 then lX12_whoseIs_4 n (nI p) K f (bI (decide (A 249 ≤ max m (nrS A L F k (A (163 + p)) (L (480 + p))).1))) (nI (k + 1)) (sI w1 205 30 (wI w1 205 29)) else some (nI k, sI w1 205 30 (wI w1 205 29))) := by
      unfold bX12_whoseIs_4
      rw [if_neg (show ¬ (4 : Int32) ≤ nI k from nI_ge (b := 4) (by omega) (by decide)), e1]
      dsimp only [bO, letV]
      rw [e48, e49, ev_wIn _ (by omega), nI_1, ev_bI]
      by_cases q : (nrS A L F k (A (163 + p)) (L (480 + p))).1 < A 248
      · rw [if_pos ((lt _ (by omega) b3).mpr q), if_pos q]
        by_cases z : A 249 ≤ m
        · rw [if_pos z, decide_eq_true (show A 249 ≤ max m (nrS A L F k (A (163 + p)) (L (480 + p))).1 by omega)]; rfl
        · rw [if_neg z]
          by_cases y : (nrS A L F k (A (163 + p)) (L (480 + p))).1 < A 249
          · rw [if_pos ((lt _ b1 (by omega)).mpr y), decide_eq_false (show ¬ A 249 ≤ max m (nrS A L F k (A (163 + p)) (L (480 + p))).1 by omega)]; rfl
          · rw [if_neg (fun u => y ((lt _ b1 (by omega)).mp u)), decide_eq_true (show A 249 ≤ max m (nrS A L F k (A (163 + p)) (L (480 + p))).1 by omega)]; rfl
      · rw [if_neg (fun u => q ((lt _ (by omega) b3).mp u)), if_neg q]
    show ∃ w', bX12_whoseIs_4 n (nI p) K (lX12_whoseIs_4 n (nI p) K f) (bI (decide (A 249 ≤ m))) (nI k) w = _ ∧ _
    rw [step]
    unfold whF at hV
    by_cases q : (nrS A L F k (A (163 + p)) (L (480 + p))).1 < A 248
    · rw [if_neg (by omega)] at hV
      rw [if_pos q]
      exact ih (k + 1) f _ _ f1 (by omega) (by omega) (by omega) hV
    · rw [if_pos (by omega)] at hV
      rw [if_neg q]
      refine ⟨_, by rw [← hV], ?_, f1⟩
      rw [ev_wIs, ← hV, (e2.2 (by omega)).2]
theorem who_M {n : Nat} (hn : 70 < n) (h : RN A L F W w) (hS : SLn A L F w (A 0)) {p : Nat} (hp : p < 60) : ∃ w', fX12_whoseIs n (nI p) w = some (nI (whS A L F p).1, w') ∧ wI w' 205 30 = (whS A L F p).2 ∧ frP Pbs w w' := by
  obtain ⟨b1, b2, b3⟩ := h.1.1.2.2.2.2.2.2.1
  unfold fX12_whoseIs
  have := who_l (n := n) hn hp (fun (z2_12 : Int32) (w_11 : jWd) => letV (sI w_11 205 30 (-1 : Int32)) (fun (w_13 : jWd) => if z2_12 = 0 then some ((5 : Int32), w_13) else some ((4 : Int32), w_13))) w h hS (whS A L F p) (fun m w' hf hV => by
    refine ⟨sI w' 205 30 (-1), ?_, by rw [ev_wIs, ← hV], frP_trans hf (frP_sI _ _ (.inl ⟨rfl, by decide, by decide⟩))⟩
    dsimp only [letV]
    rw [ev_bI, ← hV]
    split <;> rfl) 4 0 n 0 w (frP_refl _ _) rfl (by omega) (by decide) rfl
  rw [decide_eq_false (show ¬ A 249 ≤ 0 by omega)] at this
  exact this
end JDM
