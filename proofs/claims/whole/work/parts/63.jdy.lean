/-! THE JUDGE: whose a line is, in the class; what the reference finds nearest -/
theorem letJE {α β : Type} {J : α → Option β} {f : (α → Option β) → Option β} {x : α} {Q : β → Prop} (h : ∀ J : α → Option β, f J = J x) (h2 : ∃ w', J x = some w' ∧ Q w') : ∃ w', letV J f = some w' ∧ Q w' := by
  obtain ⟨w', e, q⟩ := h2
  exact ⟨w', (h J).trans e, q⟩
section JDY
variable {A : Nat → Nat} {L : Nat → Int64} {F W : Nat → Nat} {w : jWd}
theorem RN_A (h : RN A L F W w) {k : Nat} (hk : k < 1124) : wI w 207 k = nI (A k) := by
  have e := h.2.2.2.1 k hk
  rwa [show 1124 * 0 + k = k by omega] at e
theorem RN_L (h : RN A L F W w) {k : Nat} (hk : k < 784) : wJ w 208 k = L k := by
  have e := h.2.2.2.2.1 k hk
  rwa [show 784 * 0 + k = k by omega] at e
theorem RN_F (h : RN A L F W w) : FM F w := fun k hk => by
  have e := h.2.2.2.2.2.1 k hk
  rwa [show 645 * 0 + k = k by omega] at e
theorem RN_W (h : RN A L F W w) {k : Nat} (hk : k < 29) : wI w 212 k = nI (W k) := by
  have e := h.2.2.2.2.2.2 k hk
  rwa [show 29 * 0 + k = k by omega] at e
theorem RN_9 (h : RN A L F W w) (k : Nat) : A k ≤ 9999 := h.1.1.1 k
theorem hasi_X (h : RN A L F W w) {k g : Nat} (hk : k ≤ 9) (hg : g < gK A k) {i : Nat} (hi : i < 2147483648) : fX5_has_ (pcK k) (nI g) (nI i) w = some (bI (decide (i < cK A k g))) := by
  obtain ⟨q1, q2, q3, q4, q5, q6, -⟩ := pile_X h hk hg
  unfold fX5_has_
  rw [has_N (m := gK A k) (by omega) (by omega) q1, ev_bI, if_pos hg, if_neg (nI_pos hi), grd_N q3 (by omega), nI_clamp (by omega), q5]
  by_cases q : i < cK A k g
  · rw [if_neg (nI_ge q (by omega)), decide_eq_true q]; rfl
  · rw [if_pos (nI_le (by omega) hi), decide_eq_false q]; rfl
theorem at_X (h : RN A L F W w) {k g : Nat} (hk : k ≤ 9) (h2 : k ≠ 2) (hg : g < gK A k) {i : Nat} (hi : i < cK A k g) : fX5_at (pcK k) (nI g) (nI i) w = some (yK A L F k g i) := by
  obtain ⟨q1, q2, q3, q4, q5, q6, q7, q8, q9⟩ := pile_X h hk hg
  obtain ⟨r1, r2, -⟩ := q9 i hi
  rw [if_neg h2] at r2
  unfold fX5_at
  rw [hasi_X h hk hg (by omega)]
  dsimp only [bO]
  rw [ev_bI, if_pos hi, q7, ev_mul, nI_add, grd_N r1 (by omega), nI_clamp (by omega), r2]
theorem pr_at (h : RN A L F W w) {p : Nat} (hp : p < A 162) : fX5_at 16 (0 : Int32) (nI p) w = some (L (480 + p)) := at_X (k := 8) (g := 0) h (by decide) (by decide) (by show 0 < 1; decide) hp
theorem pr_has (h : RN A L F W w) {p : Nat} (hp : p < A 162) : fX5_has_ 16 (0 : Int32) (nI p) w = some (bI true) := by
  have e := hasi_X (k := 8) (g := 0) h (by decide) (by show 0 < 1; decide) (i := p) (by have := h.1.1.2.2.2.1; omega)
  rw [show decide (p < cK A 8 0) = true from decide_eq_true hp] at e
  exact e
/-- whose a line is, and from where -/
def whF (A : Nat → Nat) (L : Nat → Int64) (F : Nat → Nat) (t : Nat) (l : Int64) : Nat → Nat → Nat → Nat × Int32
  | 0, _, m => (if A 249 ≤ m then 4 else 5, -1)
  | c + 1, k, m => if A 248 ≤ (nrS A L F k t l).1 then (k, nI (nrS A L F k t l).2) else whF A L F t l c (k + 1) (max m (nrS A L F k t l).1)
def whS (A : Nat → Nat) (L : Nat → Int64) (F : Nat → Nat) (p : Nat) : Nat × Int32 := whF A L F (A (163 + p)) (L (480 + p)) 4 0 0
theorem whF_le (A : Nat → Nat) (L : Nat → Int64) (F : Nat → Nat) (t : Nat) (l : Int64) : ∀ c k m, k + c = 4 → (whF A L F t l c k m).1 ≤ 5 := by
  intro c
  induction c with
  | zero => intro k m _; unfold whF; dsimp only; split <;> omega
  | succ c ih =>
    intro k m h
    unfold whF
    split
    · show k ≤ 5; omega
    · exact ih _ _ (by omega)
theorem whS_le (A : Nat → Nat) (L : Nat → Int64) (F : Nat → Nat) (p : Nat) : (whS A L F p).1 ≤ 5 := whF_le A L F _ _ 4 0 0 rfl
theorem nrS_le (h : InA A) {k t : Nat} {l : Int64} : (nrS A L F k t l).1 ≤ 100 ∧ (nrS A L F k t l).2 ≤ 9999 := by
  obtain ⟨a0, a1, a2, a3, a4, a5, -⟩ := h
  have hg : gK A k ≤ 40 := by
    unfold gK
    split
    · omega
    · split <;> omega
  refine nrG_le (fun g i => alkN_le _ _) _ _ _ (by omega) (fun j hj => ?_) ⟨by decide, by decide⟩
  unfold gK at hj
  unfold cK
  split
  · omega
  · rename_i h8
    rw [if_neg h8] at hj
    split
    · rename_i h3
      rw [if_pos h3] at hj
      have := a5 j (by omega)
      omega
    · rename_i h3
      rw [if_neg h3] at hj
      have := a2 j (by omega)
      omega
theorem lk_X {n : Nat} (hn : 70 < n) {t : Nat} (ht : t ≤ 9999) {l : Int64} (hl : isC l) (K1 K2 : Int32 → jWd → Option jWd) (V : Nat × Int32) (w0 : jWd) (h0 : RN A L F W w0) (h1 : ∀ m w, frP P182 w0 w → m ≤ 100 → (if A 249 ≤ m then 4 else 5, -1) = V → ∃ w', K1 (nI m) w = some w' ∧ wI w' 182 3 = nI V.1 ∧ wI w' 182 4 = V.2 ∧ frP P182 w0 w') (h2 : ∀ k w, frP P182 w0 w → k < 4 → (k, wI w 182 5) = V → ∃ w', K2 (nI k) w = some w' ∧ wI w' 182 3 = nI V.1 ∧ wI w' 182 4 = V.2 ∧ frP P182 w0 w') : ∀ c k f m (w : jWd), frP P182 w0 w → k + c = 4 → c < f → m ≤ 100 → whF A L F t l c k m = V → ∃ w', lX2_look_52 n l (nI t) K1 K2 f (nI m) (nI k) w = some w' ∧ wI w' 182 3 = nI V.1 ∧ wI w' 182 4 = V.2 ∧ frP P182 w0 w' := by
  intro c
  induction c with
  | zero =>
    intro k f m w hw hk hf hm hV
    obtain ⟨f, rfl⟩ : ∃ g, f = g + 1 := ⟨f - 1, by omega⟩
    obtain ⟨w', e1, e2⟩ := h1 m w hw hm hV
    refine ⟨w', ?_, e2⟩
    show bX2_look_52 n l (nI t) K1 K2 _ (nI m) (nI k) w = _
    unfold bX2_look_52
    rw [if_pos (show (3 : Int32) < nI k from nI_lt (a := 3) (by omega) (by omega))]
    exact e1
  | succ c ih =>
    intro k f m w hw hk hf hm hV
    obtain ⟨f, rfl⟩ : ∃ g, f = g + 1 := ⟨f - 1, by omega⟩
    have h := RN_fr (frP_mono p182_s hw) h0
    obtain ⟨w1, e1, e2, e3⟩ := nr_X (n := n) hn h (k := k) (t := t) (by omega) (by omega) hl (tale := nI t) (fun _ => ⟨rfl, ht⟩)
    have hw1 := frP_trans hw e3
    have hr := RN_fr (frP_mono p182_s hw1) h0
    have hle := nrS_le (L := L) (F := F) h0.1.1 (k := k) (t := t) (l := l)
    obtain ⟨b1, b2, b3⟩ := h0.1.1.2.2.2.2.2.2.1
    have e11 : wI w1 1 11 = nI (A 248) := hr.2.1.2.2.2.2.2.2.2.2.2.2.1
    have step : bX2_look_52 n l (nI t) K1 K2 (lX2_look_52 n l (nI t) K1 K2 f) (nI m) (nI k) w = (if (nrS A L F k t l).1 < A 248 then lX2_look_52 n l (nI t) K1 K2 f (nI (max m (nrS A L F k t l).1)) (nI (k + 1)) w1 else K2 (nI k) w1) := by
      unfold bX2_look_52
      rw [if_neg (show ¬ (3 : Int32) < nI k from nI_nlt (a := 3) (by omega) (by decide)), e1]
      dsimp only [bO2, letV]
      rw [e11, imax_N (by omega) (by omega), nI_1]
      by_cases q : (nrS A L F k t l).1 < A 248
      · rw [if_pos (nI_lt q (by omega)), if_pos q]
      · rw [if_neg (nI_nlt (by omega) (by omega)), if_neg q]
    show ∃ w', bX2_look_52 n l (nI t) K1 K2 (lX2_look_52 n l (nI t) K1 K2 f) (nI m) (nI k) w = _ ∧ _
    rw [step]
    unfold whF at hV
    by_cases q : (nrS A L F k t l).1 < A 248
    · rw [if_neg (by omega)] at hV
      rw [if_pos q]
      exact ih (k + 1) f _ w1 hw1 (by omega) (by omega) (by omega) hV
    · rw [if_pos (by omega)] at hV
      rw [if_neg q]
      refine h2 k w1 hw1 (by omega) ?_
      rw [e2, ← hV]
      unfold plI
      rw [if_neg (by omega)]
theorem look_X {n : Nat} (hn : 70 < n) (h : RN A L F W w) {p : Nat} (hp : p < A 162) : ∃ w', fX2_look n (nI p) w = some w' ∧ wI w' 182 3 = nI (whS A L F p).1 ∧ wI w' 182 4 = (whS A L F p).2 ∧ frP P182 w w' := by
  have h60 := h.1.1.2.2.2.1
  have l21 : ln 21 = 60 := rfl
  obtain ⟨z1, z2⟩ := h.2.1.2.2.1.2.2 p hp
  have z1 : wI w 21 p = nI (A (163 + p)) := z1
  have hC := (h.1.2.2.1.2.2.1 p hp).1
  have hlow : ∀ w', frP P182 w w' → wI w' 1 12 = nI (A 249) := fun w' hf => (RN_fr (frP_mono p182_s hf) h).2.1.2.2.2.2.2.2.2.2.2.2.2
  obtain ⟨b1, b2, b3⟩ := h.1.1.2.2.2.2.2.2.1
  unfold fX2_look
  rw [pr_at h hp]
  dsimp only [bO]
  rw [pr_has h hp]
  dsimp only
  refine letJE (x := nI (A (163 + p))) (fun J => ?_) ?_
  · rw [if_neg (show ¬ bI true = 0 by decide), l21, grd_N (by omega) (by decide), nI_clamp (by omega), z1]
  · exact lk_X (n := n) hn (RN_9 h _) hC _ _ (whS A L F p) w h (fun m w' hf hm hV => by
      refine ⟨sI (sI w' 182 3 (nI (whS A L F p).1)) 182 4 (-1), ?_, by rw [ev_wIn _ (by omega), ev_wIs], by rw [ev_wIs, ← hV], frP_trans hf (frP_trans (frP_sI _ _ ⟨rfl, by decide⟩) (frP_sI _ _ ⟨rfl, by decide⟩))⟩
      dsimp only [letV]
      rw [hlow w' hf, ← hV]
      by_cases q : A 249 ≤ m
      · rw [if_neg (nI_nlt q (by omega)), if_pos q]; rfl
      · rw [if_pos (nI_lt (by omega) (by omega)), if_neg q]; rfl) (fun k w' hf hk hV => by
      refine ⟨sI (sI w' 182 3 (nI (whS A L F p).1)) 182 4 (whS A L F p).2, ?_, by rw [ev_wIn _ (by omega), ev_wIs], by rw [ev_wIs], frP_trans hf (frP_trans (frP_sI _ _ ⟨rfl, by decide⟩) (frP_sI _ _ ⟨rfl, by decide⟩))⟩
      dsimp only [letV]
      rw [← hV, ev_wIn _ (by omega)]) 4 0 n 0 w (frP_refl _ _) rfl (by omega) (by decide) rfl
/-! the reference -/
theorem early_M (h : RN A L F W w) {i : Nat} (hi : i < 40) : fX12_isEarly (nI i) w = some (bI (decide (A (81 + i) ≤ A 161))) := by
  have a1 := RN_9 h (81 + i)
  have a2 := RN_9 h 161
  have l7 : ln 207 = 3372 := rfl
  unfold fX12_isEarly
  rw [show (81 : Int32) + nI i = nI (81 + i) from nI_add 81 i, l7, grd_N (by omega) (by decide), nI_clamp (by omega), RN_A h (show 161 < 1124 by decide), RN_A h (show 81 + i < 1124 by omega)]
  by_cases q : A (81 + i) ≤ A 161
  · rw [if_neg (nI_nlt q (by omega)), decide_eq_true q]; rfl
  · rw [if_pos (nI_lt (by omega) (by omega)), decide_eq_false q]; rfl
def Psl (c k : Nat) : Prop := Psm c k ∨ c = 218
theorem psl_s : ∀ c k, Psl c k → Scr c k := fun c k h => by unfold Psl Psm at h; unfold Scr; omega
/-- early songs' lines, smoothed, lie in the reference's row -/
def SLn (A : Nat → Nat) (L : Nat → Int64) (F : Nat → Nat) (w : jWd) (s : Nat) : Prop := ∀ i k, i < s → A (81 + i) ≤ A 161 → k < A (121 + i) → wJ w 218 (12 * i + k) = smS F (A (1 + i)) (L (12 * i + k))
theorem sl_in {n : Nat} (hn : 201 < n) {s : Nat} (K : jWd → Option jWd) : ∀ c k f (w : jWd), RN A L F W w → s < A 0 → k + c = A (121 + s) → A (81 + s) ≤ A 161 → c < f → SLn A L F w s → (∀ j, j < k → wJ w 218 (12 * s + j) = smS F (A (1 + s)) (L (12 * s + j))) → ∃ w', lX12_smooths_14 n (nI s) K f (nI k) w = K w' ∧ SLn A L F w' (s + 1) ∧ frP Psl w w' := by
  intro c
  induction c with
  | zero =>
    intro k f w h hs hk he hf h1 h2
    obtain ⟨f, rfl⟩ : ∃ g, f = g + 1 := ⟨f - 1, by omega⟩
    have h40 := h.1.1.2.1
    have h12 := h.1.1.2.2.1 s (by omega)
    refine ⟨w, ?_, fun i j hi hei hj => ?_, frP_refl _ _⟩
    · show bX12_smooths_14 n (nI s) K _ (nI k) w = _
      have l7 : ln 207 = 3372 := rfl
      unfold bX12_smooths_14
      rw [show (121 : Int32) + nI s = nI (121 + s) from nI_add 121 s, l7, grd_N (by omega) (by decide), nI_clamp (by omega), RN_A h (show 121 + s < 1124 by omega), if_pos (nI_le (by omega) (by omega))]
    · by_cases e : i = s
      · subst e; exact h2 j (by omega)
      · exact h1 i j (by omega) hei hj
  | succ c ih =>
    intro k f w h hs hk he hf h1 h2
    obtain ⟨f, rfl⟩ : ∃ g, f = g + 1 := ⟨f - 1, by omega⟩
    have h40 := h.1.1.2.1
    have h12 := h.1.1.2.2.1 s (by omega)
    have h9 := RN_9 h (1 + s)
    have l7 : ln 207 = 3372 := rfl
    have l8 : ln 208 = 2352 := rfl
    have l18 : ln 218 = 480 := rfl
    obtain ⟨w1, e1, e2⟩ := sm_M (n := n) hn h.1.2.2.2.1 (t := A (1 + s)) (by omega) (L (12 * s + k)) (RN_F h)
    have hC := (h.1.2.2.1.1 s k hs (by omega)).1
    rw [cln_id hC] at e1
    have f1 : frP Psl w (sJ w1 218 (12 * s + k) (smS F (A (1 + s)) (L (12 * s + k)))) := frP_trans (frP_mono (fun _ _ q => .inl q) e2) (frP_sJ _ _ (.inr rfl))
    have hJ : ∀ j, wJ w1 218 j = wJ w 218 j := fun j => frP_J e2 (by unfold Psm; omega)
    obtain ⟨w2, i1, i2, i3⟩ := ih (k + 1) f _ (RN_fr (frP_mono psl_s f1) h) hs (by omega) he (by omega) (fun i j hi hei hj => by
      rw [ev_wJn _ (by have := h.1.1.2.2.1 i (by omega); omega), hJ]
      exact h1 i j hi hei hj) (fun j hj => by
      by_cases e : j = k
      · subst e; rw [ev_wJs]
      · rw [ev_wJn _ (by omega), hJ]
        exact h2 j (by omega))
    refine ⟨w2, ?_, i2, frP_trans f1 i3⟩
    show bX12_smooths_14 n (nI s) K (lX12_smooths_14 n (nI s) K f) (nI k) w = _
    have e12 : (12 : Int32) * nI s + nI k = nI (12 * s + k) := by rw [show (12 : Int32) = nI 12 from rfl, ev_mul, nI_add]
    unfold bX12_smooths_14
    rw [show (121 : Int32) + nI s = nI (121 + s) from nI_add 121 s, l7, grd_N (by omega) (by decide), nI_clamp (by omega), RN_A h (show 121 + s < 1124 by omega), if_neg (nI_ge (by omega) (by omega)), early_M h (by omega), e12, l8, l18, show (1 : Int32) + nI s = nI (1 + s) from nI_add 1 s]
    dsimp only [bO]
    rw [ev_bI, if_pos he, grd_N (by omega) (by decide), grd_N (by omega) (by decide), nI_clamp (by omega), nI_clamp (by omega), RN_L h (by omega), RN_A h (by omega), e1]
    dsimp only [bO2, letV]
    rw [grd_N (by omega) (by decide), nI_1]
    exact i1
theorem sl_all {n : Nat} (hn : 201 < n) : ∀ c s f (w : jWd), RN A L F W w → s + c = A 0 → c < f → SLn A L F w s → ∃ w', lX12_smooths_2 n f (nI s) w = some w' ∧ SLn A L F w' (A 0) ∧ frP Psl w w' := by
  intro c
  induction c with
  | zero =>
    intro s f w h hs hf h1
    obtain ⟨f, rfl⟩ : ∃ g, f = g + 1 := ⟨f - 1, by omega⟩
    have h40 := h.1.1.2.1
    refine ⟨w, ?_, by rw [show A 0 = s by omega]; exact h1, frP_refl _ _⟩
    show bX12_smooths_2 n _ (nI s) w = _
    unfold bX12_smooths_2
    rw [RN_A h (show 0 < 1124 by decide), if_pos (nI_le (by omega) (by omega))]
  | succ c ih =>
    intro s f w h hs hf h1
    obtain ⟨f, rfl⟩ : ∃ g, f = g + 1 := ⟨f - 1, by omega⟩
    have h40 := h.1.1.2.1
    have h12 := h.1.1.2.2.1 s (by omega)
    have step : ∀ R, lX12_smooths_14 n (nI s) (fun (w_14 : jWd) => lX12_smooths_2 n f (nI (s + 1)) w_14) n (nI 0) w = R → lX12_smooths_2 n (f + 1) (nI s) w = R := by
      intro R hR
      rw [← hR]
      show bX12_smooths_2 n (lX12_smooths_2 n f) (nI s) w = _
      unfold bX12_smooths_2
      rw [RN_A h (show 0 < 1124 by decide), if_neg (nI_ge (by omega) (by omega))]
      dsimp only [letV]
      rw [nI_1]
      rfl
    by_cases he : A (81 + s) ≤ A 161
    · obtain ⟨w1, e1, e2, e3⟩ := sl_in hn (s := s) (fun (w_14 : jWd) => lX12_smooths_2 n f (nI (s + 1)) w_14) (A (121 + s)) 0 n w h (by omega) (by omega) he (by omega) h1 (fun j hj => absurd hj (Nat.not_lt_zero j))
      obtain ⟨w2, i1, i2, i3⟩ := ih (s + 1) f w1 (RN_fr (frP_mono psl_s e3) h) (by omega) (by omega) e2
      exact ⟨w2, step _ (e1.trans i1), i2, frP_trans e3 i3⟩
    · obtain ⟨w2, i1, i2, i3⟩ := ih (s + 1) f w h (by omega) (by omega) (fun i j hi hei hj => by
        by_cases e : i = s
        · subst e; exact absurd hei he
        · exact h1 i j (by omega) hei hj)
      refine ⟨w2, step _ (Eq.trans ?_ i1), i2, i3⟩
      obtain ⟨m, rfl⟩ : ∃ g, n = g + 1 := ⟨n - 1, by omega⟩
      show bX12_smooths_14 (m + 1) (nI s) _ _ (nI 0) w = _
      have l7 : ln 207 = 3372 := rfl
      unfold bX12_smooths_14
      rw [show (121 : Int32) + nI s = nI (121 + s) from nI_add 121 s, l7, grd_N (by omega) (by decide), nI_clamp (by omega), RN_A h (show 121 + s < 1124 by omega), early_M h (by omega)]
      dsimp only [bO]
      rw [ev_bI, if_neg he]
      split <;> rfl
theorem smooths_M {n : Nat} (hn : 201 < n) (h : RN A L F W w) : ∃ w', fX12_smooths n w = some w' ∧ SLn A L F w' (A 0) ∧ frP Psl w w' :=
  sl_all hn (A 0) 0 n w h (by omega) (by have := h.1.1.2.1; omega) (fun i j hi => absurd hi (Nat.not_lt_zero i))
end JDY
