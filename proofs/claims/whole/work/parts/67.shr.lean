/-! share, span, say -/
/-- an array of ints filled -/
theorem fill_l {n : Nat} {p : Nat} {v : Int32} (hp : ln p < 2147483648) : ∀ c i f (w : jWd), i + c = ln p → c < f → (∀ j, j < i → wI w p j = v) → ∃ w', lJ7_fill_53178_5 n p v (nI (ln p)) f (nI i) w = some w' ∧ (∀ j, j < ln p → wI w' p j = v) ∧ frP (fun c k => c = p ∧ k < ln p) w w' := by
  intro c
  induction c with
  | zero =>
    intro i f w hi hf h
    obtain ⟨f, rfl⟩ : ∃ g, f = g + 1 := ⟨f - 1, by omega⟩
    refine ⟨w, ?_, fun j hj => h j (by omega), frP_refl _ _⟩
    show bJ7_fill_53178_5 n p v (nI (ln p)) _ (nI i) w = _
    unfold bJ7_fill_53178_5
    rw [if_pos (nI_le (by omega) (by omega))]
  | succ c ih =>
    intro i f w hi hf h
    obtain ⟨f, rfl⟩ : ∃ g, f = g + 1 := ⟨f - 1, by omega⟩
    obtain ⟨w', e1, e2, e3⟩ := ih (i + 1) f (sI w p i v) (by omega) (by omega) (fun j hj => by
      by_cases e : j = i
      · subst e; rw [ev_wIs]
      · rw [ev_wIn _ (by omega), h j (by omega)])
    refine ⟨w', ?_, e2, frP_trans (frP_sI w v ⟨rfl, by omega⟩) e3⟩
    show bJ7_fill_53178_5 n p v (nI (ln p)) (lJ7_fill_53178_5 n p v (nI (ln p)) f) (nI i) w = _
    unfold bJ7_fill_53178_5 letV
    rw [if_neg (nI_ge (by omega) (by omega)), grd_N (by omega) (by omega), nI_clamp (by omega), nI_1]
    exact e1
theorem fill_X {n p : Nat} (hp : ln p < n) (h2 : ln p < 2147483648) (v : Int32) (w : jWd) : ∃ w', fJ7_fill_53178 n p v w = some w' ∧ (∀ j, j < ln p → wI w' p j = v) ∧ frP (fun c k => c = p ∧ k < ln p) w w' :=
  fill_l h2 (ln p) 0 n w (by omega) hp (fun j hj => absurd hj (Nat.not_lt_zero j))
section SHR
variable {A : Nat → Nat} {L : Nat → Int64} {F W : Nat → Nat} {w : jWd}
def kcS (A : Nat → Nat) (L : Nat → Int64) (F : Nat → Nat) (k : Nat) : Nat → Nat
  | 0 => 0
  | p + 1 => kcS A L F k p + if (whS A L F p).1 = k then 1 else 0
theorem kcS_s (A : Nat → Nat) (L : Nat → Int64) (F : Nat → Nat) (k p : Nat) : kcS A L F k (p + 1) = kcS A L F k p + if (whS A L F p).1 = k then 1 else 0 := rfl
theorem kcS_le (k p : Nat) : kcS A L F k p ≤ p := by
  induction p with
  | zero => exact Nat.le_refl _
  | succ p ih => unfold kcS; split <;> omega
theorem kc_l {n : Nat} (hn : 70 < n) : ∀ c p f (w : jWd), RN A L F W w → p + c = A 162 → c < f → (∀ k, k < 6 → wI w 184 k = nI (kcS A L F k p)) → ∃ w', lX2_countKinds_10 n f (nI p) w = some w' ∧ (∀ k, k < 6 → wI w' 184 k = nI (kcS A L F k (A 162))) ∧ frS w w' := by
  intro c
  induction c with
  | zero =>
    intro p f w h hp hf h1
    obtain ⟨f, rfl⟩ : ∃ g, f = g + 1 := ⟨f - 1, by omega⟩
    have h60 := h.1.1.2.2.2.1
    have e20 : wI w 20 0 = nI (A 162) := h.2.1.2.2.1.2.1
    refine ⟨w, ?_, fun k hk => by rw [h1 k hk, show p = A 162 by omega], frP_refl _ _⟩
    show bX2_countKinds_10 n _ (nI p) w = _
    unfold bX2_countKinds_10
    rw [e20, if_pos (nI_le (by omega) (by omega))]
  | succ c ih =>
    intro p f w h hp hf h1
    obtain ⟨f, rfl⟩ : ∃ g, f = g + 1 := ⟨f - 1, by omega⟩
    have h60 := h.1.1.2.2.2.1
    have e20 : wI w 20 0 = nI (A 162) := h.2.1.2.2.1.2.1
    obtain ⟨w1, a1, a2, a3, a4⟩ := look_X hn h (show p < A 162 by omega)
    have hK := whS_le A L F p
    have l184 : ln 184 = 6 := rfl
    have h184 : ∀ k, k < 6 → wI w1 184 k = nI (kcS A L F k p) := fun k hk => by rw [frP_I a4 (show ¬ P182 184 k by unfold P182; omega), h1 k hk]
    have f1 : frS w (sI w1 184 (whS A L F p).1 (nI (kcS A L F (whS A L F p).1 p + 1))) := frP_trans (frP_mono p182_s a4) (frP_sI _ _ (by unfold Scr; omega))
    obtain ⟨w2, i1, i2, i3⟩ := ih (p + 1) f _ (RN_fr f1 h) (by omega) (by omega) (fun k hk => by
      rw [kcS_s]
      by_cases e : (whS A L F p).1 = k
      · subst e; rw [ev_wIs, if_pos rfl]
      · rw [ev_wIn _ (by omega), if_neg e, h184 k hk]; rfl)
    refine ⟨w2, ?_, i2, frP_trans f1 i3⟩
    show bX2_countKinds_10 n (lX2_countKinds_10 n f) (nI p) w = _
    unfold bX2_countKinds_10
    rw [e20, if_neg (nI_ge (by omega) (by omega)), a1]
    dsimp only [bO, letV]
    rw [a2, if_neg (nI_pos (by omega)), if_neg (show ¬ (6 : Int32) ≤ nI (whS A L F p).1 from nI_ge (b := 6) (by omega) (by decide)), l184, grd_N (by omega) (by decide), grd_N (by omega) (by decide), nI_clamp (by omega), h184 _ (by omega), nI_1, nI_1]
    exact i1
theorem kinds_X {n : Nat} (hn : 70 < n) (h : RN A L F W w) : ∃ w', fX2_countKinds n w = some w' ∧ (∀ k, k < 6 → wI w' 184 k = nI (kcS A L F k (A 162))) ∧ frS w w' := by
  have l184 : ln 184 = 6 := rfl
  obtain ⟨w1, a1, a2, a3⟩ := fill_X (n := n) (p := 184) (by rw [l184]; omega) (by rw [l184]; decide) (0 : Int32) w
  have f1 : frS w w1 := frP_mono (fun c k q => by unfold Scr; omega) a3
  obtain ⟨w2, i1, i2, i3⟩ := kc_l hn (A 162) 0 n w1 (RN_fr f1 h) (by omega) (by have := h.1.1.2.2.2.1; omega) (fun k hk => a2 k (by rw [l184]; exact hk))
  refine ⟨w2, ?_, i2, frP_trans f1 i3⟩
  unfold fX2_countKinds
  rw [a1]
  exact i1
theorem kz_M {n : Nat} (K : jWd → Option jWd) : ∀ c i f (w : jWd), i + c = 6 → c < f → (∀ j, j < i → wI w 219 j = nI 0) → ∃ w', lX12_counts_6 n K f (nI i) w = K w' ∧ (∀ j, j < 6 → wI w' 219 j = nI 0) ∧ frP (fun c _ => c = 219) w w' := by
  have l219 : ln 219 = 6 := rfl
  intro c
  induction c with
  | zero =>
    intro i f w hi hf h
    obtain ⟨f, rfl⟩ : ∃ g, f = g + 1 := ⟨f - 1, by omega⟩
    refine ⟨w, ?_, fun j hj => h j (by omega), frP_refl _ _⟩
    show bX12_counts_6 n K _ (nI i) w = _
    unfold bX12_counts_6
    rw [if_pos (show (6 : Int32) ≤ nI i from nI_le (a := 6) (by omega) (by omega))]
  | succ c ih =>
    intro i f w hi hf h
    obtain ⟨f, rfl⟩ : ∃ g, f = g + 1 := ⟨f - 1, by omega⟩
    obtain ⟨w', e1, e2, e3⟩ := ih (i + 1) f (sI w 219 i (nI 0)) (by omega) (by omega) (fun j hj => by
      by_cases e : j = i
      · subst e; rw [ev_wIs]
      · rw [ev_wIn _ (by omega), h j (by omega)])
    refine ⟨w', ?_, e2, frP_trans (frP_sI w _ rfl) e3⟩
    show bX12_counts_6 n K (lX12_counts_6 n K f) (nI i) w = _
    unfold bX12_counts_6 letV
    rw [if_neg (show ¬ (6 : Int32) ≤ nI i from nI_ge (b := 6) (by omega) (by decide)), l219, grd_N (by omega) (by decide), nI_clamp (by omega), nI_1]
    exact e1
theorem km_l {n : Nat} (hn : 70 < n) : ∀ c p f (w : jWd), RN A L F W w → SLn A L F w (A 0) → p + c = A 162 → c < f → (∀ k, k < 6 → wI w 219 k = nI (kcS A L F k p)) → ∃ w', lX12_counts_27 n f (nI p) w = some w' ∧ (∀ k, k < 6 → wI w' 219 k = nI (kcS A L F k (A 162))) ∧ frS w w' := by
  intro c
  induction c with
  | zero =>
    intro p f w h hS hp hf h1
    obtain ⟨f, rfl⟩ : ∃ g, f = g + 1 := ⟨f - 1, by omega⟩
    have h60 := h.1.1.2.2.2.1
    refine ⟨w, ?_, fun k hk => by rw [h1 k hk, show p = A 162 by omega], frP_refl _ _⟩
    show bX12_counts_27 n _ (nI p) w = _
    unfold bX12_counts_27
    rw [RN_A h (show 162 < 1124 by decide), if_pos (nI_le (by omega) (by omega))]
  | succ c ih =>
    intro p f w h hS hp hf h1
    obtain ⟨f, rfl⟩ : ∃ g, f = g + 1 := ⟨f - 1, by omega⟩
    have h60 := h.1.1.2.2.2.1
    obtain ⟨w1, a1, a2, a3⟩ := who_M hn h hS (show p < 60 by omega)
    have hK := whS_le A L F p
    have l219 : ln 219 = 6 := rfl
    have h219 : ∀ k, k < 6 → wI w1 219 k = nI (kcS A L F k p) := fun k hk => by rw [frP_I a3 (show ¬ Pbs 219 k by unfold Pbs; omega), h1 k hk]
    have f1 : frS w (sI w1 219 (whS A L F p).1 (nI (kcS A L F (whS A L F p).1 p + 1))) := frP_trans (frP_mono pbs_s a3) (frP_sI _ _ (by unfold Scr; omega))
    have hS1 : SLn A L F (sI w1 219 (whS A L F p).1 (nI (kcS A L F (whS A L F p).1 p + 1))) (A 0) := fun i k q1 q2 q3 => by
      rw [wJ_sI]
      exact SLn_fr a3 hS i k q1 q2 q3
    obtain ⟨w2, i1, i2, i3⟩ := ih (p + 1) f _ (RN_fr f1 h) hS1 (by omega) (by omega) (fun k hk => by
      rw [kcS_s]
      by_cases e : (whS A L F p).1 = k
      · subst e; rw [ev_wIs, if_pos rfl]
      · rw [ev_wIn _ (by omega), if_neg e, h219 k hk]; rfl)
    refine ⟨w2, ?_, i2, frP_trans f1 i3⟩
    show bX12_counts_27 n (lX12_counts_27 n f) (nI p) w = _
    unfold bX12_counts_27
    rw [RN_A h (show 162 < 1124 by decide), if_neg (nI_ge (by omega) (by omega)), a1]
    dsimp only [bO2, letV]
    rw [l219, grd_N (by omega) (by decide), grd_N (by omega) (by decide), nI_clamp (by omega), h219 _ (by omega), nI_1, nI_1]
    exact i1
theorem kinds_M {n : Nat} (hn : 201 < n) (h : RN A L F W w) : ∃ w', fX12_counts n w = some w' ∧ (∀ k, k < 6 → wI w' 219 k = nI (kcS A L F k (A 162))) ∧ frS w w' := by
  obtain ⟨w1, a1, a2, a3⟩ := smooths_M (n := n) hn h
  have f1 := frP_mono psl_s a3
  have h60 := h.1.1.2.2.2.1
  obtain ⟨w2, b1, b2, b3⟩ := kz_M (n := n) (fun (w_8 : jWd) => lX12_counts_27 n n (0 : Int32) w_8) 6 0 n w1 rfl (by omega) (fun j hj => absurd hj (Nat.not_lt_zero j))
  have f2 : frS w w2 := frP_trans f1 (frP_mono (fun c k q => by unfold Scr; omega) b3)
  have hS2 : SLn A L F w2 (A 0) := fun i k q1 q2 q3 => by
    rw [frP_J b3 (by omega)]
    exact a2 i k q1 q2 q3
  obtain ⟨w3, i1, i2, i3⟩ := km_l (n := n) (by omega) (A 162) 0 n w2 (RN_fr f2 h) hS2 (by omega) (by omega) (fun k hk => b2 k hk)
  refine ⟨w3, ?_, i2, frP_trans f2 i3⟩
  unfold fX12_counts
  rw [a1]
  exact b1.trans i1
end SHR
theorem s_share : fS_share RR := by
  intro w a0 a1 hw
  obtain ⟨⟨A, L, F, W, h⟩, -⟩ := id hw
  have h60 := h.1.1.2.2.2.1
  have e20 : wI w 20 0 = nI (A 162) := h.2.1.2.2.1.2.1
  have l184 : ln 184 = 6 := rfl
  have l219 : ln 219 = 6 := rfl
  refine ⟨20000, rr_call hw ?_⟩
  have hM : ∀ w1, frS2 w w1 → RN A L F W (sI w1 205 0 (0 : Int32)) := fun w1 f1 => RN_fr2 (frP_trans f1 (frS_2 (frS_0 w1))) h
  rcases wi_cs a0 0 5 (a := 0) (b := 5) rfl rfl (by decide) (by decide) with ⟨h1, h2⟩ | ⟨k, _, hk, rfl, h1, h2⟩
  · refine .inr ⟨-2, 2, by decide, by decide, ⟨w, ?_, frP_refl _ _⟩, fun w1 f1 => ⟨sI w1 205 0 (0 : Int32), ?_, frS_0 w1⟩⟩
    · unfold fX11_share letV
      dsimp only
      rw [rx_id2, if_pos h1]
    · unfold fX12_share letV
      dsimp only
      rw [no_id2, if_pos h2]
  rcases hf_cs a1 with hh | ⟨u, hu, rfl, hu1, hu2⟩
  · refine .inr ⟨-2, 2, by decide, by decide, ⟨w, ?_, frP_refl _ _⟩, fun w1 f1 => ⟨sI w1 205 0 (0 : Int32), ?_, frS_0 w1⟩⟩
    · unfold fX11_share letV
      dsimp only
      rw [rx_id2, if_neg h1, if_pos hh.1]
    · unfold fX12_share letV
      dsimp only
      rw [no_id2, if_neg h2, if_pos hh.2]
  by_cases hz : A 162 = 0
  · refine .inr ⟨-5, 5, by decide, by decide, ⟨w, ?_, frP_refl _ _⟩, fun w1 f1 => ⟨sI w1 205 0 (0 : Int32), ?_, frS_0 w1⟩⟩
    · unfold fX11_share letV
      dsimp only
      rw [if_neg h1, hu1, if_neg (by decide), e20, if_pos (by rw [hz]; rfl), rx_id5]
    · unfold fX12_share letV
      dsimp only
      rw [if_neg h2, if_neg hu2, RN_A (hM w1 f1) (show 162 < 1124 by decide), if_pos (by rw [hz]; rfl), no_id5]
  · have hne : ¬ nI (A 162) = 0 := fun q => hz ((nI_z (by omega)).mp q)
    left
    refine ⟨if u = 0 then nI (kcS A L F k (A 162)) else (1000 : Int32) * nI (kcS A L F k (A 162)) / nI (A 162), ?_, fun w1 f1 => ?_⟩
    · obtain ⟨w', e1, e2, e3⟩ := kinds_X (n := 20000) (by decide) h
      refine ⟨w', ?_, e3⟩
      unfold fX11_share letV
      dsimp only
      rw [if_neg h1, hu1, if_neg (by decide), e20, if_neg hne, e1]
      dsimp only [bO]
      rw [l184, grd_N (by omega) (by decide), nI_clamp (by omega), e2 k (by omega)]
      rcases (show u = 0 ∨ u = 1 by omega) with e | e <;> subst e
      · rfl
      · rw [if_neg (by decide), if_neg (by decide)]
        unfold grzi
        rw [if_neg hne]
    · obtain ⟨w', e1, e2, e3⟩ := kinds_M (n := 20000) (by decide) (hM w1 f1)
      have h3 := RN_fr e3 (hM w1 f1)
      refine ⟨w', ?_, frP_trans (frS_0 w1) e3⟩
      unfold fX12_share letV
      dsimp only
      rw [if_neg h2, if_neg hu2, RN_A (hM w1 f1) (show 162 < 1124 by decide), if_neg hne, e1]
      dsimp only [bO]
      rw [l219, grd_N (by omega) (by decide), grd_N (by omega) (by decide), nI_clamp (by omega), e2 k (by omega), RN_A h3 (show 162 < 1124 by decide)]
      rcases (show u = 0 ∨ u = 1 by omega) with e | e <;> subst e
      · rfl
      · rw [if_neg (by decide), if_neg (by decide)]
        unfold grzi
        rw [if_neg hne]
theorem s_span : fS_span RR := by
  intro w a1 hw
  obtain ⟨⟨A, L, F, W, h⟩, -⟩ := id hw
  have h60 := h.1.1.2.2.2.1
  have e20 : wI w 20 0 = nI (A 162) := h.2.1.2.2.1.2.1
  refine ⟨20000, rr_call hw ?_⟩
  have hM : ∀ w1, frS2 w w1 → RN A L F W (sI w1 205 0 (0 : Int32)) := fun w1 f1 => RN_fr2 (frP_trans f1 (frS_2 (frS_0 w1))) h
  rcases hf_cs a1 with hh | ⟨u, hu, rfl, hu1, hu2⟩
  · refine .inr ⟨-2, 2, by decide, by decide, ⟨w, ?_, frP_refl _ _⟩, fun w1 f1 => ⟨sI w1 205 0 (0 : Int32), ?_, frS_0 w1⟩⟩
    · unfold fX11_span
      rw [if_pos hh.1, rx_id2]
    · unfold fX12_span letV
      dsimp only
      rw [no_id2, if_pos hh.2]
  by_cases hz : A 162 = 0
  · refine .inr ⟨-5, 5, by decide, by decide, ⟨w, ?_, frP_refl _ _⟩, fun w1 f1 => ⟨sI w1 205 0 (0 : Int32), ?_, frS_0 w1⟩⟩
    · unfold fX11_span letV
      dsimp only
      rw [hu1, if_neg (by decide), e20, if_pos (by rw [hz]; rfl), rx_id5]
    · unfold fX12_span letV
      dsimp only
      rw [if_neg hu2, RN_A (hM w1 f1) (show 162 < 1124 by decide), if_pos (by rw [hz]; rfl), no_id5]
  · have hne : ¬ nI (A 162) = 0 := fun q => hz ((nI_z (by omega)).mp q)
    left
    refine ⟨(1000 : Int32) * (nI (kcS A L F 0 (A 162)) + nI (kcS A L F 1 (A 162)) + nI (kcS A L F 2 (A 162)) + nI (if u = 1 then kcS A L F 4 (A 162) else 0)) / nI (A 162), ?_, fun w1 f1 => ?_⟩
    · obtain ⟨w', e1, e2, e3⟩ := kinds_X (n := 20000) (by decide) h
      refine ⟨w', ?_, e3⟩
      unfold fX11_span letV
      dsimp only
      rw [hu1, if_neg (by decide), e20, if_neg hne, e1]
      dsimp only [bO]
      rw [e2 0 (by decide), e2 1 (by decide), e2 2 (by decide), e2 4 (by decide)]
      rcases (show u = 0 ∨ u = 1 by omega) with e | e <;> subst e
      · rw [if_neg (by decide), if_neg (by decide)]
        unfold grzi
        rw [if_neg hne, show nI 0 = (0 : Int32) from rfl, Int32.add_zero]
      · rw [if_pos (by decide), if_pos (by decide)]
        unfold grzi
        rw [if_neg hne]
    · obtain ⟨w', e1, e2, e3⟩ := kinds_M (n := 20000) (by decide) (hM w1 f1)
      have h3 := RN_fr e3 (hM w1 f1)
      refine ⟨w', ?_, frP_trans (frS_0 w1) e3⟩
      unfold fX12_span letV
      dsimp only
      rw [if_neg hu2, RN_A (hM w1 f1) (show 162 < 1124 by decide), if_neg hne, e1]
      dsimp only [bO]
      rw [e2 0 (by decide), e2 1 (by decide), e2 2 (by decide), e2 4 (by decide), RN_A h3 (show 162 < 1124 by decide)]
      rcases (show u = 0 ∨ u = 1 by omega) with e | e <;> subst e
      · rw [if_neg (by decide), if_neg (by decide)]
        unfold grzi
        rw [if_neg hne]
        rfl
      · rw [if_pos (by decide), if_pos (by decide)]
        unfold grzi
        rw [if_neg hne]
section SAY
variable {A : Nat → Nat} {L : Nat → Int64} {F W : Nat → Nat} {w : jWd}
def anE (A : Nat → Nat) : Nat → Nat → Bool
  | 0, _ => false
  | c + 1, s => if A (81 + s) ≤ A 161 then true else anE A c (s + 1)
theorem he_X {n : Nat} (h : RN A L F W w) : ∀ c s f, s + c = A 0 → c < f → lX8_hasEarly_2 n 1 w f (nI s) = some (bI (anE A c s)) := by
  have h40 := h.1.1.2.1
  have e0 : wI w (1 + 1) 2 = nI (A 0) := h.2.1.1.1
  intro c
  induction c with
  | zero =>
    intro s f hs hf
    obtain ⟨f, rfl⟩ : ∃ g, f = g + 1 := ⟨f - 1, by omega⟩
    show bX8_hasEarly_2 n 1 w _ (nI s) = _
    unfold bX8_hasEarly_2
    rw [e0, if_pos (nI_le (by omega) (by omega))]
    rfl
  | succ c ih =>
    intro s f hs hf
    obtain ⟨f, rfl⟩ : ∃ g, f = g + 1 := ⟨f - 1, by omega⟩
    show bX8_hasEarly_2 n 1 w (lX8_hasEarly_2 n 1 w f) (nI s) = _
    unfold bX8_hasEarly_2 anE
    rw [e0, if_neg (nI_ge (by omega) (by omega)), early_X h (by omega)]
    dsimp only [bO, letV]
    rw [ev_bI, nI_1]
    by_cases q : A (81 + s) ≤ A 161
    · rw [if_pos q, if_pos q]; rfl
    · rw [if_neg q, if_neg q]; exact ih (s + 1) f (by omega) (by omega)
theorem ae_M {n : Nat} (h : RN A L F W w) : ∀ c s f, s + c = A 0 → c < f → lX12_isAnyEarly_4 n w f (1 : Int32) (nI s) = some (bI true) ∧ lX12_isAnyEarly_4 n w f (0 : Int32) (nI s) = some (bI (anE A c s)) := by
  have h40 := h.1.1.2.1
  intro c
  induction c with
  | zero =>
    intro s f hs hf
    obtain ⟨f, rfl⟩ : ∃ g, f = g + 1 := ⟨f - 1, by omega⟩
    have e : ∀ b : Bool, bX12_isAnyEarly_4 n w (lX12_isAnyEarly_4 n w f) (bI b) (nI s) = some (bI b) := fun b => by
      unfold bX12_isAnyEarly_4
      rw [RN_A h (show 0 < 1124 by decide), if_pos (nI_le (by omega) (by omega)), bI_and]
    exact ⟨e true, e false⟩
  | succ c ih =>
    intro s f hs hf
    obtain ⟨f, rfl⟩ : ∃ g, f = g + 1 := ⟨f - 1, by omega⟩
    obtain ⟨i1, i2⟩ := ih (s + 1) f (by omega) (by omega)
    constructor
    · show bX12_isAnyEarly_4 n w (lX12_isAnyEarly_4 n w f) (1 : Int32) (nI s) = _
      unfold bX12_isAnyEarly_4 letV
      rw [RN_A h (show 0 < 1124 by decide), if_neg (nI_ge (by omega) (by omega)), if_neg (by decide), nI_1]
      exact i1
    · show bX12_isAnyEarly_4 n w (lX12_isAnyEarly_4 n w f) (0 : Int32) (nI s) = _
      unfold bX12_isAnyEarly_4 anE
      rw [RN_A h (show 0 < 1124 by decide), if_neg (nI_ge (by omega) (by omega)), if_pos rfl, early_M h (by omega)]
      dsimp only [bO, letV]
      rw [ev_bI, nI_1]
      by_cases q : A (81 + s) ≤ A 161
      · rw [if_pos q, if_pos q]; exact i1
      · rw [if_neg q, if_neg q]; exact i2
theorem hasE_X {n : Nat} (hn : 50 < n) (h : RN A L F W w) : fX8_hasEarly n 1 w = some (bI (anE A (A 0) 0)) := he_X h (A 0) 0 n (by omega) (by have := h.1.1.2.1; omega)
theorem anyE_M {n : Nat} (hn : 50 < n) (h : RN A L F W w) : fX12_isAnyEarly n w = some (bI (anE A (A 0) 0)) := (ae_M h (A 0) 0 n (by omega) (by have := h.1.1.2.1; omega)).2
end SAY
theorem s_say : fS_say RR := by
  intro w a0 hw
  obtain ⟨⟨A, L, F, W, h⟩, -⟩ := id hw
  have h60 := h.1.1.2.2.2.1
  have h12 := h.1.1.2.2.2.2.1
  have l8 : ln 208 = 2352 := rfl
  obtain ⟨b1, b2, b3⟩ := h.1.1.2.2.2.2.2.2.1
  have e9 : wI w 9 2 = nI (A 223) := h.2.1.2.1.1
  refine ⟨20000, rr_call hw ?_⟩
  have hM : ∀ w1, frS2 w w1 → RN A L F W (sI w1 205 0 (0 : Int32)) := fun w1 f1 => RN_fr2 (frP_trans f1 (frS_2 (frS_0 w1))) h
  rcases ix_cs a0 (A 162) with ⟨p, hp, rfl⟩ | hn
  · by_cases hz : A 223 = 0 ∧ anE A (A 0) 0 = false
    · refine .inl ⟨0, ⟨w, ?_, frP_refl _ _⟩, fun w1 f1 => ⟨sI w1 205 0 (0 : Int32), ?_, frS_0 w1⟩⟩
      · unfold fX11_say
        rw [pr_has h hp]
        dsimp only [bO]
        rw [if_neg (by decide), hasE_X (by decide) h, hz.2]
        dsimp only [bO, letV]
        rw [if_pos (by decide), e9, if_pos (by rw [hz.1]; rfl)]
      · unfold fX12_say letV
        dsimp only
        rw [RN_A (hM w1 f1) (show 162 < 1124 by decide), if_neg (wi_yes hp (by omega)), RN_A (hM w1 f1) (show 223 < 1124 by decide), if_pos (by rw [hz.1]; rfl), anyE_M (by decide) (hM w1 f1), hz.2]
        rfl
    · left
      have hC := (h.1.2.2.1.2.2.1 p hp).1
      have n7 := nrS_le (L := L) (F := F) h.1.1 (k := 7) (t := 0) (l := L (480 + p))
      have hK := whS_le A L F p
      -- past the look at neither songs nor books
      have gX : ∀ (j : Option (Int32 × jWd)), (if bI (anE A (A 0) 0) = 0 then if wI w 9 2 = 0 then some ((0 : Int32), w) else j else j) = j := by
        intro j
        cases ha : anE A (A 0) 0
        · rw [if_pos (by decide), e9, if_neg (fun q => hz ⟨(nI_z (by omega)).mp q, ha⟩)]
        · rw [if_neg (by decide)]
      refine ⟨if (whS A L F p).1 ≤ 1 then 1 else if (whS A L F p).1 = 5 then (if (nrS A L F 7 0 (L (480 + p))).1 < A 248 then 6 else 5) else nI (whS A L F p).1, ?_, fun w1 f1 => ?_⟩
      · obtain ⟨w2, a1, a2, a3, a4⟩ := look_X (n := 20000) (by decide) h hp
        have h2 := RN_fr (frP_mono p182_s a4) h
        obtain ⟨w3, g1, g2, g3⟩ := nr_X (n := 20000) (by decide) h2 (k := 7) (t := 0) (by decide) (by decide) hC (tale := -1) (fun q => absurd q (by decide))
        have h3 := RN_fr (frP_mono p182_s g3) h2
        have x3 : wI w3 1 11 = nI (A 248) := h3.2.1.2.2.2.2.2.2.2.2.2.2.1
        have g1 : fX2_nearest 20000 (7 : Int32) (L (480 + p)) (-1 : Int32) w2 = _ := g1
        have main : fX11_say 20000 (nI p) w = (if nI (whS A L F p).1 = (0 : Int32) then some ((1 : Int32), w2) else if nI (whS A L F p).1 = (1 : Int32) then some ((1 : Int32), w2) else if nI (whS A L F p).1 = (2 : Int32) then some ((2 : Int32), w2) else if nI (whS A L F p).1 = (3 : Int32) then some ((3 : Int32), w2) else if nI (whS A L F p).1 = (4 : Int32) then some ((4 : Int32), w2) else if (nrS A L F 7 0 (L (480 + p))).1 < A 248 then some ((6 : Int32), w3) else some ((5 : Int32), w3)) := by
          unfold fX11_say
          rw [pr_has h hp]
          dsimp only [bO]
          rw [if_neg (by decide), hasE_X (by decide) h]
          dsimp only [bO, letV]
          refine (gX _).trans ?_
          rw [a1]
          dsimp only [bO]
          rw [a2, pr_at h2 hp]
          dsimp only [bO]
          rw [g1]
          dsimp only [bO2]
          rw [x3]
          simp (disch := omega) only [ev_lt]
        rcases (show (whS A L F p).1 = 0 ∨ (whS A L F p).1 = 1 ∨ (whS A L F p).1 = 2 ∨ (whS A L F p).1 = 3 ∨ (whS A L F p).1 = 4 ∨ (whS A L F p).1 = 5 by omega) with e | e | e | e | e | e <;> rw [e] at main ⊢
        · exact ⟨w2, main, frP_mono p182_s a4⟩
        · exact ⟨w2, main, frP_mono p182_s a4⟩
        · exact ⟨w2, main, frP_mono p182_s a4⟩
        · exact ⟨w2, main, frP_mono p182_s a4⟩
        · exact ⟨w2, main, frP_mono p182_s a4⟩
        · refine ⟨w3, main.trans ?_, frP_mono p182_s (frP_trans a4 g3)⟩
          show (if (nrS A L F 7 0 (L (480 + p))).1 < A 248 then some ((6 : Int32), w3) else some ((5 : Int32), w3)) = some (if (nrS A L F 7 0 (L (480 + p))).1 < A 248 then (6 : Int32) else 5, w3)
          split <;> rfl
      · have h1 := hM w1 f1
        obtain ⟨w2, a1, a2, a3⟩ := smooths_M (n := 20000) (by decide) h1
        have h2 := RN_fr (frP_mono psl_s a3) h1
        obtain ⟨w3, c1, c2, c3⟩ := who_M (n := 20000) (by decide) h2 a2 (p := p) (by omega)
        have h3 := RN_fr (frP_mono pbs_s c3) h2
        obtain ⟨w4, v4, d1, d2, d3⟩ := ms_M (n := 20000) (by decide) h3 (L (480 + p)) false 0
        have h4 := RN_fr (frP_mono p210_s d3) h3
        have d1 : fX12_mostOfSongs 20000 (L (480 + p)) (0 : Int32) w3 = _ := d1
        have l4 : v4 < nI (A 248) ↔ (nrS A L F 7 0 (L (480 + p))).1 < A 248 := mx_lt d2 (by omega) (by have : (nrS A L F (sK false) 0 (L (480 + p))).1 ≤ 100 := n7.1; omega) (by omega)
        have fa : frS w1 w3 := frP_trans (frS_0 w1) (frP_trans (frP_mono psl_s a3) (frP_mono pbs_s c3))
        have gM : ∀ (j : Option (Int32 × jWd)), (if nI (A 223) = 0 then bO (fX12_isAnyEarly 20000 (sI w1 205 0 (0 : Int32))) (fun (r_14 : Int32) => if r_14 = 0 then some ((0 : Int32), (sI w1 205 0 (0 : Int32))) else j) else j) = j := by
          intro j
          by_cases q : A 223 = 0
          · have ha : anE A (A 0) 0 = true := by
              cases hb : anE A (A 0) 0
              · exact absurd ⟨q, hb⟩ hz
              · rfl
            rw [if_pos (by rw [q]; rfl), anyE_M (by decide) h1, ha]
            rfl
          · rw [if_neg (fun z => q ((nI_z (by omega)).mp z))]
        have main : fX12_say 20000 (nI p) w1 = (if nI (whS A L F p).1 = (5 : Int32) then (if v4 < nI (A 248) then some ((6 : Int32), w4) else some ((5 : Int32), w4)) else if (2 : Int32) ≤ nI (whS A L F p).1 then some (nI (whS A L F p).1, w3) else some ((1 : Int32), w3)) := by
          unfold fX12_say letV
          dsimp only
          rw [RN_A h1 (show 162 < 1124 by decide), if_neg (wi_yes hp (by omega)), RN_A h1 (show 223 < 1124 by decide)]
          refine (gM _).trans ?_
          rw [a1]
          dsimp only [bO]
          rw [c1]
          dsimp only [bO2]
          rw [show (480 : Int32) + nI p = nI (480 + p) from nI_add 480 p, l8, grd_N (by omega) (by decide), nI_clamp (by omega), RN_L h3 (by omega), d1]
          dsimp only [bO2]
          rw [RN_A h4 (show 248 < 1124 by decide)]
        rcases (show (whS A L F p).1 = 0 ∨ (whS A L F p).1 = 1 ∨ (whS A L F p).1 = 2 ∨ (whS A L F p).1 = 3 ∨ (whS A L F p).1 = 4 ∨ (whS A L F p).1 = 5 by omega) with e | e | e | e | e | e <;> rw [e] at main ⊢
        · exact ⟨w3, main, fa⟩
        · exact ⟨w3, main, fa⟩
        · exact ⟨w3, main, fa⟩
        · exact ⟨w3, main, fa⟩
        · exact ⟨w3, main, fa⟩
        · refine ⟨w4, main.trans ?_, frP_trans fa (frP_mono p210_s d3)⟩
          show (if v4 < nI (A 248) then some ((6 : Int32), w4) else some ((5 : Int32), w4)) = some (if (nrS A L F 7 0 (L (480 + p))).1 < A 248 then (6 : Int32) else 5, w4)
          by_cases q : (nrS A L F 7 0 (L (480 + p))).1 < A 248
          · rw [if_pos (l4.mpr q), if_pos q]
          · rw [if_neg (fun z => q (l4.mp z)), if_neg q]
  · refine .inr ⟨-2, 2, by decide, by decide, ⟨w, ?_, frP_refl _ _⟩, fun w1 f1 => ⟨sI w1 205 0 (0 : Int32), ?_, frS_0 w1⟩⟩
    · unfold fX11_say
      rw [show fX5_has_ 16 (0 : Int32) a0 w = some (bI false) from hasi_no (k := 8) (g := 0) h (by decide) (by show 0 < 1; decide) hn]
      dsimp only [bO]
      rw [if_pos (by decide), rx_id2]
    · unfold fX12_say letV
      dsimp only
      rw [RN_A (hM w1 f1) (show 162 < 1124 by decide), if_pos (wi_no hn (by omega)), no_id2]
