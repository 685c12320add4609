/-! chance and odds in the reference -/
section MEE
variable {A : Nat → Nat} {L : Nat → Int64} {F W : Nat → Nat} {w : jWd}
def Pme (c k : Nat) : Prop := (c = 205 ∧ 32 ≤ k ∧ k ≤ 33) ∨ c = 210
theorem pme_s : ∀ c k, Pme c k → Scr c k := fun c k h => by unfold Pme at h; unfold Scr; omega
theorem p210_me : ∀ c k, P210 c k → Pme c k := fun c k h => .inr h
def oK (e : Bool) : Nat := if e = true then 9 else 6
theorem oK_6 (e : Bool) : oK e = 6 ∨ oK e = 9 := by cases e; exact .inl rfl; exact .inr rfl
def oB (e : Bool) : Nat := if e = true then 540 else 0
theorem oK_y (e : Bool) (g i : Nat) : yK A L F (oK e) g i = L (oB e + 12 * g + i) := by
  cases e
  · show L (12 * g + i) = L (0 + 12 * g + i)
    rw [Nat.zero_add]
  · rfl
theorem me_i {n : Nat} (hn : 70 < n) {t p g : Nat} {e : Bool} (ht : t < 2147483648) (p4 : Int32) (K : jWd → Option jWd) (X Y : Nat) (hX : X ≤ 200000) (hY : Y ≤ 200000) : ∀ c i f (w : jWd), RN A L F W w → p < A 162 → g < gK A (oK e) → i + c = cK A (oK e) g → c < f → wI w 205 32 = nI (X + i) → wI w 205 33 = nI (Y + sm (fun i => lkP L t (yK A L F (oK e) g i) p) i) → ∃ w', lX12_meets_123 n (nI t) (bI e) (nI p) p4 (nI g) (nI (cK A (oK e) g)) K f (nI i) w = K w' ∧ wI w' 205 32 = nI (X + cK A (oK e) g) ∧ wI w' 205 33 = nI (Y + sm (fun i => lkP L t (yK A L F (oK e) g i) p) (cK A (oK e) g)) ∧ frP Pme w w' := by
  have l8 : ln 208 = 2352 := rfl
  intro c
  induction c with
  | zero =>
    intro i f w h hp hg hi hf h1 h2
    obtain ⟨f, rfl⟩ : ∃ g, f = g + 1 := ⟨f - 1, by omega⟩
    have hc := cK_le h.1.1 hg
    refine ⟨w, ?_, by rw [h1, show i = cK A (oK e) g by omega], by rw [h2, show i = cK A (oK e) g by omega], frP_refl _ _⟩
    show bX12_meets_123 n (nI t) (bI e) (nI p) p4 (nI g) (nI (cK A (oK e) g)) K _ (nI i) w = _
    unfold bX12_meets_123
    rw [if_pos (nI_le (by omega) (by omega))]
  | succ c ih =>
    intro i f w h hp hg hi hf h1 h2
    obtain ⟨f, rfl⟩ : ∃ g, f = g + 1 := ⟨f - 1, by omega⟩
    have hc := cK_le h.1.1 hg
    have h60 := h.1.1.2.2.2.1
    have hgl : g < 40 ∧ (e = true → g < 12 ∧ cK A (oK e) g ≤ 12) ∧ cK A (oK e) g ≤ 60 := by
      refine ⟨by have := gK_le h.1.1 (oK e); omega, fun q => ?_, hc⟩
      subst q
      have g1 : g < A 223 := hg
      have g2 := h.1.1.2.2.2.2.1
      exact ⟨by omega, h.1.1.2.2.2.2.2.1 g (by omega)⟩
    have hidx : oB e + 12 * g + i < 784 := by
      cases e
      · show 0 + 12 * g + i < 784; omega
      · have := hgl.2.1 rfl
        show 540 + 12 * g + i < 784; omega
    have f0 : frP Pme w (sI w 205 32 (nI (X + i + 1))) := frP_sI _ _ (.inl ⟨rfl, by decide, by decide⟩)
    have h0 := RN_fr (frP_mono pme_s f0) h
    obtain ⟨w1, a1, a2⟩ := alk_M (n := n) (by omega) (L (480 + p)) (L (oB e + 12 * g + i)) (sI w 205 32 (nI (X + i + 1)))
    have a2 := frP_of a2
    have ha := alkN_le (L (oB e + 12 * g + i)) (L (480 + p))
    have e33 : wI (sI w 205 32 (nI (X + i + 1))) 205 33 = nI (Y + sm (fun i => lkP L t (yK A L F (oK e) g i) p) i) := by rw [ev_wIn _ (by omega), h2]
    have hs := sm_le (f := fun i => lkP L t (yK A L F (oK e) g i) p) (b := 1) i (fun i _ => lkP_le _ _ _ _)
    obtain ⟨w2, i1, i2, i3, i4⟩ := ih (i + 1) f (sI w1 205 33 (nI (Y + sm (fun i => lkP L t (yK A L F (oK e) g i) p) (i + 1)))) (RN_fr (frP_mono pme_s (frP_trans (frP_trans f0 (frP_mono p210_me a2)) (frP_sI _ _ (.inl ⟨rfl, by decide, by decide⟩)))) h) hp hg (by omega) (by omega) (by rw [ev_wIn _ (by omega), frP_I a2 (show ¬ P210 205 32 by unfold P210; omega), ev_wIs, Nat.add_assoc]) (by rw [ev_wIs])
    refine ⟨w2, ?_, i2, i3, frP_trans (frP_trans (frP_trans f0 (frP_mono p210_me a2)) (frP_sI _ _ (.inl ⟨rfl, by decide, by decide⟩))) i4⟩
    show bX12_meets_123 n (nI t) (bI e) (nI p) p4 (nI g) (nI (cK A (oK e) g)) K (lX12_meets_123 n (nI t) (bI e) (nI p) p4 (nI g) (nI (cK A (oK e) g)) K f) (nI i) w = _
    have hb : ∀ J : Int32 → Option jWd, (if bI e = 0 then J (0 : Int32) else J (540 : Int32)) = J (nI (oB e)) := by
      intro J
      cases e <;> rfl
    unfold bX12_meets_123
    rw [if_neg (nI_ge (by omega) (by omega)), h1, nI_1]
    rw [ev_letV]
    rw [show (480 : Int32) + nI p = nI (480 + p) from nI_add 480 p, l8, grd_N (by omega) (by decide)]
    refine letJ (x := nI (oB e)) hb ?_
    rw [show (12 : Int32) = nI 12 from rfl, ev_mul, nI_add, nI_add, grd_N (by omega) (by decide), nI_clamp (by omega), nI_clamp (by omega), RN_L h0 (show 480 + p < 784 by omega), RN_L h0 hidx, a1]
    dsimp only [bO2]
    refine letJ (x := nI (lkP L t (yK A L F (oK e) g i) p)) (fun J => ?_) ?_
    · unfold lkP
      rw [oK_y, alkN_sym]
      by_cases q : alkN (L (oB e + 12 * g + i)) (L (480 + p)) < t
      · rw [if_pos (nI_lt q ht), if_pos q]; rfl
      · rw [if_neg (nI_nlt (by omega) (by omega)), if_neg q]; rfl
    · rw [e33, nI_add, Nat.add_assoc]
      dsimp only [letV]
      rw [nI_1]
      exact i1
def xgS (A : Nat → Nat) (L : Nat → Int64) (F : Nat → Nat) (k t p g : Nat) : Nat := if amK A 0 k g = true then sm (fun i => lkP L t (yK A L F k g i) p) (cK A k g) else 0
theorem xg_le (h : InA A) {k t p g : Nat} (hg : g < gK A k) : xgS A L F k t p g ≤ 60 := by
  unfold xgS
  split
  · have := sm_le (f := fun i => lkP L t (yK A L F k g i) p) (b := 1) (cK A k g) (fun i _ => lkP_le _ _ _ _)
    have := cK_le h hg
    omega
  · omega
theorem xs_le (h : InA A) {k t p g : Nat} (hg : g ≤ gK A k) : sm (xgS A L F k t p) g ≤ 2400 := by
  have h1 := sm_le (f := xgS A L F k t p) (b := 60) g (fun i hi => xg_le h (by omega))
  have := gK_le h k
  have : g * 60 ≤ 40 * 60 := Nat.mul_le_mul_right _ (by omega)
  omega
theorem me_g {n : Nat} (hn : 70 < n) {t p : Nat} {e : Bool} (ht : t < 2147483648) (K : jWd → Option jWd) (X Y : Nat) (hX : X ≤ 150000) (hY : Y ≤ 150000) : ∀ c g f (w : jWd), RN A L F W w → p < A 162 → g + c = gK A (oK e) → c < f → wI w 205 32 = nI (X + sm (ngK A (oK e)) g) → wI w 205 33 = nI (Y + sm (xgS A L F (oK e) t p) g) → ∃ w', lX12_meets_50 n (nI t) (bI e) (nI p) (nI (gK A (oK e))) K f (nI g) w = K w' ∧ wI w' 205 32 = nI (X + sm (ngK A (oK e)) (gK A (oK e))) ∧ wI w' 205 33 = nI (Y + sm (xgS A L F (oK e) t p) (gK A (oK e))) ∧ frP Pme w w' := by
  have l7 : ln 207 = 3372 := rfl
  intro c
  induction c with
  | zero =>
    intro g f w h hp hg hf h1 h2
    obtain ⟨f, rfl⟩ : ∃ g, f = g + 1 := ⟨f - 1, by omega⟩
    have h40 := gK_le h.1.1 (oK e)
    refine ⟨w, ?_, by rw [h1, show g = gK A (oK e) by omega], by rw [h2, show g = gK A (oK e) by omega], frP_refl _ _⟩
    show bX12_meets_50 n (nI t) (bI e) (nI p) (nI (gK A (oK e))) K _ (nI g) w = _
    unfold bX12_meets_50
    rw [if_pos (nI_le (by omega) (by omega))]
  | succ c ih =>
    intro g f w h hp hg hf h1 h2
    obtain ⟨f, rfl⟩ : ∃ g, f = g + 1 := ⟨f - 1, by omega⟩
    have h40 := gK_le h.1.1 (oK e)
    have hc := cK_le h.1.1 (show g < gK A (oK e) by omega)
    have hl1 := ng_le h.1.1 (k := oK e) (g := g) (by omega)
    have hl2 := xs_le (L := L) (F := F) h.1.1 (k := oK e) (t := t) (p := p) (g := g) (by omega)
    have step : lX12_meets_50 n (nI t) (bI e) (nI p) (nI (gK A (oK e))) K (f + 1) (nI g) w = if amK A 0 (oK e) g = true then lX12_meets_123 n (nI t) (bI e) (nI p) (nI (gK A (oK e))) (nI g) (nI (cK A (oK e) g)) (fun (w_25 : jWd) => lX12_meets_50 n (nI t) (bI e) (nI p) (nI (gK A (oK e))) K f (nI (g + 1)) w_25) n (nI 0) w else lX12_meets_50 n (nI t) (bI e) (nI p) (nI (gK A (oK e))) K f (nI (g + 1)) w := by
      show bX12_meets_50 n (nI t) (bI e) (nI p) (nI (gK A (oK e))) K (lX12_meets_50 n (nI t) (bI e) (nI p) (nI (gK A (oK e))) K f) (nI g) w = _
      unfold bX12_meets_50 letV
      dsimp only
      rw [if_neg (nI_ge (by omega) (by omega)), nI_1]
      cases e
      · have hg' : g < 40 := by omega
        rw [if_pos (show bI false = 0 by decide), if_pos (show bI false = 0 by decide), early_M h hg']
        dsimp only [bO]
        rw [ev_bI, show (121 : Int32) + nI g = nI (121 + g) from nI_add 121 g, l7, grd_N (by omega) (by decide), nI_clamp (by omega), RN_A h (show 121 + g < 1124 by omega)]
        show _ = if decide (A (81 + g) ≤ A 161) = true then _ else _
        by_cases q : A (81 + g) ≤ A 161
        · rw [if_pos q, decide_eq_true q, if_pos rfl]; rfl
        · rw [if_neg q, decide_eq_false q, if_neg (by decide)]
      · have hg' : g < A 223 := by
          have : gK A (oK true) = A 223 := rfl
          omega
        have h12 := h.1.1.2.2.2.2.1
        have h9 := RN_9 h (224 + g)
        rw [if_neg (show ¬ bI true = 0 by decide), if_neg (show ¬ bI true = 0 by decide), show (224 : Int32) + nI g = nI (224 + g) from nI_add 224 g, show (236 : Int32) + nI g = nI (236 + g) from nI_add 236 g, l7, grd_N (by omega) (by decide), grd_N (by omega) (by decide), nI_clamp (by omega), nI_clamp (by omega), RN_A h (show 224 + g < 1124 by omega), RN_A h (show 236 + g < 1124 by omega)]
        show _ = if (!decide (A (224 + g) = 0)) = true then _ else _
        by_cases q : A (224 + g) = 0
        · rw [if_pos (by rw [q]; rfl), decide_eq_true q, if_neg (by decide)]
        · rw [if_neg (fun z => q ((nI_z (by omega)).mp z)), decide_eq_false q, if_pos (by decide)]; rfl
    rw [step]
    by_cases ha : amK A 0 (oK e) g = true
    · rw [if_pos ha]
      obtain ⟨w1, e1, e2, e3, e4⟩ := me_i (n := n) hn (t := t) (p := p) (g := g) (e := e) ht (nI (gK A (oK e))) (fun (w_25 : jWd) => lX12_meets_50 n (nI t) (bI e) (nI p) (nI (gK A (oK e))) K f (nI (g + 1)) w_25) (X + sm (ngK A (oK e)) g) (Y + sm (xgS A L F (oK e) t p) g) (by omega) (by omega) (cK A (oK e) g) 0 n w h hp (by omega) (by omega) (by omega) h1 h2
      obtain ⟨w2, i1, i2, i3, i4⟩ := ih (g + 1) f w1 (RN_fr (frP_mono pme_s e4) h) hp (by omega) (by omega) (by
        rw [e2, Nat.add_assoc]
        show _ = nI (X + (sm (ngK A (oK e)) g + ngK A (oK e) g))
        unfold ngK
        rw [if_pos ha]) (by
        rw [e3, Nat.add_assoc]
        show _ = nI (Y + (sm (xgS A L F (oK e) t p) g + xgS A L F (oK e) t p g))
        rw [show xgS A L F (oK e) t p g = sm (fun i => lkP L t (yK A L F (oK e) g i) p) (cK A (oK e) g) from if_pos ha])
      exact ⟨w2, e1.trans i1, i2, i3, frP_trans e4 i4⟩
    · rw [if_neg ha]
      obtain ⟨w2, i1, i2, i3, i4⟩ := ih (g + 1) f w h hp (by omega) (by omega) (by
        rw [h1]
        show _ = nI (X + (sm (ngK A (oK e)) g + ngK A (oK e) g))
        rw [show ngK A (oK e) g = 0 from if_neg ha]
        rfl) (by
        rw [h2]
        show _ = nI (Y + (sm (xgS A L F (oK e) t p) g + xgS A L F (oK e) t p g))
        rw [show xgS A L F (oK e) t p g = 0 from if_neg ha]
        rfl)
      exact ⟨w2, i1, i2, i3, i4⟩
theorem me_p {n : Nat} (hn : 70 < n) {t : Nat} {e : Bool} (ht : t < 2147483648) : ∀ c p f (w : jWd), RN A L F W w → p + c = A 162 → c < f → wI w 205 32 = nI (sm (fun _ => sm (ngK A (oK e)) (gK A (oK e))) p) → wI w 205 33 = nI (sm (fun p => sm (xgS A L F (oK e) t p) (gK A (oK e))) p) → ∃ w', lX12_meets_12 n (nI t) (bI e) f (nI p) w = some w' ∧ wI w' 205 32 = nI (sm (fun _ => sm (ngK A (oK e)) (gK A (oK e))) (A 162)) ∧ wI w' 205 33 = nI (sm (fun p => sm (xgS A L F (oK e) t p) (gK A (oK e))) (A 162)) ∧ frP Pme w w' := by
  intro c
  induction c with
  | zero =>
    intro p f w h hp hf h1 h2
    obtain ⟨f, rfl⟩ : ∃ g, f = g + 1 := ⟨f - 1, by omega⟩
    have h60 := h.1.1.2.2.2.1
    refine ⟨w, ?_, by rw [h1, show p = A 162 by omega], by rw [h2, show p = A 162 by omega], frP_refl _ _⟩
    show bX12_meets_12 n (nI t) (bI e) _ (nI p) w = _
    unfold bX12_meets_12
    rw [RN_A h (show 162 < 1124 by decide), if_pos (nI_le (by omega) (by omega))]
  | succ c ih =>
    intro p f w h hp hf h1 h2
    obtain ⟨f, rfl⟩ : ∃ g, f = g + 1 := ⟨f - 1, by omega⟩
    have h60 := h.1.1.2.2.2.1
    have h40 := gK_le h.1.1 (oK e)
    have b1 := sm_le (f := fun _ => sm (ngK A (oK e)) (gK A (oK e))) (b := 2400) p (fun i _ => ng_le h.1.1 (Nat.le_refl _))
    have b2 := sm_le (f := fun p => sm (xgS A L F (oK e) t p) (gK A (oK e))) (b := 2400) p (fun i _ => xs_le h.1.1 (Nat.le_refl _))
    have b3 : p * 2400 ≤ 60 * 2400 := Nat.mul_le_mul_right _ (by omega)
    obtain ⟨w1, e1, e2, e3, e4⟩ := me_g (n := n) hn (t := t) (p := p) (e := e) ht (fun (w_37 : jWd) => lX12_meets_12 n (nI t) (bI e) f (nI (p + 1)) w_37) (sm (fun _ => sm (ngK A (oK e)) (gK A (oK e))) p) (sm (fun p => sm (xgS A L F (oK e) t p) (gK A (oK e))) p) (by omega) (by omega) (gK A (oK e)) 0 n w h (by omega) (by omega) (by omega) h1 h2
    obtain ⟨w2, i1, i2, i3, i4⟩ := ih (p + 1) f w1 (RN_fr (frP_mono pme_s e4) h) (by omega) (by omega) e2 e3
    refine ⟨w2, ?_, i2, i3, frP_trans e4 i4⟩
    show bX12_meets_12 n (nI t) (bI e) (lX12_meets_12 n (nI t) (bI e) f) (nI p) w = _
    unfold bX12_meets_12
    rw [RN_A h (show 162 < 1124 by decide), if_neg (nI_ge (by omega) (by omega))]
    refine letJ (x := nI (gK A (oK e))) (fun J => ?_) ?_
    · cases e
      · rw [if_pos (show bI false = 0 by decide), RN_A h (show 0 < 1124 by decide)]; rfl
      · rw [if_neg (show ¬ bI true = 0 by decide), RN_A h (show 223 < 1124 by decide)]; rfl
    · dsimp only [letV]
      rw [nI_1]
      exact e1.trans i1
theorem xg_sw (A : Nat → Nat) (L : Nat → Int64) (F : Nat → Nat) (k t : Nat) : sm (fun p => sm (xgS A L F k t p) (gK A k)) (A 162) = sm (ngY A L F k t) (gK A k) := by
  have e : sm (fun p => sm (fun g => xgS A L F k t p g) (gK A k)) (A 162) = sm (fun g => sm (fun p => xgS A L F k t p g) (A 162)) (gK A k) := sm_swap _ _ _
  refine e.trans (sm_cg _ (fun g hg => ?_))
  unfold xgS ngY
  by_cases q : amK A 0 k g = true
  · simp only [if_pos q]
    exact sm_swap (fun p i => lkP L t (yK A L F k g i) p) (cK A k g) (A 162)
  · simp only [if_neg q]
    exact sm_z _
theorem meets_M {n : Nat} (hn : 70 < n) (h : RN A L F W w) {t : Nat} (e : Bool) (ht : t < 2147483648) : ∃ w', fX12_meets n (nI t) (bI e) w = some w' ∧ wI w' 205 32 = nI (sm (ngK A (oK e)) (gK A (oK e)) * A 162) ∧ wI w' 205 33 = nI (sm (ngY A L F (oK e) t) (gK A (oK e))) ∧ frP Pme w w' := by
  have f0 : frP Pme w (sI (sI w 205 32 (0 : Int32)) 205 33 (0 : Int32)) := frP_trans (frP_sI _ _ (.inl ⟨rfl, by decide, by decide⟩)) (frP_sI _ _ (.inl ⟨rfl, by decide, by decide⟩))
  obtain ⟨w1, e1, e2, e3, e4⟩ := me_p (n := n) hn (t := t) (e := e) ht (A 162) 0 n _ (RN_fr (frP_mono pme_s f0) h) (by omega) (by have := h.1.1.2.2.2.1; omega) (by rw [ev_wIn _ (by omega), ev_wIs]; rfl) (by rw [ev_wIs]; rfl)
  refine ⟨w1, e1, ?_, ?_, frP_trans f0 e4⟩
  · rw [e2, sm_const, Nat.mul_comm]
  · rw [e3, xg_sw]
end MEE
theorem s_chance : fS_chance RR := by
  intro w a0 a1 hw
  obtain ⟨⟨A, L, F, W, h⟩, -⟩ := id hw
  have h60 := h.1.1.2.2.2.1
  have hM := rd_M h
  refine ⟨20000, rr_call hw ?_⟩
  rcases hf_cs a1 with hh | ⟨k, hk, rfl, hk1, hk2⟩
  · refine .inr ⟨-2, 2, by decide, by decide, ⟨w, ?_, frP_refl _ _⟩, fun w1 f1 => ⟨sI w1 205 0 (0 : Int32), ?_, frS_0 w1⟩⟩
    · unfold fX11_chance
      rw [rx_id2, if_pos hh.1]
    · unfold fX12_chance letV
      dsimp only
      rw [no_id2, if_pos hh.2]
  rcases bd_cs a0 with hh | ⟨t, ht1, ht2, rfl, ht3, ht4⟩
  · refine .inr ⟨-3, 3, by decide, by decide, ⟨w, ?_, frP_refl _ _⟩, fun w1 f1 => ⟨sI w1 205 0 (0 : Int32), ?_, frS_0 w1⟩⟩
    · unfold fX11_chance
      rw [hk1, if_neg (by decide), if_pos hh.1, rx_id3]
    · unfold fX12_chance letV
      dsimp only
      rw [if_neg hk2, if_pos hh.2, no_id3]
  · left
    have b1 := ng_le h.1.1 (k := 9) (Nat.le_refl _)
    have b2 := ny_le (L := L) (F := F) h.1.1 (k := 9) (t := t) (Nat.le_refl _)
    have b3 : sm (ngK A 9) (gK A 9) * A 162 ≤ 2400 * 60 := Nat.mul_le_mul b1 h60
    refine ⟨(lN (frN (sm (ngY A L F 9 t) (gK A 9)) (sm (ngK A 9) (gK A 9) * A 162) k)).toInt32, ⟨w, ?_, frP_refl _ _⟩, fun w1 f1 => ?_⟩
    · unfold fX11_chance
      rw [hk1, if_neg (by decide), if_neg ht3, show (9 : Int32) = nI 9 from rfl, pb_X (by decide) h (.inr rfl) (by omega), pa_X (by decide) h (.inr rfl)]
      dsimp only [bO]
      rw [nI_l (by omega), nI_l (by omega), fr_X (by decide) (by omega) (by omega) hk]
    · obtain ⟨w2, e1, e2, e3, e4⟩ := meets_M (n := 20000) (by decide) (hM w1 f1) (t := t) true (by omega)
      refine ⟨w2, ?_, frP_trans (frS_0 w1) (frP_mono pme_s e4)⟩
      have e2 : wI w2 205 32 = nI (sm (ngK A 9) (gK A 9) * A 162) := e2
      have e3 : wI w2 205 33 = nI (sm (ngY A L F 9 t) (gK A 9)) := e3
      have e1 : fX12_meets 20000 (nI t) (1 : Int32) _ = _ := e1
      unfold fX12_chance letV
      dsimp only
      rw [if_neg hk2, if_neg ht4, e1]
      dsimp only [bO]
      rw [e2, e3, nI_l (by omega), nI_l (by omega), fr_M (by decide) (by omega) (by omega) hk]
theorem mul_N (a b : Nat) : lN a * lN b = lN (a * b) := (Int64.ofNat_mul a b).symm
theorem rx_l2 (u : jWd) : bO2 (fX11_refuse (-2 : Int32) u) (fun (r : Int32) (v : jWd) => some ((r).toInt64, v)) = some ((-2 : Int64), rfX u 2) := by rw [rf_X2]; rfl
theorem rx_l3 (u : jWd) : bO2 (fX11_refuse (-3 : Int32) u) (fun (r : Int32) (v : jWd) => some ((r).toInt64, v)) = some ((-3 : Int64), rfX u 3) := by rw [rf_X3]; rfl
theorem no_l2 (u : jWd) : bO2 (fX12_no (-2 : Int32) u) (fun (r : Int32) (v : jWd) => some ((r).toInt64, v)) = some ((-2 : Int64), rfM u 2) := by rw [rf_M2]; rfl
theorem no_l3 (u : jWd) : bO2 (fX12_no (-3 : Int32) u) (fun (r : Int32) (v : jWd) => some ((r).toInt64, v)) = some ((-3 : Int64), rfM u 3) := by rw [rf_M3]; rfl
theorem s_odds : fS_odds RR := by
  intro w a0 a1 hw
  obtain ⟨⟨A, L, F, W, h⟩, -⟩ := id hw
  have h60 := h.1.1.2.2.2.1
  have hM := rd_M h
  refine ⟨20000, rr_call hw ?_⟩
  rcases hf_cs a1 with hh | ⟨k, hk, rfl, hk1, hk2⟩
  · refine .inr ⟨-2, 2, by decide, by decide, ⟨w, ?_, frP_refl _ _⟩, fun w1 f1 => ⟨sI w1 205 0 (0 : Int32), ?_, frS_0 w1⟩⟩
    · unfold fX11_odds
      rw [rx_l2, if_pos hh.1]
    · unfold fX12_odds letV
      dsimp only
      rw [no_l2, if_pos hh.2]
  rcases bd_cs a0 with hh | ⟨t, ht1, ht2, rfl, ht3, ht4⟩
  · refine .inr ⟨-3, 3, by decide, by decide, ⟨w, ?_, frP_refl _ _⟩, fun w1 f1 => ⟨sI w1 205 0 (0 : Int32), ?_, frS_0 w1⟩⟩
    · unfold fX11_odds
      rw [hk1, if_neg (by decide), if_pos hh.1, rx_l3]
    · unfold fX12_odds letV
      dsimp only
      rw [if_neg hk2, if_pos hh.2, no_l3]
  · left
    have b1 := ng_le h.1.1 (k := 9) (Nat.le_refl _)
    have b2 := ny_le (L := L) (F := F) h.1.1 (k := 9) (t := t) (Nat.le_refl _)
    have b3 : sm (ngK A 9) (gK A 9) * A 162 ≤ 2400 * 60 := Nat.mul_le_mul b1 h60
    have c1 := ng_le h.1.1 (k := 6) (Nat.le_refl _)
    have c2 := ny_le (L := L) (F := F) h.1.1 (k := 6) (t := t) (Nat.le_refl _)
    have c3 : sm (ngK A 6) (gK A 6) * A 162 ≤ 2400 * 60 := Nat.mul_le_mul c1 h60
    have d1 : sm (ngY A L F 6 t) (gK A 6) * (sm (ngK A 9) (gK A 9) * A 162) ≤ 144000 * (2400 * 60) := Nat.mul_le_mul c2 b3
    have d2 : sm (ngK A 6) (gK A 6) * A 162 * sm (ngY A L F 9 t) (gK A 9) ≤ 2400 * 60 * 144000 := Nat.mul_le_mul c3 b2
    refine ⟨lN (frN (sm (ngY A L F 6 t) (gK A 6) * (sm (ngK A 9) (gK A 9) * A 162)) (sm (ngK A 6) (gK A 6) * A 162 * sm (ngY A L F 9 t) (gK A 9)) k), ⟨w, ?_, frP_refl _ _⟩, fun w1 f1 => ?_⟩
    · unfold fX11_odds
      rw [hk1, if_neg (by decide), if_neg ht3, show (9 : Int32) = nI 9 from rfl, show (6 : Int32) = nI 6 from rfl, pb_X (by decide) h (.inl rfl) (by omega), pa_X (by decide) h (.inr rfl)]
      dsimp only [bO, letV]
      rw [pa_X (by decide) h (.inl rfl)]
      dsimp only
      rw [pb_X (by decide) h (.inr rfl) (by omega)]
      dsimp only
      rw [nI_l (by omega), nI_l (by omega), nI_l (by omega), nI_l (by omega), mul_N, mul_N, fr_X (by decide) (by omega) (by omega) hk]
    · obtain ⟨w2, e1, e2, e3, e4⟩ := meets_M (n := 20000) (by decide) (hM w1 f1) (t := t) true (by omega)
      have h2 := RN_fr (frP_mono pme_s e4) (hM w1 f1)
      obtain ⟨w3, g1, g2, g3, g4⟩ := meets_M (n := 20000) (by decide) h2 (t := t) false (by omega)
      refine ⟨w3, ?_, frP_trans (frS_0 w1) (frP_trans (frP_mono pme_s e4) (frP_mono pme_s g4))⟩
      have e2 : wI w2 205 32 = nI (sm (ngK A 9) (gK A 9) * A 162) := e2
      have e3 : wI w2 205 33 = nI (sm (ngY A L F 9 t) (gK A 9)) := e3
      have e1 : fX12_meets 20000 (nI t) (1 : Int32) _ = _ := e1
      have g2 : wI w3 205 32 = nI (sm (ngK A 6) (gK A 6) * A 162) := g2
      have g3 : wI w3 205 33 = nI (sm (ngY A L F 6 t) (gK A 6)) := g3
      have g1 : fX12_meets 20000 (nI t) (0 : Int32) w2 = _ := g1
      unfold fX12_odds letV
      dsimp only
      rw [if_neg hk2, if_neg ht4, e1]
      dsimp only [bO]
      rw [g1]
      dsimp only
      rw [e2, e3, g2, g3, nI_l (by omega), nI_l (by omega), nI_l (by omega), nI_l (by omega), mul_N, mul_N, fr_M (by decide) (by omega) (by omega) hk]
