/-! CALLS: what a call comes to on both sides, and the relation behind it -/
def Scr2 (c k : Nat) : Prop := Scr c k ∨ c = 204 ∨ c = 206
abbrev frS2 (w w' : jWd) : Prop := frP Scr2 w w'
theorem frS_2 {w w' : jWd} (h : frS w w') : frS2 w w' := frP_mono (fun _ _ => .inl) h
theorem RN_fr2 {A : Nat → Nat} {L : Nat → Int64} {F W : Nat → Nat} {w w' : jWd} (hf : frS2 w w') (h : RN A L F W w) : RN A L F W w' := by
  obtain ⟨a, b, c, d⟩ := h
  refine ⟨a, RX_cg a.1 (fun c k h1 h2 => frP_I hf (by unfold Scr2 Scr; omega)) (fun c k h1 h2 => frP_J hf (by unfold Scr2 Scr; omega)) b, RCon_cg (fun c k h1 h2 _ => frP_I hf (by unfold Scr2 Scr; omega)) c, RM_cg (fun k _ => frP_I hf (by unfold Scr2 Scr; omega)) (fun k _ => frP_J hf (by unfold Scr2 Scr; omega)) (fun k _ => frP_I hf (by unfold Scr2 Scr; omega)) (fun k _ => frP_I hf (by unfold Scr2 Scr; omega)) d⟩
theorem RR_fr2 {w w' : jWd} (hf : frS2 w w') (hr : RRef w') (h : RR w) : RR w' := by
  obtain ⟨⟨A, L, F, W, a⟩, b, c, d, e, f, ⟨n, g1, g2, g3, g4⟩, i, j⟩ := h
  have hI : ∀ c k, ¬ Scr2 c k → wI w' c k = wI w c k := fun c k q => frP_I hf q
  have hJ : ∀ c k, ¬ Scr2 c k → wJ w' c k = wJ w c k := fun c k q => frP_J hf q
  have im : ∀ i, i ≤ 1 → RIm i w → RIm i w' := fun i hi h => RIm_cg hi (fun c k _ _ => hI c k (by unfold Scr2 Scr; omega)) (fun c k _ _ => hJ c k (by unfold Scr2 Scr; omega)) (hI _ _ (by unfold Scr2 Scr; omega)) (hI _ _ (by unfold Scr2 Scr; omega)) (fun k _ => hI _ _ (by unfold Scr2 Scr; omega)) (fun k _ => hJ _ _ (by unfold Scr2 Scr; omega)) (fun k _ _ => hI _ _ (by unfold Scr2 Scr; omega)) (fun k _ _ => hI _ _ (by unfold Scr2 Scr; omega)) h
  refine ⟨⟨A, L, F, W, RN_fr2 hf a⟩, im 0 (by omega) b, im 1 (by omega) c, RCon_cg (fun c k _ _ _ => hI c k (by unfold Scr2 Scr; omega)) d, RCon_cg (fun c k _ _ _ => hI c k (by unfold Scr2 Scr; omega)) e, hr, ⟨n, g1, ?_, ?_, fun k hk => ?_⟩, ?_, fun r hr => ?_⟩
  · rw [hI _ _ (by unfold Scr2 Scr; omega)]; exact g2
  · rw [hI _ _ (by unfold Scr2 Scr; omega)]; exact g3
  · rw [hI _ _ (by unfold Scr2 Scr; omega), hI _ _ (by unfold Scr2 Scr; omega)]; exact g4 k hk
  · unfold RFlt
    rw [hI 189 2 (by unfold Scr2 Scr; omega), hI 205 19 (by unfold Scr2 Scr; omega), hI 205 20 (by unfold Scr2 Scr; omega), hI 189 3 (by unfold Scr2 Scr; omega)]
    exact i
  · rw [hI 186 r (by unfold Scr2 Scr; omega), hI 221 r (by unfold Scr2 Scr; omega), hI 187 r (by unfold Scr2 Scr; omega), hI 222 r (by unfold Scr2 Scr; omega)]
    rcases j r hr with q | ⟨n, s, q1, q2, q3, q4, q5, q6, q7⟩
    · exact .inl q
    · exact .inr ⟨n, s, q1, q2, q3, q4, q5, q6, fun k hk => by rw [hJ _ _ (by unfold Scr2 Scr; omega), hJ _ _ (by unfold Scr2 Scr; omega)]; exact q7 k hk⟩
/-- a call that is answered by v; one that is refused by -k -/
def okC {α : Type} (f : Option (α × jWd)) (w : jWd) (v : α) : Prop := ∃ w1, f = some (v, w1) ∧ frS w w1
def noX {α : Type} (f : Option (α × jWd)) (w : jWd) (v : α) (k : Nat) : Prop := ∃ w1, f = some (v, rfX w1 k) ∧ frS w w1
def noM {α : Type} (f : Option (α × jWd)) (w : jWd) (v : α) (k : Nat) : Prop := ∃ w1, f = some (v, rfM w1 k) ∧ frS w w1
theorem rr_call {α : Type} {fx : Option (α × jWd)} {fm : jWd → Option (α × jWd)} {w : jWd} (hw : RR w) (h : (∃ v, okC fx w v ∧ ∀ w1, frS2 w w1 → okC (fm w1) w1 v) ∨ (∃ v k, 1 ≤ k ∧ k ≤ 7 ∧ noX fx w v k ∧ ∀ w1, frS2 w w1 → noM (fm w1) w1 v k)) : ∃ v w1 w2, fx = some (v, w1) ∧ fm w1 = some (v, w2) ∧ RR w2 := by
  rcases h with ⟨v, ⟨w1, e1, f1⟩, hm⟩ | ⟨v, k, hk1, hk2, ⟨w1, e1, f1⟩, hm⟩
  · obtain ⟨w2, e2, f2⟩ := hm w1 (frS_2 f1)
    exact ⟨v, w1, w2, e1, e2, RR_fr (frP_trans f1 f2) hw⟩
  · have g1 : frS2 w (rfX w1 k) := frP_trans (frS_2 f1) (frP_sI _ _ (.inr (.inl rfl)))
    obtain ⟨w2, e2, f2⟩ := hm _ g1
    have g2 : frS2 w (rfM w2 k) := frP_trans g1 (frP_trans (frS_2 f2) (frP_sI _ _ (.inr (.inr rfl))))
    refine ⟨v, _, _, e1, e2, RR_fr2 g2 (fun j h1 h2 => ?_) hw⟩
    have hr := hw.2.2.2.2.2.1 j h1 h2
    have a1 : wI w1 204 j = wI w 204 j := frP_I f1 (by unfold Scr; omega)
    have a2 : wI w1 206 j = wI w 206 j := frP_I f1 (by unfold Scr; omega)
    have a3 : wI w2 204 j = wI (rfX w1 k) 204 j := frP_I f2 (by unfold Scr; omega)
    have a4 : wI w2 206 j = wI (rfX w1 k) 206 j := frP_I f2 (by unfold Scr; omega)
    have a5 : wI w2 206 k = wI (rfX w1 k) 206 k := frP_I f2 (by unfold Scr; omega)
    unfold rfM
    rw [wI_sI, wI_sI, a3, a4, a5]
    unfold rfX
    rw [wI_sI, wI_sI, wI_sI, if_neg (show ¬ (204 = 206 ∧ j = k) by omega), if_neg (show ¬ (206 = 204 ∧ k = k) by omega), if_neg (show ¬ (206 = 204 ∧ j = k) by omega)]
    by_cases e : j = k
    · subst e
      have b2 : wI w1 206 j = wI w1 204 j := by rw [a1, a2, hr]
      rw [if_pos ⟨rfl, rfl⟩, if_pos ⟨rfl, rfl⟩, b2]
    · rw [if_neg (fun q => e q.2), if_neg (fun q => e q.2), a1, a2, hr]
theorem frS_0 (w : jWd) : frS w (sI w 205 0 (0 : Int32)) := frP_sI _ _ (by unfold Scr; omega)
/-- an index, or not -/
theorem ix_cs (x : Int32) (m : Nat) : (∃ k, k < m ∧ x = nI k) ∨ ∀ k, k < m → x ≠ nI k := by
  by_cases h : ∃ k, k < m ∧ x = nI k
  · exact .inl h
  · exact .inr (fun k hk e => h ⟨k, hk, e⟩)
theorem has_no {c m : Nat} {x : Int32} {w : jWd} (h : ∀ k, k < m → x ≠ nI k) (hm : m < 2147483648) (hs : wI w c 2 = nI m) : fX5_has c x w = bI false := by
  rcases ev_i32 x with q | ⟨k, hk, rfl⟩
  · exact has_neg q
  · rw [has_N hk hm hs, decide_eq_false (fun z => h k z rfl)]
theorem has_yes {c m k : Nat} {w : jWd} (h : k < m) (hm : m < 2147483648) (hs : wI w c 2 = nI m) : fX5_has c (nI k) w = bI true := by
  rw [has_N (by omega) hm hs, decide_eq_true h]
theorem wd_1 {m : Nat} (hm : m < 2147483648) : (0 < m ∧ (nI m - (1 : Int32)).toInt64 = lN (m - 1)) ∨ (m = 0 ∧ (nI m - (1 : Int32)).toInt64 = -1) := by
  cases m with
  | zero => exact .inr ⟨rfl, by decide⟩
  | succ m => exact .inl ⟨by omega, by rw [nI_pred, nI_l (by omega)]; rfl⟩
theorem wi_yes {m k : Nat} (h : k < m) (hm : m < 2147483648) : ¬ fX12_within (nI k).toInt64 0 ((nI m - (1 : Int32)).toInt64) = 0 := by
  rcases wd_1 hm with ⟨_, e⟩ | ⟨e, _⟩
  · rw [e]
    exact w0_of (lo := 0) (by omega) (by omega) (by omega)
  · omega
theorem wi_no {m : Nat} {x : Int32} (h : ∀ k, k < m → x ≠ nI k) (hm : m < 2147483648) : fX12_within x.toInt64 0 ((nI m - (1 : Int32)).toInt64) = 0 := by
  refine (wi_X _ _ _).mpr (fun q => ?_)
  rcases wd_1 hm with ⟨h0, e⟩ | ⟨e, e2⟩
  · rw [e] at q
    obtain ⟨k, -, h2, e3⟩ := wi_in (lo := 0) (hi := m - 1) (by omega) q (by omega)
    exact h k (by omega) e3
  · rw [e2] at q
    have := Int64.le_trans q.1 q.2
    exact absurd this (by decide)
theorem hf_cs (x : Int32) : (fX11_isHalf x = 0 ∧ fX12_within x.toInt64 0 1 = 0) ∨ ∃ k : Nat, k ≤ 1 ∧ x = nI k ∧ fX11_isHalf (nI k) = 1 ∧ ¬ fX12_within (nI k).toInt64 0 1 = 0 := by
  rcases wi_cs x 0 1 (a := 0) (b := 1) rfl rfl (by decide) (by decide) with ⟨h1, h2⟩ | ⟨k, _, hk, rfl, h1, h2⟩
  · refine .inl ⟨?_, h2⟩
    unfold fX11_isHalf
    rw [if_neg (fun e => by subst e; exact absurd h2 (by decide)), if_neg (fun e => by subst e; exact absurd h2 (by decide))]
  · refine .inr ⟨k, hk, rfl, ?_, h2⟩
    rcases (show k = 0 ∨ k = 1 by omega) with e | e <;> subst e <;> rfl
theorem bd_cs (x : Int32) : (fX11_isBound x = 0 ∧ fX12_within x.toInt64 1 100 = 0) ∨ ∃ k : Nat, 1 ≤ k ∧ k ≤ 100 ∧ x = nI k ∧ ¬ fX11_isBound (nI k) = 0 ∧ ¬ fX12_within (nI k).toInt64 1 100 = 0 := by
  have e : ∀ y : Int32, fX11_isBound y = fX11_within y.toInt64 1 100 := by
    intro y
    unfold fX11_isBound fX11_within
    split
    · rfl
    · split <;> rfl
  rcases wi_cs x 1 100 (a := 1) (b := 100) rfl rfl (by decide) (by decide) with ⟨h1, h2⟩ | ⟨k, hk1, hk, rfl, h1, h2⟩
  · exact .inl ⟨(e _).trans h1, h2⟩
  · exact .inr ⟨k, hk1, hk, rfl, fun q => h1 ((e _).symm.trans q), h2⟩
section CALLS
variable {A : Nat → Nat} {L : Nat → Int64} {F W : Nat → Nat} {w : jWd}
theorem hasi_no (h : RN A L F W w) {k g : Nat} (hk : k ≤ 9) (hg : g < gK A k) {x : Int32} (hx : ∀ i, i < cK A k g → x ≠ nI i) : fX5_has_ (pcK k) (nI g) x w = some (bI false) := by
  rcases ev_i32 x with q | ⟨i, hi, rfl⟩
  · obtain ⟨q1, q2, -⟩ := pile_X h hk hg
    unfold fX5_has_
    rw [has_N (m := gK A k) (by omega) (by omega) q1, ev_bI, if_pos hg, if_pos q]
    rfl
  · rw [hasi_X h hk hg hi, decide_eq_false (fun z => hx i z rfl)]
theorem s_whose : fS_whose RR := by
  intro w a0 a1 hw
  obtain ⟨⟨A, L, F, W, h⟩, -⟩ := id hw
  have h60 := h.1.1.2.2.2.1
  refine ⟨20000, rr_call hw ?_⟩
  have bad : (∀ k, k < A 162 → a0 ≠ nI k) ∨ (fX11_isHalf a1 = 0 ∧ fX12_within a1.toInt64 0 1 = 0) → noX (fX11_whose 20000 a0 a1 w) w (-2) 2 ∧ ∀ w1, frS2 w w1 → noM (fX12_whose 20000 a0 a1 w1) w1 (-2) 2 := by
    intro hb
    refine ⟨⟨w, ?_, frP_refl _ _⟩, fun w1 f1 => ⟨sI w1 205 0 (0 : Int32), ?_, frS_0 w1⟩⟩
    · unfold fX11_whose letV
      dsimp only
      rw [rx_id2]
      rcases ix_cs a0 (A 162) with ⟨p, hp, rfl⟩ | hn
      · have hb := hb.resolve_left (fun q => q p hp rfl)
        rw [pr_has h hp]
        dsimp only [bO]
        rw [if_neg (by decide), if_pos hb.1]
      · rw [show fX5_has_ 16 (0 : Int32) a0 w = some (bI false) from hasi_no (k := 8) (g := 0) h (by decide) (by show 0 < 1; decide) hn]
        rfl
    · have h1 := RN_fr2 (frP_trans f1 (frS_2 (frS_0 w1))) h
      unfold fX12_whose letV
      dsimp only
      rw [no_id2, RN_A h1 (show 162 < 1124 by decide)]
      rcases hb with hb | hb
      · rw [if_pos (wi_no hb (by omega))]
      · rw [if_pos hb.2]
        split <;> rfl
  rcases ix_cs a0 (A 162) with ⟨p, hp, rfl⟩ | hn
  · rcases hf_cs a1 with hh | ⟨k, hk, rfl, hk1, hk2⟩
    · exact .inr ⟨-2, 2, by decide, by decide, bad (.inr hh)⟩
    · left
      refine ⟨if k = 0 then nI (whS A L F p).1 else (whS A L F p).2, ?_, fun w1 f1 => ?_⟩
      · obtain ⟨w', e1, e2, e3, e4⟩ := look_X (n := 20000) (by decide) h hp
        refine ⟨w', ?_, frP_mono p182_s e4⟩
        unfold fX11_whose letV
        dsimp only
        rw [pr_has h hp]
        dsimp only [bO]
        rw [if_neg (by decide), hk1, if_neg (by decide), e1]
        dsimp only [bO]
        rw [e2, e3]
        rcases (show k = 0 ∨ k = 1 by omega) with e | e <;> subst e <;> rfl
      · have f2 := frP_trans f1 (frS_2 (frS_0 w1))
        have h1 := RN_fr2 f2 h
        obtain ⟨w2, a1, a2, a3⟩ := smooths_M (n := 20000) (by decide) h1
        have h2 := RN_fr (frP_mono psl_s a3) h1
        obtain ⟨w3, b1, b2, b3⟩ := who_M (n := 20000) (by decide) h2 a2 (p := p) (by omega)
        refine ⟨w3, ?_, frP_trans (frS_0 w1) (frP_trans (frP_mono psl_s a3) (frP_mono pbs_s b3))⟩
        unfold fX12_whose letV
        dsimp only
        rw [RN_A h1 (show 162 < 1124 by decide), if_neg (wi_yes hp (by omega)), if_neg hk2, a1]
        dsimp only [bO]
        rw [b1]
        dsimp only [bO2]
        rw [b2]
        rcases (show k = 0 ∨ k = 1 by omega) with e | e <;> subst e <;> rfl
  · exact .inr ⟨-2, 2, by decide, by decide, bad (.inl hn)⟩
end CALLS
