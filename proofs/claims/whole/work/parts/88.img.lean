/-! image, restore -/
section IMG
variable {A : Nat → Nat} {L : Nat → Int64} {F W : Nat → Nat} {w w' : jWd}
theorem rI_le {c k : Nat} (h : rI c k) : c ≤ 56 := by
  unfold rI at h
  rcases h with h | h | h | h | h | h | h | h | h | h | h | h | h | h | h | h | h | h | h | h | h | h <;> omega
theorem rJ_le {c k : Nat} (h : rJ c k) : c ≤ 56 := by
  unfold rJ at h
  rcases h with h | h | h | h | h | h | h <;> omega
/-- a State told of another base -/
theorem RX_mv {t a : Nat} (hin : In A L F W) (hI : ∀ c k, rI c k → wI w' (t + c) k = wI w (a + c) k) (hJ : ∀ c k, rJ c k → wJ w' (t + c) k = wJ w (a + c) k) (h : RX A L F W a w) : RX A L F W t w' := by
  obtain ⟨⟨a00, a1, a2, a3, a4, a5, a6, a7, a8, a9, b1, b2, b3⟩, ib, il, inF, inW⟩ := hin
  obtain ⟨x1, x2, x3, x4, x5, x6, x7, x8, x9, y1, y2⟩ := h
  refine ⟨⟨(hI 1 2 (by unfold rI; simp; try omega)).trans x1.1, fun i hi => ?_⟩, ⟨(hI 8 2 (by unfold rI; simp; try omega)).trans x2.1, fun i hi => ?_⟩, ⟨(hI 18 0 (by unfold rI; simp; try omega)).trans x3.1, (hI 19 0 (by unfold rI; simp; try omega)).trans x3.2.1, fun p hp => ?_⟩, ⟨(hI 22 2 (by unfold rI; simp; try omega)).trans x4.1, fun v hv => ?_⟩, fun k hk => (hI 30 k (by unfold rI; simp; try omega)).trans (x5 k hk), ⟨(hI 31 0 (by unfold rI; simp; try omega)).trans x6.1, fun r hr => ?_⟩, ?_, ⟨(hI 40 0 (by unfold rI; simp; try omega)).trans x8.1, fun i hi => ?_⟩, ⟨(hI 47 0 (by unfold rI; simp; try omega)).trans x9.1, (hI 47 1 (by unfold rI; simp; try omega)).trans x9.2.1, (hI 47 2 (by unfold rI; simp; try omega)).trans x9.2.2.1, fun i hi => ?_, fun i hi => ?_, fun i hi => ?_⟩, ⟨(hI 54 0 (by unfold rI; simp; try omega)).trans y1.1, fun i hi => ?_, fun i h1 h2 g hg => ?_⟩, ⟨(hI 0 11 (by unfold rI; simp; try omega)).trans y2.1, (hI 0 12 (by unfold rI; simp; try omega)).trans y2.2⟩⟩
  · obtain ⟨e1, e2, e3, e4⟩ := x1.2 i hi
    have := a2 i (by omega)
    exact ⟨(hI 2 i (by unfold rI; simp; try omega)).trans e1, (hI 4 i (by unfold rI; simp; try omega)).trans e2, (hI 5 i (by unfold rI; simp; try omega)).trans e3, fun k hk => ⟨(hJ 7 _ (by unfold rJ; simp; try omega)).trans (e4 k hk).1, (hJ 29 _ (by unfold rJ; simp; try omega)).trans (e4 k hk).2⟩⟩
  · obtain ⟨e1, e2, e3⟩ := x2.2 i hi
    have := a5 i (by omega)
    exact ⟨(hI 9 i (by unfold rI; simp; try omega)).trans e1, (hI 12 i (by unfold rI; simp; try omega)).trans e2, fun k hk => (hJ 14 _ (by unfold rJ; simp; try omega)).trans (e3 k hk)⟩
  · obtain ⟨e1, e2⟩ := x3.2.2 p hp
    exact ⟨(hI 20 p (by unfold rI; simp; try omega)).trans e1, (hJ 21 p (by unfold rJ; simp; try omega)).trans e2⟩
  · obtain ⟨e1, e2, e3, e4, e5⟩ := x4.2 v hv
    exact ⟨(hI 23 v (by unfold rI; simp; try omega)).trans e1, (hI 25 v (by unfold rI; simp; try omega)).trans e2, (hI 26 v (by unfold rI; simp; try omega)).trans e3, (hJ 28 _ (by unfold rJ; simp; try omega)).trans e4, (hJ 28 _ (by unfold rJ; simp; try omega)).trans e5⟩
  · obtain ⟨e1, e2, e3, e4, e5⟩ := x6.2 r hr
    have g0 := inF.1
    obtain ⟨-, -, -, -, g1, g2, -⟩ := inF.2 r hr
    exact ⟨(hJ 32 r (by unfold rJ; simp; try omega)).trans e1, (hJ 33 r (by unfold rJ; simp; try omega)).trans e2, (hI 34 r (by unfold rI; simp; try omega)).trans e3, (hI 35 r (by unfold rI; simp; try omega)).trans e4, fun i h1 h2 => ⟨(hI 36 i (by unfold rI; simp; try omega)).trans (e5 i h1 h2).1, (hI 37 i (by unfold rI; simp; try omega)).trans (e5 i h1 h2).2⟩⟩
  · obtain ⟨e1, e2, e3, e4, e5, e6⟩ := x7
    exact ⟨(hI 38 0 (by unfold rI; simp; try omega)).trans e1, (hI 38 1 (by unfold rI; simp; try omega)).trans e2, (hI 38 2 (by unfold rI; simp; try omega)).trans e3, (hI 38 3 (by unfold rI; simp; try omega)).trans e4, (hI 39 0 (by unfold rI; simp; try omega)).trans e5, fun v h1 h2 => (hI 39 v (by unfold rI; simp; try omega)).trans (e6 v h1 h2)⟩
  · obtain ⟨e1, e2, e3, e4, e5, e6⟩ := x8.2 i hi
    exact ⟨(hI 41 i (by unfold rI; simp; try omega)).trans e1, (hI 42 i (by unfold rI; simp; try omega)).trans e2, (hI 43 i (by unfold rI; simp; try omega)).trans e3, (hI 44 i (by unfold rI; simp; try omega)).trans e4, (hI 45 i (by unfold rI; simp; try omega)).trans e5, (hJ 46 i (by unfold rJ; simp; try omega)).trans e6⟩
  · exact ⟨(hI 48 i (by unfold rI; simp; try omega)).trans (x9.2.2.2.1 i hi).1, (hI 49 i (by unfold rI; simp; try omega)).trans (x9.2.2.2.1 i hi).2⟩
  · exact ⟨(hI 50 i (by unfold rI; simp; try omega)).trans (x9.2.2.2.2.1 i hi).1, (hI 51 i (by unfold rI; simp; try omega)).trans (x9.2.2.2.2.1 i hi).2⟩
  · exact ⟨(hI 52 i (by unfold rI; simp; try omega)).trans (x9.2.2.2.2.2 i hi).1, (hI 53 i (by unfold rI; simp; try omega)).trans (x9.2.2.2.2.2 i hi).2⟩
  · exact ⟨(hI 55 i (by unfold rI; simp; try omega)).trans (y1.2.1 i hi).1, fun g hg => (hI 56 _ (by unfold rI; simp; try omega)).trans ((y1.2.1 i hi).2 g hg)⟩
  · exact (hI 56 _ (by unfold rI; simp; try omega)).trans (y1.2.2 i h1 h2 g hg)
theorem RIm_cg2 {i : Nat} (hI : ∀ c k, 61 + 60 * i ≤ c → c ≤ 61 + 60 * i + 56 → wI w' c k = wI w c k) (hJ : ∀ c k, 61 + 60 * i ≤ c → c ≤ 61 + 60 * i + 56 → wJ w' c k = wJ w c k) (h1 : wI w' 181 i = wI w 181 i) (h2 : wI w' 209 i = wI w 209 i) (hA : ∀ k, k < 1124 → wI w' 207 (1124 * (i + 1) + k) = wI w 207 (1124 * (i + 1) + k)) (hL : ∀ k, k < 784 → wJ w' 208 (784 * (i + 1) + k) = wJ w 208 (784 * (i + 1) + k)) (hF : ∀ k, k < 645 → wI w' 211 (645 * (i + 1) + k) = wI w 211 (645 * (i + 1) + k)) (hW : ∀ k, k < 29 → wI w' 212 (29 * (i + 1) + k) = wI w 212 (29 * (i + 1) + k)) (h : RIm i w) : RIm i w' := by
  unfold RIm at h ⊢
  rw [h1, h2]
  rcases h with h | ⟨a, b, A, L, F, W, c, d, e⟩
  · exact .inl h
  · exact .inr ⟨a, b, A, L, F, W, c, RX_cg c.1 (fun c k x y => hI c k x y) (fun c k x y => hJ c k x y) d, RM_cg (fun k q => hA k q) (fun k q => hL k q) (fun k q => hF k q) (fun k q => hW k q) e⟩
theorem rest_cg (hI : ∀ c k, (c = 204 ∨ c = 206 ∨ (c = 0 ∧ k = 8) ∨ (c = 205 ∧ (k = 9 ∨ k = 19 ∨ k = 20)) ∨ c = 213 ∨ c = 202 ∨ (c = 189 ∧ k ≤ 3) ∨ c = 186 ∨ c = 187 ∨ c = 221 ∨ c = 222) → wI w' c k = wI w c k) (hJ : ∀ c k, c = 188 ∨ c = 223 → wJ w' c k = wJ w c k) (h : RRef w ∧ RTape w ∧ RFlt w ∧ RRow w) : RRef w' ∧ RTape w' ∧ RFlt w' ∧ RRow w' := by
  obtain ⟨f, ⟨n, g1, g2, g3, g4⟩, i, j⟩ := h
  refine ⟨fun k h1 h2 => ?_, ⟨n, g1, ?_, ?_, fun k hk => ?_⟩, ?_, fun r hr => ?_⟩
  · rw [hI _ _ (by omega), hI _ _ (by omega)]; exact f k h1 h2
  · rw [hI _ _ (by omega)]; exact g2
  · rw [hI _ _ (by omega)]; exact g3
  · rw [hI _ _ (by omega), hI _ _ (by omega)]; exact g4 k hk
  · unfold RFlt
    rw [hI 189 2 (by omega), hI 205 19 (by omega), hI 205 20 (by omega), hI 189 3 (by omega)]
    exact i
  · rw [hI 186 r (by omega), hI 221 r (by omega), hI 187 r (by omega), hI 222 r (by omega)]
    rcases j r hr with q | ⟨n, s, q1, q2, q3, q4, q5, q6, q7⟩
    · exact .inl q
    · exact .inr ⟨n, s, q1, q2, q3, q4, q5, q6, fun k hk => by rw [hJ _ _ (by omega), hJ _ _ (by omega)]; exact q7 k hk⟩
theorem ln_st1 : ∀ i, i < 57 → (ln (61 + i) = ln (1 + i) ∧ ln (121 + i) = ln (1 + i)) := by decide
theorem ln_st {k i : Nat} (hk : k ≤ 1) (h : i ≤ 56) : ln (61 + 60 * k + i) = ln (1 + i) := by
  rcases (show k = 0 ∨ k = 1 by omega) with rfl | rfl
  · exact (ln_st1 i (by omega)).1
  · exact (ln_st1 i (by omega)).2
theorem imAt {k : Nat} (hk : k ≤ 1) : fX11_imageAt (nI k) = 61 + 60 * k := by
  rcases (show k = 0 ∨ k = 1 by omega) with rfl | rfl <;> rfl
theorem s_image_n {n : Nat} (hn : 1200 < n) (w : jWd) (a0 : Int32) (hw : RR w) : ∃ (v : Int32) (w1 w2 : jWd), fX11_image a0 w = some (v, w1) ∧ fX12_image n a0 w1 = some (v, w2) ∧ RR w2 := by
  have l1 : ln 181 = 2 := rfl
  have l2 : ln 209 = 2 := rfl
  rcases hf_cs a0 with ⟨h1, h2⟩ | ⟨k, hk, rfl, h1, h2⟩
  · refine rr_call hw (.inr ⟨-2, 2, by decide, by decide, ⟨w, ?_, frP_refl _ _⟩, fun w1 f1 => ⟨sI w1 205 0 (0 : Int32), ?_, frS_0 w1⟩⟩)
    · unfold fX11_image letV
      dsimp only
      rw [if_pos h1, rx_id2]
    · unfold fX12_image letV
      dsimp only
      rw [if_pos h2, no_id2]
  · obtain ⟨⟨A, L, F, W, hin, hx, hc, hm⟩, r0, r1, c0, c1, rest⟩ := id hw
    have ck : RCon (61 + 60 * k) w := by
      rcases (show k = 0 ∨ k = 1 by omega) with e | e <;> subst e
      · exact c0
      · exact c1
    obtain ⟨u1, e1, f1, ct, gI, gJ⟩ := cp_X8 (t := 61 + 60 * k) (a := 1) (w := w) (by omega) (fun i hi => ⟨ln_st hk hi, rfl⟩) ck hc
    obtain ⟨U1, hU1⟩ : ∃ U, U = sI (sI u1 181 k (1 : Int32)) 205 0 (0 : Int32) := ⟨_, rfl⟩
    have fU : frP (fun c j => (61 + 60 * k ≤ c ∧ c ≤ 61 + 60 * k + 59) ∨ (c = 181 ∧ j = k) ∨ Scr c j) w U1 := by
      rw [hU1]
      exact frP_trans (frP_trans (frP_mono (fun c j z => .inl z) f1) (frP_sI _ _ (.inr (.inl ⟨rfl, rfl⟩)))) (frP_sI _ _ (.inr (.inr (by unfold Scr; omega))))
    have mU : RM A L F W 0 U1 := RM_cg (fun j _ => frP_I fU (by unfold Scr; omega)) (fun j _ => frP_J fU (by unfold Scr; omega)) (fun j _ => frP_I fU (by unfold Scr; omega)) (fun j _ => frP_I fU (by unfold Scr; omega)) hm
    obtain ⟨u2, e2, m2, f2⟩ := cq_M (n := n) (p := 0) (q := k + 1) hn (by omega) (by omega) (by omega) mU
    obtain ⟨U2, hU2⟩ : ∃ U, U = sI u2 209 k (1 : Int32) := ⟨_, rfl⟩
    have fV : frP (fun c j => CqS (k + 1) c j ∨ (c = 209 ∧ j = k)) U1 U2 := by
      rw [hU2]
      exact frP_trans (frP_mono (fun c j z => .inl z) f2) (frP_sI _ _ (.inr ⟨rfl, rfl⟩))
    have fA : frP (fun c j => (61 + 60 * k ≤ c ∧ c ≤ 61 + 60 * k + 59) ∨ (c = 181 ∧ j = k) ∨ Scr c j ∨ CqS (k + 1) c j ∨ (c = 209 ∧ j = k)) w U2 := frP_trans (frP_mono (fun c j z => z.elim .inl (fun z => z.elim (fun z => .inr (.inl z)) (fun z => .inr (.inr (.inl z))))) fU) (frP_mono (fun c j z => .inr (.inr (.inr z))) fV)
    have nk : RIm k U2 := by
      refine .inr ⟨?_, ?_, A, L, F, W, hin, RX_mv hin (fun c j z => ?_) (fun c j z => ?_) hx, ?_⟩
      · rw [frP_I fV (by unfold CqS; omega), hU1, ev_wIn _ (by omega)]
        exact ev_wIs _ _ _ _
      · rw [hU2]
        exact ev_wIs _ _ _ _
      · have hc57 : c ≤ 56 := rI_le z
        rw [frP_I fV (by unfold CqS; omega), hU1, ev_wIn _ (by omega), ev_wIn _ (by omega)]
        exact gI c j z
      · have hc57 : c ≤ 56 := rJ_le z
        rw [frP_J fV (by unfold CqS; omega), hU1, wJ_sI, wJ_sI]
        exact gJ c j z
      · rw [hU2]
        exact RM_cg (fun j _ => ev_wIn _ (by omega)) (fun j _ => wJ_sI _ _ _ _ _ _) (fun j _ => ev_wIn _ (by omega)) (fun j _ => ev_wIn _ (by omega)) m2
    have ok : ∀ i, i ≤ 1 → i ≠ k → RIm i w → RIm i U2 := fun i hi hne h => RIm_cg2 (fun c j _ _ => frP_I fA (by unfold Scr CqS; omega)) (fun c j _ _ => frP_J fA (by unfold Scr CqS; omega)) (frP_I fA (by unfold Scr CqS; omega)) (frP_I fA (by unfold Scr CqS; omega)) (fun j _ => frP_I fA (by unfold Scr CqS; omega)) (fun j _ => frP_J fA (by unfold Scr CqS; omega)) (fun j _ => frP_I fA (by unfold Scr CqS; omega)) (fun j _ => frP_I fA (by unfold Scr CqS; omega)) h
    have cU : RCon (61 + 60 * k) U2 := RCon_cg (fun c j _ _ hj => by rw [frP_I fV (by unfold CqS; omega), hU1, ev_wIn _ (by omega), ev_wIn _ (by omega)]) ct
    have co : ∀ i, i ≤ 1 → i ≠ k → RCon (61 + 60 * i) w → RCon (61 + 60 * i) U2 := fun i hi hne h => RCon_cg (fun c j _ _ _ => frP_I fA (by unfold Scr CqS; omega)) h
    refine ⟨0, sI u1 181 k (1 : Int32), U2, ?_, ?_, ⟨A, L, F, W, hin, RX_cg hin.1 (fun c j _ _ => frP_I fA (by unfold Scr CqS; omega)) (fun c j _ _ => frP_J fA (by unfold Scr CqS; omega)) hx, RCon_cg (fun c j _ _ _ => frP_I fA (by unfold Scr CqS; omega)) hc, RM_cg (fun j _ => frP_I fA (by unfold Scr CqS; omega)) (fun j _ => frP_J fA (by unfold Scr CqS; omega)) (fun j _ => frP_I fA (by unfold Scr CqS; omega)) (fun j _ => frP_I fA (by unfold Scr CqS; omega)) hm⟩, ?_, ?_, ?_, ?_, rest_cg (fun c j z => frP_I fA (by unfold Scr CqS; omega)) (fun c j z => frP_J fA (by unfold Scr CqS; omega)) rest⟩
    · unfold fX11_image letV
      dsimp only
      rw [h1, if_neg (by decide), imAt hk, e1, ev_bO, l1, grd_N (by omega) (by decide), nI_clamp (by omega)]
      rfl
    · unfold fX12_image letV
      dsimp only
      rw [if_neg h2, ← hU1, nI_1, show (0 : Int32) = nI 0 from rfl, e2, ev_bO, l2, grd_N (by omega) (by decide), nI_clamp (by omega), hU2]
      rfl
    · rcases (show k = 0 ∨ k = 1 by omega) with e | e
      · subst e; exact nk
      · exact ok 0 (by omega) (by omega) r0
    · rcases (show k = 0 ∨ k = 1 by omega) with e | e
      · exact ok 1 (by omega) (by omega) r1
      · subst e; exact nk
    · rcases (show k = 0 ∨ k = 1 by omega) with e | e
      · subst e; exact cU
      · exact co 0 (by omega) (by omega) c0
    · rcases (show k = 0 ∨ k = 1 by omega) with e | e
      · exact co 1 (by omega) (by omega) c1
      · subst e; exact cU
theorem s_image : fS_image RR := fun w a0 hw => ⟨20000, s_image_n (by decide) w a0 hw⟩
theorem s_restore_n {n : Nat} (hn : 1200 < n) (w : jWd) (a0 : Int32) (hw : RR w) : ∃ (v : Int32) (w1 w2 : jWd), fX11_restore a0 w = some (v, w1) ∧ fX12_restore n a0 w1 = some (v, w2) ∧ RR w2 := by
  have l1 : ln 181 = 2 := rfl
  have l2 : ln 209 = 2 := rfl
  rcases hf_cs a0 with ⟨h1, h2⟩ | ⟨k, hk, rfl, h1, h2⟩
  · refine rr_call hw (.inr ⟨-2, 2, by decide, by decide, ⟨w, ?_, frP_refl _ _⟩, fun w1 f1 => ⟨sI w1 205 0 (0 : Int32), ?_, frS_0 w1⟩⟩)
    · unfold fX11_restore letV
      dsimp only
      rw [if_pos h1, rx_id2]
    · unfold fX12_restore letV
      dsimp only
      rw [if_pos h2, no_id2]
  · obtain ⟨⟨A0, L0, F0, W0, hin0, hx0, hc, hm0⟩, r0, r1, c0, c1, rest⟩ := id hw
    have ck : RCon (61 + 60 * k) w := by
      rcases (show k = 0 ∨ k = 1 by omega) with e | e <;> subst e
      · exact c0
      · exact c1
    have rk : RIm k w := by
      rcases (show k = 0 ∨ k = 1 by omega) with e | e <;> subst e
      · exact r0
      · exact r1
    rcases rk with ⟨q1, q2⟩ | ⟨q1, q2, A, L, F, W, hin, hx, hm⟩
    · refine rr_call hw (.inr ⟨-5, 5, by decide, by decide, ⟨w, ?_, frP_refl _ _⟩, fun w1 f1 => ⟨sI w1 205 0 (0 : Int32), ?_, frS_0 w1⟩⟩)
      · unfold fX11_restore letV
        dsimp only
        rw [h1, if_neg (by decide), l1, grd_N (by omega) (by decide), nI_clamp (by omega), if_pos (show wI w 181 k = (0 : Int32) from q1), rx_id5]
      · unfold fX12_restore letV
        dsimp only
        rw [if_neg h2, l2, grd_N (by omega) (by decide), nI_clamp (by omega), ev_wIn _ (by omega), frP_I f1 (by unfold Scr2 Scr; omega), if_pos (show wI w 209 k = (0 : Int32) from q2), no_id5]
    · obtain ⟨u1, e1, f1, ct, gI, gJ⟩ := cp_X8 (t := 1) (a := 61 + 60 * k) (w := w) (by omega) (fun i hi => ⟨rfl, ln_st hk hi⟩) hc ck
      obtain ⟨U1, hU1⟩ : ∃ U, U = sI u1 205 0 (0 : Int32) := ⟨_, rfl⟩
      have fU : frP (fun c j => (1 ≤ c ∧ c ≤ 60) ∨ Scr c j) w U1 := by
        rw [hU1]
        exact frP_trans (frP_mono (fun c j z => .inl ⟨z.1, by omega⟩) f1) (frP_sI _ _ (.inr (by unfold Scr; omega)))
      have mU : RM A L F W (k + 1) U1 := RM_cg (fun j _ => frP_I fU (by unfold Scr; omega)) (fun j _ => frP_J fU (by unfold Scr; omega)) (fun j _ => frP_I fU (by unfold Scr; omega)) (fun j _ => frP_I fU (by unfold Scr; omega)) hm
      obtain ⟨u2, e2, m2, f2⟩ := cq_M (n := n) (p := k + 1) (q := 0) hn (by omega) (by omega) (by omega) mU
      have fA : frP (fun c j => (1 ≤ c ∧ c ≤ 60) ∨ Scr c j ∨ CqS 0 c j) w u2 := frP_trans (frP_mono (fun c j z => z.elim .inl (fun z => .inr (.inl z))) fU) (frP_mono (fun c j z => .inr (.inr z)) f2)
      have ok : ∀ i, i ≤ 1 → RIm i w → RIm i u2 := fun i hi h => RIm_cg2 (fun c j _ _ => frP_I fA (by unfold Scr CqS; omega)) (fun c j _ _ => frP_J fA (by unfold Scr CqS; omega)) (frP_I fA (by unfold Scr CqS; omega)) (frP_I fA (by unfold Scr CqS; omega)) (fun j _ => frP_I fA (by unfold Scr CqS; omega)) (fun j _ => frP_J fA (by unfold Scr CqS; omega)) (fun j _ => frP_I fA (by unfold Scr CqS; omega)) (fun j _ => frP_I fA (by unfold Scr CqS; omega)) h
      refine ⟨0, u1, u2, ?_, ?_, ⟨A, L, F, W, hin, RX_mv hin (fun c j z => ?_) (fun c j z => ?_) hx, ?_, m2⟩, ok 0 (by omega) r0, ok 1 (by omega) r1, RCon_cg (fun c j _ _ _ => frP_I fA (by unfold Scr CqS; omega)) c0, RCon_cg (fun c j _ _ _ => frP_I fA (by unfold Scr CqS; omega)) c1, rest_cg (fun c j z => frP_I fA (by unfold Scr CqS; omega)) (fun c j z => frP_J fA (by unfold Scr CqS; omega)) rest⟩
      · unfold fX11_restore letV
        dsimp only
        rw [h1, if_neg (by decide), l1, grd_N (by omega) (by decide), nI_clamp (by omega), q1, if_neg (by decide), imAt hk, e1, ev_bO]
      · unfold fX12_restore letV
        dsimp only
        rw [if_neg h2, l2, grd_N (by omega) (by decide), nI_clamp (by omega), ← hU1, frP_I fU (by unfold Scr; omega), q2, if_neg (by decide), nI_1, show (0 : Int32) = nI 0 from rfl, e2, ev_bO]
      · have hc57 : c ≤ 56 := rI_le z
        rw [frP_I f2 (by unfold CqS; omega), hU1, ev_wIn _ (by omega)]
        exact gI c j z
      · have hc57 : c ≤ 56 := rJ_le z
        rw [frP_J f2 (by unfold CqS; omega), hU1, wJ_sI]
        exact gJ c j z
      · exact RCon_cg (fun c j _ _ hj => by rw [frP_I f2 (by unfold CqS; omega), hU1, ev_wIn _ (by omega)]) ct
theorem s_restore : fS_restore RR := fun w a0 hw => ⟨20000, s_restore_n (by decide) w a0 hw⟩
end IMG
