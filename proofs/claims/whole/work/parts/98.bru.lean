/-! TESTS, both readers -/
def cdL : List (Nat × Nat) → Nat → Nat × Nat
  | [], _ => (0, 0)
  | p :: _, 0 => p
  | _ :: r, i + 1 => cdL r i
theorem cdL_l : ∀ (l r : List (Nat × Nat)) i, i < l.length → cdL (l ++ r) i = cdL l i
  | [], _, i, h => absurd h (Nat.not_lt_zero i)
  | _ :: _, _, 0, _ => rfl
  | _ :: l, r, i + 1, h => cdL_l l r i (Nat.lt_of_succ_lt_succ h)
theorem cdL_r : ∀ (l r : List (Nat × Nat)) i, cdL (l ++ r) (l.length + i) = cdL r i
  | [], r, i => by
    rw [show ([] : List (Nat × Nat)).length + i = i from Nat.zero_add i]
    rfl
  | p :: l, r, i => by
    rw [show (p :: l).length + i = l.length + i + 1 by rw [List.length_cons]; omega]
    exact cdL_r l r i
def Csm (l : List (Nat × Nat)) : Prop := ∀ i, (cdL l i).1 ≤ 7 ∧ (cdL l i).2 ≤ 255
theorem Csm_0 : Csm [] := fun _ => ⟨Nat.zero_le _, Nat.zero_le _⟩
theorem Csm_1 {k v : Nat} (h : k ≤ 7) (h2 : v ≤ 255) : Csm [(k, v)] := fun i => by
  cases i with
  | zero => exact ⟨h, h2⟩
  | succ i => exact ⟨Nat.zero_le _, Nat.zero_le _⟩
theorem Csm_a {l r : List (Nat × Nat)} (h : Csm l) (h2 : Csm r) : Csm (l ++ r) := fun i => by
  rcases Nat.lt_or_ge i l.length with q | q
  · rw [cdL_l l r i q]; exact h i
  · obtain ⟨k, rfl⟩ : ∃ k, i = l.length + k := ⟨i - l.length, by omega⟩
    rw [cdL_r l r k]; exact h2 k
/-- the heights of the pile over a list of steps -/
def htL : List (Nat × Nat) → Nat → Option Nat
  | [], h => some h
  | p :: r, h => if p.1 = 2 then (if 1 ≤ h then htL r h else none) else if p.1 = 3 ∨ p.1 = 4 then (if 2 ≤ h then htL r (h - 1) else none) else if (5 ≤ p.1 ∧ p.1 ≤ 7 ∧ p.2 ≤ 255 ∧ (p.1 = 5 → 1 ≤ p.2) ∧ h < 60) then htL r (h + 1) else none
theorem htL_a : ∀ (l r : List (Nat × Nat)) h, htL (l ++ r) h = (htL l h).bind (htL r)
  | [], _, _ => rfl
  | p :: l, r, h => by
    show (if p.1 = 2 then (if 1 ≤ h then htL (l ++ r) h else none) else if p.1 = 3 ∨ p.1 = 4 then (if 2 ≤ h then htL (l ++ r) (h - 1) else none) else if (5 ≤ p.1 ∧ p.1 ≤ 7 ∧ p.2 ≤ 255 ∧ (p.1 = 5 → 1 ≤ p.2) ∧ h < 60) then htL (l ++ r) (h + 1) else none) = Option.bind (if p.1 = 2 then (if 1 ≤ h then htL l h else none) else if p.1 = 3 ∨ p.1 = 4 then (if 2 ≤ h then htL l (h - 1) else none) else if (5 ≤ p.1 ∧ p.1 ≤ 7 ∧ p.2 ≤ 255 ∧ (p.1 = 5 → 1 ≤ p.2) ∧ h < 60) then htL l (h + 1) else none) (htL r)
    rw [htL_a l r h, htL_a l r (h - 1), htL_a l r (h + 1)]
    split
    · split <;> rfl
    split
    · split <;> rfl
    split <;> rfl
theorem htL_s {l r : List (Nat × Nat)} {h g k : Nat} (h1 : htL l h = some g) (h2 : htL r g = some k) : htL (l ++ r) h = some k := by
  rw [htL_a, h1]
  exact h2
theorem htL_2 {h : Nat} (h1 : 1 ≤ h) : htL [(2, 0)] h = some h := by
  show (if (2 : Nat) = 2 then (if 1 ≤ h then some h else none) else _) = _
  rw [if_pos rfl, if_pos h1]
theorem htL_b {k h : Nat} (hk : k = 3 ∨ k = 4) : htL [(k, 0)] (h + 2) = some (h + 1) := by
  show (if k = 2 then (if 1 ≤ h + 2 then some (h + 2) else none) else if k = 3 ∨ k = 4 then (if 2 ≤ h + 2 then some (h + 2 - 1) else none) else _) = _
  rw [if_neg (by omega), if_pos hk, if_pos (by omega)]
  rfl
theorem htL_f {k v h : Nat} (h1 : 5 ≤ k) (h2 : k ≤ 7) (h3 : v ≤ 255) (h4 : k = 5 → 1 ≤ v) (h5 : h < 60) : htL [(k, v)] h = some (h + 1) := by
  show (if k = 2 then (if 1 ≤ h then some h else none) else if k = 3 ∨ k = 4 then (if 2 ≤ h then some (h - 1) else none) else if (5 ≤ k ∧ k ≤ 7 ∧ v ≤ 255 ∧ (k = 5 → 1 ≤ v) ∧ h < 60) then some (h + 1) else none) = _
  rw [if_neg (by omega), if_neg (by omega), if_pos ⟨h1, h2, h3, h4, h5⟩]
def CX (cs : List (Nat × Nat)) (w : jWd) : Prop := wI w 190 1 = nI cs.length ∧ ∀ i, i < cs.length → wI w 195 i = nI (cmF (cdL cs i).1) ∧ wI w 196 i = nI (cdL cs i).2
def CM (cs : List (Nat × Nat)) (w : jWd) : Prop := wI w 205 18 = nI cs.length ∧ ∀ i, i < cs.length → wI w 211 (2080 + 2 * i) = nI (cdL cs i).1 ∧ wI w 211 (2080 + 2 * i + 1) = nI (cdL cs i).2
def BA (b : Nat → Nat) (N T d j : Nat) (cs : List (Nat × Nat)) (wX wM : jWd) : Prop := JA b N T j wX wM ∧ CX cs wX ∧ CM cs wM ∧ Csm cs ∧ wI wM 205 17 = nI d ∧ 2 * cs.length ≤ stT b N j
def BC (w : jWd) : Prop := ∃ c, c ≤ 200 ∧ wI w 190 1 = nI c
def BD (wX wM : jWd) : Prop := JD wX wM ∧ BC wX
def PtX (c k : Nat) : Prop := (c = 189 ∧ (k = 2 ∨ k = 3 ∨ k = 5)) ∨ (c = 190 ∧ k = 1) ∨ c = 195 ∨ c = 196
def PtM (c k : Nat) : Prop := (c = 205 ∧ (k = 10 ∨ k = 11 ∨ k = 13 ∨ k = 14 ∨ k = 15 ∨ k = 16 ∨ k = 17 ∨ k = 18)) ∨ (c = 211 ∧ 2080 ≤ k)
theorem ptx_n : ∀ c k, PnX c k → PtX c k := fun c k z => by unfold PnX at z; unfold PtX; omega
theorem ptm_n : ∀ c k, PnM c k → PtM c k := fun c k z => by unfold PnM at z; unfold PtM; omega
section TST
variable {b : Nat → Nat} {N T d j n : Nat} {wX wM uX uM w : jWd} {cs : List (Nat × Nat)}
theorem CX_fr (h : CX cs wX) (f : frP PnX wX uX) : CX cs uX := by
  refine ⟨by rw [frP_I f (by unfold PnX; omega)]; exact h.1, fun i hi => ?_⟩
  rw [frP_I f (by unfold PnX; omega), frP_I f (by unfold PnX; omega)]
  exact h.2 i hi
theorem CM_fr (h : CM cs wM) (f : frP (fun c k => c = 205 ∧ k ≠ 18) wM uM) : CM cs uM := by
  refine ⟨by rw [frP_I f (by omega)]; exact h.1, fun i hi => ?_⟩
  rw [frP_I f (by omega), frP_I f (by omega)]
  exact h.2 i hi
theorem pnm_18 : ∀ c k, PnM c k → (c = 205 ∧ k ≠ 18) := fun c k z => by unfold PnM at z; omega
theorem BA_to {j' : Nat} (h : BA b N T d j cs wX wM) (fX : frP PnX wX uX) (fM : frP PnM wM uM) (h2 : JA b N T j' uX uM) (hs : stT b N j ≤ stT b N j') : BA b N T d j' cs uX uM := by
  obtain ⟨a1, a2, a3, a4, a5, a6⟩ := h
  exact ⟨h2, CX_fr a2 fX, CM_fr a3 (frP_mono pnm_18 fM), a4, by rw [frP_I fM (by unfold PnM; omega)]; exact a5, by omega⟩
theorem BA_d {e : Nat} (h : BA b N T d j cs wX wM) : BA b N T e j cs wX (sI wM 205 17 (nI e)) := by
  obtain ⟨a1, a2, a3, a4, a5, a6⟩ := h
  exact ⟨⟨a1.1, MA_fr a1.2 (frP_sI _ _ (by omega))⟩, a2, CM_fr a3 (frP_sI _ _ (by omega)), a4, ev_wIs _ _ _ _, a6⟩
theorem BA_BC (h : BA b N T d j cs wX wM) : BC wX := by
  obtain ⟨a1, a2, a3, a4, a5, a6⟩ := h
  have h1 := st_b (b := b) (N := N) j
  have h2 := a1.1.1.2.1
  exact ⟨cs.length, by omega, a2.1⟩
theorem BC_fr (h : BC wX) (f : frP PnX wX uX) : BC uX := by
  obtain ⟨c, h1, h2⟩ := h
  exact ⟨c, h1, by rw [frP_I f (by unfold PnX; omega)]; exact h2⟩
theorem BA_adv (hn : 410 < n) (h : BA b N T d j cs wX wM) (hk : kdT b N j ≠ 18) : ∃ uM, fX12_next n wM = some uM ∧ sI wX 189 5 (wI wX 189 5 + (1 : Int32)) = sI wX 189 5 (nI (j + 1)) ∧ BA b N T d (j + 1) cs (sI wX 189 5 (nI (j + 1))) uM ∧ frP PnX wX (sI wX 189 5 (nI (j + 1))) ∧ frP PnM wM uM := by
  obtain ⟨e1, e2⟩ := tk_ad h.1.1 hk
  obtain ⟨uM, c1, c2, c3⟩ := nx_J hn h.1.2
  have f1 : frP PnX wX (sI wX 189 5 (nI (j + 1))) := frP_sI _ _ (by unfold PnX; omega)
  have f2 := frP_mono pnm_l c3
  have := kd_1 hk
  exact ⟨uM, c1, e1, BA_to h f1 f2 ⟨e2, c2⟩ (by omega), f1, f2⟩
theorem ea_nx {k : Nat} {c : Int32} (h : MA b N j w) (hc : c = nI k) (q : kdT b N j = k) {u : jWd} (hu : fX12_next n w = some u) : fX12_eats n c w = some (1, u) := by
  unfold fX12_eats
  rw [is_y h hc q, if_neg (by decide), hu, ev_bO]
theorem em_X {L : Nat} {a v : Int32} (h : wI w 190 1 = nI L) (hl : L < 200) : fX1_emit 190 a v w = some (sI (sI (sI w 195 L a) 196 L v) 190 1 (nI (L + 1))) := by
  have l5 : ln (190 + 5) = 200 := rfl
  have l6 : ln (190 + 6) = 200 := rfl
  have e1 : wI (sI w (190 + 5) L a) 190 1 = nI L := by rw [ev_wIn _ (by omega)]; exact h
  have e2 : wI (sI (sI w (190 + 5) L a) (190 + 6) L v) 190 1 = nI L := by rw [ev_wIn _ (by omega)]; exact e1
  unfold fX1_emit letV
  dsimp only
  rw [h, if_pos (show nI L < (200 : Int32) from nI_lt (b := 200) hl (by decide)), l5, grd_N hl (by decide), nI_clamp (by omega), e1, l6, grd_N hl (by decide), nI_clamp (by omega), e2, nI_1] <;> rfl
theorem em_M {L : Nat} {a v : Int32} (h : wI w 205 18 = nI L) (hl : L < 200) : fX12_emit a v w = some (sI (sI (sI w 211 (2080 + 2 * L) a) 211 (2080 + 2 * L + 1) v) 205 18 (nI (L + 1))) := by
  have l : ln 211 = 2580 := rfl
  have e : (2080 : Int32) + (2 : Int32) * nI L = nI (2080 + 2 * L) := by
    rw [show (2 : Int32) * nI L = nI (2 * L) from pk_mul 2 L]
    exact nI_add 2080 _
  have e1 : wI (sI w 211 (2080 + 2 * L) a) 205 18 = nI L := by rw [ev_wIn _ (by omega)]; exact h
  have e2 : wI (sI (sI w 211 (2080 + 2 * L) a) 211 (2080 + 2 * L + 1) v) 205 18 = nI L := by rw [ev_wIn _ (by omega)]; exact e1
  unfold fX12_emit letV
  dsimp only
  rw [h, e, l, grd_N (by omega) (by decide), nI_clamp (by omega), e1, e, nI_1 (2080 + 2 * L), grd_N (by omega) (by decide), nI_clamp (by omega), e2, nI_1]
theorem em_D {f p : Nat} {a v : Int32} (h : XD f p wX) (hc : BC wX) : ∃ u, fX1_emit 190 a v wX = some u ∧ XD f p u ∧ BC u ∧ frP PtX wX u := by
  obtain ⟨c, h1, h2⟩ := hc
  rcases Nat.lt_or_ge c 200 with q | q
  · exact ⟨_, em_X h2 q, XD_fr (XD_fr (XD_fr h (frP_sI _ _ (by omega))) (frP_sI _ _ (by omega))) (frP_sI _ _ (by omega)), ⟨c + 1, by omega, ev_wIs _ _ _ _⟩, frP_trans (frP_trans (frP_sI _ _ (by unfold PtX; omega)) (frP_sI _ _ (by unfold PtX; omega))) (frP_sI _ _ (by unfold PtX; omega))⟩
  · refine ⟨wX, ?_, h, ⟨c, h1, h2⟩, frP_refl _ _⟩
    unfold fX1_emit
    rw [h2, if_neg (show ¬ nI c < (200 : Int32) from nI_nlt (b := 200) q (by omega))]
theorem em_J {k v : Nat} {kX : Int32} (h : BA b N T d j cs wX wM) (hk : k ≤ 7) (hv : v ≤ 255) (hX : kX = nI (cmF k)) (hl : 2 * (cs.length + 1) ≤ stT b N j) : ∃ uX uM, fX1_emit 190 kX (nI v) wX = some uX ∧ fX12_emit (nI k) (nI v) wM = some uM ∧ frP PtX wX uX ∧ frP PtM wM uM ∧ BA b N T d j (cs ++ [(k, v)]) uX uM := by
  obtain ⟨a1, ⟨a2, b2⟩, ⟨a3, b3⟩, a4, a5, a6⟩ := h
  have h1 := st_b (b := b) (N := N) j
  have h2 := a1.1.1.2.1
  have hL : cs.length < 200 := by omega
  have elen : (cs ++ [(k, v)]).length = cs.length + 1 := by rw [List.length_append]; rfl
  have eat : cdL (cs ++ [(k, v)]) cs.length = (k, v) := cdL_r cs [(k, v)] 0
  refine ⟨_, _, em_X a2 hL, em_M a3 hL, frP_trans (frP_trans (frP_sI _ _ (by unfold PtX; omega)) (frP_sI _ _ (by unfold PtX; omega))) (frP_sI _ _ (by unfold PtX; omega)), frP_trans (frP_trans (frP_sI _ _ (by unfold PtM; omega)) (frP_sI _ _ (by unfold PtM; omega))) (frP_sI _ _ (by unfold PtM; omega)), ⟨XA_fr a1.1 (frP_trans (frP_trans (frP_sI _ _ (by omega)) (frP_sI _ _ (by omega))) (frP_sI _ _ (by omega))), MA_fr a1.2 (frP_trans (frP_trans (frP_sI _ _ (by omega)) (frP_sI _ _ (by omega))) (frP_sI _ _ (by omega)))⟩, ⟨by rw [elen]; exact ev_wIs _ _ _ _, fun i hi => ?_⟩, ⟨by rw [elen]; exact ev_wIs _ _ _ _, fun i hi => ?_⟩, Csm_a a4 (Csm_1 hk hv), ?_, by omega⟩
  · rw [elen] at hi
    by_cases e : i = cs.length
    · subst e
      rw [eat]
      refine ⟨?_, ?_⟩
      · rw [ev_wIn _ (by omega), ev_wIn _ (by omega), ev_wIs]; exact hX
      · rw [ev_wIn _ (by omega), ev_wIs]
    · rw [cdL_l cs _ i (by omega), ev_wIn _ (by omega), ev_wIn _ (by omega), ev_wIn _ (by omega), ev_wIn _ (by omega), ev_wIn _ (by omega), ev_wIn _ (by omega)]
      exact b2 i (by omega)
  · rw [elen] at hi
    by_cases e : i = cs.length
    · subst e
      rw [eat]
      refine ⟨?_, ?_⟩
      · rw [ev_wIn _ (by omega), ev_wIn _ (by omega), ev_wIs]
      · rw [ev_wIn _ (by omega), ev_wIs]
    · rw [cdL_l cs _ i (by omega), ev_wIn _ (by omega), ev_wIn _ (by omega), ev_wIn _ (by omega), ev_wIn _ (by omega), ev_wIn _ (by omega), ev_wIn _ (by omega)]
      exact b3 i (by omega)
  · rw [ev_wIn _ (by omega), ev_wIn _ (by omega), ev_wIn _ (by omega)]
    exact a5
/-- what a FACT comes to -/
def OuF (b : Nat → Nat) (N T d j : Nat) (cs : List (Nat × Nat)) (H : Nat) (uX uM : jWd) : Prop := BD uX uM ∨ ∃ j' nw, j < j' ∧ BA b N T d j' (cs ++ nw) uX uM ∧ 2 * nw.length + stT b N j ≤ stT b N j' ∧ ∀ h, h ≤ H → htL nw h = some (h + 1)
/-- what more of them come to -/
def OuI (b : Nat → Nat) (N T d j : Nat) (cs : List (Nat × Nat)) (H : Nat) (uX uM : jWd) : Prop := BD uX uM ∨ ∃ j' nw, j ≤ j' ∧ BA b N T d j' (cs ++ nw) uX uM ∧ 2 * nw.length + stT b N j ≤ stT b N j' ∧ ∀ h, h ≤ H → htL nw (h + 1) = some (h + 1)
def FacOK (b : Nat → Nat) (N T d : Nat) (fX : Int32 → jWd → Option jWd) (fM : jWd → Option jWd) : Prop := ∀ j cs wX wM, BA b N T d j cs wX wM → ∃ uX uM, fX (nI d) wX = some uX ∧ fM wM = some uM ∧ frP PtX wX uX ∧ frP PtM wM uM ∧ OuF b N T d j cs (2 * d + 2) uX uM
theorem in_D {fX : Int32 → jWd → Option jWd} {f p : Nat} {x p1 p2 : Int32} {g : Nat} (K : jWd → Option jWd) (h : XD f p w) (hg : 0 < g) : lX6_readTest_23 n fX p1 p2 K g x w = K w := by
  obtain ⟨g, rfl⟩ : ∃ k, g = k + 1 := ⟨g - 1, by omega⟩
  show bX6_readTest_23 n fX p1 p2 K _ x w = _
  unfold bX6_readTest_23
  rw [if_neg (XD_0 h)]
  split <;> rfl
theorem pa_D {fM : jWd → Option jWd} {f p g : Nat} (h : MD f p w) (hg : 0 < g) : lX12_parts_4 n fM g w = some w := by
  obtain ⟨g, rfl⟩ : ∃ k, g = k + 1 := ⟨g - 1, by omega⟩
  show bX12_parts_4 n fM _ w = _
  unfold bX12_parts_4
  rw [ea_D h, ev_bO2, if_pos rfl]
theorem te_D {fM : jWd → Option jWd} {f p g : Nat} (h : MD f p w) (hg : 0 < g) : lX12_test_4 n fM g w = some w := by
  obtain ⟨g, rfl⟩ : ∃ k, g = k + 1 := ⟨g - 1, by omega⟩
  show bX12_test_4 n fM _ w = _
  unfold bX12_test_4
  rw [ea_D h, ev_bO2, if_pos rfl]
theorem in_J {fX : Int32 → jWd → Option jWd} {fM : jWd → Option jWd} (hn : 410 < n) (hF : FacOK b N T d fX fM) : ∀ c x f g j cs wX wM, BA b N T d j cs wX wM → T ≤ j + c → x < j → c < f → c < g → ∃ uX uM, (∀ p2 K, lX6_readTest_23 n fX (nI d) p2 K f (nI x) wX = K uX) ∧ lX12_parts_4 n fM g wM = some uM ∧ frP PtX wX uX ∧ frP PtM wM uM ∧ OuI b N T d j cs (2 * d + 1) uX uM := by
  intro c
  induction c with
  | zero =>
    intro x f g j cs wX wM h hT hx hf hg
    obtain ⟨f, rfl⟩ : ∃ k, f = k + 1 := ⟨f - 1, by omega⟩
    obtain ⟨g, rfl⟩ : ∃ k, g = k + 1 := ⟨g - 1, by omega⟩
    have q : ¬ kdT b N j = 3 := fun e => by
      have := kd_ltT h.1.1.1 h.1.1.2.2.2 (by omega)
      omega
    refine ⟨wX, wM, fun p2 K => ?_, ?_, frP_refl _ _, frP_refl _ _, .inr ⟨j, [], Nat.le_refl _, by rw [List.append_nil]; exact h, by show 2 * 0 + _ ≤ _; omega, fun _ _ => rfl⟩⟩
    · show bX6_readTest_23 n fX (nI d) p2 K _ (nI x) wX = _
      unfold bX6_readTest_23
      rw [if_pos (XA_0 h.1.1), at_n h.1.1 (k := 3) (c := 9) (by decide) rfl q, ev_bO, if_pos rfl]
      split <;> rfl
    · show bX12_parts_4 n fM _ wM = _
      unfold bX12_parts_4
      rw [ea_n h.1.2 (k := 3) (c := 3) (by decide) rfl q, ev_bO2, if_pos rfl]
  | succ c ih =>
    intro x f g j cs wX wM h hT hx hf hg
    obtain ⟨f, rfl⟩ : ∃ k, f = k + 1 := ⟨f - 1, by omega⟩
    obtain ⟨g, rfl⟩ : ∃ k, g = k + 1 := ⟨g - 1, by omega⟩
    by_cases q : kdT b N j = 3
    · have hj := kd_ltT h.1.1.1 h.1.1.2.2.2 (by omega)
      have hTN := h.1.1.1.1
      have hN := h.1.1.1.2.1
      have hb2 := kd_2 q (by decide)
      obtain ⟨vM, n1, n2, n3, n4, n5⟩ := BA_adv (n := n) hn h (by omega)
      obtain ⟨uX, uM, s1, s2, s3, s4, s5⟩ := hF (j + 1) cs _ _ n3
      have headX : ∀ p2 K, lX6_readTest_23 n fX (nI d) p2 K (f + 1) (nI x) wX = bO (fX1_emit 190 (9 : Int32) (0 : Int32) uX) (fun (w_10 : jWd) => lX6_readTest_23 n fX (nI d) p2 K f (nI (x + 1)) w_10) := by
        intro p2 K
        show bX6_readTest_23 n fX (nI d) p2 K (lX6_readTest_23 n fX (nI d) p2 K f) (nI x) wX = _
        unfold bX6_readTest_23 letV
        dsimp only
        rw [if_neg (show ¬ (400 : Int32) ≤ nI x from nI_ge (b := 400) (by omega) (by decide)), if_pos (XA_0 h.1.1), at_y h.1.1 (k := 3) (c := 9) (by decide) rfl q, ev_bO, if_neg (by decide), n2, s1, ev_bO, nI_1]
      have headM : lX12_parts_4 n fM (g + 1) wM = if (wI uM 205 15) = 0 then bO (fX12_emit (3 : Int32) (0 : Int32) uM) (fun (w_9 : jWd) => lX12_parts_4 n fM g w_9) else lX12_parts_4 n fM g uM := by
        show bX12_parts_4 n fM (lX12_parts_4 n fM g) wM = _
        unfold bX12_parts_4
        rw [ea_nx h.1.2 (k := 3) (c := 3) rfl q n1, ev_bO2, if_neg (by decide), s2, ev_bO]
      rcases s5 with ⟨⟨k, p, d1, d2⟩, d3⟩ | ⟨j1, nw, o1, o2, o3, o4⟩
      · obtain ⟨u2, e1, e2, e3, e4⟩ := em_D (a := (9 : Int32)) (v := (0 : Int32)) d1 d3
        refine ⟨u2, uM, fun p2 K => ?_, ?_, frP_trans (frP_mono ptx_n n4) (frP_trans s3 e4), frP_trans (frP_mono ptm_n n5) s4, .inl ⟨⟨k, p, e2, d2⟩, e3⟩⟩
        · rw [headX, e1, ev_bO, in_D K e2 (by omega)]
        · rw [headM, if_neg (MD_0 d2), pa_D d2 (by omega)]
      · have o5 := o2.2.2.2.2.2
        have o6 : (cs ++ nw).length = cs.length + nw.length := List.length_append
        have hc6 := h.2.2.2.2.2
        obtain ⟨u2, v2, e1, e2, e3, e4, e5⟩ := em_J (k := 3) (v := 0) (kX := 9) o2 (by decide) (by decide) rfl (by omega)
        obtain ⟨u3, v3, i1, i2, i3, i4, i5⟩ := ih (x + 1) f g j1 _ _ _ e5 (by omega) (by omega) (by omega) (by omega)
        refine ⟨u3, v3, fun p2 K => ?_, ?_, frP_trans (frP_mono ptx_n n4) (frP_trans s3 (frP_trans e3 i3)), frP_trans (frP_mono ptm_n n5) (frP_trans s4 (frP_trans e4 i4)), ?_⟩
        · rw [headX, show (0 : Int32) = nI 0 from rfl, e1, ev_bO, i1]
        · rw [headM, if_pos (MA_0 o2.1.2), show (3 : Int32) = nI 3 from rfl, show (0 : Int32) = nI 0 from rfl, e2, ev_bO, i2]
        · rcases i5 with i5 | ⟨j2, nw2, k1, k2, k3, k4⟩
          · exact .inl i5
          · refine .inr ⟨j2, nw ++ [(3, 0)] ++ nw2, by omega, ?_, ?_, fun y hy => ?_⟩
            · rw [List.append_assoc, List.append_assoc] at k2
              rw [List.append_assoc]
              exact k2
            · rw [List.length_append, List.length_append]
              show 2 * (nw.length + 1 + nw2.length) + _ ≤ _
              omega
            · exact htL_s (htL_s (o4 (y + 1) (by omega)) (htL_b (.inl rfl))) (k4 y hy)
    · refine ⟨wX, wM, fun p2 K => ?_, ?_, frP_refl _ _, frP_refl _ _, .inr ⟨j, [], Nat.le_refl _, by rw [List.append_nil]; exact h, by show 2 * 0 + _ ≤ _; omega, fun _ _ => rfl⟩⟩
      · show bX6_readTest_23 n fX (nI d) p2 K _ (nI x) wX = _
        unfold bX6_readTest_23
        rw [if_pos (XA_0 h.1.1), at_n h.1.1 (k := 3) (c := 9) (by decide) rfl q, ev_bO, if_pos rfl]
        split <;> rfl
      · show bX12_parts_4 n fM _ wM = _
        unfold bX12_parts_4
        rw [ea_n h.1.2 (k := 3) (c := 3) (by decide) rfl q, ev_bO2, if_pos rfl]
/-- what stands behind the PARTS of the class -/
def jtX (n : Nat) (fX : Int32 → jWd → Option jWd) (d f : Nat) (x : Int32) (w : jWd) : Option jWd := bO (fX6_isAt (8 : Int32) w) (fun (r_17 : Int32) => if r_17 = 0 then some w else lX6_readTest_2 n fX (nI d) f (x + (1 : Int32)) (sI w 189 5 ((wI w 189 5) + (1 : Int32))))
theorem r2_X {fX : Int32 → jWd → Option jWd} {f x : Nat} (h : wI w 189 2 = 0) (hx : x < 400) : lX6_readTest_2 n fX (nI d) (f + 1) (nI x) w = bO (fX (nI d) w) (fun (w_2 : jWd) => lX6_readTest_23 n fX (nI d) (nI x) (fun (w_13 : jWd) => if nI x ≤ 0 then jtX n fX d f (nI x) w_13 else bO (fX1_emit 190 (8 : Int32) (0 : Int32) w_13) (fun (w_23 : jWd) => jtX n fX d f (nI x) w_23)) n (0 : Int32) w_2) := by
  show bX6_readTest_2 n fX (nI d) (lX6_readTest_2 n fX (nI d) f) (nI x) w = _
  unfold bX6_readTest_2
  rw [if_neg (show ¬ (400 : Int32) ≤ nI x from nI_ge (b := 400) hx (by decide)), if_pos h]
  rfl
theorem jt_D {fX : Int32 → jWd → Option jWd} {f p g : Nat} {x : Int32} (h : XD f p w) : jtX n fX d g x w = some w := by
  unfold jtX
  rw [at_D h, ev_bO, if_pos rfl]
theorem tl_J {fX : Int32 → jWd → Option jWd} {fM : jWd → Option jWd} (hn : 410 < n) (hF : FacOK b N T d fX fM) : ∀ c x f g j cs wX wM, BA b N T d j cs wX wM → T ≤ j + c → x < j → c < f → c < g → ∃ uX uM, jtX n fX d f (nI x) wX = some uX ∧ lX12_test_4 n fM g wM = some uM ∧ frP PtX wX uX ∧ frP PtM wM uM ∧ OuI b N T d j cs (2 * d) uX uM := by
  intro c
  induction c with
  | zero =>
    intro x f g j cs wX wM h hT hx hf hg
    obtain ⟨g, rfl⟩ : ∃ k, g = k + 1 := ⟨g - 1, by omega⟩
    have q : ¬ kdT b N j = 4 := fun e => by
      have := kd_ltT h.1.1.1 h.1.1.2.2.2 (by omega)
      omega
    refine ⟨wX, wM, ?_, ?_, frP_refl _ _, frP_refl _ _, .inr ⟨j, [], Nat.le_refl _, by rw [List.append_nil]; exact h, by show 2 * 0 + _ ≤ _; omega, fun _ _ => rfl⟩⟩
    · unfold jtX
      rw [at_n h.1.1 (k := 4) (c := 8) (by decide) rfl q, ev_bO, if_pos rfl]
    · show bX12_test_4 n fM _ wM = _
      unfold bX12_test_4
      rw [ea_n h.1.2 (k := 4) (c := 4) (by decide) rfl q, ev_bO2, if_pos rfl]
  | succ c ih =>
    intro x f g j cs wX wM h hT hx hf hg
    obtain ⟨f, rfl⟩ : ∃ k, f = k + 1 := ⟨f - 1, by omega⟩
    obtain ⟨g, rfl⟩ : ∃ k, g = k + 1 := ⟨g - 1, by omega⟩
    by_cases q : kdT b N j = 4
    · have hj := kd_ltT h.1.1.1 h.1.1.2.2.2 (by omega)
      have hTN := h.1.1.1.1
      have hN := h.1.1.1.2.1
      have hb2 := kd_2 q (by decide)
      obtain ⟨vM, n1, n2, n3, n4, n5⟩ := BA_adv (n := n) hn h (by omega)
      obtain ⟨uX, uM, s1, s2, s3, s4, s5⟩ := hF (j + 1) cs _ _ n3
      have hx0 : ¬ nI (x + 1) ≤ (0 : Int32) := nI_ge (a := 0) (by omega) (by omega)
      have headX : jtX n fX d (f + 1) (nI x) wX = lX6_readTest_23 n fX (nI d) (nI (x + 1)) (fun (w_13 : jWd) => if nI (x + 1) ≤ 0 then jtX n fX d f (nI (x + 1)) w_13 else bO (fX1_emit 190 (8 : Int32) (0 : Int32) w_13) (fun (w_23 : jWd) => jtX n fX d f (nI (x + 1)) w_23)) n (0 : Int32) uX := by
        unfold jtX
        rw [at_y h.1.1 (k := 4) (c := 8) (by decide) rfl q, ev_bO, if_neg (by decide), n2, nI_1, r2_X (XA_0 n3.1.1) (by omega), s1, ev_bO]
        rfl
      have headM : lX12_test_4 n fM (g + 1) wM = bO (lX12_parts_4 n fM n uM) (fun (w_7 : jWd) => if (wI w_7 205 15) = 0 then bO (fX12_emit (4 : Int32) (0 : Int32) w_7) (fun (w_9 : jWd) => lX12_test_4 n fM g w_9) else lX12_test_4 n fM g w_7) := by
        show bX12_test_4 n fM (lX12_test_4 n fM g) wM = _
        unfold bX12_test_4 fX12_partsG
        rw [ea_nx h.1.2 (k := 4) (c := 4) rfl q n1, ev_bO2, if_neg (by decide), s2, ev_bO]
      rcases s5 with ⟨⟨k, p, d1, d2⟩, d3⟩ | ⟨j1, nw, o1, o2, o3, o4⟩
      · obtain ⟨u2, e1, e2, e3, e4⟩ := em_D (a := (8 : Int32)) (v := (0 : Int32)) d1 d3
        refine ⟨u2, uM, ?_, ?_, frP_trans (frP_mono ptx_n n4) (frP_trans s3 e4), frP_trans (frP_mono ptm_n n5) s4, .inl ⟨⟨k, p, e2, d2⟩, e3⟩⟩
        · rw [headX, in_D _ d1 (by omega), if_neg hx0, e1, ev_bO, jt_D e2]
        · rw [headM, pa_D d2 (by omega), ev_bO, if_neg (MD_0 d2), te_D d2 (by omega)]
      · obtain ⟨u1, v1, m1, m2, m3, m4, m5⟩ := in_J hn hF T 0 n n j1 _ _ _ o2 (by omega) (by omega) (by omega) (by omega)
        have headX2 : jtX n fX d (f + 1) (nI x) wX = bO (fX1_emit 190 (8 : Int32) (0 : Int32) u1) (fun (w_23 : jWd) => jtX n fX d f (nI (x + 1)) w_23) := by
          rw [headX, show (0 : Int32) = nI 0 from rfl, m1]
          exact if_neg hx0
        rw [headX2, headM, m2, ev_bO]
        rcases m5 with ⟨⟨k, p, d1, d2⟩, d3⟩ | ⟨j2, nw2, p1, p2, p3, p4⟩
        · obtain ⟨u2, e1, e2, e3, e4⟩ := em_D (a := (8 : Int32)) (v := (0 : Int32)) d1 d3
          refine ⟨u2, v1, ?_, ?_, frP_trans (frP_mono ptx_n n4) (frP_trans s3 (frP_trans m3 e4)), frP_trans (frP_mono ptm_n n5) (frP_trans s4 m4), .inl ⟨⟨k, p, e2, d2⟩, e3⟩⟩
          · rw [e1, ev_bO, jt_D e2]
          · rw [if_neg (MD_0 d2), te_D d2 (by omega)]
        · have o5 := p2.2.2.2.2.2
          have o6 : (cs ++ nw ++ nw2).length = cs.length + nw.length + nw2.length := by rw [List.length_append, List.length_append]
          have hc6 := h.2.2.2.2.2
          obtain ⟨u2, v2, e1, e2, e3, e4, e5⟩ := em_J (k := 4) (v := 0) (kX := 8) p2 (by decide) (by decide) rfl (by omega)
          obtain ⟨u3, v3, i1, i2, i3, i4, i5⟩ := ih (x + 1) f g j2 _ _ _ e5 (by omega) (by omega) (by omega) (by omega)
          refine ⟨u3, v3, ?_, ?_, frP_trans (frP_mono ptx_n n4) (frP_trans s3 (frP_trans m3 (frP_trans e3 i3))), frP_trans (frP_mono ptm_n n5) (frP_trans s4 (frP_trans m4 (frP_trans e4 i4))), ?_⟩
          · rw [show (0 : Int32) = nI 0 from rfl, e1, ev_bO, i1]
          · rw [if_pos (MA_0 p2.1.2), show (4 : Int32) = nI 4 from rfl, show (0 : Int32) = nI 0 from rfl, e2, ev_bO, i2]
          · rcases i5 with i5 | ⟨j3, nw3, k1, k2, k3, k4⟩
            · exact .inl i5
            · refine .inr ⟨j3, nw ++ (nw2 ++ ([(4, 0)] ++ nw3)), by omega, ?_, ?_, fun y hy => ?_⟩
              · rw [List.append_assoc, List.append_assoc, List.append_assoc] at k2
                exact k2
              · rw [List.length_append, List.length_append, List.length_append]
                show 2 * (nw.length + (nw2.length + (1 + nw3.length))) + _ ≤ _
                omega
              · exact htL_s (o4 (y + 1) (by omega)) (htL_s (p4 (y + 1) (by omega)) (htL_s (htL_b (.inr rfl)) (k4 y hy)))
    · refine ⟨wX, wM, ?_, ?_, frP_refl _ _, frP_refl _ _, .inr ⟨j, [], Nat.le_refl _, by rw [List.append_nil]; exact h, by show 2 * 0 + _ ≤ _; omega, fun _ _ => rfl⟩⟩
      · unfold jtX
        rw [at_n h.1.1 (k := 4) (c := 8) (by decide) rfl q, ev_bO, if_pos rfl]
      · show bX12_test_4 n fM _ wM = _
        unfold bX12_test_4
        rw [ea_n h.1.2 (k := 4) (c := 4) (by decide) rfl q, ev_bO2, if_pos rfl]
theorem te_J {fX : Int32 → jWd → Option jWd} {fM : jWd → Option jWd} (hn : 410 < n) (hF : FacOK b N T d fX fM) (h : BA b N T d j cs wX wM) : ∃ uX uM, fX6_readTestG n fX (nI d) wX = some uX ∧ fX12_testG n fM wM = some uM ∧ frP PtX wX uX ∧ frP PtM wM uM ∧ OuF b N T d j cs (2 * d) uX uM := by
  obtain ⟨f, rfl⟩ : ∃ k, n = k + 1 := ⟨n - 1, by omega⟩
  have hTN := h.1.1.1.1
  have hN := h.1.1.1.2.1
  obtain ⟨uX, uM, s1, s2, s3, s4, s5⟩ := hF j cs _ _ h
  have headX : fX6_readTestG (f + 1) fX (nI d) wX = lX6_readTest_23 (f + 1) fX (nI d) (nI 0) (fun (w_13 : jWd) => if nI 0 ≤ 0 then jtX (f + 1) fX d f (nI 0) w_13 else bO (fX1_emit 190 (8 : Int32) (0 : Int32) w_13) (fun (w_23 : jWd) => jtX (f + 1) fX d f (nI 0) w_23)) (f + 1) (0 : Int32) uX := by
    unfold fX6_readTestG
    rw [show (0 : Int32) = nI 0 from rfl, r2_X (XA_0 h.1.1) (by omega), s1, ev_bO]
    rfl
  have headM : fX12_testG (f + 1) fM wM = bO (lX12_parts_4 (f + 1) fM (f + 1) uM) (fun (w_2 : jWd) => lX12_test_4 (f + 1) fM (f + 1) w_2) := by
    unfold fX12_testG fX12_partsG
    rw [s2, ev_bO]
  have h00 : nI 0 ≤ (0 : Int32) := nI_le (Nat.le_refl 0) (by decide)
  rcases s5 with ⟨⟨k, p, d1, d2⟩, d3⟩ | ⟨j1, nw, o1, o2, o3, o4⟩
  · refine ⟨uX, uM, ?_, ?_, s3, s4, .inl ⟨⟨k, p, d1, d2⟩, d3⟩⟩
    · rw [headX, in_D _ d1 (by omega), if_pos h00, jt_D d1]
    · rw [headM, pa_D d2 (by omega), ev_bO, te_D d2 (by omega)]
  · obtain ⟨u1, v1, m1, m2, m3, m4, m5⟩ := in_J hn hF T 0 (f + 1) (f + 1) j1 _ _ _ o2 (by omega) (by omega) (by omega) (by omega)
    have headX2 : fX6_readTestG (f + 1) fX (nI d) wX = jtX (f + 1) fX d f (nI 0) u1 := by
      rw [headX, show (0 : Int32) = nI 0 from rfl, m1]
      exact if_pos h00
    rw [headX2, headM, m2, ev_bO]
    rcases m5 with ⟨⟨k, p, d1, d2⟩, d3⟩ | ⟨j2, nw2, p1, p2, p3, p4⟩
    · exact ⟨u1, v1, jt_D d1, te_D d2 (by omega), frP_trans s3 m3, frP_trans s4 m4, .inl ⟨⟨k, p, d1, d2⟩, d3⟩⟩
    · obtain ⟨u3, v3, i1, i2, i3, i4, i5⟩ := tl_J hn hF T 0 f (f + 1) j2 _ _ _ p2 (by omega) (by omega) (by omega) (by omega)
      refine ⟨u3, v3, i1, i2, frP_trans s3 (frP_trans m3 i3), frP_trans s4 (frP_trans m4 i4), ?_⟩
      rcases i5 with i5 | ⟨j3, nw3, k1, k2, k3, k4⟩
      · exact .inl i5
      · refine .inr ⟨j3, nw ++ (nw2 ++ nw3), by omega, ?_, ?_, fun y hy => ?_⟩
        · rw [List.append_assoc, List.append_assoc] at k2
          exact k2
        · rw [List.length_append, List.length_append]
          omega
        · exact htL_s (o4 y (by omega)) (htL_s (p4 y (by omega)) (k4 y hy))
/-- a FACT with a number -/
theorem pf_J {k lo hi : Nat} {kX : Int32} (hn : 410 < n) (hd : d ≤ 8) (h : BA b N T d j cs wX wM) (q : kdT b N j = k) (k5 : 5 ≤ k) (k7 : k ≤ 7) (hh : hi ≤ 255) (hlo : lo ≤ hi) (h5 : k = 5 → 1 ≤ lo) (hX : kX = nI (cmF k)) : ∃ uX uM, fX6_readPlainFact kX (nI lo) (nI hi) wX = some uX ∧ bO (fX12_next n wM) (fun (w_26 : jWd) => bO2 (fX12_reads n (nI lo) (nI hi) (nI 0) w_26) (fun (r_40 : Int32) (w_28 : jWd) => if (wI w_28 205 15) = 0 then bO (fX12_emit (nI k) r_40 w_28) (fun (w_31 : jWd) => some w_31) else some w_28)) = some uM ∧ frP PtX wX uX ∧ frP PtM wM uM ∧ OuF b N T d j cs (2 * d + 2) uX uM := by
  have hb2 := kd_2 q (by omega)
  obtain ⟨vM, n1, n2, n3, n4, n5⟩ := BA_adv (n := n) hn h (by omega)
  obtain ⟨x, y, uX, uM, r1, r2, r3, r4, r5⟩ := rd_J (lo := lo) (hi := hi) (full := 0) hn n3.1 hh hlo (by decide)
  have headX : fX6_readPlainFact kX (nI lo) (nI hi) wX = bO (fX1_emit 190 kX x uX) (fun (w_7 : jWd) => some w_7) := by
    unfold fX6_readPlainFact letV
    dsimp only
    rw [n2, show (0 : Int32) = nI 0 from rfl, r1, ev_bO2]
  rw [headX, n1, ev_bO, r2, ev_bO2]
  rcases r5 with ⟨f, p, d1, d2⟩ | ⟨-, q14, z1, z2, rfl, rfl, z3⟩
  · have d3 : BC uX := BC_fr (BC_fr (BA_BC h) n4) r3
    obtain ⟨u2, e1, e2, e3, e4⟩ := em_D (a := kX) (v := x) d1 d3
    exact ⟨u2, uM, by rw [e1, ev_bO], by rw [if_neg (MD_0 d2)], frP_trans (frP_mono ptx_n n4) (frP_trans (frP_mono ptx_n r3) e4), frP_trans (frP_mono ptm_n n5) (frP_mono ptm_n r4), .inl ⟨⟨f, p, e2, d2⟩, e3⟩⟩
  · have hb3 := kd_1 (b := b) (N := N) (j := j + 1) (by omega)
    have o2 := BA_to n3 r3 r4 z3 (by omega)
    have hc6 := h.2.2.2.2.2
    obtain ⟨u2, v2, e1, e2, e3, e4, e5⟩ := em_J (k := k) (v := nuT b N (j + 1)) o2 (by omega) (by omega) hX (by omega)
    refine ⟨u2, v2, by rw [e1, ev_bO], by rw [if_pos (MA_0 o2.1.2), e2, ev_bO], frP_trans (frP_mono ptx_n n4) (frP_trans (frP_mono ptx_n r3) e3), frP_trans (frP_mono ptm_n n5) (frP_trans (frP_mono ptm_n r4) e4), .inr ⟨j + 1 + 1, [(k, nuT b N (j + 1))], by omega, e5, ?_, fun y hy => htL_f k5 k7 (by omega) (fun e => by have := h5 e; omega) (by omega)⟩⟩
    show 2 * 1 + _ ≤ _
    omega
theorem fc_J (hn : 410 < n) : ∀ r d, d ≤ 8 → 9 ≤ r + d → FacOK b N T d (fX6_readFact n r) (fX12_fact n r) := by
  intro r
  induction r with
  | zero => intro d h1 h2; omega
  | succ r ih =>
    intro d hd hr j cs wX wM h
    have h13 : wI wM 205 13 = nI (kdT b N j) := h.1.2.2.1.2.2.1
    have h17 := h.2.2.2.2.1
    show ∃ uX uM, fX6_readFactB n (fX6_readFact n r) (nI d) wX = some uX ∧ fX12_factB n (fX12_fact n r) wM = some uM ∧ _
    by_cases q5 : kdT b N j = 5
    · obtain ⟨uX, uM, a1, a2, a3, a4, a5⟩ := pf_J (k := 5) (lo := 1) (hi := 255) (kX := 11) hn hd h q5 (by decide) (by decide) (by decide) (by decide) (fun _ => by decide) rfl
      refine ⟨uX, uM, ?_, ?_, a3, a4, a5⟩
      · unfold fX6_readFactB
        rw [if_pos (XA_0 h.1.1), at_y h.1.1 (k := 5) (c := 11) (by decide) rfl q5, ev_bO, if_neg (by decide)]
        rw [show fX6_readPlainFact (11 : Int32) (1 : Int32) (255 : Int32) wX = some uX from a1, ev_bO]
      · rw [q5] at h13
        unfold fX12_factB letV
        dsimp only
        rw [if_pos (MA_0 h.1.2), h13, if_neg (show ¬ nI 5 = (2 : Int32) by decide), if_neg (show ¬ nI 5 = (16 : Int32) by decide), if_pos (show nI 5 = (5 : Int32) from rfl)]
        exact a2
    by_cases q6 : kdT b N j = 6
    · obtain ⟨uX, uM, a1, a2, a3, a4, a5⟩ := pf_J (k := 6) (lo := 1) (hi := 8) (kX := 12) hn hd h q6 (by decide) (by decide) (by decide) (by decide) (fun _ => by decide) rfl
      refine ⟨uX, uM, ?_, ?_, a3, a4, a5⟩
      · unfold fX6_readFactB
        rw [if_pos (XA_0 h.1.1), at_n h.1.1 (k := 5) (c := 11) (by decide) rfl q5, ev_bO, if_pos rfl, at_y h.1.1 (k := 6) (c := 12) (by decide) rfl q6, ev_bO, if_neg (by decide)]
        rw [show fX6_readPlainFact (12 : Int32) (1 : Int32) (8 : Int32) wX = some uX from a1, ev_bO]
      · rw [q6] at h13
        unfold fX12_factB letV
        dsimp only
        rw [if_pos (MA_0 h.1.2), h13, if_neg (show ¬ nI 6 = (2 : Int32) by decide), if_neg (show ¬ nI 6 = (16 : Int32) by decide), if_neg (show ¬ nI 6 = (5 : Int32) by decide), if_pos (show nI 6 = (6 : Int32) from rfl)]
        exact a2
    by_cases q7 : kdT b N j = 7
    · obtain ⟨uX, uM, a1, a2, a3, a4, a5⟩ := pf_J (k := 7) (lo := 0) (hi := 9) (kX := 13) hn hd h q7 (by decide) (by decide) (by decide) (by decide) (fun e => absurd e (by decide)) rfl
      refine ⟨uX, uM, ?_, ?_, a3, a4, a5⟩
      · unfold fX6_readFactB
        rw [if_pos (XA_0 h.1.1), at_n h.1.1 (k := 5) (c := 11) (by decide) rfl q5, ev_bO, if_pos rfl, at_n h.1.1 (k := 6) (c := 12) (by decide) rfl q6, ev_bO, if_pos rfl, at_y h.1.1 (k := 7) (c := 13) (by decide) rfl q7, ev_bO, if_neg (by decide)]
        rw [show fX6_readPlainFact (13 : Int32) (0 : Int32) (9 : Int32) wX = some uX from a1, ev_bO]
      · rw [q7] at h13
        unfold fX12_factB letV
        dsimp only
        rw [if_pos (MA_0 h.1.2), h13, if_neg (show ¬ nI 7 = (2 : Int32) by decide), if_neg (show ¬ nI 7 = (16 : Int32) by decide), if_neg (show ¬ nI 7 = (5 : Int32) by decide), if_neg (show ¬ nI 7 = (6 : Int32) by decide), if_pos (show nI 7 = (7 : Int32) from rfl)]
        exact a2
    have bad : ∀ f, 1 ≤ f → f ≤ 5 → ∃ uX uM, fX6_blame (nI f) wX = some uX ∧ fX12_fails (nI f) wM = some uM ∧ (¬ wI uM 205 15 = 0) ∧ frP PtX wX uX ∧ frP PtM wM uM ∧ OuF b N T d j cs (2 * d + 2) uX uM := by
      intro f f1 f2
      obtain ⟨uX, uM, a1, a2, ⟨k, p, a3, a4⟩, a5, a6⟩ := bad_J h.1 f1 f2
      have a7 := frP_mono pnx_b a5
      exact ⟨uX, uM, a1, a2, MD_0 a4, frP_mono ptx_n a7, frP_mono ptm_n (frP_mono pnm_b a6), .inl ⟨⟨k, p, a3, a4⟩, BC_fr (BA_BC h) a7⟩⟩
    by_cases q2 : kdT b N j = 2
    · rw [q2] at h13
      rcases (show d = 8 ∨ d < 8 by omega) with rfl | d8
      · obtain ⟨uX, uM, a1, a2, a3, a4, a5, a6⟩ := bad 5 (by decide) (by decide)
        refine ⟨uX, uM, ?_, ?_, a4, a5, a6⟩
        · unfold fX6_readFactB letV
          dsimp only
          rw [if_pos (XA_0 h.1.1), at_n h.1.1 (k := 5) (c := 11) (by decide) rfl q5, ev_bO, if_pos rfl, at_n h.1.1 (k := 6) (c := 12) (by decide) rfl q6, ev_bO, if_pos rfl, at_n h.1.1 (k := 7) (c := 13) (by decide) rfl q7, ev_bO, if_pos rfl, at_y h.1.1 (k := 2) (c := 10) (by decide) rfl q2, ev_bO, if_neg (show ¬ (1 : Int32) = 0 by decide), if_neg (show ¬ nI 8 < (8 : Int32) by decide), show (5 : Int32) = nI 5 from rfl, a1, ev_bO]
        · unfold fX12_factB letV
          dsimp only
          rw [if_pos (MA_0 h.1.2), h13, if_pos (show nI 2 = (2 : Int32) from rfl), h17, if_pos (show nI 8 = (8 : Int32) from rfl), show (5 : Int32) = nI 5 from rfl, a2, ev_bO, if_neg a3]
      · have hb2 := kd_2 q2 (by decide)
        obtain ⟨vM, n1, n2, n3, n4, n5⟩ := BA_adv (n := n) hn h (by omega)
        have n6 := BA_d (e := d + 1) n3
        obtain ⟨uX, uM, s1, s2, s3, s4, s5⟩ := ih (d + 1) (by omega) (by omega) (j + 1) cs _ _ n6
        obtain ⟨tM, htM⟩ : ∃ t, t = sI uM 205 17 (wI uM 205 17 - (1 : Int32)) := ⟨_, rfl⟩
        have headX : fX6_readFactB n (fX6_readFact n r) (nI d) wX = bO (fX1_emit 190 (10 : Int32) (0 : Int32) uX) (fun (w_23 : jWd) => some w_23) := by
          unfold fX6_readFactB letV
          dsimp only
          rw [if_pos (XA_0 h.1.1), at_n h.1.1 (k := 5) (c := 11) (by decide) rfl q5, ev_bO, if_pos rfl, at_n h.1.1 (k := 6) (c := 12) (by decide) rfl q6, ev_bO, if_pos rfl, at_n h.1.1 (k := 7) (c := 13) (by decide) rfl q7, ev_bO, if_pos rfl, at_y h.1.1 (k := 2) (c := 10) (by decide) rfl q2, ev_bO, if_neg (show ¬ (1 : Int32) = 0 by decide), if_pos (show nI d < (8 : Int32) from nI_lt (b := 8) d8 (by decide)), ev_bO, if_neg (show ¬ (1 : Int32) = 0 by decide), n2, nI_1, s1, ev_bO]
        have headM : fX12_factB n (fX12_fact n r) wM = if wI tM 205 15 = 0 then bO (fX12_emit (2 : Int32) (0 : Int32) tM) (fun (w_15 : jWd) => some w_15) else some tM := by
          unfold fX12_factB letV
          dsimp only
          rw [if_pos (MA_0 h.1.2), h13, if_pos (show nI 2 = (2 : Int32) from rfl), h17, if_neg (show ¬ nI d = (8 : Int32) from fun e => by have := (nI_eq (b := 8) (by omega) (by decide)).mp e; omega), if_pos (MA_0 h.1.2), n1, ev_bO, n3.2.2.2.2.1, nI_1, if_pos (show nI 2 = (2 : Int32) from rfl), s2, ev_bO, if_neg (show ¬ nI 2 = (16 : Int32) by decide), ← htM]
        have ft : frP PtM uM tM := by rw [htM]; exact frP_sI _ _ (by unfold PtM; omega)
        have f6 : frP PtM vM (sI vM 205 17 (nI (d + 1))) := frP_sI _ _ (by unfold PtM; omega)
        have fM := frP_trans (frP_mono ptm_n n5) (frP_trans f6 (frP_trans s4 ft))
        have fX := frP_trans (frP_mono ptx_n n4) s3
        rw [headX, headM]
        rcases s5 with ⟨⟨k, p, d1, d2⟩, d3⟩ | ⟨j1, nw, o1, o2, o3, o4⟩
        · obtain ⟨u2, e1, e2, e3, e4⟩ := em_D (a := (10 : Int32)) (v := (0 : Int32)) d1 d3
          have d2t : MD k p tM := by rw [htM]; exact MD_fr d2 (frP_sI _ _ (by omega))
          exact ⟨u2, tM, by rw [e1, ev_bO], by rw [if_neg (MD_0 d2t)], frP_trans fX e4, fM, .inl ⟨⟨k, p, e2, d2t⟩, e3⟩⟩
        · have et : tM = sI uM 205 17 (nI d) := by rw [htM, o2.2.2.2.2.1, nI_pred]
          have o7 : BA b N T d j1 (cs ++ nw) uX tM := by rw [et]; exact BA_d o2
          have o5 := o2.2.2.2.2.2
          have o6 : (cs ++ nw).length = cs.length + nw.length := List.length_append
          have hc6 := h.2.2.2.2.2
          obtain ⟨u2, v2, e1, e2, e3, e4, e5⟩ := em_J (k := 2) (v := 0) (kX := 10) o7 (by decide) (by decide) rfl (by omega)
          refine ⟨u2, v2, by rw [show (0 : Int32) = nI 0 from rfl, e1, ev_bO], by rw [if_pos (MA_0 o7.1.2), show (2 : Int32) = nI 2 from rfl, show (0 : Int32) = nI 0 from rfl, e2, ev_bO], frP_trans fX e3, frP_trans fM e4, .inr ⟨j1, nw ++ [(2, 0)], by omega, by rw [← List.append_assoc]; exact e5, ?_, fun y hy => htL_s (o4 y (by omega)) (htL_2 (by omega))⟩⟩
          rw [List.length_append]
          show 2 * (nw.length + 1) + _ ≤ _
          omega
    by_cases q16 : kdT b N j = 16
    · rw [q16] at h13
      rcases (show d = 8 ∨ d < 8 by omega) with rfl | d8
      · obtain ⟨uX, uM, a1, a2, a3, a4, a5, a6⟩ := bad 5 (by decide) (by decide)
        refine ⟨uX, uM, ?_, ?_, a4, a5, a6⟩
        · unfold fX6_readFactB letV
          dsimp only
          rw [if_pos (XA_0 h.1.1), at_n h.1.1 (k := 5) (c := 11) (by decide) rfl q5, ev_bO, if_pos rfl, at_n h.1.1 (k := 6) (c := 12) (by decide) rfl q6, ev_bO, if_pos rfl, at_n h.1.1 (k := 7) (c := 13) (by decide) rfl q7, ev_bO, if_pos rfl, at_n h.1.1 (k := 2) (c := 10) (by decide) rfl q2, ev_bO, if_pos (show (0 : Int32) = 0 from rfl), at_y h.1.1 (k := 16) (c := 4) (by decide) rfl q16, ev_bO, if_neg (show ¬ (1 : Int32) = 0 by decide), if_neg (show ¬ nI 8 < (8 : Int32) by decide), show (5 : Int32) = nI 5 from rfl, a1, ev_bO]
        · unfold fX12_factB letV
          dsimp only
          rw [if_pos (MA_0 h.1.2), h13, if_neg (show ¬ nI 16 = (2 : Int32) by decide), if_pos (show nI 16 = (16 : Int32) from rfl), h17, if_pos (show nI 8 = (8 : Int32) from rfl), show (5 : Int32) = nI 5 from rfl, a2, ev_bO, if_neg a3]
      · have hb2 := kd_1 (b := b) (N := N) (j := j) (by omega)
        obtain ⟨vM, n1, n2, n3, n4, n5⟩ := BA_adv (n := n) hn h (by omega)
        have n6 := BA_d (e := d + 1) n3
        obtain ⟨uX, uM, s1, s2, s3, s4, s5⟩ := te_J hn (ih (d + 1) (by omega) (by omega)) n6
        obtain ⟨tM, htM⟩ : ∃ t, t = sI uM 205 17 (wI uM 205 17 - (1 : Int32)) := ⟨_, rfl⟩
        have headX : fX6_readFactB n (fX6_readFact n r) (nI d) wX = bO (fX6_take (5 : Int32) uX) (fun (w_17 : jWd) => some w_17) := by
          unfold fX6_readFactB letV
          dsimp only
          rw [if_pos (XA_0 h.1.1), at_n h.1.1 (k := 5) (c := 11) (by decide) rfl q5, ev_bO, if_pos rfl, at_n h.1.1 (k := 6) (c := 12) (by decide) rfl q6, ev_bO, if_pos rfl, at_n h.1.1 (k := 7) (c := 13) (by decide) rfl q7, ev_bO, if_pos rfl, at_n h.1.1 (k := 2) (c := 10) (by decide) rfl q2, ev_bO, if_pos (show (0 : Int32) = 0 from rfl), at_y h.1.1 (k := 16) (c := 4) (by decide) rfl q16, ev_bO, if_neg (show ¬ (1 : Int32) = 0 by decide), if_pos (show nI d < (8 : Int32) from nI_lt (b := 8) d8 (by decide)), ev_bO, if_pos (show (0 : Int32) = 0 from rfl), n2, nI_1, s1, ev_bO]
        have headM : fX12_factB n (fX12_fact n r) wM = bO (fX12_needs n (17 : Int32) tM) (fun (w_17 : jWd) => some w_17) := by
          unfold fX12_factB letV
          dsimp only
          rw [if_pos (MA_0 h.1.2), h13, if_neg (show ¬ nI 16 = (2 : Int32) by decide), if_pos (show nI 16 = (16 : Int32) from rfl), h17, if_neg (show ¬ nI d = (8 : Int32) from fun e => by have := (nI_eq (b := 8) (by omega) (by decide)).mp e; omega), if_pos (MA_0 h.1.2), n1, ev_bO, n3.2.2.2.2.1, nI_1, if_neg (show ¬ nI 16 = (2 : Int32) by decide), s2, ev_bO, if_pos (show nI 16 = (16 : Int32) from rfl), ← htM]
        have ft : frP PtM uM tM := by rw [htM]; exact frP_sI _ _ (by unfold PtM; omega)
        have f6 : frP PtM vM (sI vM 205 17 (nI (d + 1))) := frP_sI _ _ (by unfold PtM; omega)
        have fM := frP_trans (frP_mono ptm_n n5) (frP_trans f6 (frP_trans s4 ft))
        have fX := frP_trans (frP_mono ptx_n n4) s3
        rw [headX, headM]
        rcases s5 with ⟨⟨k, p, d1, d2⟩, d3⟩ | ⟨j1, nw, o1, o2, o3, o4⟩
        · have d2t : MD k p tM := by rw [htM]; exact MD_fr d2 (frP_sI _ _ (by omega))
          exact ⟨uX, tM, by rw [tk_XD d1, ev_bO], by rw [tk_MD d2t, ev_bO], fX, fM, .inl ⟨⟨k, p, d1, d2t⟩, d3⟩⟩
        · have et : tM = sI uM 205 17 (nI d) := by rw [htM, o2.2.2.2.2.1, nI_pred]
          have o7 : BA b N T d j1 (cs ++ nw) uX tM := by rw [et]; exact BA_d o2
          obtain ⟨u2, v2, e1, e2, e3, e4, e5⟩ := tk_J (k := 17) (cX := 5) (cM := 17) hn o7.1 (by decide) rfl rfl
          rcases e5 with e5 | ⟨q17, e5⟩
          · exact ⟨u2, v2, by rw [e1, ev_bO], by rw [e2, ev_bO], frP_trans fX (frP_mono ptx_n e3), frP_trans fM (frP_mono ptm_n e4), .inl ⟨e5, BC_fr (BA_BC o7) e3⟩⟩
          · have hb3 := kd_1 (b := b) (N := N) (j := j1) (by omega)
            exact ⟨u2, v2, by rw [e1, ev_bO], by rw [e2, ev_bO], frP_trans fX (frP_mono ptx_n e3), frP_trans fM (frP_mono ptm_n e4), .inr ⟨j1 + 1, nw, by omega, BA_to o7 e3 e4 e5 (by omega), by omega, fun y hy => o4 y (by omega)⟩⟩
    · have kl := kd_le b N j
      obtain ⟨uX, uM, a1, a2, a3, a4, a5, a6⟩ := bad 2 (by decide) (by decide)
      refine ⟨uX, uM, ?_, ?_, a4, a5, a6⟩
      · unfold fX6_readFactB letV
        dsimp only
        rw [if_pos (XA_0 h.1.1), at_n h.1.1 (k := 5) (c := 11) (by decide) rfl q5, ev_bO, if_pos rfl, at_n h.1.1 (k := 6) (c := 12) (by decide) rfl q6, ev_bO, if_pos rfl, at_n h.1.1 (k := 7) (c := 13) (by decide) rfl q7, ev_bO, if_pos rfl, at_n h.1.1 (k := 2) (c := 10) (by decide) rfl q2, ev_bO, if_pos (show (0 : Int32) = 0 from rfl), at_n h.1.1 (k := 16) (c := 4) (by decide) rfl q16, ev_bO, if_pos (show (0 : Int32) = 0 from rfl), show (2 : Int32) = nI 2 from rfl, a1, ev_bO]
      · unfold fX12_factB letV
        dsimp only
        rw [if_pos (MA_0 h.1.2), h13, if_neg (show ¬ nI (kdT b N j) = (2 : Int32) from fun e => q2 ((nI_eq (b := 2) (by omega) (by decide)).mp e)), if_neg (show ¬ nI (kdT b N j) = (16 : Int32) from fun e => q16 ((nI_eq (b := 16) (by omega) (by decide)).mp e)), if_neg (show ¬ nI (kdT b N j) = (5 : Int32) from fun e => q5 ((nI_eq (b := 5) (by omega) (by decide)).mp e)), if_neg (show ¬ nI (kdT b N j) = (6 : Int32) from fun e => q6 ((nI_eq (b := 6) (by omega) (by decide)).mp e)), if_neg (show ¬ nI (kdT b N j) = (7 : Int32) from fun e => q7 ((nI_eq (b := 7) (by omega) (by decide)).mp e)), show (2 : Int32) = nI 2 from rfl, a2, ev_bO]
theorem tst_J (hn : 410 < n) (h : BA b N T 0 j cs wX wM) : ∃ uX uM, fX6_readTest n (0 : Int32) wX = some uX ∧ fX12_test n wM = some uM ∧ frP PtX wX uX ∧ frP PtM wM uM ∧ OuF b N T 0 j cs 0 uX uM := te_J hn (fc_J hn 12 0 (by decide) (by decide)) h
end TST
