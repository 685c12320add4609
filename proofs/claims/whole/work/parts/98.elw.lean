/-! LAW, both readers -/
section LAW
variable {b : Nat → Nat} {N T j n : Nat} {wX wM uX uM w : jWd} {W : Nat → Nat}
def PlX (c k : Nat) : Prop := (c = 189 ∧ (k = 2 ∨ k = 3 ∨ k = 5)) ∨ c = 197 ∨ c = 198
def PlM (c k : Nat) : Prop := (c = 205 ∧ (k = 10 ∨ k = 11 ∨ k = 13 ∨ k = 14 ∨ k = 15 ∨ k = 16)) ∨ (c = 212 ∧ 87 ≤ k)
theorem plx_n : ∀ c k, PnX c k → PlX c k := fun c k z => by unfold PnX at z; unfold PlX; omega
theorem plm_n : ∀ c k, PnM c k → PlM c k := fun c k z => by unfold PnM at z; unfold PlM; omega
/-- a LAW that both hold while they read it -/
def LJ (W : Nat → Nat) (wX wM : jWd) : Prop := InW W ∧ (∀ k, k < 29 → wI wM 212 (87 + k) = nI (W k)) ∧ RLaw W 159 wX
theorem LJ_fr (h : LJ W wX wM) (f1 : frP PnX wX uX) (f2 : frP PnM wM uM) : LJ W uX uM := by
  obtain ⟨h1, h2, h3⟩ := h
  exact ⟨h1, fun k hk => by rw [frP_I f2 (by unfold PnM; omega)]; exact h2 k hk, RLaw_cg (fun c k _ _ => frP_I f1 (by unfold PnX; omega)) h3⟩
theorem JA_X (h : JA b N T j wX wM) (f : frP (fun c _ => c = 197 ∨ c = 198) wX uX) : JA b N T j uX wM := ⟨XA_fr h.1 (frP_mono (fun c k z => by omega) f), h.2⟩
theorem JA_M (h : JA b N T j wX wM) (f : frP (fun c _ => c = 212) wM uM) : JA b N T j wX uM := ⟨h.1, MA_fr h.2 (frP_mono (fun c k z => by omega) f)⟩
theorem JD_X (h : JD wX wM) (f : frP (fun c _ => c = 197 ∨ c = 198) wX uX) : JD uX wM := by
  obtain ⟨k, p, d1, d2⟩ := h
  exact ⟨k, p, XD_fr d1 (frP_mono (fun c k z => by omega) f), d2⟩
theorem JD_M (h : JD wX wM) (f : frP (fun c _ => c = 212) wM uM) : JD wX uM := by
  obtain ⟨k, p, d1, d2⟩ := h
  exact ⟨k, p, d1, MD_fr d2 (frP_mono (fun c k z => by omega) f)⟩
def lwX (w : jWd) : Option jWd := bO (fX6_take (3 : Int32) w) (fun (w_10 : jWd) => some (sI w_10 197 0 ((wI w_10 197 0) + (1 : Int32))))
def lwM (n : Nat) (w : jWd) : Option jWd := bO (fX12_needs n (15 : Int32) w) (fun (w_12 : jWd) => some (sI w_12 212 87 ((wI w_12 212 87) + (1 : Int32))))
theorem lw_D (h : JD wX wM) : ∃ uX uM, lwX wX = some uX ∧ lwM n wM = some uM ∧ frP PlX wX uX ∧ frP PlM wM uM ∧ JD uX uM := by
  obtain ⟨k, p, d1, d2⟩ := h
  refine ⟨_, _, by unfold lwX; rw [tk_XD d1, ev_bO], by unfold lwM; rw [tk_MD d2, ev_bO], frP_sI _ _ (by unfold PlX; omega), frP_sI _ _ (by unfold PlM; omega), k, p, XD_fr d1 (frP_sI _ _ (by omega)), MD_fr d2 (frP_sI _ _ (by omega))⟩
theorem sayW_cg {W W' : Nat → Nat} {v : Nat} : ∀ c i, (∀ k, i ≤ k → k < i + c → W' (5 + k) = W (5 + k) ∧ W' (17 + k) = W (17 + k)) → sayW W' v c i = sayW W v c i
  | 0, _, _ => rfl
  | c + 1, i, h => by
    obtain ⟨e1, e2⟩ := h i (Nat.le_refl _) (by omega)
    show (if W' (17 + i) = v then W' (5 + i) else sayW W' v c (i + 1)) = (if W (17 + i) = v then W (5 + i) else sayW W v c (i + 1))
    rw [e1, e2, sayW_cg c (i + 1) (fun k h1 h2 => h k (by omega) (by omega))]
theorem InW_1 (h : InW W) {k v : Nat} (hk : k = 1 ∨ k = 2 ∨ k = 3) (hv : v ≤ 99) : InW (uN W k v) := by
  obtain ⟨h0, h1, h2, h3, h4, h5⟩ := h
  have e4 : uN W k v 4 = W 4 := uN_ne (by omega)
  refine ⟨by rw [uN_ne (by omega)]; exact h0, uN_c h1 (by omega), uN_c h2 (by omega), uN_c h3 (by omega), by rw [e4]; exact h4, fun i hi => ?_⟩
  rw [e4] at hi
  rw [uN_ne (by omega), uN_ne (by omega)]
  exact h5 i hi
theorem InW_0 (h : InW W) {v : Nat} (hv : v ≤ 12) : InW (uN W 0 v) := by
  obtain ⟨h0, h1, h2, h3, h4, h5⟩ := h
  have e4 : uN W 0 v 4 = W 4 := uN_ne (by omega)
  refine ⟨by rw [uN_eq]; exact hv, by rw [uN_ne (by omega)]; exact h1, by rw [uN_ne (by omega)]; exact h2, by rw [uN_ne (by omega)]; exact h3, by rw [e4]; exact h4, fun i hi => ?_⟩
  rw [e4] at hi
  rw [uN_ne (by omega), uN_ne (by omega)]
  exact h5 i hi
/-- one of the first four cells anew, on both sides -/
theorem LJ_u (h : LJ W wX wM) {k v : Nat} (hk : k ≤ 3) (hi : InW (uN W k v)) : LJ (uN W k v) (sI wX 197 k (nI v)) (sI wM 212 (87 + k) (nI v)) := by
  obtain ⟨h1, h2, h3, h4, h5, h6, h7, h8⟩ := h
  have e4 : uN W k v 4 = W 4 := uN_ne (by omega)
  have cell : ∀ q, q ≤ 3 → wI wX 197 q = nI (W q) → wI (sI wX 197 k (nI v)) 197 q = nI (uN W k v q) := fun q _ e => by
    by_cases z : q = k
    · subst z
      rw [uN_eq]; exact ev_wIs _ _ _ _
    · rw [uN_ne z, ev_wIn _ (by omega)]; exact e
  refine ⟨hi, fun q hq => ?_, cell 0 (by decide) h3, cell 1 (by decide) h4, cell 2 (by decide) h5, cell 3 (by decide) h6, by rw [ev_wIn _ (by omega)]; exact h7, fun q q1 q2 => ?_⟩
  · by_cases z : q = k
    · subst z
      rw [uN_eq]; exact ev_wIs _ _ _ _
    · rw [uN_ne z, ev_wIn _ (by omega)]; exact h2 q hq
  · rw [ev_wIn _ (by omega), e4, sayW_cg (W := W) (W' := uN W k v) (W 4) 0 (fun i _ _ => ⟨uN_ne (by omega), uN_ne (by omega)⟩)]
    exact h8 q q1 q2
theorem lw_J (hn : 410 < n) (h : JA b N T j wX wM) (hl : LJ W wX wM) (h12 : W 0 < 12) : ∃ uX uM, lwX wX = some uX ∧ lwM n wM = some uM ∧ frP PlX wX uX ∧ frP PlM wM uM ∧ (JD uX uM ∨ (JA b N T (j + 1) uX uM ∧ LJ (uN W 0 (W 0 + 1)) uX uM)) := by
  obtain ⟨uX, uM, t1, t2, t3, t4, t5⟩ := tk_J (k := 15) (cX := 3) (cM := 15) hn h (by decide) rfl rfl
  have l1 := LJ_fr hl t3 t4
  have e1 : wI uX 197 0 = nI (W 0) := l1.2.2.1
  have e2 : wI uM 212 87 = nI (W 0) := l1.2.1 0 (by decide)
  refine ⟨sI uX 197 0 (nI (W 0 + 1)), sI uM 212 87 (nI (W 0 + 1)), by unfold lwX; rw [t1, ev_bO, e1, nI_1], by unfold lwM; rw [t2, ev_bO, e2, nI_1], frP_trans (frP_mono plx_n t3) (frP_sI _ _ (by unfold PlX; omega)), frP_trans (frP_mono plm_n t4) (frP_sI _ _ (by unfold PlM; omega)), ?_⟩
  rcases t5 with hd | ⟨-, ha⟩
  · exact .inl (JD_X (JD_M hd (frP_sI _ _ rfl)) (frP_sI _ _ (.inl rfl)))
  · exact .inr ⟨JA_X (JA_M ha (frP_sI _ _ rfl)) (frP_sI _ _ (.inl rfl)), LJ_u l1 (k := 0) (v := W 0 + 1) (by decide) (InW_0 l1.1 (by omega))⟩
/-! lose, move, smooth -/
theorem pc_X {k : Nat} {a0 a1 : Int32} (hk : k = 1 ∨ k = 2 ∨ k = 3) (ha : a0 = nI (13 + k)) : fX3_putChance 197 a0 a1 w = some (sI w 197 k a1) := by
  subst ha
  unfold fX3_putChance
  rcases hk with rfl | rfl | rfl <;> rfl
theorem ch_J {k : Nat} {a0 : Int32} (hn : 410 < n) (h : JA b N T j wX wM) (hl : LJ W wX wM) (h12 : W 0 < 12) (hk : k = 1 ∨ k = 2 ∨ k = 3) (ha : a0 = nI (13 + k)) : ∃ uX uM, bO2 (fX6_readNumber (0 : Int32) (99 : Int32) (0 : Int32) wX) (fun (r_15 : Int32) (w_14 : jWd) => bO (fX3_putChance 197 a0 r_15 w_14) (fun (w_17 : jWd) => lwX w_17)) = some uX ∧ bO2 (fX12_reads n (0 : Int32) (99 : Int32) (0 : Int32) wM) (fun (r_17 : Int32) (w_16 : jWd) => lwM n (sI w_16 212 (87 + k) r_17)) = some uM ∧ frP PlX wX uX ∧ frP PlM wM uM ∧ (JD uX uM ∨ ∃ j' W', JA b N T j' uX uM ∧ LJ W' uX uM ∧ W' 0 = W 0 + 1 ∧ W' 4 = W 4) := by
  obtain ⟨x, y, u1, v1, r1, r2, r3, r4, r5⟩ := rd_J (lo := 0) (hi := 99) (full := 0) hn h (by decide) (by decide) (by decide)
  rw [show fX6_readNumber (0 : Int32) (99 : Int32) (0 : Int32) wX = some (x, u1) from r1, ev_bO2, show fX12_reads n (0 : Int32) (99 : Int32) (0 : Int32) wM = some (y, v1) from r2, ev_bO2, pc_X hk ha, ev_bO]
  have g1 : frP PlX wX (sI u1 197 k x) := frP_trans (frP_mono plx_n r3) (frP_sI _ _ (by unfold PlX; omega))
  have g2 : frP PlM wM (sI v1 212 (87 + k) y) := frP_trans (frP_mono plm_n r4) (frP_sI _ _ (by unfold PlM; omega))
  rcases r5 with hd | ⟨-, q14, z1, z2, rfl, rfl, ha2⟩
  · obtain ⟨uX, uM, a1, a2, a3, a4, a5⟩ := lw_D (n := n) (JD_X (JD_M hd (frP_sI v1 y (c := 212) (k := 87 + k) rfl)) (frP_sI u1 x (c := 197) (k := k) (.inl rfl)))
    exact ⟨uX, uM, a1, a2, frP_trans g1 a3, frP_trans g2 a4, .inl a5⟩
  · have l1 := LJ_fr hl r3 r4
    have l2 := LJ_u l1 (k := k) (v := nuT b N j) (by omega) (InW_1 l1.1 hk (by omega))
    have e0 : uN W k (nuT b N j) 0 = W 0 := uN_ne (by omega)
    have e4 : uN W k (nuT b N j) 4 = W 4 := uN_ne (by omega)
    obtain ⟨uX, uM, a1, a2, a3, a4, a5⟩ := lw_J hn (JA_X (JA_M ha2 (frP_sI v1 _ (c := 212) (k := 87 + k) rfl)) (frP_sI u1 _ (c := 197) (k := k) (.inl rfl))) l2 (by omega)
    refine ⟨uX, uM, a1, a2, frP_trans g1 a3, frP_trans g2 a4, ?_⟩
    rcases a5 with a5 | ⟨a5, a6⟩
    · exact .inl a5
    · exact .inr ⟨j + 1 + 1, _, a5, a6, by rw [uN_eq, e0], by rw [uN_ne (by omega), e4]⟩
/-! say -/
theorem ps_E (a0 a1 : Int32) (w : jWd) : ∃ u, fX3_putSaying 197 a0 a1 w = some u ∧ frP (fun c _ => c = 198) w u := by
  have l : ln (197 + 1) = 256 := rfl
  unfold fX3_putSaying letV
  rcases ev_i32 a1 with q | ⟨k, hk, rfl⟩
  · rw [if_pos q]
    exact ⟨w, rfl, frP_refl _ _⟩
  · rw [if_neg (nI_pos hk)]
    by_cases q : k ≤ 255
    · rw [if_neg (show ¬ (255 : Int32) < nI k from nI_nlt (a := 255) q (by decide)), l, grd_N (by omega) (by decide), grd_N (by omega) (by decide)]
      split
      · exact ⟨_, rfl, frP_sI _ _ rfl⟩
      · exact ⟨w, rfl, frP_refl _ _⟩
    · rw [if_pos (show (255 : Int32) < nI k from nI_lt (a := 255) (by omega) hk)]
      exact ⟨w, rfl, frP_refl _ _⟩
theorem ps_X {a c : Nat} (hc : c ≤ 255) : fX3_putSaying 197 (nI a) (nI c) w = some (if wI w 198 c = 0 then sI w 198 c (nI a) else w) := by
  have l : ln (197 + 1) = 256 := rfl
  unfold fX3_putSaying letV
  rw [if_neg (nI_pos (by omega)), if_neg (show ¬ (255 : Int32) < nI c from nI_nlt (a := 255) hc (by decide)), l, grd_N (by omega) (by decide), grd_N (by omega) (by decide), nI_clamp (by omega)]
  by_cases q : wI w 198 c = 0
  · rw [if_pos q]
    show some (sI w 198 c (nI a)) = _
    rw [if_pos q]
  · rw [if_neg q, if_neg q]
/-- what the reference writes behind a say -/
def syM (w : jWd) (s : Nat) (x y : Int32) : jWd := sI (sI (sI w 212 (92 + s) x) 212 (104 + s) y) 212 91 (nI (s + 1))
theorem syl_M {s : Nat} {x y : Int32} (K : jWd → Option jWd) (hs : s < 12) (h : wI w 212 91 = nI s) : grd ((87 : Int32) + (4 : Int32)) (ln 212) (grd (((87 : Int32) + (5 : Int32)) + (wI w 212 (((87 : Int32) + (4 : Int32))).toNatClampNeg)) (ln 212) (letV (sI w 212 (((((87 : Int32) + (5 : Int32)) + (wI w 212 (((87 : Int32) + (4 : Int32))).toNatClampNeg))).toNatClampNeg) x) (fun (w_32 : jWd) => grd ((87 : Int32) + (4 : Int32)) (ln 212) (grd (((87 : Int32) + (17 : Int32)) + (wI w_32 212 (((87 : Int32) + (4 : Int32))).toNatClampNeg)) (ln 212) (letV (sI w_32 212 (((((87 : Int32) + (17 : Int32)) + (wI w_32 212 (((87 : Int32) + (4 : Int32))).toNatClampNeg))).toNatClampNeg) y) (fun (w_36 : jWd) => grd ((87 : Int32) + (4 : Int32)) (ln 212) (grd ((87 : Int32) + (4 : Int32)) (ln 212) (letV (sI w_36 212 ((((87 : Int32) + (4 : Int32))).toNatClampNeg) ((wI w_36 212 (((87 : Int32) + (4 : Int32))).toNatClampNeg) + (1 : Int32))) (fun (w_40 : jWd) => K w_40))))))))) = K (syM w s x y) := by
  have l : ln 212 = 116 := rfl
  have e4 : (87 : Int32) + (4 : Int32) = nI 91 := by decide
  have e5 : ((87 : Int32) + (5 : Int32)) + nI s = nI (92 + s) := nI_add 92 s
  have e17 : ((87 : Int32) + (17 : Int32)) + nI s = nI (104 + s) := nI_add 104 s
  have h1 : wI (sI w 212 (92 + s) x) 212 91 = nI s := by rw [ev_wIn _ (by omega)]; exact h
  have h2 : wI (sI (sI w 212 (92 + s) x) 212 (104 + s) y) 212 91 = nI s := by rw [ev_wIn _ (by omega)]; exact h1
  unfold letV
  dsimp only
  rw [e4, l, nI_clamp (show 91 < 2 ^ 31 by decide), h, e5, grd_N (by decide) (by decide), grd_N (by omega) (by decide), nI_clamp (by omega), h1, e17, grd_N (by decide) (by decide), grd_N (by omega) (by decide), nI_clamp (by omega), h2, grd_N (by decide) (by decide), grd_N (by decide) (by decide), nI_1]
  rfl
theorem sayW_x {W' : Nat → Nat} {v s : Nat} (h1 : ∀ i, i < s → W' (5 + i) = W (5 + i) ∧ W' (17 + i) = W (17 + i) ∧ 1 ≤ W (5 + i)) : ∀ c i, i + c = s → sayW W' v (c + 1) i = if sayW W v c i = 0 then (if W' (17 + s) = v then W' (5 + s) else 0) else sayW W v c i
  | 0, i, h => by
    rw [if_pos (show sayW W v 0 i = 0 from rfl), show i = s by omega]
    rfl
  | c + 1, i, h => by
    obtain ⟨e1, e2, e3⟩ := h1 i (by omega)
    have ih := sayW_x (v := v) h1 c (i + 1) (by omega)
    show (if W' (17 + i) = v then W' (5 + i) else sayW W' v (c + 1) (i + 1)) = if (if W (17 + i) = v then W (5 + i) else sayW W v c (i + 1)) = 0 then _ else (if W (17 + i) = v then W (5 + i) else sayW W v c (i + 1))
    rw [e1, e2, ih]
    by_cases q : W (17 + i) = v
    · rw [if_pos q, if_pos q, if_neg (by omega)]
    · rw [if_neg q, if_neg q]
theorem LJ_s (h : LJ W wX wM) {a c : Nat} (hs : W 4 < 12) (ha : 1 ≤ a ∧ a ≤ 255) (hc : 1 ≤ c ∧ c ≤ 255) : LJ (uN (uN (uN W (5 + W 4) a) (17 + W 4) c) 4 (W 4 + 1)) (if wI wX 198 c = 0 then sI wX 198 c (nI a) else wX) (syM wM (W 4) (nI a) (nI c)) := by
  obtain ⟨⟨i0, i1, i2, i3, i4, i5⟩, h2, h3, h4, h5, h6, h7, h8⟩ := h
  obtain ⟨s, es⟩ : ∃ s, s = W 4 := ⟨_, rfl⟩
  rw [← es] at hs i4 i5 h8 ⊢
  obtain ⟨W', eW⟩ : ∃ V, V = uN (uN (uN W (5 + s) a) (17 + s) c) 4 (s + 1) := ⟨_, rfl⟩
  have u4 : W' 4 = s + 1 := by rw [eW, uN_eq]
  have ua : W' (5 + s) = a := by rw [eW, uN_ne (by omega), uN_ne (by omega), uN_eq]
  have uc : W' (17 + s) = c := by rw [eW, uN_ne (by omega), uN_eq]
  have uo : ∀ k, k ≠ 4 → k ≠ 5 + s → k ≠ 17 + s → W' k = W k := fun k k1 k2 k3 => by rw [eW, uN_ne k1, uN_ne k3, uN_ne k2]
  rw [← eW]
  have fx : frP (fun c _ => c = 198) wX (if wI wX 198 c = 0 then sI wX 198 c (nI a) else wX) := by
    split
    · exact frP_sI _ _ rfl
    · exact frP_refl _ _
  refine ⟨⟨by rw [uo 0 (by omega) (by omega) (by omega)]; exact i0, by rw [uo 1 (by omega) (by omega) (by omega)]; exact i1, by rw [uo 2 (by omega) (by omega) (by omega)]; exact i2, by rw [uo 3 (by omega) (by omega) (by omega)]; exact i3, by omega, fun i hi => ?_⟩, fun k hk => ?_, by rw [uo 0 (by omega) (by omega) (by omega), frP_I fx (by omega)]; exact h3, by rw [uo 1 (by omega) (by omega) (by omega), frP_I fx (by omega)]; exact h4, by rw [uo 2 (by omega) (by omega) (by omega), frP_I fx (by omega)]; exact h5, by rw [uo 3 (by omega) (by omega) (by omega), frP_I fx (by omega)]; exact h6, ?_, fun v v1 v2 => ?_⟩
  · rw [u4] at hi
    by_cases e : i = s
    · subst e
      rw [ua, uc]
      exact ⟨ha, hc⟩
    · rw [uo (5 + i) (by omega) (by omega) (by omega), uo (17 + i) (by omega) (by omega) (by omega)]
      exact i5 i (by omega)
  · unfold syM
    by_cases k4 : k = 4
    · subst k4
      rw [u4]
      exact ev_wIs _ _ _ _
    · rw [ev_wIn _ (by omega)]
      by_cases k17 : k = 17 + s
      · subst k17
        rw [uc, show 87 + (17 + s) = 104 + s by omega]
        exact ev_wIs _ _ _ _
      · rw [ev_wIn _ (by omega)]
        by_cases k5 : k = 5 + s
        · subst k5
          rw [ua, show 87 + (5 + s) = 92 + s by omega]
          exact ev_wIs _ _ _ _
        · rw [ev_wIn _ (by omega), uo k k4 k5 k17]
          exact h2 k hk
  · show wI _ 198 0 = nI 0
    split
    · rw [ev_wIn _ (by omega)]; exact h7
    · exact h7
  · have e8 := h8 v v1 v2
    have hb := sayW_b (v := v) ⟨i0, i1, i2, i3, by rw [← es]; exact i4, by rw [← es]; exact i5⟩ s 0 (by omega)
    rw [u4, sayW_x (W := W) (W' := W') (v := v) (s := s) (fun i hi => ⟨uo (5 + i) (by omega) (by omega) (by omega), uo (17 + i) (by omega) (by omega) (by omega), (i5 i hi).1.1⟩) s 0 (by omega), ua, uc]
    show wI _ 198 v = _
    have e8' : wI wX 198 v = nI (sayW W v s 0) := e8
    by_cases ev : c = v
    · subst ev
      rw [if_pos rfl, e8']
      by_cases z : sayW W c s 0 = 0
      · rw [z, if_pos rfl, if_pos (show nI 0 = (0 : Int32) from rfl)]
        exact ev_wIs _ _ _ _
      · rw [if_neg z, if_neg (nI_ne0 (by omega) (by omega))]
        exact e8'
    · rw [if_neg ev]
      have : (if sayW W v s 0 = 0 then 0 else sayW W v s 0) = sayW W v s 0 := by
        split
        · rename_i z; exact z.symm
        · rfl
      rw [this]
      split
      · rw [ev_wIn _ (by omega)]; exact e8'
      · exact e8'
theorem sy_J (hn : 410 < n) (h : JA b N T j wX wM) (hl : LJ W wX wM) (h12 : W 0 < 12) (hs : W 4 < 12) : ∃ uX uM, bO2 (fX6_readNumber (1 : Int32) (255 : Int32) (0 : Int32) wX) (fun (r_20 : Int32) (w_19 : jWd) => bO (fX6_take (18 : Int32) w_19) (fun (w_22 : jWd) => bO2 (fX6_readNumber (1 : Int32) (255 : Int32) (0 : Int32) w_22) (fun (r_25 : Int32) (w_24 : jWd) => bO (fX3_putSaying 197 r_20 r_25 w_24) (fun (w_27 : jWd) => lwX w_27)))) = some uX ∧ bO2 (fX12_reads n (1 : Int32) (255 : Int32) (0 : Int32) wM) (fun (r_25 : Int32) (w_24 : jWd) => bO (fX12_needs n (12 : Int32) w_24) (fun (w_27 : jWd) => bO2 (fX12_reads n (1 : Int32) (255 : Int32) (0 : Int32) w_27) (fun (r_30 : Int32) (w_29 : jWd) => lwM n (syM w_29 (W 4) r_25 r_30)))) = some uM ∧ frP PlX wX uX ∧ frP PlM wM uM ∧ (JD uX uM ∨ ∃ j' W', JA b N T j' uX uM ∧ LJ W' uX uM ∧ W' 0 = W 0 + 1 ∧ W' 4 = W 4 + 1) := by
  have i12 := hl.1
  have syf : ∀ (v : jWd) (x y : Int32), frP (fun c k => c = 212 ∧ 87 ≤ k) v (syM v (W 4) x y) := fun v x y => frP_trans (frP_trans (frP_sI _ _ ⟨rfl, by omega⟩) (frP_sI _ _ ⟨rfl, by omega⟩)) (frP_sI _ _ ⟨rfl, by omega⟩)
  have fin : ∀ (x y x' y' : Int32) (u v : jWd), JD u v → ∃ uX uM, bO (fX3_putSaying 197 x y u) (fun (w_27 : jWd) => lwX w_27) = some uX ∧ lwM n (syM v (W 4) x' y') = some uM ∧ frP PlX u uX ∧ frP PlM v uM ∧ JD uX uM := by
    intro x y x' y' u v hd
    obtain ⟨u2, p1, p2⟩ := ps_E x y u
    obtain ⟨uX, uM, a1, a2, a3, a4, a5⟩ := lw_D (n := n) (JD_X (JD_M hd (frP_mono (fun c k z => z.1) (syf v x' y'))) (frP_mono (fun c k z => .inr z) p2))
    exact ⟨uX, uM, by rw [p1, ev_bO]; exact a1, a2, frP_trans (frP_mono (fun c k z => by unfold PlX; omega) p2) a3, frP_trans (frP_mono (fun c k z => by unfold PlM; omega) (syf v x' y')) a4, a5⟩
  obtain ⟨x1, y1, u1, v1, a1, a2, a3, a4, a5⟩ := rd_J (lo := 1) (hi := 255) (full := 0) hn h (by decide) (by decide) (by decide)
  rw [show fX6_readNumber (1 : Int32) (255 : Int32) (0 : Int32) wX = some (x1, u1) from a1, ev_bO2, show fX12_reads n (1 : Int32) (255 : Int32) (0 : Int32) wM = some (y1, v1) from a2, ev_bO2]
  have g1 := frP_mono plx_n a3
  have g2 := frP_mono plm_n a4
  rcases a5 with hd | ⟨-, q14, z1, z2, rfl, rfl, ha2⟩
  · obtain ⟨k, p, d1, d2⟩ := id hd
    rw [tk_XD d1, ev_bO, rd_XD d1, ev_bO2, tk_MD d2, ev_bO, rd_MD d2, ev_bO2]
    obtain ⟨uX, uM, e1, e2, e3, e4, e5⟩ := fin x1 0 y1 (wI v1 205 14) u1 v1 hd
    exact ⟨uX, uM, e1, e2, frP_trans g1 e3, frP_trans g2 e4, .inl e5⟩
  obtain ⟨u2, v2, b1, b2, b3, b4, b5⟩ := tk_J (k := 12) (cX := 18) (cM := 12) hn ha2 (by decide) rfl rfl
  have g3 := frP_trans g1 (frP_mono plx_n b3)
  have g4 := frP_trans g2 (frP_mono plm_n b4)
  rw [b1, ev_bO, b2, ev_bO]
  rcases b5 with hd | ⟨-, ha3⟩
  · obtain ⟨k, p, d1, d2⟩ := id hd
    rw [rd_XD d1, ev_bO2, rd_MD d2, ev_bO2]
    obtain ⟨uX, uM, e1, e2, e3, e4, e5⟩ := fin (nI (nuT b N j)) 0 (nI (nuT b N j)) (wI v2 205 14) u2 v2 hd
    exact ⟨uX, uM, e1, e2, frP_trans g3 e3, frP_trans g4 e4, .inl e5⟩
  obtain ⟨x3, y3, u3, v3, c1, c2, c3, c4, c5⟩ := rd_J (lo := 1) (hi := 255) (full := 0) hn ha3 (by decide) (by decide) (by decide)
  have g5 := frP_trans g3 (frP_mono plx_n c3)
  have g6 := frP_trans g4 (frP_mono plm_n c4)
  rw [show fX6_readNumber (1 : Int32) (255 : Int32) (0 : Int32) u2 = some (x3, u3) from c1, ev_bO2, show fX12_reads n (1 : Int32) (255 : Int32) (0 : Int32) v2 = some (y3, v3) from c2, ev_bO2]
  rcases c5 with hd | ⟨-, q14', z3, z4, rfl, rfl, ha4⟩
  · obtain ⟨uX, uM, e1, e2, e3, e4, e5⟩ := fin (nI (nuT b N j)) x3 (nI (nuT b N j)) y3 u3 v3 hd
    exact ⟨uX, uM, e1, e2, frP_trans g5 e3, frP_trans g6 e4, .inl e5⟩
  obtain ⟨x, ex⟩ : ∃ x, x = nuT b N j := ⟨_, rfl⟩
  obtain ⟨y, ey⟩ : ∃ y, y = nuT b N (j + 1 + 1) := ⟨_, rfl⟩
  rw [← ex] at z1 z2 ⊢
  rw [← ey] at z3 z4 ⊢
  have l1 := LJ_fr (LJ_fr (LJ_fr hl a3 a4) b3 b4) c3 c4
  have l2 := LJ_s l1 (a := x) (c := y) hs ⟨z1, z2⟩ ⟨z3, z4⟩
  obtain ⟨u4, eu⟩ : ∃ u, u = if wI u3 198 y = 0 then sI u3 198 y (nI x) else u3 := ⟨_, rfl⟩
  have fu : frP (fun c _ => c = 198) u3 u4 := by
    rw [eu]
    split
    · exact frP_sI _ _ rfl
    · exact frP_refl _ _
  rw [ps_X z4, ev_bO, ← eu]
  rw [← eu] at l2
  obtain ⟨uX, uM, e1, e2, e3, e4, e5⟩ := lw_J hn (JA_X (JA_M ha4 (frP_mono (fun c k z => z.1) (syf v3 (nI x) (nI y)))) (frP_mono (fun c k z => .inr z) fu)) l2 (by rw [uN_ne (by omega), uN_ne (by omega), uN_ne (by omega)]; exact h12)
  refine ⟨uX, uM, e1, e2, frP_trans g5 (frP_trans (frP_mono (fun c k z => by unfold PlX; omega) fu) e3), frP_trans g6 (frP_trans (frP_mono (fun c k z => by unfold PlM; omega) (syf v3 (nI x) (nI y))) e4), ?_⟩
  rcases e5 with e5 | ⟨e5, e6⟩
  · exact .inl e5
  · exact .inr ⟨_, _, e5, e6, by rw [uN_eq, uN_ne (by omega), uN_ne (by omega), uN_ne (by omega)], by rw [uN_ne (by omega), uN_eq]⟩
end LAW
