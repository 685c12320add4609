/-! text: the call -/
def TxS (c k : Nat) : Prop := (c = 0 ∧ k = 8) ∨ (1 ≤ c ∧ c ≤ 57) ∨ c = 189 ∨ (190 ≤ c ∧ c ≤ 201) ∨ c = 204 ∨ c = 205 ∨ c = 206 ∨ (c = 211 ∧ (k < 645 ∨ 1935 ≤ k)) ∨ (c = 212 ∧ (k < 29 ∨ 87 ≤ k))
section TXT
variable {A : Nat → Nat} {L : Nat → Int64} {F W : Nat → Nat} {w w' : jWd} {b : Nat → Nat} {N m n : Nat}
theorem rr_tx (hf : frP TxS w w') (h : RR w) (hn : ∃ A L F W, RN A L F W w') (hr : RRef w') (ht : RTape w') (hl : RFlt w') : RR w' := by
  obtain ⟨-, b, c, d, e, -, -, -, j⟩ := h
  have hI : ∀ c k, ¬ TxS c k → wI w' c k = wI w c k := fun c k q => frP_I hf q
  have hJ : ∀ c k, ¬ TxS c k → wJ w' c k = wJ w c k := fun c k q => frP_J hf q
  have im : ∀ i, i ≤ 1 → RIm i w → RIm i w' := fun i hi h => RIm_cg2 (fun c k _ _ => hI c k (by unfold TxS; omega)) (fun c k _ _ => hJ c k (by unfold TxS; omega)) (hI _ _ (by unfold TxS; omega)) (hI _ _ (by unfold TxS; omega)) (fun k _ => hI _ _ (by unfold TxS; omega)) (fun k _ => hJ _ _ (by unfold TxS; omega)) (fun k _ => hI _ _ (by unfold TxS; omega)) (fun k _ => hI _ _ (by unfold TxS; omega)) h
  refine ⟨hn, im 0 (by omega) b, im 1 (by omega) c, RCon_cg (fun c k _ _ _ => hI c k (by unfold TxS; omega)) d, RCon_cg (fun c k _ _ _ => hI c k (by unfold TxS; omega)) e, hr, ht, hl, fun r hr => ?_⟩
  rw [hI 186 r (by unfold TxS; omega), hI 221 r (by unfold TxS; omega), hI 187 r (by unfold TxS; omega), hI 222 r (by unfold TxS; omega)]
  rcases j r hr with q | ⟨n, s, q1, q2, q3, q4, q5, q6, q7⟩
  · exact .inl q
  · exact .inr ⟨n, s, q1, q2, q3, q4, q5, q6, fun k hk => by rw [hJ _ _ (by unfold TxS; omega), hJ _ _ (by unfold TxS; omega)]; exact q7 k hk⟩
/-! the class's end -/
def KX (n : Nat) (a0 : Int32) (w : jWd) : Option (Int32 × jWd) := if (wI w 189 2) = 0 then if a0 = 0 then bO (fX8_follow n 1 190 w) (fun (w_11 : jWd) => some ((wI w_11 32 0), w_11)) else bO (fX3_copy 39 197 w) (fun (w_9 : jWd) => some ((wI w_9 39 0), w_9)) else bO2 (fX11_refuse ((-10 : Int32) - (wI w 189 2)) w) (fun (r_14 : Int32) (w_13 : jWd) => some (r_14, w_13))
theorem rf_c1 (a : Int32) (ha : ¬ (-10 : Int32) ≤ a) (w : jWd) : fX11_refuse a w = some (a, rfX w 1) := by
  have l : ln 204 = 8 := rfl
  unfold fX11_refuse letV
  dsimp only
  rw [if_neg ha, if_neg (show ¬ (1 : Int32) < 0 by decide), if_neg (show ¬ (8 : Int32) ≤ 1 by decide), l, show (1 : Int32) = nI 1 from rfl, grd_N (by decide) (by decide), grd_N (by decide) (by decide), nI_clamp (by decide)]
  rfl
theorem rfx_f {f : Nat} (h1 : 1 ≤ f) (h5 : f ≤ 5) (w : jWd) : fX11_refuse ((-10 : Int32) - nI f) w = some ((-10 : Int32) - nI f, rfX w 1) := by
  refine rf_c1 _ ?_ w
  rcases (show f = 1 ∨ f = 2 ∨ f = 3 ∨ f = 4 ∨ f = 5 by omega) with rfl | rfl | rfl | rfl | rfl <;> decide +kernel
theorem KX_D {f p : Nat} {a0 : Int32} (h : XD f p w) : KX n a0 w = some ((-10 : Int32) - nI f, rfX w 1) := by
  unfold KX
  rw [if_neg (XD_0 h), h.2.2.2.1, rfx_f h.1 h.2.1, ev_bO2]
theorem hdX {what : Nat} (hw : what ≤ 1) (h8 : ¬ fX11_within ((nI N).toInt64) (0 : Int64) (((wI w 0 8)).toInt64) = 0) : fX11_text n (nI what) (nI N) w = bO (fX6_scan n 202 (nI N) (sI w 0 8 (0 : Int32))) (fun (w_5 : jWd) => if nI what = 0 then bO (fX6_readFashion n w_5) (fun (w_18 : jWd) => KX n (nI what) w_18) else bO (fX6_readLaw n w_5) (fun (w_16 : jWd) => KX n (nI what) w_16)) := by
  unfold fX11_text
  rw [ev_letV, if_neg h8]
  rcases (show what = 0 ∨ what = 1 by omega) with rfl | rfl
  · rw [if_pos (show nI 0 = (0 : Int32) from rfl)]
    rfl
  · rw [if_neg (show ¬ nI 1 = (0 : Int32) by decide), if_pos (show nI 1 = (1 : Int32) from rfl)]
    rfl
theorem scan_X (hn : 410 < n) (h : TpX b N w) : ∃ u T, fX6_scan n 202 (nI N) w = some u ∧ XA b N T 0 u ∧ frP (fun c k => (c = 189 ∧ 2 ≤ k ∧ k ≤ 5) ∨ (199 ≤ c ∧ c ≤ 201)) w u := by
  obtain ⟨hN, hb, ht⟩ := id h
  have l2 : ln 202 = 400 := rfl
  obtain ⟨v, hv⟩ : ∃ v, v = sI (sI (sI (sI w 189 2 (0 : Int32)) 189 3 (-1 : Int32)) 189 4 (0 : Int32)) 189 5 (0 : Int32) := ⟨_, rfl⟩
  have fv : frP (fun c k => c = 189 ∧ 2 ≤ k ∧ k ≤ 5) w v := by
    rw [hv]
    exact frP_trans (frP_trans (frP_trans (frP_sI _ _ (by omega)) (frP_sI _ _ (by omega))) (frP_sI _ _ (by omega))) (frP_sI _ _ (by omega))
  have v2 : wI v 189 2 = nI 0 := by rw [hv, ev_wIn _ (by omega), ev_wIn _ (by omega), ev_wIn _ (by omega)]; exact ev_wIs _ _ _ _
  have v4 : wI v 189 4 = nI 0 := by rw [hv, ev_wIn _ (by omega)]; exact ev_wIs _ _ _ _
  have v5 : wI v 189 5 = nI 0 := by rw [hv]; exact ev_wIs _ _ _ _
  obtain ⟨u, T, d1, d2, d3, d4, d5, d6⟩ := sc_X (b := b) (N := N) (n := n) (p2 := nI N) (fun (w_29 : jWd) => bO (fX6_putToken (0 : Int32) (0 : Int32) (nI N) w_29) (fun (w_31 : jWd) => some w_31)) hn N 0 n 0 0 v ⟨hN, hb, fun k hk => by rw [frP_I fv (by omega)]; exact ht k hk⟩ (by omega) (by omega) (Nat.zero_le _) (Nat.le_refl _) (fun k hk => absurd hk (Nat.not_lt_zero k)) rfl ⟨v4, fun k hk => absurd hk (Nat.not_lt_zero k)⟩
  obtain ⟨z, hz⟩ : ∃ z, z = sI (sI (sI (sI u 199 T (0 : Int32)) 200 T (0 : Int32)) 201 T (nI N)) 189 4 (nI (T + 1)) := ⟨_, rfl⟩
  have fz : frP (fun c k => ((c = 199 ∨ c = 200 ∨ c = 201) ∧ k = T) ∨ (c = 189 ∧ k = 4)) u z := by
    rw [hz]
    exact frP_trans (frP_trans (frP_trans (frP_sI _ _ (by omega)) (frP_sI _ _ (by omega))) (frP_sI _ _ (by omega))) (frP_sI _ _ (by omega))
  have k18 : kdT b N T = 18 := kd_T d4
  refine ⟨z, T, ?_, ⟨⟨d2, hN, hb, d4, d5, by rw [hz]; exact ev_wIs _ _ _ _, fun j hj => ?_⟩, ?_, ?_, Nat.zero_le _⟩, frP_trans (frP_mono (fun c k z => by omega) fv) (frP_trans (frP_mono (fun c k z => by unfold ScP at z; omega) d6) (frP_mono (fun c k z => by omega) fz))⟩
  · unfold fX6_scan letV
    dsimp only
    rw [← hv, l2, show Int32.ofNat 400 = nI 400 from rfl, imin_N (by omega) (by decide), show min N 400 = N by omega]
    refine (show _ = _ from d1).trans ?_
    rw [put_T (by omega) d3.1, ev_bO, hz]
  · by_cases e : j = T
    · subst e
      refine ⟨?_, ?_, fun q => by omega⟩
      · rw [k18, hz, ev_wIn _ (by omega), ev_wIn _ (by omega), ev_wIn _ (by omega)]
        exact ev_wIs _ _ _ _
      · rw [d4, hz, ev_wIn _ (by omega)]
        exact ev_wIs _ _ _ _
    · obtain ⟨t1, t2, t3⟩ := d3.2 j (by omega)
      exact ⟨by rw [frP_I fz (by omega)]; exact t1, by rw [frP_I fz (by omega)]; exact t2, fun q => by rw [frP_I fz (by omega)]; exact t3 q⟩
  · rw [frP_I fz (by omega), frP_I d6 (by unfold ScP; omega)]; exact v2
  · rw [frP_I fz (by omega), frP_I d6 (by unfold ScP; omega)]; exact v5
/-! the reference's beginning and end -/
def KM (n : Nat) (a0 : Int32) (w_29 : jWd) : Option (Int32 × jWd) := letV (sI w_29 205 19 (wI w_29 205 15)) (fun (w_30 : jWd) => letV (fun (s_32 : Int32) => letV (sI w_30 205 20 s_32) (fun (w_34 : jWd) => if (wI w_34 205 15) = 0 then letV (fun (w_36 : jWd) => if a0 = 0 then some ((wI w_36 211 0), w_36) else some ((wI w_36 212 0), w_36)) (fun (j263_37 : jWd → Option (Int32 × jWd)) => if a0 = 0 then lX12_text_202 n a0 (fun (w_51 : jWd) => j263_37 w_51) n (0 : Int32) w_34 else lX12_text_236 n a0 (fun (w_44 : jWd) => j263_37 w_44) n (0 : Int32) w_34) else letV (sI w_34 206 1 ((wI w_34 206 1) + (1 : Int32))) (fun (w_52 : jWd) => some (((-10 : Int32) - (wI w_52 205 15)), w_52)))) (fun (j168_33 : Int32 → Option (Int32 × jWd)) => if (wI w_30 205 15) = 0 then j168_33 (-1 : Int32) else j168_33 (wI w_30 205 16)))
theorem KM_D {f p : Nat} {a0 : Int32} (h : MD f p w) : KM n a0 w = some ((-10 : Int32) - nI f, rfM (sI (sI w 205 19 (nI f)) 205 20 (nI p)) 1) := by
  have h15 := h.2.2.2.1
  have h16 := h.2.2.2.2
  have hne : ¬ nI f = (0 : Int32) := nI_ne0 (by have := h.1; omega) (by have := h.2.1; omega)
  have e1 : wI (sI w 205 19 (nI f)) 205 15 = nI f := by rw [ev_wIn _ (by omega)]; exact h15
  have e2 : wI (sI w 205 19 (nI f)) 205 16 = nI p := by rw [ev_wIn _ (by omega)]; exact h16
  have e3 : wI (sI (sI w 205 19 (nI f)) 205 20 (nI p)) 205 15 = nI f := by rw [ev_wIn _ (by omega)]; exact e1
  have e5 : ∀ x, wI (sI (sI (sI w 205 19 (nI f)) 205 20 (nI p)) 206 1 x) 205 15 = nI f := fun x => by rw [ev_wIn _ (by omega)]; exact e3
  unfold KM letV
  dsimp only
  rw [h15, e1, if_neg hne, e2, e3, if_neg hne, e5]
  rfl
theorem KM_F (hn : 1200 < n) (h15 : wI w 205 15 = nI 0) : ∃ u, KM n (nI 0) w = some (wI u 211 0, u) ∧ (∀ k, k < 645 → wI u 211 k = wI w 211 (1935 + k)) ∧ wI u 205 19 = nI 0 ∧ wI u 205 20 = (-1 : Int32) ∧ frP (fun c k => (c = 205 ∧ (k = 19 ∨ k = 20)) ∨ (c = 211 ∧ k < 645)) w u := by
  obtain ⟨v, hv⟩ : ∃ v, v = sI (sI w 205 19 (nI 0)) 205 20 (-1 : Int32) := ⟨_, rfl⟩
  have e1 : wI (sI w 205 19 (nI 0)) 205 15 = nI 0 := by rw [ev_wIn _ (by omega)]; exact h15
  have e3 : wI v 205 15 = nI 0 := by rw [hv, ev_wIn _ (by omega)]; exact e1
  have fv : frP (fun c k => c = 205 ∧ (k = 19 ∨ k = 20)) w v := by
    rw [hv]
    exact frP_trans (frP_sI _ _ (by omega)) (frP_sI _ _ (by omega))
  obtain ⟨u, d1, d2, d3⟩ := c202_M (n := n) (p1 := nI 0) (fun (w_51 : jWd) => some ((wI w_51 211 0), w_51)) 645 0 n v (by omega) (by omega)
  refine ⟨u, ?_, fun k hk => by rw [d2 k (Nat.zero_le _) hk, frP_I fv (by omega)], ?_, ?_, frP_trans (frP_mono (fun c k z => by omega) fv) (frP_mono (fun c k z => by omega) d3)⟩
  · unfold KM letV
    dsimp only
    rw [h15, e1, if_pos (show nI 0 = (0 : Int32) from rfl), ← hv, e3, if_pos (show nI 0 = (0 : Int32) from rfl), if_pos (show nI 0 = (0 : Int32) from rfl)]
    refine Eq.trans ?_ d1
    refine congrArg (fun K => lX12_text_202 n (nI 0) K n (0 : Int32) v) (funext fun x => ?_)
    exact if_pos rfl
  · rw [frP_I d3 (by omega), hv, ev_wIn _ (by omega)]; exact ev_wIs _ _ _ _
  · rw [frP_I d3 (by omega), hv]; exact ev_wIs _ _ _ _
theorem KM_L (hn : 1200 < n) (h15 : wI w 205 15 = nI 0) : ∃ u, KM n (nI 1) w = some (wI u 212 0, u) ∧ (∀ k, k < 29 → wI u 212 k = wI w 212 (87 + k)) ∧ wI u 205 19 = nI 0 ∧ wI u 205 20 = (-1 : Int32) ∧ frP (fun c k => (c = 205 ∧ (k = 19 ∨ k = 20)) ∨ (c = 212 ∧ k < 29)) w u := by
  obtain ⟨v, hv⟩ : ∃ v, v = sI (sI w 205 19 (nI 0)) 205 20 (-1 : Int32) := ⟨_, rfl⟩
  have e1 : wI (sI w 205 19 (nI 0)) 205 15 = nI 0 := by rw [ev_wIn _ (by omega)]; exact h15
  have e3 : wI v 205 15 = nI 0 := by rw [hv, ev_wIn _ (by omega)]; exact e1
  have fv : frP (fun c k => c = 205 ∧ (k = 19 ∨ k = 20)) w v := by
    rw [hv]
    exact frP_trans (frP_sI _ _ (by omega)) (frP_sI _ _ (by omega))
  have h10 : ¬ nI 1 = (0 : Int32) := by decide
  obtain ⟨u, d1, d2, d3⟩ := c236_M (n := n) (p1 := nI 1) (fun (w_44 : jWd) => some ((wI w_44 212 0), w_44)) 29 0 n v (by omega) (by omega)
  refine ⟨u, ?_, fun k hk => by rw [d2 k (Nat.zero_le _) hk, frP_I fv (by omega)], ?_, ?_, frP_trans (frP_mono (fun c k z => by omega) fv) (frP_mono (fun c k z => by omega) d3)⟩
  · unfold KM letV
    dsimp only
    rw [h15, e1, if_pos (show nI 0 = (0 : Int32) from rfl), ← hv, e3, if_pos (show nI 0 = (0 : Int32) from rfl), if_neg h10]
    refine Eq.trans ?_ d1
    refine congrArg (fun K => lX12_text_236 n (nI 1) K n (0 : Int32) v) (funext fun x => ?_)
    exact if_neg h10
  · rw [frP_I d3 (by omega), hv, ev_wIn _ (by omega)]; exact ev_wIs _ _ _ _
  · rw [frP_I d3 (by omega), hv]; exact ev_wIs _ _ _ _
def PiM (c k : Nat) : Prop := c = 205 ∨ (c = 211 ∧ k = 1935) ∨ (c = 212 ∧ 87 ≤ k)
theorem init_M {what : Nat} (hn : 410 < n) (hw : what ≤ 1) (hm : m ≤ 400) (hN : N ≤ m) (hb : ∀ k, b k < 256) (h9 : wI w 205 9 = nI m) (ht : ∀ k, k < N → wI w 213 k = nI (b k)) : ∃ v, fX12_text n (nI what) (nI N) w = lX12_text_110 n (nI what) (KM n (nI what)) n v ∧ MA b N 0 v ∧ wI v 205 17 = nI 0 ∧ wI v 205 18 = nI 0 ∧ wI v 211 1935 = nI 0 ∧ (∀ k, k < 29 → wI v 212 (87 + k) = nI 0) ∧ wI v 205 9 = nI 0 ∧ frP PiM w v := by
  have hin : ¬ fX12_within ((nI what).toInt64) (0 : Int64) (1 : Int64) = 0 := by
    rcases (show what = 0 ∨ what = 1 by omega) with rfl | rfl <;> decide
  have hi2 : ¬ fX12_within ((nI N).toInt64) (0 : Int64) ((nI m).toInt64) = 0 := by
    rw [nI_l (n := m) (by omega)]
    exact w0_of (lo := 0) (Nat.zero_le _) hN (by omega)
  obtain ⟨v0, h0⟩ : ∃ v, v = sI (sI (sI (sI (sI (sI (sI (sI w 205 0 (0 : Int32)) 205 12 (nI N)) 205 9 (0 : Int32)) 205 11 (0 : Int32)) 205 15 (0 : Int32)) 205 17 (0 : Int32)) 205 18 (0 : Int32)) 211 1935 (0 : Int32) := ⟨_, rfl⟩
  have f0 : frP (fun c k => c = 205 ∨ (c = 211 ∧ k = 1935)) w v0 := by
    rw [h0]
    exact frP_trans (frP_trans (frP_trans (frP_trans (frP_trans (frP_trans (frP_trans (frP_sI _ _ (by omega)) (frP_sI _ _ (by omega))) (frP_sI _ _ (by omega))) (frP_sI _ _ (by omega))) (frP_sI _ _ (by omega))) (frP_sI _ _ (by omega))) (frP_sI _ _ (by omega))) (frP_sI _ _ (by omega))
  have c12 : wI v0 205 12 = nI N := by rw [h0]; simp (disch := omega) only [ev_wIn]; exact ev_wIs _ _ _ _
  have c9 : wI v0 205 9 = nI 0 := by rw [h0]; simp (disch := omega) only [ev_wIn]; exact ev_wIs _ _ _ _
  have c11 : wI v0 205 11 = nI 0 := by rw [h0]; simp (disch := omega) only [ev_wIn]; exact ev_wIs _ _ _ _
  have c15 : wI v0 205 15 = nI 0 := by rw [h0]; simp (disch := omega) only [ev_wIn]; exact ev_wIs _ _ _ _
  have c17 : wI v0 205 17 = nI 0 := by rw [h0]; simp (disch := omega) only [ev_wIn]; exact ev_wIs _ _ _ _
  have c18 : wI v0 205 18 = nI 0 := by rw [h0]; simp (disch := omega) only [ev_wIn]; exact ev_wIs _ _ _ _
  have c35 : wI v0 211 1935 = nI 0 := by rw [h0]; exact ev_wIs _ _ _ _
  obtain ⟨v1, z1, z2, z3⟩ := z84_M (n := n) (p1 := nI what) (fun (w_22 : jWd) => bO (fX12_next n w_22) (fun (w_24 : jWd) => lX12_text_110 n (nI what) (KM n (nI what)) n w_24)) 29 0 n v0 (by omega) (by omega)
  have tp : TpM b N v1 := ⟨by omega, hb, by rw [frP_I z3 (by omega)]; exact c12, fun k hk => by rw [frP_I z3 (by omega), frP_I f0 (by omega)]; exact ht k hk⟩
  obtain ⟨v2, y1, y2, y3⟩ := nx_M (p := 0) hn tp (Nat.zero_le _) (by rw [frP_I z3 (by omega)]; exact c11)
  refine ⟨v2, ?_, ⟨TpM_fr tp y3, y2, ?_⟩, ?_, ?_, ?_, fun k hk => ?_, ?_, frP_trans (frP_mono (fun c k z => by unfold PiM; omega) f0) (frP_trans (frP_mono (fun c k z => by unfold PiM; omega) z3) (frP_mono (fun c k z => by unfold LxP at z; unfold PiM; omega) y3))⟩
  · unfold fX12_text letV
    dsimp only
    rw [if_neg hin, ev_wIn _ (by omega), h9, if_neg hi2, ← h0]
    refine (show _ = _ from z1).trans ?_
    rw [y1, ev_bO]
  · rw [frP_I y3 (by unfold LxP; omega), frP_I z3 (by omega)]; exact c15
  · rw [frP_I y3 (by unfold LxP; omega), frP_I z3 (by omega)]; exact c17
  · rw [frP_I y3 (by unfold LxP; omega), frP_I z3 (by omega)]; exact c18
  · rw [frP_I y3 (by unfold LxP; omega), frP_I z3 (by omega)]; exact c35
  · rw [frP_I y3 (by unfold LxP; omega)]; exact z2 k (Nat.zero_le _) hk
  · rw [frP_I y3 (by unfold LxP; omega), frP_I z3 (by omega)]; exact c9
/-- a FAULT told on both sides -/
theorem tx_D {f p : Nat} {u w1 w2 v : jWd} (hw : RR w) (fX : frP (fun c k => (c = 0 ∧ k = 8) ∨ c = 189 ∨ (190 ≤ c ∧ c ≤ 201)) w u) (hX : XD f p u) (h8 : wI u 0 8 = nI 0) (e1 : w1 = rfX u 1) (fM : frP (fun c k => c = 205 ∨ (c = 211 ∧ 1935 ≤ k) ∨ (c = 212 ∧ 87 ≤ k)) w1 v) (hM : MD f p v) (h9 : wI v 205 9 = nI 0) (e2 : w2 = rfM (sI (sI v 205 19 (nI f)) 205 20 (nI p)) 1) : RR w2 := by
  obtain ⟨⟨A, L, F, W, h⟩, -, -, -, -, hrf, -, -, -⟩ := id hw
  have f1 : frP (fun c k => c = 204 ∧ k = 1) u w1 := by rw [e1]; exact frP_sI _ _ ⟨rfl, rfl⟩
  have f2 : frP (fun c k => (c = 205 ∧ (k = 19 ∨ k = 20)) ∨ (c = 206 ∧ k = 1)) v w2 := by
    rw [e2]
    exact frP_trans (frP_trans (frP_sI _ _ (by omega)) (frP_sI _ _ (by omega))) (frP_sI _ _ (by omega))
  have fA : frP (fun c k => (c = 0 ∧ k = 8) ∨ c = 189 ∨ (190 ≤ c ∧ c ≤ 201) ∨ (c = 204 ∧ k = 1) ∨ c = 205 ∨ (c = 211 ∧ 1935 ≤ k) ∨ (c = 212 ∧ 87 ≤ k) ∨ (c = 206 ∧ k = 1)) w w2 := frP_trans (frP_mono (fun c k z => by omega) fX) (frP_trans (frP_mono (fun c k z => by omega) f1) (frP_trans (frP_mono (fun c k z => by omega) fM) (frP_mono (fun c k z => by omega) f2)))
  have hI : ∀ c k, ¬ ((c = 0 ∧ k = 8) ∨ c = 189 ∨ (190 ≤ c ∧ c ≤ 201) ∨ (c = 204 ∧ k = 1) ∨ c = 205 ∨ (c = 211 ∧ 1935 ≤ k) ∨ (c = 212 ∧ 87 ≤ k) ∨ (c = 206 ∧ k = 1)) → wI w2 c k = wI w c k := fun c k q => frP_I fA q
  have hJ : ∀ c k, ¬ ((c = 0 ∧ k = 8) ∨ c = 189 ∨ (190 ≤ c ∧ c ≤ 201) ∨ (c = 204 ∧ k = 1) ∨ c = 205 ∨ (c = 211 ∧ 1935 ≤ k) ∨ (c = 212 ∧ 87 ≤ k) ∨ (c = 206 ∧ k = 1)) → wJ w2 c k = wJ w c k := fun c k q => frP_J fA q
  refine rr_tx (frP_mono (fun c k z => by unfold TxS; omega) fA) hw ⟨A, L, F, W, h.1, RX_cg h.1.1 (fun c k h1 h2 => hI c k (by omega)) (fun c k h1 h2 => hJ c k (by omega)) h.2.1, RCon_cg (fun c k h1 h2 _ => hI c k (by omega)) h.2.2.1, RM_cg (fun k _ => hI _ _ (by omega)) (fun k _ => hJ _ _ (by omega)) (fun k _ => hI _ _ (by omega)) (fun k _ => hI _ _ (by omega)) h.2.2.2⟩ (fun k k1 k2 => ?_) ⟨0, Nat.zero_le _, ?_, ?_, fun k hk => absurd hk (Nat.not_lt_zero k)⟩ ⟨?_, ?_⟩
  · have hr := hrf k k1 k2
    by_cases e : k = 1
    · subst e
      have a1 : wI w2 204 1 = wI u 204 1 + 1 := by
        rw [frP_I f2 (by omega), frP_I fM (by omega), e1]
        exact ev_wIs _ _ _ _
      have a2 : wI w2 206 1 = wI w 206 1 + 1 := by
        rw [e2]
        refine (ev_wIs _ _ _ _).trans ?_
        rw [ev_wIn _ (by omega), ev_wIn _ (by omega), frP_I fM (by omega), frP_I f1 (by omega), frP_I fX (by omega)]
      rw [a1, a2, frP_I fX (by omega), hr]
    · rw [hI _ _ (by omega), hI _ _ (by omega)]
      exact hr
  · rw [frP_I f2 (by omega), frP_I fM (by omega), frP_I f1 (by omega)]; exact h8
  · rw [frP_I f2 (by omega)]; exact h9
  · rw [frP_I f2 (by omega), frP_I fM (by omega), frP_I f1 (by omega), hX.2.2.2.1, e2]
    unfold rfM
    rw [ev_wIn _ (by omega), ev_wIn _ (by omega), ev_wIs]
  · rw [frP_I f2 (c := 189) (k := 2) (by omega), frP_I fM (c := 189) (k := 2) (by omega), frP_I f1 (c := 189) (k := 2) (by omega), frP_I f2 (c := 189) (k := 3) (by omega), frP_I fM (c := 189) (k := 3) (by omega), frP_I f1 (c := 189) (k := 3) (by omega), if_neg (XD_0 hX), hX.2.2.2.2, e2]
    unfold rfM
    rw [ev_wIn _ (by omega), ev_wIs]
/-- a text without a FAULT -/
theorem tx_A {u w1 w2 v : jWd} {G V : Nat → Nat} (hw : RR w) (h : RN A L F W w) (fX : frP (fun c k => (c = 0 ∧ k = 8) ∨ c = 189 ∨ (190 ≤ c ∧ c ≤ 201)) w u) (h2 : wI u 189 2 = nI 0) (h8 : wI u 0 8 = nI 0) (f1 : frP (fun c _ => 1 ≤ c ∧ c ≤ 57) u w1) (fM : frP (fun c k => c = 205 ∨ (c = 211 ∧ 1935 ≤ k) ∨ (c = 212 ∧ 87 ≤ k)) w1 v) (h9 : wI v 205 9 = nI 0) (f2 : frP (fun c k => (c = 205 ∧ (k = 19 ∨ k = 20)) ∨ (c = 211 ∧ k < 645) ∨ (c = 212 ∧ k < 29)) v w2) (h19 : wI w2 205 19 = nI 0) (h20 : wI w2 205 20 = (-1 : Int32)) (hR : RXN A L G V w1) (hF : ∀ k, k < 645 → wI w2 211 k = nI (G k)) (hW : ∀ k, k < 29 → wI w2 212 k = nI (V k)) : RR w2 := by
  obtain ⟨-, -, -, -, -, hrf, -, -, -⟩ := id hw
  have fA : frP (fun c k => (c = 0 ∧ k = 8) ∨ c = 189 ∨ (190 ≤ c ∧ c ≤ 201) ∨ (1 ≤ c ∧ c ≤ 57) ∨ c = 205 ∨ (c = 211 ∧ (k < 645 ∨ 1935 ≤ k)) ∨ (c = 212 ∧ (k < 29 ∨ 87 ≤ k))) w w2 := frP_trans (frP_mono (fun c k z => by omega) fX) (frP_trans (frP_mono (fun c k z => by omega) f1) (frP_trans (frP_mono (fun c k z => by omega) fM) (frP_mono (fun c k z => by omega) f2)))
  obtain ⟨a5, b5, c5⟩ := RXN_cg (u := w2) hR (fun c k _ _ => ⟨by rw [frP_I f2 (by omega), frP_I fM (by omega)], by rw [frP_J f2 (by omega), frP_J fM (by omega)]⟩)
  obtain ⟨m1, m2, m3, m4⟩ := h.2.2.2
  refine rr_tx (frP_mono (fun c k z => by unfold TxS; omega) fA) hw ⟨A, L, G, V, a5, b5, c5, fun k hk => ?_, fun k hk => ?_, fun k hk => ?_, fun k hk => ?_⟩ (fun k k1 k2 => ?_) ⟨0, Nat.zero_le _, ?_, (frP_I f2 (by omega)).trans h9, fun k hk => absurd hk (Nat.not_lt_zero k)⟩ ⟨?_, ?_⟩
  · rw [frP_I fA (by omega)]; exact m1 k hk
  · rw [frP_J fA (by omega)]; exact m2 k hk
  · rw [show 645 * 0 + k = k by omega]; exact hF k hk
  · rw [show 29 * 0 + k = k by omega]; exact hW k hk
  · rw [frP_I fA (by omega), frP_I fA (by omega)]; exact hrf k k1 k2
  · rw [frP_I f2 (by omega), frP_I fM (by omega), frP_I f1 (by omega)]; exact h8
  · rw [frP_I f2 (by omega), frP_I fM (by omega), frP_I f1 (by omega), h2, h19]
  · rw [frP_I f2 (c := 189) (k := 2) (by omega), frP_I fM (c := 189) (k := 2) (by omega), frP_I f1 (c := 189) (k := 2) (by omega), h2, if_pos (show nI 0 = (0 : Int32) from rfl), h20]
end TXT
