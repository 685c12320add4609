/-! minister: the call -/
theorem rx_id6 (u : jWd) : bO2 (fX11_refuse (-6 : Int32) u) (fun (r : Int32) (v : jWd) => some (r, v)) = some ((-6 : Int32), rfX u 6) := by rw [rf_X6]; rfl
theorem rx_id7 (u : jWd) : bO2 (fX11_refuse (-7 : Int32) u) (fun (r : Int32) (v : jWd) => some (r, v)) = some ((-7 : Int32), rfX u 7) := by rw [rf_X7]; rfl
theorem no_id6 (u : jWd) : bO2 (fX12_no (-6 : Int32) u) (fun (r : Int32) (v : jWd) => some (r, v)) = some ((-6 : Int32), rfM u 6) := by rw [rf_M6]; rfl
theorem no_id7 (u : jWd) : bO2 (fX12_no (-7 : Int32) u) (fun (r : Int32) (v : jWd) => some (r, v)) = some ((-7 : Int32), rfM u 7) := by rw [rf_M7]; rfl
theorem s_minister_n {n : Nat} (hn : 70 < n) (w : jWd) (a0 : Int32) (hw : RR w) : ∃ (v : Int32) (w1 w2 : jWd), fX11_minister n a0 w = some (v, w1) ∧ fX12_minister n a0 w1 = some (v, w2) ∧ RR w2 := by
  have l1 : ln 221 = 4 := rfl
  have l2 : ln 222 = 4 := rfl
  have l6 : ln 186 = 4 := rfl
  obtain ⟨⟨A, L, F, W, h⟩, -⟩ := id hw
  have h60 := RN_60 h
  have hN := rd_M h
  have s0 := (RN_an h).1
  have r0 : wI w 207 547 = nI (A 547) := h.2.2.2.1 547 (by decide)
  have hR := hw.2.2.2.2.2.2.2.2
  have hM : ∀ w1, frS2 w w1 → ∀ c k, (c = 221 ∨ c = 222) → wI (sI w1 205 0 (0 : Int32)) c k = wI w c k := fun w1 f1 c k hc => by rw [ev_wIn _ (by omega), frP_I f1 (by unfold Scr2 Scr; omega)]
  rcases cb_cs a0 with ⟨c1, c2⟩ | ⟨r, hr, rfl, c1, c2⟩
  · refine rr_call hw (.inr ⟨-2, 2, by decide, by decide, ⟨w, ?_, frP_refl _ _⟩, fun w1 f1 => ⟨sI w1 205 0 (0 : Int32), ?_, frS_0 w1⟩⟩)
    · unfold fX11_minister
      rw [if_pos c1, rx_id2]
    · unfold fX12_minister letV
      dsimp only
      rw [if_pos c2, no_id2]
  rcases hR r hr with ⟨q1, q2⟩ | ⟨m, s, hm, hs, q1, q2, q3, q4, q5⟩
  · refine rr_call hw (.inr ⟨-6, 6, by decide, by decide, ⟨w, ?_, frP_refl _ _⟩, fun w1 f1 => ⟨sI w1 205 0 (0 : Int32), ?_, frS_0 w1⟩⟩)
    · unfold fX11_minister letV
      dsimp only
      rw [if_neg c1, l6, grd_N hr (by decide), nI_clamp (by omega), q1, if_pos rfl, rx_id6]
    · unfold fX12_minister letV
      dsimp only
      rw [if_neg c2, l1, grd_N hr (by decide), nI_clamp (by omega), hM w1 f1 _ _ (.inl rfl), q2, if_pos rfl, no_id6]
  have cX : fX11_minister n (nI r) w = if m % 5 = 0 then lX11_minister_55 n (nI r) (nI m) (if nI (m / 5) ≤ fX0_room 41 w then lX11_minister_124 n (nI r) (nI (m / 5)) n (0 : Int32) w else some ((-4 : Int32), rfX w 4)) (some ((-3 : Int32), rfX w 3)) w n (0 : Int32) else some ((-7 : Int32), rfX w 7) := by
    unfold fX11_minister letV
    dsimp only
    rw [if_neg c1, l6, grd_N hr (by decide), nI_clamp (by omega), q1, if_neg (ne_m1 (by omega)), rem5 (by omega), div5 (by omega), rx_id3, rx_id4, rx_id7]
    by_cases z : m % 5 = 0
    · rw [if_pos z, if_pos ((nI_z (by omega)).mpr z)]
    · rw [if_neg z, if_neg (fun y => z ((nI_z (by omega)).mp y))]
  have cM : ∀ w1, wI (sI w1 205 0 (0 : Int32)) 221 r = nI s → wI (sI w1 205 0 (0 : Int32)) 222 r = nI m → wI (sI w1 205 0 (0 : Int32)) 207 547 = nI (A 547) → fX12_minister n (nI r) w1 = if m % 5 = 0 then lX12_minister_70 n (nI r) (nI (m / 5)) (if nI (A 547) + nI (m / 5) ≤ (60 : Int32) then lX12_minister_171 n (nI r) (nI (m / 5)) n (0 : Int32) (sI w1 205 0 (0 : Int32)) else some ((-4 : Int32), rfM (sI w1 205 0 (0 : Int32)) 4)) (some ((-3 : Int32), rfM (sI w1 205 0 (0 : Int32)) 3)) (sI w1 205 0 (0 : Int32)) n (0 : Int32) else some ((-7 : Int32), rfM (sI w1 205 0 (0 : Int32)) 7) := by
    intro w1 p1 p2 p3
    unfold fX12_minister letV
    dsimp only
    rw [if_neg c2, l1, grd_N hr (by decide), nI_clamp (by omega), p1, if_neg (ne_m1 (by omega)), l2, grd_N hr (by decide), p2, grd_N hr (by decide), rem5 (by omega), div5 (by omega), p3, no_id3, no_id4, no_id7]
    by_cases z : m % 5 = 0
    · rw [if_pos z, if_pos ((nI_z (by omega)).mpr z)]
    · rw [if_neg z, if_neg (fun y => z ((nI_z (by omega)).mp y))]
  have cM2 : ∀ w1, frS2 w w1 → fX12_minister n (nI r) w1 = _ := fun w1 f1 => cM w1 ((hM w1 f1 _ _ (.inl rfl)).trans q3) ((hM w1 f1 _ _ (.inr rfl)).trans q4) (RN_A (hN w1 f1) (by decide))
  by_cases z : m % 5 = 0
  rotate_left
  · refine rr_call hw (.inr ⟨-7, 7, by decide, by decide, ⟨w, ?_, frP_refl _ _⟩, fun w1 f1 => ⟨sI w1 205 0 (0 : Int32), ?_, frS_0 w1⟩⟩)
    · rw [cX, if_neg z]
    · rw [cM2 w1 f1, if_neg z]
  obtain ⟨Q, hQ⟩ : ∃ Q, m = 5 * Q := ⟨m / 5, by omega⟩
  have eQ : m / 5 = Q := by omega
  obtain ⟨x, hx⟩ : ∃ x : Nat → Int64, x = fun k => wJ w 188 (60 * r + k) := ⟨_, rfl⟩
  have hx1 : ∀ k, k < m → wJ w 188 (60 * r + k) = x k := fun k _ => by rw [hx]
  have hx2 : ∀ k, k < 5 * Q → wJ w 223 (60 * r + k) = x k := fun k hk => by rw [← q5 k (by omega), hx]
  have hro : fX0_room 41 w = nI (60 - A 547) := by
    unfold fX0_room
    rw [s0, show (60 : Int32) = nI 60 from rfl, ev_sub h60]
  rw [if_pos z, eQ, hro] at cX
  by_cases hb : ∀ j, j < m → ¬ bx x j
  rotate_left
  · obtain ⟨j, hj, hbj⟩ : ∃ j, j < m ∧ bx x j := Classical.byContradiction (fun q => hb (fun j hj hbj => q ⟨j, hj, hbj⟩))
    refine rr_call hw (.inr ⟨-3, 3, by decide, by decide, ⟨w, ?_, frP_refl _ _⟩, fun w1 f1 => ⟨sI w1 205 0 (0 : Int32), ?_, frS_0 w1⟩⟩)
    · rw [cX]
      exact (ck_X hr hm q1 hx1 m 0 n (by omega) (by omega)).2 j (by omega) hj hbj
    · rw [cM2 w1 f1, if_pos z, eQ]
      exact (ck_M hr (by omega) (fun k hk => by rw [wJ_sI, frP_J f1 (by unfold Scr2 Scr; omega)]; exact hx2 k hk) Q 0 n (by omega) (by omega)).2 j (by omega) (by omega) hbj
  replace cX := cX.trans ((ck_X hr hm q1 hx1 m 0 n (by omega) (by omega)).1 (fun j _ hj => hb j hj))
  have hv : ∀ k, k < m → (x k).toInt32 = nI (vN (x k)) := fun k hk => (lN_vN (by have := grN_le k; omega) (hb k hk)).2
  by_cases hle : A 547 + Q ≤ 60
  rotate_left
  · refine rr_call hw (.inr ⟨-4, 4, by decide, by decide, ⟨w, ?_, frP_refl _ _⟩, fun w1 f1 => ⟨sI w1 205 0 (0 : Int32), ?_, frS_0 w1⟩⟩)
    · rw [cX, if_neg (nI_ge (by omega) (by omega))]
    · rw [cM2 w1 f1, if_pos z, eQ]
      refine ((ck_M hr (by omega) (fun k hk => by rw [wJ_sI, frP_J f1 (by unfold Scr2 Scr; omega)]; exact hx2 k hk) Q 0 n (by omega) (by omega)).1 (fun j _ hj => hb j (by omega))).trans ?_
      rw [nI_add, if_neg (show ¬ nI (A 547 + Q) ≤ (60 : Int32) from nI_ge (a := 60) (by omega) (by omega))]
  have fw := mW_fr w (A 547) x Q
  have fr := rW_fr (sI (mW w (A 547) x Q) 205 0 (0 : Int32)) (a := A 547) x Q hle
  have m1 : RM A L F W 0 (sI (mW w (A 547) x Q) 205 0 (0 : Int32)) := RM_I (RM_cg (fun k _ => frP_I fw (by omega)) (fun k _ => frP_J fw (by omega)) (fun k _ => frP_I fw (by omega)) (fun k _ => frP_I fw (by omega)) h.2.2.2) _ (by omega)
  refine ⟨nI Q, mW w (A 547) x Q, rW (sI (mW w (A 547) x Q) 205 0 (0 : Int32)) (A 547) x Q, ?_, ?_, ?_⟩
  · rw [cX, if_pos (nI_le (by omega) (by omega))]
    exact mst_X hr hQ hm hle q1 hx1 hv s0 Q 0 n (by omega) (by omega)
  · rw [cM _ (by rw [ev_wIn _ (by omega), frP_I fw (by omega)]; exact q3) (by rw [ev_wIn _ (by omega), frP_I fw (by omega)]; exact q4) (m1.1 547 (by decide)), if_pos z, eQ]
    have hx3 : ∀ k, k < 5 * Q → wJ (sI (mW w (A 547) x Q) 205 0 (0 : Int32)) 223 (60 * r + k) = x k := fun k hk => by rw [wJ_sI, frP_J fw (by omega)]; exact hx2 k hk
    refine ((ck_M hr (by omega) hx3 Q 0 n (by omega) (by omega)).1 (fun j _ hj => hb j (by omega))).trans ?_
    rw [nI_add, if_pos (show nI (A 547 + Q) ≤ (60 : Int32) from nI_le (b := 60) (by omega) (by decide))]
    exact mst_M (by omega) hr (by omega) hle hx3 (fun k hk => hv k (by omega)) (m1.1 547 (by decide)) Q 0 n (by omega) (by omega)
  · have f1 : frP NowS w (mW w (A 547) x Q) := frP_mono (fun c k q => by unfold NowS; omega) fw
    have f2 : frP NowS (sI (mW w (A 547) x Q) 205 0 (0 : Int32)) (rW (sI (mW w (A 547) x Q) 205 0 (0 : Int32)) (A 547) x Q) := frP_mono (fun c k q => by unfold NowS; omega) fr
    exact rr_now (frP_trans (frP_trans f1 (now_0 _)) f2) hw ⟨mA A x Q, mL A L Q, F, W, RN_mi h hle (fun k hk => hb k (by omega)) Q (Nat.le_refl _) _ (fun c k h1 h2 => ⟨by rw [frP_I fr (by omega), ev_wIn _ (by omega)], by rw [frP_J fr (by omega), wJ_sI]⟩) (RM_mi m1 Q)⟩
theorem s_minister : fS_minister RR := fun w a0 hw => ⟨20000, s_minister_n (by decide) w a0 hw⟩
