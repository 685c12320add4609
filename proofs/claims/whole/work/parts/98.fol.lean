/-! WAYS in a row; what a text does behind its reading -/
section FOL
variable {b : Nat → Nat} {N T j n : Nat} {wX wM uX uM w : jWd} {W : Nat → Nat}
theorem JA_adv (hn : 410 < n) (h : JA b N T j wX wM) (hk : kdT b N j ≠ 18) : ∃ uM, fX12_next n wM = some uM ∧ sI wX 189 5 (wI wX 189 5 + (1 : Int32)) = sI wX 189 5 (nI (j + 1)) ∧ JA b N T (j + 1) (sI wX 189 5 (nI (j + 1))) uM ∧ frP PnX wX (sI wX 189 5 (nI (j + 1))) ∧ frP PnM wM uM := by
  obtain ⟨e1, e2⟩ := tk_ad h.1 hk
  obtain ⟨uM, c1, c2, c3⟩ := nx_J hn h.2
  exact ⟨uM, c1, e1, ⟨e2, c2⟩, frP_sI _ _ (by unfold PnX; omega), frP_mono pnm_l c3⟩
theorem wy_h {a0 : Int32} {q : Nat} (h : JA b N T j wX wM) (h0 : wI wX 197 0 = nI q) (hq : q < 12) (hk : kdT b N j = 8 ∧ a0 = 14 ∨ kdT b N j = 9 ∧ a0 = 15 ∨ kdT b N j = 10 ∧ a0 = 16) : fX6_readWay wX = bO2 (fX6_readNumber (0 : Int32) (99 : Int32) (0 : Int32) (sI wX 189 5 (wI wX 189 5 + (1 : Int32)))) (fun (r_15 : Int32) (w_14 : jWd) => bO (fX3_putChance 197 a0 r_15 w_14) (fun (w_17 : jWd) => lwX w_17)) := by
  have hl : nI q < (12 : Int32) := nI_lt (b := 12) hq (by decide)
  unfold fX6_readWay letV
  dsimp only
  rw [h0]
  rcases hk with ⟨k, rfl⟩ | ⟨k, rfl⟩ | ⟨k, rfl⟩
  · rw [at_y h.1 (k := 8) (c := 14) (by decide) rfl k, ev_bO, if_neg (show ¬ (1 : Int32) = 0 by decide), if_neg (show ¬ (14 : Int32) = 19 by decide), if_pos hl, if_neg (show ¬ (14 : Int32) = 17 by decide)]
    rfl
  · rw [at_n h.1 (k := 8) (c := 14) (by decide) rfl (by omega), ev_bO, if_pos (show (0 : Int32) = 0 from rfl), at_y h.1 (k := 9) (c := 15) (by decide) rfl k, ev_bO, if_neg (show ¬ (1 : Int32) = 0 by decide), if_neg (show ¬ (15 : Int32) = 19 by decide), if_pos hl, if_neg (show ¬ (15 : Int32) = 17 by decide)]
    rfl
  · rw [at_n h.1 (k := 8) (c := 14) (by decide) rfl (by omega), ev_bO, if_pos (show (0 : Int32) = 0 from rfl), at_n h.1 (k := 9) (c := 15) (by decide) rfl (by omega), ev_bO, if_pos (show (0 : Int32) = 0 from rfl), at_y h.1 (k := 10) (c := 16) (by decide) rfl k, ev_bO, if_neg (show ¬ (1 : Int32) = 0 by decide), if_neg (show ¬ (16 : Int32) = 19 by decide), if_pos hl, if_neg (show ¬ (16 : Int32) = 17 by decide)]
    rfl
theorem wy_s {q : Nat} (h : JA b N T j wX wM) (h0 : wI wX 197 0 = nI q) (hq : q < 12) (k : kdT b N j = 11) : fX6_readWay wX = bO2 (fX6_readNumber (1 : Int32) (255 : Int32) (0 : Int32) (sI wX 189 5 (wI wX 189 5 + (1 : Int32)))) (fun (r_20 : Int32) (w_19 : jWd) => bO (fX6_take (18 : Int32) w_19) (fun (w_22 : jWd) => bO2 (fX6_readNumber (1 : Int32) (255 : Int32) (0 : Int32) w_22) (fun (r_25 : Int32) (w_24 : jWd) => bO (fX3_putSaying 197 r_20 r_25 w_24) (fun (w_27 : jWd) => lwX w_27)))) := by
  have hl : nI q < (12 : Int32) := nI_lt (b := 12) hq (by decide)
  unfold fX6_readWay letV
  dsimp only
  rw [h0, at_n h.1 (k := 8) (c := 14) (by decide) rfl (by omega), ev_bO, if_pos (show (0 : Int32) = 0 from rfl), at_n h.1 (k := 9) (c := 15) (by decide) rfl (by omega), ev_bO, if_pos (show (0 : Int32) = 0 from rfl), at_n h.1 (k := 10) (c := 16) (by decide) rfl (by omega), ev_bO, if_pos (show (0 : Int32) = 0 from rfl), at_y h.1 (k := 11) (c := 17) (by decide) rfl k, ev_bO, if_neg (show ¬ (1 : Int32) = 0 by decide), if_neg (show ¬ (17 : Int32) = 19 by decide), if_pos hl, if_pos rfl]
  rfl
theorem wy_4 (h : JA b N T j wX wM) (h0 : wI wX 197 0 = nI 12) (hk : 8 ≤ kdT b N j ∧ kdT b N j ≤ 11) : fX6_readWay wX = bO (fX6_blame (4 : Int32) wX) (fun (w_29 : jWd) => some w_29) := by
  have hl : ¬ nI 12 < (12 : Int32) := by decide
  unfold fX6_readWay letV
  dsimp only
  rw [h0]
  rcases (show kdT b N j = 8 ∨ kdT b N j = 9 ∨ kdT b N j = 10 ∨ kdT b N j = 11 by omega) with k | k | k | k
  · rw [at_y h.1 (k := 8) (c := 14) (by decide) rfl k, ev_bO, if_neg (show ¬ (1 : Int32) = 0 by decide), if_neg (show ¬ (14 : Int32) = 19 by decide), if_neg hl]
  · rw [at_n h.1 (k := 8) (c := 14) (by decide) rfl (by omega), ev_bO, if_pos (show (0 : Int32) = 0 from rfl), at_y h.1 (k := 9) (c := 15) (by decide) rfl k, ev_bO, if_neg (show ¬ (1 : Int32) = 0 by decide), if_neg (show ¬ (15 : Int32) = 19 by decide), if_neg hl]
  · rw [at_n h.1 (k := 8) (c := 14) (by decide) rfl (by omega), ev_bO, if_pos (show (0 : Int32) = 0 from rfl), at_n h.1 (k := 9) (c := 15) (by decide) rfl (by omega), ev_bO, if_pos (show (0 : Int32) = 0 from rfl), at_y h.1 (k := 10) (c := 16) (by decide) rfl k, ev_bO, if_neg (show ¬ (1 : Int32) = 0 by decide), if_neg (show ¬ (16 : Int32) = 19 by decide), if_neg hl]
  · rw [at_n h.1 (k := 8) (c := 14) (by decide) rfl (by omega), ev_bO, if_pos (show (0 : Int32) = 0 from rfl), at_n h.1 (k := 9) (c := 15) (by decide) rfl (by omega), ev_bO, if_pos (show (0 : Int32) = 0 from rfl), at_n h.1 (k := 10) (c := 16) (by decide) rfl (by omega), ev_bO, if_pos (show (0 : Int32) = 0 from rfl), at_y h.1 (k := 11) (c := 17) (by decide) rfl k, ev_bO, if_neg (show ¬ (1 : Int32) = 0 by decide), if_neg (show ¬ (17 : Int32) = 19 by decide), if_neg hl]
theorem wy_2 (h : JA b N T j wX wM) (hk : ¬ (8 ≤ kdT b N j ∧ kdT b N j ≤ 11)) : fX6_readWay wX = bO (fX6_blame (2 : Int32) wX) (fun (w_31 : jWd) => some w_31) := by
  unfold fX6_readWay letV
  dsimp only
  rw [at_n h.1 (k := 8) (c := 14) (by decide) rfl (by omega), ev_bO, if_pos (show (0 : Int32) = 0 from rfl), at_n h.1 (k := 9) (c := 15) (by decide) rfl (by omega), ev_bO, if_pos (show (0 : Int32) = 0 from rfl), at_n h.1 (k := 10) (c := 16) (by decide) rfl (by omega), ev_bO, if_pos (show (0 : Int32) = 0 from rfl), at_n h.1 (k := 11) (c := 17) (by decide) rfl (by omega), ev_bO, if_pos (show (0 : Int32) = 0 from rfl), if_pos rfl]
/-- the reference's WAY: within, the 13th -/
theorem wm_in (h : JA b N T j wX wM) : (fX12_within ((wI wM 205 13).toInt64) (8 : Int64) (11 : Int64) = 0) = ¬ (8 ≤ kdT b N j ∧ kdT b N j ≤ 11) := by
  have kl := kd_le b N j
  have h13 : wI wM 205 13 = nI (kdT b N j) := h.2.2.1.2.2.1
  rw [h13, nI_l (by omega)]
  exact ev_inM (k := kdT b N j) (lo := 8) (hi := 11) (by omega) (by decide) (by decide)
theorem wm_h {q a : Nat} (h : JA b N T j wX wM) (h0 : wI wM 212 87 = nI q) (hq : q < 12) (hk : kdT b N j = 8 ∧ a = 1 ∨ kdT b N j = 9 ∧ a = 2 ∨ kdT b N j = 10 ∧ a = 3) : fX12_readWay n wM = bO (fX12_next n wM) (fun (w_8 : jWd) => bO2 (fX12_reads n (0 : Int32) (99 : Int32) (0 : Int32) w_8) (fun (r_17 : Int32) (w_16 : jWd) => lwM n (sI w_16 212 (87 + a) r_17))) := by
  have l : ln 212 = 116 := rfl
  have kl := kd_le b N j
  have hin : ¬ fX12_within ((wI wM 205 13).toInt64) (8 : Int64) (11 : Int64) = 0 := by
    rw [wm_in h]
    omega
  have h13 : wI wM 205 13 = nI (kdT b N j) := h.2.2.1.2.2.1
  unfold fX12_readWay letV
  dsimp only
  rw [if_pos (MA_0 h.2), if_neg hin, h0, if_neg (show ¬ nI q = (12 : Int32) from fun e => by have := (nI_eq (b := 12) (by omega) (by decide)).mp e; omega), if_pos (MA_0 h.2), h13]
  rcases hk with ⟨k, rfl⟩ | ⟨k, rfl⟩ | ⟨k, rfl⟩ <;> rw [k]
  · rw [show (87 : Int32) + (1 : Int32) = nI 88 by decide, l, nI_clamp (show 88 < 2 ^ 31 by decide)]
    rfl
  · rw [show (87 : Int32) + (2 : Int32) = nI 89 by decide, l, nI_clamp (show 89 < 2 ^ 31 by decide)]
    rfl
  · rw [show (87 : Int32) + (3 : Int32) = nI 90 by decide, l, nI_clamp (show 90 < 2 ^ 31 by decide)]
    rfl
theorem wm_s {q s : Nat} (hn : 410 < n) (h : JA b N T j wX wM) (h0 : wI wM 212 87 = nI q) (hq : q < 12) (h4 : wI wM 212 91 = nI s) (hs : s < 12) (k : kdT b N j = 11) : fX12_readWay n wM = bO (fX12_next n wM) (fun (w_8 : jWd) => bO2 (fX12_reads n (1 : Int32) (255 : Int32) (0 : Int32) w_8) (fun (r_25 : Int32) (w_24 : jWd) => bO (fX12_needs n (12 : Int32) w_24) (fun (w_27 : jWd) => bO2 (fX12_reads n (1 : Int32) (255 : Int32) (0 : Int32) w_27) (fun (r_30 : Int32) (w_29 : jWd) => grd ((87 : Int32) + (4 : Int32)) (ln 212) (grd (((87 : Int32) + (5 : Int32)) + (wI w_29 212 (((87 : Int32) + (4 : Int32))).toNatClampNeg)) (ln 212) (letV (sI w_29 212 (((((87 : Int32) + (5 : Int32)) + (wI w_29 212 (((87 : Int32) + (4 : Int32))).toNatClampNeg))).toNatClampNeg) r_25) (fun (w_32 : jWd) => grd ((87 : Int32) + (4 : Int32)) (ln 212) (grd (((87 : Int32) + (17 : Int32)) + (wI w_32 212 (((87 : Int32) + (4 : Int32))).toNatClampNeg)) (ln 212) (letV (sI w_32 212 (((((87 : Int32) + (17 : Int32)) + (wI w_32 212 (((87 : Int32) + (4 : Int32))).toNatClampNeg))).toNatClampNeg) r_30) (fun (w_36 : jWd) => grd ((87 : Int32) + (4 : Int32)) (ln 212) (grd ((87 : Int32) + (4 : Int32)) (ln 212) (letV (sI w_36 212 ((((87 : Int32) + (4 : Int32))).toNatClampNeg) ((wI w_36 212 (((87 : Int32) + (4 : Int32))).toNatClampNeg) + (1 : Int32))) (fun (w_40 : jWd) => lwM n w_40))))))))))))) := by
  have hin : ¬ fX12_within ((wI wM 205 13).toInt64) (8 : Int64) (11 : Int64) = 0 := by
    rw [wm_in h]
    omega
  have h13 : wI wM 205 13 = nI (kdT b N j) := h.2.2.1.2.2.1
  unfold fX12_readWay
  rw [ev_letV, if_pos (MA_0 h.2), if_neg hin]
  dsimp only
  rw [ev_letV, h0, if_neg (show ¬ nI q = (12 : Int32) from fun e => by have := (nI_eq (b := 12) (by omega) (by decide)).mp e; omega)]
  dsimp only
  rw [if_pos (MA_0 h.2), ev_letV, h13, k]
  rfl
theorem wm_f {f : Nat} (h : JA b N T j wX wM) (h1 : (¬ (8 ≤ kdT b N j ∧ kdT b N j ≤ 11) ∧ f = 2) ∨ ((8 ≤ kdT b N j ∧ kdT b N j ≤ 11) ∧ wI wM 212 87 = nI 12 ∧ f = 4)) {u : jWd} (hu : fX12_fails (nI f) wM = some u) (hd : ∃ k p, MD k p u) : fX12_readWay n wM = some u := by
  obtain ⟨k, p, d⟩ := hd
  unfold fX12_readWay letV
  dsimp only
  rw [if_pos (MA_0 h.2)]
  rcases h1 with ⟨hk, rfl⟩ | ⟨hk, h87, rfl⟩
  · rw [if_pos (show fX12_within ((wI wM 205 13).toInt64) (8 : Int64) (11 : Int64) = 0 by rw [wm_in h]; exact hk), show (2 : Int32) = nI 2 from rfl, hu, ev_bO, fl_D d, ev_bO, if_neg (MD_0 d)]
    split <;> rfl
  · rw [if_neg (show ¬ fX12_within ((wI wM 205 13).toInt64) (8 : Int64) (11 : Int64) = 0 by rw [wm_in h]; exact fun z => z hk), h87, if_pos (show nI 12 = (12 : Int32) from rfl), show (4 : Int32) = nI 4 from rfl, hu, ev_bO, if_neg (MD_0 d)]
theorem wy_J (hn : 410 < n) (h : JA b N T j wX wM) (hl : LJ W wX wM) (h4 : W 4 ≤ W 0) : ∃ uX uM, fX6_readWay wX = some uX ∧ fX12_readWay n wM = some uM ∧ frP PlX wX uX ∧ frP PlM wM uM ∧ (JD uX uM ∨ (W 0 < 12 ∧ ∃ j' W', JA b N T j' uX uM ∧ LJ W' uX uM ∧ W' 0 = W 0 + 1 ∧ W' 4 ≤ W' 0)) := by
  have h12 := hl.1.1
  have eX : wI wX 197 0 = nI (W 0) := hl.2.2.1
  have eM : wI wM 212 87 = nI (W 0) := hl.2.1 0 (by decide)
  have e4 : wI wM 212 91 = nI (W 4) := hl.2.1 4 (by decide)
  by_cases hk : 8 ≤ kdT b N j ∧ kdT b N j ≤ 11
  · rcases (show W 0 = 12 ∨ W 0 < 12 by omega) with q | q
    · obtain ⟨uX, uM, a1, a2, ⟨k, p, a3, a4⟩, a5, a6⟩ := bad_J (f := 4) h (by decide) (by decide)
      refine ⟨uX, uM, ?_, wm_f (f := 4) h (.inr ⟨hk, by rw [eM, q], rfl⟩) a2 ⟨k, p, a4⟩, frP_mono plx_n (frP_mono pnx_b a5), frP_mono plm_n (frP_mono pnm_b a6), .inl ⟨k, p, a3, a4⟩⟩
      rw [wy_4 h (by rw [eX, q]) hk, show (4 : Int32) = nI 4 from rfl, a1, ev_bO]
    · obtain ⟨vM, n1, n2, n3, n4, n5⟩ := JA_adv (n := n) hn h (by omega)
      have l1 := LJ_fr hl n4 n5
      have go : ∀ k a0, (kdT b N j = 8 ∧ a0 = (14 : Int32) ∨ kdT b N j = 9 ∧ a0 = 15 ∨ kdT b N j = 10 ∧ a0 = 16) → (kdT b N j = 8 ∧ k = 1 ∨ kdT b N j = 9 ∧ k = 2 ∨ kdT b N j = 10 ∧ k = 3) → a0 = nI (13 + k) → ∃ uX uM, fX6_readWay wX = some uX ∧ fX12_readWay n wM = some uM ∧ frP PlX wX uX ∧ frP PlM wM uM ∧ (JD uX uM ∨ (W 0 < 12 ∧ ∃ j' W', JA b N T j' uX uM ∧ LJ W' uX uM ∧ W' 0 = W 0 + 1 ∧ W' 4 ≤ W' 0)) := by
        intro k a0 k1 k2 k3
        obtain ⟨uX, uM, a1, a2, a3, a4, a5⟩ := ch_J (k := k) (a0 := a0) hn n3 l1 q (by omega) k3
        refine ⟨uX, uM, ?_, ?_, frP_trans (frP_mono plx_n n4) a3, frP_trans (frP_mono plm_n n5) a4, ?_⟩
        · rw [wy_h h eX q k1, n2]; exact a1
        · rw [wm_h h eM q k2, n1, ev_bO]; exact a2
        · rcases a5 with a5 | ⟨j', W', a5, a6, a7, a8⟩
          · exact .inl a5
          · exact .inr ⟨q, j', W', a5, a6, a7, by omega⟩
      rcases (show kdT b N j = 8 ∨ kdT b N j = 9 ∨ kdT b N j = 10 ∨ kdT b N j = 11 by omega) with k | k | k | k
      · exact go 1 14 (.inl ⟨k, rfl⟩) (.inl ⟨k, rfl⟩) rfl
      · exact go 2 15 (.inr (.inl ⟨k, rfl⟩)) (.inr (.inl ⟨k, rfl⟩)) rfl
      · exact go 3 16 (.inr (.inr ⟨k, rfl⟩)) (.inr (.inr ⟨k, rfl⟩)) rfl
      · obtain ⟨uX, uM, a1, a2, a3, a4, a5⟩ := sy_J hn n3 l1 q (by omega)
        refine ⟨uX, uM, ?_, ?_, frP_trans (frP_mono plx_n n4) a3, frP_trans (frP_mono plm_n n5) a4, ?_⟩
        · rw [wy_s h eX q k, n2]; exact a1
        · rw [wm_s hn h eM q e4 (by omega) k, n1, ev_bO]
          have e5 : wI vM 212 91 = nI (W 4) := by rw [frP_I n5 (by unfold PnM; omega)]; exact e4
          obtain ⟨x1, y1, u1, v1, r1, r2, r3, r4, r5⟩ := rd_J (lo := 1) (hi := 255) (full := 0) hn n3 (by decide) (by decide) (by decide)
          have r2' : fX12_reads n (1 : Int32) (255 : Int32) (0 : Int32) vM = some (y1, v1) := r2
          rw [r2', ev_bO2] at a2 ⊢
          have e6 : wI v1 212 91 = nI (W 4) := by rw [frP_I r4 (by unfold PnM; omega)]; exact e5
          have nd : ∃ v2, fX12_needs n (12 : Int32) v1 = some v2 ∧ wI v2 212 91 = nI (W 4) ∧ ∃ y3 v3, fX12_reads n (1 : Int32) (255 : Int32) (0 : Int32) v2 = some (y3, v3) ∧ wI v3 212 91 = nI (W 4) := by
            rcases r5 with ⟨kk, p, d1, d2⟩ | ⟨-, -, -, -, -, -, ha⟩
            · exact ⟨v1, tk_MD d2, e6, _, v1, rd_MD d2, e6⟩
            · obtain ⟨u2, v2, t1, t2, t3, t4, t5⟩ := tk_J (k := 12) (cX := 18) (cM := 12) hn ha (by decide) rfl rfl
              have e7 : wI v2 212 91 = nI (W 4) := by rw [frP_I t4 (by unfold PnM; omega)]; exact e6
              rcases t5 with ⟨kk, p, d1, d2⟩ | ⟨-, ha2⟩
              · exact ⟨v2, t2, e7, _, v2, rd_MD d2, e7⟩
              · obtain ⟨x3, y3, u3, v3, c1, c2, c3, c4, c5⟩ := rd_J (lo := 1) (hi := 255) (full := 0) hn ha2 (by decide) (by decide) (by decide)
                exact ⟨v2, t2, e7, y3, v3, c2, by rw [frP_I c4 (by unfold PnM; omega)]; exact e7⟩
          obtain ⟨v2, t2, e7, y3, v3, c2, e8⟩ := nd
          rw [t2, ev_bO, c2, ev_bO2] at a2 ⊢
          rw [syl_M (s := W 4) (fun w => lwM n w) (by omega) e8]
          exact a2
        · rcases a5 with a5 | ⟨j', W', a5, a6, a7, a8⟩
          · exact .inl a5
          · exact .inr ⟨q, j', W', a5, a6, a7, by omega⟩
  · obtain ⟨uX, uM, a1, a2, ⟨k, p, a3, a4⟩, a5, a6⟩ := bad_J (f := 2) h (by decide) (by decide)
    refine ⟨uX, uM, ?_, wm_f (f := 2) h (.inl ⟨hk, rfl⟩) a2 ⟨k, p, a4⟩, frP_mono plx_n (frP_mono pnx_b a5), frP_mono plm_n (frP_mono pnm_b a6), .inl ⟨k, p, a3, a4⟩⟩
    rw [wy_2 h hk, show (2 : Int32) = nI 2 from rfl, a1, ev_bO]
theorem ll_D {f p g : Nat} {x : Int32} (h : XD f p w) (hg : 0 < g) : lX6_readLaw_9 n g x w = some w := by
  obtain ⟨g, rfl⟩ : ∃ k, g = k + 1 := ⟨g - 1, by omega⟩
  show bX6_readLaw_9 n (lX6_readLaw_9 n g) x w = _
  unfold bX6_readLaw_9
  rw [if_neg (XD_0 h)]
  split <;> rfl
theorem la_J (hn : 410 < n) (K : jWd → Option (Int32 × jWd)) : ∀ c f g j (W : Nat → Nat) wX wM, W 0 + c = 12 → c + 1 < f → c + 1 < g → JA b N T j wX wM → LJ W wX wM → W 4 ≤ W 0 → ∃ uX uM, lX6_readLaw_9 n f (nI (W 0)) wX = some uX ∧ lX12_text_110 n (1 : Int32) K g wM = K uM ∧ frP PlX wX uX ∧ frP PlM wM uM ∧ (JD uX uM ∨ ∃ W' j', JA b N T j' uX uM ∧ LJ W' uX uM) := by
  intro c
  induction c with
  | zero =>
    intro f g j W wX wM hc hf hg h hl h4
    obtain ⟨f, rfl⟩ : ∃ k, f = k + 1 := ⟨f - 1, by omega⟩
    obtain ⟨g, rfl⟩ : ∃ k, g = k + 1 := ⟨g - 1, by omega⟩
    have h13 : wI wM 205 13 = nI (kdT b N j) := h.2.2.1.2.2.1
    have kl := kd_le b N j
    show ∃ uX uM, bX6_readLaw_9 n (lX6_readLaw_9 n f) (nI (W 0)) wX = some uX ∧ bX12_text_110 n (1 : Int32) K (lX12_text_110 n (1 : Int32) K g) wM = K uM ∧ _
    unfold bX6_readLaw_9 bX12_text_110 letV
    dsimp only
    rw [if_neg (show ¬ (12 : Int32) < nI (W 0) from nI_nlt (a := 12) (by omega) (by decide)), if_pos (XA_0 h.1), if_pos (MA_0 h.2), h13]
    by_cases q : kdT b N j = 18
    · rw [at_y h.1 (k := 18) (c := 0) (by decide) rfl q, ev_bO, if_neg (by decide), q, if_pos (show nI 18 = (18 : Int32) from rfl)]
      exact ⟨wX, wM, rfl, rfl, frP_refl _ _, frP_refl _ _, .inr ⟨W, j, h, hl⟩⟩
    · obtain ⟨uX, uM, s1, s2, s3, s4, s5⟩ := wy_J hn h hl h4
      rw [at_n h.1 (k := 18) (c := 0) (by decide) rfl q, ev_bO, if_pos rfl, s1, ev_bO, if_neg (show ¬ nI (kdT b N j) = (18 : Int32) from fun e => q ((nI_eq (b := 18) (by omega) (by decide)).mp e)), if_neg (show ¬ (1 : Int32) = 0 by decide), s2]
      rcases s5 with ⟨k, p, d1, d2⟩ | ⟨z, -⟩
      · refine ⟨uX, uM, ll_D d1 (by omega), ?_, s3, s4, .inl ⟨k, p, d1, d2⟩⟩
        exact lt_D K d2 (by omega)
      · omega
  | succ c ih =>
    intro f g j W wX wM hc hf hg h hl h4
    obtain ⟨f, rfl⟩ : ∃ k, f = k + 1 := ⟨f - 1, by omega⟩
    obtain ⟨g, rfl⟩ : ∃ k, g = k + 1 := ⟨g - 1, by omega⟩
    have h13 : wI wM 205 13 = nI (kdT b N j) := h.2.2.1.2.2.1
    have kl := kd_le b N j
    show ∃ uX uM, bX6_readLaw_9 n (lX6_readLaw_9 n f) (nI (W 0)) wX = some uX ∧ bX12_text_110 n (1 : Int32) K (lX12_text_110 n (1 : Int32) K g) wM = K uM ∧ _
    unfold bX6_readLaw_9 bX12_text_110 letV
    dsimp only
    rw [if_neg (show ¬ (12 : Int32) < nI (W 0) from nI_nlt (a := 12) (by omega) (by decide)), if_pos (XA_0 h.1), if_pos (MA_0 h.2), h13]
    by_cases q : kdT b N j = 18
    · rw [at_y h.1 (k := 18) (c := 0) (by decide) rfl q, ev_bO, if_neg (by decide), q, if_pos (show nI 18 = (18 : Int32) from rfl)]
      exact ⟨wX, wM, rfl, rfl, frP_refl _ _, frP_refl _ _, .inr ⟨W, j, h, hl⟩⟩
    · obtain ⟨uX, uM, s1, s2, s3, s4, s5⟩ := wy_J hn h hl h4
      rw [at_n h.1 (k := 18) (c := 0) (by decide) rfl q, ev_bO, if_pos rfl, s1, ev_bO, if_neg (show ¬ nI (kdT b N j) = (18 : Int32) from fun e => q ((nI_eq (b := 18) (by omega) (by decide)).mp e)), if_neg (show ¬ (1 : Int32) = 0 by decide), s2, nI_1]
      rcases s5 with ⟨k, p, d1, d2⟩ | ⟨z, j1, W1, o1, o2, o3, o4⟩
      · refine ⟨uX, uM, ll_D d1 (by omega), ?_, s3, s4, .inl ⟨k, p, d1, d2⟩⟩
        exact lt_D K d2 (by omega)
      · obtain ⟨u2, v2, i1, i2, i3, i4, i5⟩ := ih f g j1 W1 uX uM (by omega) (by omega) (by omega) o1 o2 o4
        rw [o3] at i1
        exact ⟨u2, v2, i1, i2, frP_trans s3 i3, frP_trans s4 i4, i5⟩
/-! copies of the reference's -/
theorem z84_M {p1 : Int32} (K : jWd → Option (Int32 × jWd)) : ∀ c i f (w : jWd), i + c = 29 → c < f → ∃ w', lX12_text_84 n p1 K f (nI i) w = K w' ∧ (∀ k, i ≤ k → k < 29 → wI w' 212 (87 + k) = nI 0) ∧ frP (fun c k => c = 212 ∧ 87 + i ≤ k ∧ k < 116) w w' := by
  have l : ln 212 = 116 := rfl
  intro c
  induction c with
  | zero =>
    intro i f w hi hf
    obtain ⟨f, rfl⟩ : ∃ g, f = g + 1 := ⟨f - 1, by omega⟩
    refine ⟨w, ?_, fun k h1 h2 => absurd h1 (by omega), frP_refl _ _⟩
    show bX12_text_84 n p1 K (lX12_text_84 n p1 K f) (nI i) w = _
    unfold bX12_text_84
    rw [if_pos (show (29 : Int32) ≤ nI i from nI_le (a := 29) (by omega) (by omega))]
  | succ c ih =>
    intro i f w hi hf
    obtain ⟨f, rfl⟩ : ∃ g, f = g + 1 := ⟨f - 1, by omega⟩
    obtain ⟨w', d1, d2, d3⟩ := ih (i + 1) f (sI w 212 (87 + i) (nI 0)) (by omega) (by omega)
    refine ⟨w', ?_, fun k h1 h2 => ?_, frP_trans (frP_sI _ _ ⟨rfl, by omega, by omega⟩) (frP_mono (fun c k z => by omega) d3)⟩
    · show bX12_text_84 n p1 K (lX12_text_84 n p1 K f) (nI i) w = _
      unfold bX12_text_84 letV
      dsimp only
      rw [if_neg (show ¬ (29 : Int32) ≤ nI i from nI_ge (b := 29) (by omega) (by decide)), show (87 : Int32) + nI i = nI (87 + i) from nI_add 87 i, l, grd_N (by omega) (by decide), nI_clamp (by omega), nI_1]
      exact d1
    · by_cases e : k = i
      · subst e
        rw [frP_I d3 (by omega)]
        exact ev_wIs _ _ _ _
      · exact d2 k (by omega) h2
theorem c236_M {p1 : Int32} (K : jWd → Option (Int32 × jWd)) : ∀ c i f (w : jWd), i + c = 29 → c < f → ∃ w', lX12_text_236 n p1 K f (nI i) w = K w' ∧ (∀ k, i ≤ k → k < 29 → wI w' 212 k = wI w 212 (87 + k)) ∧ frP (fun c k => c = 212 ∧ i ≤ k ∧ k < 29) w w' := by
  have l : ln 212 = 116 := rfl
  intro c
  induction c with
  | zero =>
    intro i f w hi hf
    obtain ⟨f, rfl⟩ : ∃ g, f = g + 1 := ⟨f - 1, by omega⟩
    refine ⟨w, ?_, fun k h1 h2 => absurd h1 (by omega), frP_refl _ _⟩
    show bX12_text_236 n p1 K (lX12_text_236 n p1 K f) (nI i) w = _
    unfold bX12_text_236
    rw [if_pos (show (29 : Int32) ≤ nI i from nI_le (a := 29) (by omega) (by omega))]
  | succ c ih =>
    intro i f w hi hf
    obtain ⟨f, rfl⟩ : ∃ g, f = g + 1 := ⟨f - 1, by omega⟩
    obtain ⟨w', d1, d2, d3⟩ := ih (i + 1) f (sI w 212 i (wI w 212 (87 + i))) (by omega) (by omega)
    refine ⟨w', ?_, fun k h1 h2 => ?_, frP_trans (frP_sI _ _ ⟨rfl, by omega, by omega⟩) (frP_mono (fun c k z => by omega) d3)⟩
    · show bX12_text_236 n p1 K (lX12_text_236 n p1 K f) (nI i) w = _
      unfold bX12_text_236 letV
      dsimp only
      rw [if_neg (show ¬ (29 : Int32) ≤ nI i from nI_ge (b := 29) (by omega) (by decide)), show (87 : Int32) + nI i = nI (87 + i) from nI_add 87 i, l, grd_N (by omega) (by decide), grd_N (by omega) (by decide), nI_clamp (by omega), nI_clamp (by omega), nI_1]
      exact d1
    · by_cases e : k = i
      · subst e
        rw [frP_I d3 (by omega)]
        exact ev_wIs _ _ _ _
      · rw [d2 k (by omega) h2, ev_wIn _ (by omega)]
theorem c202_M {p1 : Int32} (K : jWd → Option (Int32 × jWd)) : ∀ c i f (w : jWd), i + c = 645 → c < f → ∃ w', lX12_text_202 n p1 K f (nI i) w = K w' ∧ (∀ k, i ≤ k → k < 645 → wI w' 211 k = wI w 211 (1935 + k)) ∧ frP (fun c k => c = 211 ∧ i ≤ k ∧ k < 645) w w' := by
  have l : ln 211 = 2580 := rfl
  intro c
  induction c with
  | zero =>
    intro i f w hi hf
    obtain ⟨f, rfl⟩ : ∃ g, f = g + 1 := ⟨f - 1, by omega⟩
    refine ⟨w, ?_, fun k h1 h2 => absurd h1 (by omega), frP_refl _ _⟩
    show bX12_text_202 n p1 K (lX12_text_202 n p1 K f) (nI i) w = _
    unfold bX12_text_202
    rw [if_pos (show (645 : Int32) ≤ nI i from nI_le (a := 645) (by omega) (by omega))]
  | succ c ih =>
    intro i f w hi hf
    obtain ⟨f, rfl⟩ : ∃ g, f = g + 1 := ⟨f - 1, by omega⟩
    obtain ⟨w', d1, d2, d3⟩ := ih (i + 1) f (sI w 211 i (wI w 211 (1935 + i))) (by omega) (by omega)
    refine ⟨w', ?_, fun k h1 h2 => ?_, frP_trans (frP_sI _ _ ⟨rfl, by omega, by omega⟩) (frP_mono (fun c k z => by omega) d3)⟩
    · show bX12_text_202 n p1 K (lX12_text_202 n p1 K f) (nI i) w = _
      unfold bX12_text_202 letV
      dsimp only
      rw [if_neg (show ¬ (645 : Int32) ≤ nI i from nI_ge (b := 645) (by omega) (by decide)), show (1935 : Int32) + nI i = nI (1935 + i) from nI_add 1935 i, l, grd_N (by omega) (by decide), grd_N (by omega) (by decide), nI_clamp (by omega), nI_clamp (by omega), nI_1]
      exact d1
    · by_cases e : k = i
      · subst e
        rw [frP_I d3 (by omega)]
        exact ev_wIs _ _ _ _
      · rw [d2 k (by omega) h2, ev_wIn _ (by omega)]
end FOL
/-! the class smooths all LINES of SONGS anew -/
section FLW
variable {A : Nat → Nat} {L : Nat → Int64} {F W : Nat → Nat} {w w' : jWd} {n : Nat}
def SgX (A : Nat → Nat) (L : Nat → Int64) (w : jWd) : Prop := A 0 ≤ 40 ∧ wI w 2 2 = nI (A 0) ∧ wI w 2 1 = nI 12 ∧ ∀ i, i < A 0 → A (121 + i) ≤ 12 ∧ A (1 + i) ≤ 9999 ∧ wI w 3 i = nI (A (1 + i)) ∧ wI w 6 i = nI (A (121 + i)) ∧ ∀ k, k < A (121 + i) → isL (L (12 * i + k)) ∧ wJ w 8 (12 * i + k) = L (12 * i + k)
theorem SgX_fr (h : SgX A L w) (f : frP (fun c _ => c = 30) w w') : SgX A L w' := by
  obtain ⟨h1, h2, h3, h4⟩ := h
  refine ⟨h1, by rw [frP_I f (by omega)]; exact h2, by rw [frP_I f (by omega)]; exact h3, fun i hi => ?_⟩
  obtain ⟨a1, a2, a3, a4, a5⟩ := h4 i hi
  refine ⟨a1, a2, by rw [frP_I f (by omega)]; exact a3, by rw [frP_I f (by omega)]; exact a4, fun k hk => ?_⟩
  rw [frP_J f (by omega)]
  exact a5 k hk
theorem sat_X (h : SgX A L w) {s k : Nat} (hs : s < A 0) (hk : k < A (121 + s)) : fX5_at (1 + 1) (nI s) (nI k) w = some (L (12 * s + k)) := by
  obtain ⟨h1, h2, h3, h4⟩ := h
  obtain ⟨a1, a2, a3, a4, a5⟩ := h4 s hs
  have l4 : ln (1 + 1 + 4) = 40 := rfl
  have l6 : ln (1 + 1 + 6) = 480 := rfl
  have e6 : wI w (1 + 1 + 4) s = nI (A (121 + s)) := a4
  have e1 : wI w (1 + 1) 1 = nI 12 := h3
  have e8 : wJ w (1 + 1 + 6) (12 * s + k) = L (12 * s + k) := (a5 k hk).2
  have eh : fX5_has_ (1 + 1) (nI s) (nI k) w = some 1 := by
    unfold fX5_has_
    rw [has_yes hs (by omega) (show wI w (1 + 1) 2 = nI (A 0) from h2), if_neg (by decide), if_neg (nI_pos (by omega)), l4, grd_N (by omega) (by decide), nI_clamp (by omega), e6, if_neg (nI_ge hk (by omega))]
  unfold fX5_at
  rw [eh, ev_bO, if_neg (by decide), e1, pk_mul, nI_add, Nat.mul_comm s 12, l6, grd_N (by omega) (by decide), nI_clamp (by omega), e8]
theorem fl_i (hn : 300 < n) (hF : InF F) {s : Nat} (hs : s < A 0) (K : jWd → Option jWd) : ∀ c k f (w : jWd), k + c = A (121 + s) → c < f → SgX A L w → FX F 32 w → (∀ q, q < k → wJ w 30 (12 * s + q) = smS F (A (1 + s)) (L (12 * s + q))) → ∃ w', lX8_follow_23 n 1 (nI s) K f (nI k) w = K w' ∧ (∀ q, q < A (121 + s) → wJ w' 30 (12 * s + q) = smS F (A (1 + s)) (L (12 * s + q))) ∧ frP (fun c j => c = 30 ∧ 12 * s ≤ j ∧ j < 12 * s + 12) w w' := by
  have l5 : ln (1 + 5) = 40 := rfl
  have l2 : ln (1 + 2) = 40 := rfl
  have l29 : ln (1 + 29) = 480 := rfl
  intro c
  induction c with
  | zero =>
    intro k f w hk hf h hX hq
    obtain ⟨f, rfl⟩ : ∃ g, f = g + 1 := ⟨f - 1, by omega⟩
    have h40 := h.1
    obtain ⟨a1, a2, a3, a4, a5⟩ := h.2.2.2 s hs
    refine ⟨w, ?_, fun q hq2 => hq q (by omega), frP_refl _ _⟩
    show bX8_follow_23 n 1 (nI s) K (lX8_follow_23 n 1 (nI s) K f) (nI k) w = _
    unfold bX8_follow_23
    rw [l5, grd_N (by omega) (by decide), nI_clamp (by omega), show wI w (1 + 5) s = nI (A (121 + s)) from a4, if_pos (nI_le (by omega) (by omega))]
  | succ c ih =>
    intro k f w hk hf h hX hq
    obtain ⟨f, rfl⟩ : ∃ g, f = g + 1 := ⟨f - 1, by omega⟩
    have h40 := h.1
    obtain ⟨a1, a2, a3, a4, a5⟩ := h.2.2.2 s hs
    have hl := (a5 k (by omega)).1
    have fr : frP (fun c j => c = 30 ∧ 12 * s ≤ j ∧ j < 12 * s + 12) w (sJ w 30 (12 * s + k) (smS F (A (1 + s)) (L (12 * s + k)))) := frP_sJ _ _ ⟨rfl, by omega, by omega⟩
    have hX2 : FX F 32 (sJ w 30 (12 * s + k) (smS F (A (1 + s)) (L (12 * s + k)))) := FX_cg (w := w) (fun c k _ _ => wI_sJ _ _ _ _ _ _) (fun q k h1 h2 => ev_wJn _ (by omega)) hX
    obtain ⟨w', d1, d2, d3⟩ := ih (k + 1) f (sJ w 30 (12 * s + k) (smS F (A (1 + s)) (L (12 * s + k)))) (by omega) (by omega) (SgX_fr h (frP_mono (fun c k z => z.1) fr)) hX2 (fun q hq2 => by
      by_cases e : q = k
      · subst e; exact ev_wJs _ _ _ _
      · rw [ev_wJn _ (by omega)]; exact hq q (by omega))
    refine ⟨w', ?_, d2, frP_trans fr d3⟩
    show bX8_follow_23 n 1 (nI s) K (lX8_follow_23 n 1 (nI s) K f) (nI k) w = _
    unfold bX8_follow_23 letV
    dsimp only
    rw [l5, grd_N (by omega) (by decide), nI_clamp (by omega), show wI w (1 + 5) s = nI (A (121 + s)) from a4, if_neg (nI_ge (by omega) (by omega)), sat_X h hs (by omega), ev_bO, l2, grd_N (by omega) (by decide), show wI w (1 + 2) s = nI (A (1 + s)) from a3, sm_X (by omega) (by omega) hX hF hl.1, ev_bO, show nI s * (12 : Int32) = nI (s * 12) from pk_mul s 12, nI_add, Nat.mul_comm s 12, l29, grd_N (by omega) (by decide), nI_clamp (by omega), nI_1]
    exact d1
theorem fl_o (hn : 300 < n) (hF : InF F) : ∀ c s f (w : jWd), s + c = A 0 → c < f → SgX A L w → FX F 32 w → (∀ i, i < s → ∀ q, q < A (121 + i) → wJ w 30 (12 * i + q) = smS F (A (1 + i)) (L (12 * i + q))) → ∃ w', lX8_follow_10 n 1 f (nI s) w = some w' ∧ (∀ i, i < A 0 → ∀ q, q < A (121 + i) → wJ w' 30 (12 * i + q) = smS F (A (1 + i)) (L (12 * i + q))) ∧ frP (fun c _ => c = 30) w w' := by
  intro c
  induction c with
  | zero =>
    intro s f w hs hf h hX hq
    obtain ⟨f, rfl⟩ : ∃ g, f = g + 1 := ⟨f - 1, by omega⟩
    have h40 := h.1
    refine ⟨w, ?_, fun i hi => hq i (by omega), frP_refl _ _⟩
    show bX8_follow_10 n 1 (lX8_follow_10 n 1 f) (nI s) w = _
    unfold bX8_follow_10
    rw [show wI w (1 + 1) 2 = nI (A 0) from h.2.1, if_pos (nI_le (by omega) (by omega))]
  | succ c ih =>
    intro s f w hs hf h hX hq
    obtain ⟨f, rfl⟩ : ∃ g, f = g + 1 := ⟨f - 1, by omega⟩
    have h40 := h.1
    have h12 := (h.2.2.2 s (by omega)).1
    obtain ⟨u, e1, e2, e3⟩ := fl_i (A := A) (L := L) (F := F) hn hF (s := s) (by omega) (fun (w_14 : jWd) => lX8_follow_10 n 1 f (nI (s + 1)) w_14) (A (121 + s)) 0 n w (by omega) (by omega) h hX (fun q hq2 => absurd hq2 (Nat.not_lt_zero q))
    have f3 : frP (fun c _ => c = 30) w u := frP_mono (fun c k z => z.1) e3
    obtain ⟨w', d1, d2, d3⟩ := ih (s + 1) f u (by omega) (by omega) (SgX_fr h f3) (FX_cg (fun c k _ _ => frP_I f3 (by omega)) (fun c k _ _ => frP_J f3 (by omega)) hX) (fun i hi q hq2 => by
      by_cases e : i = s
      · subst e; exact e2 q hq2
      · have := (h.2.2.2 i (by omega)).1
        rw [frP_J e3 (by omega)]
        exact hq i (by omega) q hq2)
    refine ⟨w', ?_, d2, frP_trans f3 d3⟩
    show bX8_follow_10 n 1 (lX8_follow_10 n 1 f) (nI s) w = _
    unfold bX8_follow_10 letV
    rw [show wI w (1 + 1) 2 = nI (A 0) from h.2.1, if_neg (nI_ge (by omega) (by omega)), nI_1]
    exact e1.trans d1
theorem follow_X {G : Nat → Nat} (hn : 300 < n) (h : RXN A L F W w) (hG : InF G) (hX : FX G 190 w) : ∃ w', fX8_follow n 1 190 w = some w' ∧ RXN A L G W w' ∧ wI w' 32 0 = nI (G 0) ∧ frP (fun c _ => c = 30 ∨ (32 ≤ c ∧ c ≤ 38)) w w' := by
  obtain ⟨⟨hA, hB, hL, hF, hW⟩, hx, hc⟩ := h
  obtain ⟨u, e1, e2, e3, e4⟩ := cp_X1 (t := 32) (a := 190) (w := w) (by omega) ⟨⟨by decide, by decide⟩, ⟨by decide, by decide⟩, ⟨by decide, by decide⟩, ⟨by decide, by decide⟩, ⟨by decide, by decide⟩, ⟨by decide, by decide⟩⟩
  obtain ⟨a0, a1, a2, a3, a4, a5, a6, a7, a8, a9, b1, b2, b3⟩ := hA
  obtain ⟨x0, x1, x2, x3, x4, x5, x6, x7, x8, x9, y0⟩ := hx
  obtain ⟨g0, gr⟩ := hG
  have fU : FX G 32 u := by
    refine ⟨(e3 0 0 (by omega)).trans hX.1, fun r hr => ?_⟩
    obtain ⟨q1, q2, q3, q4, q5⟩ := hX.2 r hr
    obtain ⟨-, -, -, -, z1, z2, -⟩ := gr r hr
    exact ⟨(e4 1 r (by omega)).trans q1, (e4 2 r (by omega)).trans q2, (e3 3 r (by omega)).trans q3, (e3 4 r (by omega)).trans q4, fun i h1 h2 => ⟨(e3 5 i (by omega)).trans (q5 i h1 h2).1, (e3 6 i (by omega)).trans (q5 i h1 h2).2⟩⟩
  have sg : SgX A L u := by
    refine ⟨a1, by rw [frP_I e2 (by omega)]; exact x0.1, by rw [frP_I e2 (by omega)]; exact hc.2.1, fun i hi => ?_⟩
    obtain ⟨q1, q2, q3, q4⟩ := x0.2 i hi
    exact ⟨a2 i (by omega), a0 _, by rw [frP_I e2 (by omega)]; exact q1, by rw [frP_I e2 (by omega)]; exact q3, fun k hk => ⟨hL.1 i k hi hk, by rw [frP_J e2 (by omega)]; exact (q4 k hk).1⟩⟩
  obtain ⟨w', d1, d2, d3⟩ := fl_o (A := A) (L := L) hn ⟨g0, gr⟩ (A 0) 0 n u (by omega) (by omega) sg fU (fun i hi => absurd hi (Nat.not_lt_zero i))
  have fr : frP (fun c _ => c = 30 ∨ (32 ≤ c ∧ c ≤ 38)) w w' := frP_trans (frP_mono (fun c k z => by omega) e2) (frP_mono (fun c k z => by omega) d3)
  have fX : FX G 32 w' := FX_cg (fun c k _ _ => frP_I d3 (by omega)) (fun c k _ _ => frP_J d3 (by omega)) fU
  refine ⟨w', ?_, ⟨⟨⟨a0, a1, a2, a3, a4, a5, a6, a7, a8, a9, b1, b2, b3⟩, hB, hL, ⟨g0, gr⟩, hW⟩, ⟨⟨by rw [frP_I fr (by omega)]; exact x0.1, fun i hi => ?_⟩, ?_, ?_, ?_, ?_, fX, ?_, ?_, ?_, ?_, ?_⟩, ?_⟩, fX.1, fr⟩
  · unfold fX8_follow
    rw [show fX1_copy (1 + 31) 190 w = some u from e1, ev_bO]
    exact d1
  · obtain ⟨q1, q2, q3, q4⟩ := x0.2 i hi
    exact ⟨by rw [frP_I fr (by omega)]; exact q1, by rw [frP_I fr (by omega)]; exact q2, by rw [frP_I fr (by omega)]; exact q3, fun k hk => ⟨by rw [frP_J fr (by omega)]; exact (q4 k hk).1, d2 i hi k hk⟩⟩
  · exact RBook_cg a4 a5 (fun _ _ _ => rfl) (fun _ _ _ => rfl) (fun c k _ _ => frP_I fr (by omega)) (fun c k _ => frP_J fr (by omega)) x1
  · exact RPrint_cg a3 (fun _ _ _ => rfl) (fun _ _ _ => rfl) (fun c k _ _ => frP_I fr (by omega)) (fun c k _ => frP_J fr (by omega)) x2
  · exact RVers_cg a7 (fun _ _ _ => rfl) (fun _ _ _ => rfl) (fun c k _ _ => frP_I fr (by omega)) (fun c k _ => frP_J fr (by omega)) x3
  · exact RYear_cg (fun _ _ _ => rfl) (fun k => frP_I fr (by omega)) x4
  · exact RLaw_cg (fun c k _ _ => frP_I fr (by omega)) x6
  · exact RAns_cg a8 (fun _ _ _ => rfl) (fun _ _ _ => rfl) (fun c k _ _ => frP_I fr (by omega)) (fun c k _ => frP_J fr (by omega)) x7
  · exact RWork_cg a9 b1 b2 (fun _ _ _ => rfl) (fun c k _ _ => frP_I fr (by omega)) x8
  · exact RWorld_cg b3 (fun _ _ _ => rfl) (fun c k _ _ => frP_I fr (by omega)) x9
  · exact RBnd_cg (fun _ _ _ => rfl) (fun k _ _ => frP_I fr (by omega)) y0
  · exact RCon_cg (fun c k _ _ _ => frP_I fr (by omega)) hc
end FLW
