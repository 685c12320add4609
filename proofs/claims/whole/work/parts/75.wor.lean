/-! words, more -/
theorem wan_M (x a b : Int64) : (fX12_within x a b &&& (1 : Int32)) = fX12_within x a b := by
  unfold fX12_within
  split
  · rfl
  · split <;> rfl
section WOR
variable {A : Nat → Nat} {L : Nat → Int64} {F W : Nat → Nat} {w : jWd}
theorem il_yes (h : RN A L F W w) {k g i : Nat} (hk : k = 0 ∨ k = 3) (hg : g < gK A k) (hi : i < cK A k g) : fX12_isLine (nI (k / 3)) (nI g) (nI i) w = some 1 := by
  have h40 := gK_le h.1.1 k
  have hc := cK_le h.1.1 hg
  have l7 : ln 207 = 3372 := rfl
  rcases hk with e | e <;> subst e
  · have hg : g < A 0 := hg
    have hi : i < A (121 + g) := hi
    have h4 := h.1.1.2.1
    have h9 := RN_9 h (121 + g)
    refine Eq.trans (show fX12_isLine (nI (0 / 3)) (nI g) (nI i) w = if (fX12_within ((nI g).toInt64) (0 : Int64) ((((wI w 207 0) - (1 : Int32))).toInt64)) = 0 then some (0 : Int32) else grd ((121 : Int32) + nI g) (ln 207) (if (fX12_within ((nI i).toInt64) (0 : Int64) ((((wI w 207 (((121 : Int32) + nI g)).toNatClampNeg) - (1 : Int32))).toInt64)) = 0 then some (0 : Int32) else some (1 : Int32)) from rfl) ?_
    rw [RN_A h (show 0 < 1124 by decide), if_neg (wi_yes hg (by omega)), show (121 : Int32) + nI g = nI (121 + g) from nI_add 121 g, l7, grd_N (by omega) (by decide), nI_clamp (by omega), RN_A h (show 121 + g < 1124 by omega), if_neg (wi_yes hi (by omega))]
  · have hg : g < A 223 := hg
    have hi : i < A (236 + g) := hi
    have h4 := h.1.1.2.2.2.2.1
    have h9 := RN_9 h (236 + g)
    refine Eq.trans (show fX12_isLine (nI (3 / 3)) (nI g) (nI i) w = if (fX12_within ((nI g).toInt64) (0 : Int64) ((((wI w 207 223) - (1 : Int32))).toInt64)) = 0 then some (0 : Int32) else grd ((236 : Int32) + nI g) (ln 207) (if (fX12_within ((nI i).toInt64) (0 : Int64) ((((wI w 207 (((236 : Int32) + nI g)).toNatClampNeg) - (1 : Int32))).toInt64)) = 0 then some (0 : Int32) else some (1 : Int32)) from rfl) ?_
    rw [RN_A h (show 223 < 1124 by decide), if_neg (wi_yes hg (by omega)), show (236 : Int32) + nI g = nI (236 + g) from nI_add 236 g, l7, grd_N (by omega) (by decide), nI_clamp (by omega), RN_A h (show 236 + g < 1124 by omega), if_neg (wi_yes hi (by omega))]
theorem il_cs (h : RN A L F W w) {k : Nat} (hk : k = 0 ∨ k = 3) (a1 a2 : Int32) : (∃ g i, g < gK A k ∧ i < cK A k g ∧ a1 = nI g ∧ a2 = nI i) ∨ (fX5_has_ (pcK k) a1 a2 w = some (bI false) ∧ ∀ w1, RN A L F W w1 → fX12_isLine (nI (k / 3)) a1 a2 w1 = some 0) := by
  have h40 := gK_le h.1.1 k
  have l7 : ln 207 = 3372 := rfl
  have hz : wI w (pcK k) 2 = nI (gK A k) := by
    rcases hk with e | e <;> subst e
    · exact h.2.1.1.1
    · exact h.2.1.2.1.1
  rcases ix_cs a1 (gK A k) with ⟨g, hg, rfl⟩ | hn
  · rcases ix_cs a2 (cK A k g) with ⟨i, hi, rfl⟩ | hn
    · exact .inl ⟨g, i, hg, hi, rfl, rfl⟩
    · refine .inr ⟨hasi_no h (by omega) hg hn, fun w1 h1 => ?_⟩
      have hc := cK_le h.1.1 hg
      rcases hk with e | e <;> subst e
      · have hg : g < A 0 := hg
        have h4 := h.1.1.2.1
        have h9 := RN_9 h (121 + g)
        refine Eq.trans (show fX12_isLine (nI (0 / 3)) (nI g) a2 w1 = if (fX12_within ((nI g).toInt64) (0 : Int64) ((((wI w1 207 0) - (1 : Int32))).toInt64)) = 0 then some (0 : Int32) else grd ((121 : Int32) + nI g) (ln 207) (if (fX12_within ((a2).toInt64) (0 : Int64) ((((wI w1 207 (((121 : Int32) + nI g)).toNatClampNeg) - (1 : Int32))).toInt64)) = 0 then some (0 : Int32) else some (1 : Int32)) from rfl) ?_
        rw [RN_A h1 (show 0 < 1124 by decide), if_neg (wi_yes hg (by omega)), show (121 : Int32) + nI g = nI (121 + g) from nI_add 121 g, l7, grd_N (by omega) (by decide), nI_clamp (by omega), RN_A h1 (show 121 + g < 1124 by omega), if_pos (wi_no (show ∀ i, i < A (121 + g) → a2 ≠ nI i from hn) (by omega))]
      · have hg : g < A 223 := hg
        have h4 := h.1.1.2.2.2.2.1
        have h9 := RN_9 h (236 + g)
        refine Eq.trans (show fX12_isLine (nI (3 / 3)) (nI g) a2 w1 = if (fX12_within ((nI g).toInt64) (0 : Int64) ((((wI w1 207 223) - (1 : Int32))).toInt64)) = 0 then some (0 : Int32) else grd ((236 : Int32) + nI g) (ln 207) (if (fX12_within ((a2).toInt64) (0 : Int64) ((((wI w1 207 (((236 : Int32) + nI g)).toNatClampNeg) - (1 : Int32))).toInt64)) = 0 then some (0 : Int32) else some (1 : Int32)) from rfl) ?_
        rw [RN_A h1 (show 223 < 1124 by decide), if_neg (wi_yes hg (by omega)), show (236 : Int32) + nI g = nI (236 + g) from nI_add 236 g, l7, grd_N (by omega) (by decide), nI_clamp (by omega), RN_A h1 (show 236 + g < 1124 by omega), if_pos (wi_no (show ∀ i, i < A (236 + g) → a2 ≠ nI i from hn) (by omega))]
  · refine .inr ⟨?_, fun w1 h1 => ?_⟩
    · unfold fX5_has_
      rw [has_no hn (by omega) hz]
      rfl
    · rcases hk with e | e <;> subst e
      · refine Eq.trans (show fX12_isLine (nI (0 / 3)) a1 a2 w1 = if (fX12_within (a1.toInt64) (0 : Int64) ((((wI w1 207 0) - (1 : Int32))).toInt64)) = 0 then some (0 : Int32) else grd ((121 : Int32) + a1) (ln 207) (if (fX12_within ((a2).toInt64) (0 : Int64) ((((wI w1 207 (((121 : Int32) + a1)).toNatClampNeg) - (1 : Int32))).toInt64)) = 0 then some (0 : Int32) else some (1 : Int32)) from rfl) ?_
        rw [RN_A h1 (show 0 < 1124 by decide), if_pos (wi_no (show ∀ i, i < A 0 → a1 ≠ nI i from hn) (by have := h.1.1.2.1; omega))]
      · refine Eq.trans (show fX12_isLine (nI (3 / 3)) a1 a2 w1 = if (fX12_within (a1.toInt64) (0 : Int64) ((((wI w1 207 223) - (1 : Int32))).toInt64)) = 0 then some (0 : Int32) else grd ((236 : Int32) + a1) (ln 207) (if (fX12_within ((a2).toInt64) (0 : Int64) ((((wI w1 207 (((236 : Int32) + a1)).toNatClampNeg) - (1 : Int32))).toInt64)) = 0 then some (0 : Int32) else some (1 : Int32)) from rfl) ?_
        rw [RN_A h1 (show 223 < 1124 by decide), if_pos (wi_no (show ∀ i, i < A 223 → a1 ≠ nI i from hn) (by have := h.1.1.2.2.2.2.1; omega))]
end WOR
theorem s_words : fS_words RR := by
  intro w a0 a1 a2 hw
  obtain ⟨⟨A, L, F, W, h⟩, -⟩ := id hw
  have h40 := h.1.1.2.1
  have h12 := h.1.1.2.2.2.2.1
  have h60 := h.1.1.2.2.2.1
  have h20 := RN_20 h
  have hM := rd_M h
  have l8 : ln 208 = 2352 := rfl
  refine rr_call hw ?_
  have badM : (∀ w1, RN A L F W w1 → fX12_isLine a0 a1 a2 w1 = some 0) → ∀ w1, frS2 w w1 → noM (fX12_words a0 a1 a2 w1) w1 (-2) 2 := by
    intro hb w1 f1
    refine ⟨sI w1 205 0 (0 : Int32), ?_, frS_0 w1⟩
    unfold fX12_words letV
    dsimp only
    rw [hb _ (hM w1 f1)]
    dsimp only [bO]
    rw [if_pos rfl, no_l2]
  have okM : ∀ (v : Int64), (∀ w1, RN A L F W w1 → fX12_isLine a0 a1 a2 w1 = some 1 ∧ (if a0 = (0 : Int32) then grd (((12 : Int32) * a1) + a2) (ln 208) (some ((wJ w1 208 ((((12 : Int32) * a1) + a2)).toNatClampNeg), w1)) else if a0 = (1 : Int32) then grd (((540 : Int32) + ((12 : Int32) * a1)) + a2) (ln 208) (some ((wJ w1 208 ((((540 : Int32) + ((12 : Int32) * a1)) + a2)).toNatClampNeg), w1)) else if a0 = (2 : Int32) then grd ((480 : Int32) + a2) (ln 208) (some ((wJ w1 208 (((480 : Int32) + a2)).toNatClampNeg), w1)) else if a0 = (3 : Int32) then grd ((684 : Int32) + a1) (ln 208) (some ((wJ w1 208 (((684 : Int32) + a1)).toNatClampNeg), w1)) else grd ((704 : Int32) + a1) (ln 208) (some ((wJ w1 208 (((704 : Int32) + a1)).toNatClampNeg), w1))) = some (v, w1)) → ∀ w1, frS2 w w1 → okC (fX12_words a0 a1 a2 w1) w1 v := by
    intro v hv w1 f1
    obtain ⟨q1, q2⟩ := hv _ (hM w1 f1)
    refine ⟨sI w1 205 0 (0 : Int32), ?_, frS_0 w1⟩
    unfold fX12_words letV
    dsimp only
    rw [q1]
    dsimp only [bO]
    rw [if_neg (by decide)]
    exact q2
  rcases wi_cs a0 0 4 (a := 0) (b := 4) rfl rfl (by decide) (by decide) with ⟨h1, h2⟩ | ⟨k, _, hk, rfl, h1, h2⟩
  · refine .inr ⟨-2, 2, by decide, by decide, ⟨w, ?_, frP_refl _ _⟩, badM (fun w1 h1' => ?_)⟩
    · unfold fX11_words
      rw [rx_l2, if_pos h1]
    · have e : ∀ j : Nat, j ≤ 4 → ¬ a0 = nI j := fun j hj e => by
        subst e
        exact absurd h2 (w0_of (lo := 0) (hi := 4) (by omega) hj (by decide))
      unfold fX12_isLine
      rw [if_neg (show ¬ a0 = (0 : Int32) from e 0 (by decide)), if_neg (show ¬ a0 = (1 : Int32) from e 1 (by decide)), if_neg (show ¬ a0 = (2 : Int32) from e 2 (by decide)), if_neg (show ¬ a0 = (3 : Int32) from e 3 (by decide)), if_neg (show ¬ a0 = (4 : Int32) from e 4 (by decide))]
  · have clsX : ∀ (c : Nat) (g i : Int32), (∀ J : Option (Int64 × jWd) → Prop, True) → fX11_words (nI k) a1 a2 w = bO (fX5_has_ c g i w) (fun (r_8 : Int32) => if r_8 = 0 then bO2 (fX11_refuse (-2 : Int32) w) (fun (r_13 : Int32) (w_12 : jWd) => some (((r_13).toInt64), w_12)) else bO (fX5_at c g i w) (fun (r_10 : Int64) => some (r_10, w))) → (fX5_has_ c g i w = some (bI false) → noX (fX11_words (nI k) a1 a2 w) w (-2) 2) ∧ ∀ v, fX5_has_ c g i w = some (bI true) → fX5_at c g i w = some v → okC (fX11_words (nI k) a1 a2 w) w v := by
      intro c g i _ e
      rw [e]
      refine ⟨fun q => ⟨w, ?_, frP_refl _ _⟩, fun v q1 q2 => ⟨w, ?_, frP_refl _ _⟩⟩
      · rw [q]
        dsimp only [bO]
        rw [if_pos (by decide), rx_l2]
      · rw [q1, q2]
        dsimp only [bO]
        rw [if_neg (by decide)]
    rcases (show k = 0 ∨ k = 1 ∨ k = 2 ∨ k = 3 ∨ k = 4 by omega) with e | e | e | e | e <;> subst e
    · obtain ⟨c1, c2⟩ := clsX 2 a1 a2 (fun _ => trivial) rfl
      rcases il_cs h (.inl rfl) a1 a2 with ⟨g, i, hg, hi, rfl, rfl⟩ | ⟨q1, q2⟩
      · have hg' : g < A 0 := hg
        have hi' : i < A (121 + g) := hi
        have h4 := h.1.1.2.2.1 g (by omega)
        refine .inl ⟨L (12 * g + i), c2 _ ?_ (at_X (k := 0) (g := g) h (by decide) (by decide) hg hi), okM _ (fun w1 h1' => ⟨il_yes h1' (.inl rfl) hg hi, ?_⟩)⟩
        · have e := hasi_X (k := 0) (g := g) h (by decide) hg (i := i) (by omega)
          rw [show decide (i < cK A 0 g) = true from decide_eq_true hi] at e
          exact e
        · rw [if_pos (show nI 0 = (0 : Int32) from rfl), show (12 : Int32) * nI g + nI i = nI (12 * g + i) by rw [show (12 : Int32) = nI 12 from rfl, ev_mul, nI_add], l8, grd_N (by omega) (by decide), nI_clamp (by omega), RN_L h1' (by omega)]
      · exact .inr ⟨-2, 2, by decide, by decide, c1 q1, badM q2⟩
    · obtain ⟨c1, c2⟩ := clsX 9 a1 a2 (fun _ => trivial) rfl
      rcases il_cs h (.inr rfl) a1 a2 with ⟨g, i, hg, hi, rfl, rfl⟩ | ⟨q1, q2⟩
      · have hg' : g < A 223 := hg
        have hi' : i < A (236 + g) := hi
        have h4 := h.1.1.2.2.2.2.2.1 g (by omega)
        refine .inl ⟨L (540 + 12 * g + i), c2 _ ?_ (at_X (k := 3) (g := g) h (by decide) (by decide) hg hi), okM _ (fun w1 h1' => ⟨il_yes h1' (.inr rfl) hg hi, ?_⟩)⟩
        · have e := hasi_X (k := 3) (g := g) h (by decide) hg (i := i) (by omega)
          rw [show decide (i < cK A 3 g) = true from decide_eq_true hi] at e
          exact e
        · rw [if_neg (show ¬ nI 1 = (0 : Int32) by decide), if_pos (show nI 1 = (1 : Int32) from rfl), show (540 : Int32) + (12 : Int32) * nI g + nI i = nI (540 + 12 * g + i) by rw [show (12 : Int32) = nI 12 from rfl, ev_mul, show (540 : Int32) = nI 540 from rfl, nI_add, nI_add], l8, grd_N (by omega) (by decide), nI_clamp (by omega), RN_L h1' (by omega)]
      · exact .inr ⟨-2, 2, by decide, by decide, c1 q1, badM q2⟩
    · obtain ⟨c1, c2⟩ := clsX 16 0 a2 (fun _ => trivial) rfl
      have hl : ∀ w1, RN A L F W w1 → fX12_isLine (nI 2) a1 a2 w1 = some (fX12_within ((a2).toInt64) (0 : Int64) ((nI (A 162) - (1 : Int32)).toInt64)) := fun w1 h1' => by
        refine Eq.trans (show fX12_isLine (nI 2) a1 a2 w1 = some ((fX12_within ((a2).toInt64) (0 : Int64) ((((wI w1 207 162) - (1 : Int32))).toInt64)) &&& 1) from rfl) ?_
        rw [wan_M, RN_A h1' (show 162 < 1124 by decide)]
      rcases ix_cs a2 (A 162) with ⟨p, hp, rfl⟩ | hn
      · refine .inl ⟨L (480 + p), c2 _ (pr_has h hp) (pr_at h hp), okM _ (fun w1 h1' => ⟨?_, ?_⟩)⟩
        · rw [hl w1 h1']
          have q := wi_yes hp (show A 162 < 2147483648 by omega)
          have q2 : fX12_within (nI p).toInt64 0 ((nI (A 162) - (1 : Int32)).toInt64) = 0 ∨ fX12_within (nI p).toInt64 0 ((nI (A 162) - (1 : Int32)).toInt64) = 1 := by
            unfold fX12_within
            split
            · exact .inl rfl
            · split
              · exact .inl rfl
              · exact .inr rfl
          rw [q2.resolve_left q]
        · rw [if_neg (show ¬ nI 2 = (0 : Int32) by decide), if_neg (show ¬ nI 2 = (1 : Int32) by decide), if_pos (show nI 2 = (2 : Int32) from rfl), show (480 : Int32) + nI p = nI (480 + p) from nI_add 480 p, l8, grd_N (by omega) (by decide), nI_clamp (by omega), RN_L h1' (by omega)]
      · refine .inr ⟨-2, 2, by decide, by decide, c1 (hasi_no (k := 8) (g := 0) h (by decide) (by show 0 < 1; decide) hn), badM (fun w1 h1' => ?_)⟩
        rw [hl w1 h1', wi_no hn (by omega)]
    · obtain ⟨c1, c2⟩ := clsX 23 a1 0 (fun _ => trivial) rfl
      have hl : ∀ w1, RN A L F W w1 → fX12_isLine (nI 3) a1 a2 w1 = some (fX12_within ((a1).toInt64) (0 : Int64) ((nI (A 506) - (1 : Int32)).toInt64)) := fun w1 h1' => by
        refine Eq.trans (show fX12_isLine (nI 3) a1 a2 w1 = some ((fX12_within ((a1).toInt64) (0 : Int64) ((((wI w1 207 506) - (1 : Int32))).toInt64)) &&& 1) from rfl) ?_
        rw [wan_M, RN_A h1' (show 506 < 1124 by decide)]
      rcases ix_cs a1 (A 506) with ⟨p, hp, rfl⟩ | hn
      · refine .inl ⟨L (684 + p), c2 _ (vh_yes h hp (u := 0) (by decide)) (vrs_at h hp (u := 0) (by decide)), okM _ (fun w1 h1' => ⟨?_, ?_⟩)⟩
        · rw [hl w1 h1']
          have q := wi_yes hp (show A 506 < 2147483648 by omega)
          have q2 : fX12_within (nI p).toInt64 0 ((nI (A 506) - (1 : Int32)).toInt64) = 0 ∨ fX12_within (nI p).toInt64 0 ((nI (A 506) - (1 : Int32)).toInt64) = 1 := by
            unfold fX12_within
            split
            · exact .inl rfl
            · split
              · exact .inl rfl
              · exact .inr rfl
          rw [q2.resolve_left q]
        · rw [if_neg (show ¬ nI 3 = (0 : Int32) by decide), if_neg (show ¬ nI 3 = (1 : Int32) by decide), if_neg (show ¬ nI 3 = (2 : Int32) by decide), if_pos (show nI 3 = (3 : Int32) from rfl), show (684 : Int32) + nI p = nI (684 + p) from nI_add 684 p, l8, grd_N (by omega) (by decide), nI_clamp (by omega), RN_L h1' (by omega)]
      · refine .inr ⟨-2, 2, by decide, by decide, c1 (vh_no h hn _), badM (fun w1 h1' => ?_)⟩
        rw [hl w1 h1', wi_no hn (by omega)]
    · obtain ⟨c1, c2⟩ := clsX 23 a1 1 (fun _ => trivial) rfl
      have hl : ∀ w1, RN A L F W w1 → fX12_isLine (nI 4) a1 a2 w1 = some (fX12_within ((a1).toInt64) (0 : Int64) ((nI (A 506) - (1 : Int32)).toInt64)) := fun w1 h1' => by
        refine Eq.trans (show fX12_isLine (nI 4) a1 a2 w1 = some ((fX12_within ((a1).toInt64) (0 : Int64) ((((wI w1 207 506) - (1 : Int32))).toInt64)) &&& 1) from rfl) ?_
        rw [wan_M, RN_A h1' (show 506 < 1124 by decide)]
      rcases ix_cs a1 (A 506) with ⟨p, hp, rfl⟩ | hn
      · have ha := vrs_at h hp (u := 1) (by decide)
        rw [show 684 + 20 * 1 + p = 704 + p by omega] at ha
        refine .inl ⟨L (704 + p), c2 _ (vh_yes h hp (u := 1) (by decide)) ha, okM _ (fun w1 h1' => ⟨?_, ?_⟩)⟩
        · rw [hl w1 h1']
          have q := wi_yes hp (show A 506 < 2147483648 by omega)
          have q2 : fX12_within (nI p).toInt64 0 ((nI (A 506) - (1 : Int32)).toInt64) = 0 ∨ fX12_within (nI p).toInt64 0 ((nI (A 506) - (1 : Int32)).toInt64) = 1 := by
            unfold fX12_within
            split
            · exact .inl rfl
            · split
              · exact .inl rfl
              · exact .inr rfl
          rw [q2.resolve_left q]
        · rw [if_neg (show ¬ nI 4 = (0 : Int32) by decide), if_neg (show ¬ nI 4 = (1 : Int32) by decide), if_neg (show ¬ nI 4 = (2 : Int32) by decide), if_neg (show ¬ nI 4 = (3 : Int32) by decide), show (704 : Int32) + nI p = nI (704 + p) from nI_add 704 p, l8, grd_N (by omega) (by decide), nI_clamp (by omega), RN_L h1' (by omega)]
      · refine .inr ⟨-2, 2, by decide, by decide, c1 (vh_no h hn _), badM (fun w1 h1' => ?_)⟩
        rw [hl w1 h1', wi_no hn (by omega)]
section MOR
variable {A : Nat → Nat} {L : Nat → Int64} {F W : Nat → Nat} {w : jWd}
theorem RN_wk (h : RN A L F W w) : wI w 48 0 = nI (A 848) ∧ wI w 48 1 = nI (A 889) ∧ wI w 48 2 = nI (A 970) ∧ (∀ i, i < A 848 → wI w 49 i = nI (A (849 + i)) ∧ wI w 50 i = nI (A (869 + i))) ∧ (∀ i, i < A 889 → wI w 51 i = nI (A (890 + i)) ∧ wI w 52 i = nI (A (930 + i))) ∧ ∀ i, i < A 970 → wI w 53 i = nI (A (971 + i)) ∧ wI w 54 i = nI (A (979 + i)) := h.2.1.2.2.2.2.2.2.2.2.1
theorem RN_wl (h : RN A L F W w) : A 848 ≤ 20 ∧ A 889 ≤ 40 ∧ A 970 ≤ 8 := ⟨h.1.1.2.2.2.2.2.2.2.2.2.1, h.1.1.2.2.2.2.2.2.2.2.2.2.1, h.1.1.2.2.2.2.2.2.2.2.2.2.2.1⟩
def pgG (A : Nat → Nat) (lo hi : Int32) (i : Nat) (x : Int32) : Int32 := if lo ≤ nI (A (890 + i)) ∧ nI (A (890 + i)) ≤ hi then x + nI (A (930 + i)) else x
theorem w64 (x lo hi : Int32) : (fX12_within x.toInt64 lo.toInt64 hi.toInt64 = 0) ↔ ¬ (lo ≤ x ∧ x ≤ hi) := by
  rw [wi_XM, wi_X]
  refine not_congr (and_congr ?_ ?_)
  · rw [Int64.le_iff_toInt_le, Int32.toInt_toInt64, Int32.toInt_toInt64, Int32.le_iff_toInt_le]
  · rw [Int64.le_iff_toInt_le, Int32.toInt_toInt64, Int32.toInt_toInt64, Int32.le_iff_toInt_le]
theorem pg_X {n : Nat} (h : RN A L F W w) (lo hi : Int32) : ∀ c i f x, i + c = A 889 → c < f → lX9_pagesOf_5 n 48 lo hi w f x (nI i) = some (fo (pgG A lo hi) c i x) := by
  obtain ⟨k0, k1, k2, k3, k4, k5⟩ := RN_wk h
  obtain ⟨m1, m2, m3⟩ := RN_wl h
  have l3 : ln (48 + 3) = 40 := rfl
  have l4 : ln (48 + 4) = 40 := rfl
  intro c
  induction c with
  | zero =>
    intro i f x hi' hf
    obtain ⟨f, rfl⟩ : ∃ g, f = g + 1 := ⟨f - 1, by omega⟩
    show bX9_pagesOf_5 n 48 lo hi w _ x (nI i) = _
    unfold bX9_pagesOf_5
    rw [k1, if_pos (nI_le (by omega) (by omega))]
    rfl
  | succ c ih =>
    intro i f x hi' hf
    obtain ⟨f, rfl⟩ : ∃ g, f = g + 1 := ⟨f - 1, by omega⟩
    obtain ⟨e1, e2⟩ := k4 i (by omega)
    have e1 : wI w (48 + 3) i = nI (A (890 + i)) := e1
    have e2 : wI w (48 + 4) i = nI (A (930 + i)) := e2
    show bX9_pagesOf_5 n 48 lo hi w (lX9_pagesOf_5 n 48 lo hi w f) x (nI i) = fo (pgG A lo hi) c (i + 1) (pgG A lo hi i x)
    unfold bX9_pagesOf_5 letV pgG
    rw [k1, if_neg (nI_ge (by omega) (by omega)), l3, l4, grd_N (by omega) (by decide), grd_N (by omega) (by decide), grd_N (by omega) (by decide), nI_clamp (by omega), e1, e2, nI_1]
    by_cases q1 : nI (A (890 + i)) < lo
    · rw [if_pos q1, if_neg (fun z => Int32.not_lt.mpr z.1 q1)]
      exact ih (i + 1) f x (by omega) (by omega)
    · rw [if_neg q1]
      by_cases q2 : hi < nI (A (890 + i))
      · rw [if_pos q2, if_neg (fun z => Int32.not_lt.mpr z.2 q2)]
        exact ih (i + 1) f x (by omega) (by omega)
      · rw [if_neg q2, if_pos ⟨Int32.not_lt.mp q1, Int32.not_lt.mp q2⟩]
        exact ih (i + 1) f _ (by omega) (by omega)
theorem pg_M {n : Nat} (h : RN A L F W w) (lo hi : Int32) : ∀ c i f x, i + c = A 889 → c < f → lX12_pagesIn_5 n lo hi w f x (nI i) = some (fo (pgG A lo hi) c i x) := by
  obtain ⟨m1, m2, m3⟩ := RN_wl h
  have l7 : ln 207 = 3372 := rfl
  intro c
  induction c with
  | zero =>
    intro i f x hi' hf
    obtain ⟨f, rfl⟩ : ∃ g, f = g + 1 := ⟨f - 1, by omega⟩
    show bX12_pagesIn_5 n lo hi w _ x (nI i) = _
    unfold bX12_pagesIn_5
    rw [RN_A h (show 889 < 1124 by decide), if_pos (nI_le (by omega) (by omega))]
    rfl
  | succ c ih =>
    intro i f x hi' hf
    obtain ⟨f, rfl⟩ : ∃ g, f = g + 1 := ⟨f - 1, by omega⟩
    show bX12_pagesIn_5 n lo hi w (lX12_pagesIn_5 n lo hi w f) x (nI i) = fo (pgG A lo hi) c (i + 1) (pgG A lo hi i x)
    unfold bX12_pagesIn_5 letV pgG
    rw [RN_A h (show 889 < 1124 by decide), if_neg (nI_ge (by omega) (by omega)), show (890 : Int32) + nI i = nI (890 + i) from nI_add 890 i, show (930 : Int32) + nI i = nI (930 + i) from nI_add 930 i, l7, grd_N (by omega) (by decide), grd_N (by omega) (by decide), nI_clamp (by omega), nI_clamp (by omega), RN_A h (show 890 + i < 1124 by omega), RN_A h (show 930 + i < 1124 by omega), nI_1, Int32.add_zero]
    by_cases q : lo ≤ nI (A (890 + i)) ∧ nI (A (890 + i)) ≤ hi
    · rw [if_neg (fun z => (w64 _ _ _).mp z q), if_pos q]
      exact ih (i + 1) f _ (by omega) (by omega)
    · rw [if_pos ((w64 _ _ _).mpr q), if_neg q]
      exact ih (i + 1) f x (by omega) (by omega)
def pgS (A : Nat → Nat) (lo hi : Int32) : Int32 := fo (pgG A lo hi) (A 889) 0 0
theorem pgs_X {n : Nat} (hn : 50 < n) (h : RN A L F W w) (lo hi : Int32) : fX9_pagesOf n 48 lo hi w = some (pgS A lo hi) := pg_X h lo hi (A 889) 0 n 0 (by omega) (by have := (RN_wl h).2.1; omega)
theorem pgs_M {n : Nat} (hn : 50 < n) (h : RN A L F W w) (lo hi : Int32) : fX12_pagesIn n lo hi w = some (pgS A lo hi) := pg_M h lo hi (A 889) 0 n 0 (by omega) (by have := (RN_wl h).2.1; omega)
def mrG (A : Nat → Nat) (d : Int32) (i : Nat) (x : Int32) : Int32 := x + (pgS A (nI (A (849 + i)) + 1) (nI (A (849 + i)) + d) - pgS A (nI (A (849 + i)) - d) (nI (A (849 + i)) - 1))
def suG (A : Nat → Nat) (i : Nat) (x : Int32) : Int32 := x + nI (A (869 + i))
theorem mr_X {n : Nat} (hn : 50 < n) (h : RN A L F W w) (d : Int32) : ∀ c i f x, i + c = A 848 → c < f → lX9_moreBy_4 n 48 d w f x (nI i) = some (fo (mrG A d) c i x) := by
  obtain ⟨k0, k1, k2, k3, k4, k5⟩ := RN_wk h
  obtain ⟨m1, m2, m3⟩ := RN_wl h
  have l1 : ln (48 + 1) = 20 := rfl
  intro c
  induction c with
  | zero =>
    intro i f x hi' hf
    obtain ⟨f, rfl⟩ : ∃ g, f = g + 1 := ⟨f - 1, by omega⟩
    show bX9_moreBy_4 n 48 d w _ x (nI i) = _
    unfold bX9_moreBy_4
    rw [k0, if_pos (nI_le (by omega) (by omega))]
    rfl
  | succ c ih =>
    intro i f x hi' hf
    obtain ⟨f, rfl⟩ : ∃ g, f = g + 1 := ⟨f - 1, by omega⟩
    obtain ⟨e1, e2⟩ := k3 i (by omega)
    have e1 : wI w (48 + 1) i = nI (A (849 + i)) := e1
    show bX9_moreBy_4 n 48 d w (lX9_moreBy_4 n 48 d w f) x (nI i) = fo (mrG A d) c (i + 1) (mrG A d i x)
    unfold bX9_moreBy_4
    rw [k0, if_neg (nI_ge (by omega) (by omega)), l1, grd_N (by omega) (by decide), nI_clamp (by omega), e1, ev_letV, pgs_X hn h]
    dsimp only [bO]
    rw [pgs_X hn h]
    dsimp only [letV]
    rw [nI_1 i]
    exact ih (i + 1) f _ (by omega) (by omega)
theorem su_X {n : Nat} (h : RN A L F W w) : ∀ c i f x, i + c = A 848 → c < f → lX9_allPaid_4 n 48 w f x (nI i) = some (fo (suG A) c i x) := by
  obtain ⟨k0, k1, k2, k3, k4, k5⟩ := RN_wk h
  obtain ⟨m1, m2, m3⟩ := RN_wl h
  have l2 : ln (48 + 2) = 20 := rfl
  intro c
  induction c with
  | zero =>
    intro i f x hi' hf
    obtain ⟨f, rfl⟩ : ∃ g, f = g + 1 := ⟨f - 1, by omega⟩
    show bX9_allPaid_4 n 48 w _ x (nI i) = _
    unfold bX9_allPaid_4
    rw [k0, if_pos (nI_le (by omega) (by omega))]
    rfl
  | succ c ih =>
    intro i f x hi' hf
    obtain ⟨f, rfl⟩ : ∃ g, f = g + 1 := ⟨f - 1, by omega⟩
    obtain ⟨e1, e2⟩ := k3 i (by omega)
    have e2 : wI w (48 + 2) i = nI (A (869 + i)) := e2
    show bX9_allPaid_4 n 48 w (lX9_allPaid_4 n 48 w f) x (nI i) = fo (suG A) c (i + 1) (suG A i x)
    unfold bX9_allPaid_4 letV
    rw [k0, if_neg (nI_ge (by omega) (by omega)), l2, grd_N (by omega) (by decide), nI_clamp (by omega), e2, nI_1]
    exact ih (i + 1) f _ (by omega) (by omega)
theorem mr_M {n : Nat} (hn : 50 < n) (h : RN A L F W w) {k : Nat} (hk : k ≤ 1) (d : Int32) : ∀ c i f x, i + c = A 848 → c < f → lX12_more_50 n (nI k) d w f x (nI i) = some (fo (if k = 1 then suG A else mrG A d) c i x, w) := by
  obtain ⟨m1, m2, m3⟩ := RN_wl h
  have l7 : ln 207 = 3372 := rfl
  intro c
  induction c with
  | zero =>
    intro i f x hi' hf
    obtain ⟨f, rfl⟩ : ∃ g, f = g + 1 := ⟨f - 1, by omega⟩
    show bX12_more_50 n (nI k) d w _ x (nI i) = _
    unfold bX12_more_50
    rw [RN_A h (show 848 < 1124 by decide), if_pos (nI_le (by omega) (by omega))]
    rfl
  | succ c ih =>
    intro i f x hi' hf
    obtain ⟨f, rfl⟩ : ∃ g, f = g + 1 := ⟨f - 1, by omega⟩
    have hi2 := ih (i + 1) f ((if k = 1 then suG A else mrG A d) i x) (by omega) (by omega)
    refine Eq.trans ?_ hi2
    show bX12_more_50 n (nI k) d w (lX12_more_50 n (nI k) d w f) x (nI i) = _
    unfold bX12_more_50
    rw [RN_A h (show 848 < 1124 by decide), if_neg (nI_ge (by omega) (by omega)), show (849 : Int32) + nI i = nI (849 + i) from nI_add 849 i, show (869 : Int32) + nI i = nI (869 + i) from nI_add 869 i, l7, grd_N (by omega) (by decide), nI_clamp (by omega), nI_clamp (by omega), RN_A h (show 849 + i < 1124 by omega), ev_letV]
    rcases (show k = 0 ∨ k = 1 by omega) with e | e <;> subst e
    · rw [if_neg (show ¬ nI 0 = (1 : Int32) by decide), pgs_M hn h]
      dsimp only [bO]
      rw [pgs_M hn h]
      dsimp only [letV]
      rw [nI_1 i]
      rfl
    · rw [if_pos (show nI 1 = (1 : Int32) from rfl), grd_N (by omega) (by decide), RN_A h (show 869 + i < 1124 by omega)]
      dsimp only [letV]
      rw [nI_1 i]
      rfl
end MOR
theorem s_more : fS_more RR := by
  intro w a0 a1 hw
  obtain ⟨⟨A, L, F, W, h⟩, -⟩ := id hw
  obtain ⟨m1, m2, m3⟩ := RN_wl h
  have hM := rd_M h
  refine ⟨20000, rr_call hw ?_⟩
  have hr := mr_X (n := 20000) (by decide) h a1 (A 848) 0 20000 0 (by omega) (by omega)
  have hs := su_X (n := 20000) h (A 848) 0 20000 0 (by omega) (by omega)
  rcases wi_cs a0 0 1 (a := 0) (b := 1) rfl rfl (by decide) (by decide) with ⟨h1, h2⟩ | ⟨k, _, hk, rfl, h1, h2⟩
  · have e : ∀ j : Nat, j ≤ 1 → ¬ a0 = nI j := fun j hj e => by
      subst e
      exact absurd h2 (w0_of (lo := 0) (hi := 1) (by omega) hj (by decide))
    refine .inr ⟨-2, 2, by decide, by decide, ⟨w, ?_, frP_refl _ _⟩, fun w1 f1 => ⟨sI w1 205 0 (0 : Int32), ?_, frS_0 w1⟩⟩
    · unfold fX11_more letV
      dsimp only
      rw [if_neg (show ¬ a0 = (0 : Int32) from e 0 (by decide)), if_neg (show ¬ a0 = (1 : Int32) from e 1 (by decide)), rx_id2]
    · unfold fX12_more letV
      dsimp only
      rw [if_pos h2, no_id2]
  · rcases (show k = 0 ∨ k = 1 by omega) with e | e <;> subst e
    · rcases wi_cs a1 1 999 (a := 1) (b := 999) rfl rfl (by decide) (by decide) with ⟨h3, h4⟩ | ⟨d, hd1, hd, rfl, h3, h4⟩
      · refine .inr ⟨-3, 3, by decide, by decide, ⟨w, ?_, frP_refl _ _⟩, fun w1 f1 => ⟨sI w1 205 0 (0 : Int32), ?_, frS_0 w1⟩⟩
        · unfold fX11_more letV
          dsimp only
          rw [if_pos (show nI 0 = (0 : Int32) from rfl), if_neg (show ¬ nI 0 = (1 : Int32) by decide), if_pos h3, rx_id3]
        · unfold fX12_more letV
          dsimp only
          rw [if_neg h2, if_pos (show nI 0 = (0 : Int32) from rfl), if_pos h4, no_id3]
      · refine .inl ⟨fo (mrG A (nI d)) (A 848) 0 0, ⟨w, ?_, frP_refl _ _⟩, fun w1 f1 => ⟨sI w1 205 0 (0 : Int32), ?_, frS_0 w1⟩⟩
        · unfold fX11_more letV fX9_moreBy
          dsimp only
          rw [if_pos (show nI 0 = (0 : Int32) from rfl), if_neg (show ¬ nI 0 = (1 : Int32) by decide), if_neg h3]
          rw [show nI 0 = (0 : Int32) from rfl] at hr
          rw [hr]
          rfl
        · have := mr_M (n := 20000) (by decide) (hM w1 f1) (k := 0) (by decide) (nI d) (A 848) 0 20000 0 (by omega) (by omega)
          unfold fX12_more letV
          dsimp only
          rw [if_neg h2, if_pos (show nI 0 = (0 : Int32) from rfl), if_neg h4]
          exact this
    · refine .inl ⟨fo (suG A) (A 848) 0 0, ⟨w, ?_, frP_refl _ _⟩, fun w1 f1 => ⟨sI w1 205 0 (0 : Int32), ?_, frS_0 w1⟩⟩
      · unfold fX11_more letV fX9_allPaid
        dsimp only
        rw [if_neg (show ¬ nI 1 = (0 : Int32) by decide), if_pos (show nI 1 = (1 : Int32) from rfl), if_pos (show nI 1 = (1 : Int32) from rfl)]
        rw [show nI 0 = (0 : Int32) from rfl] at hs
        rw [hs]
        rfl
      · have := mr_M (n := 20000) (by decide) (hM w1 f1) (k := 1) (by decide) a1 (A 848) 0 20000 0 (by omega) (by omega)
        unfold fX12_more letV
        dsimp only
        rw [if_neg h2, if_neg (show ¬ nI 1 = (0 : Int32) by decide)]
        exact this
