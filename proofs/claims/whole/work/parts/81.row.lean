/-! row, write -/
def RowS (c k : Nat) : Prop := Scr c k ∨ (186 ≤ c ∧ c ≤ 188) ∨ (221 ≤ c ∧ c ≤ 223)
theorem rr_row {w w' : jWd} (hf : frP RowS w w') (h : RR w) (hn : RRow w') : RR w' := by
  obtain ⟨⟨A, L, F, W, a0, b0, c0, d0⟩, b, c, d, e, f, ⟨n, g1, g2, g3, g4⟩, i, -⟩ := h
  have hI : ∀ c k, ¬ RowS c k → wI w' c k = wI w c k := fun c k q => frP_I hf q
  have hJ : ∀ c k, ¬ RowS c k → wJ w' c k = wJ w c k := fun c k q => frP_J hf q
  have im : ∀ i, i ≤ 1 → RIm i w → RIm i w' := fun i hi h => RIm_cg hi (fun c k _ _ => hI c k (by unfold RowS Scr; omega)) (fun c k _ _ => hJ c k (by unfold RowS Scr; omega)) (hI _ _ (by unfold RowS Scr; omega)) (hI _ _ (by unfold RowS Scr; omega)) (fun k _ => hI _ _ (by unfold RowS Scr; omega)) (fun k _ => hJ _ _ (by unfold RowS Scr; omega)) (fun k _ _ => hI _ _ (by unfold RowS Scr; omega)) (fun k _ _ => hI _ _ (by unfold RowS Scr; omega)) h
  refine ⟨⟨A, L, F, W, a0, RX_cg a0.1 (fun c k h1 h2 => hI c k (by unfold RowS Scr; omega)) (fun c k h1 h2 => hJ c k (by unfold RowS Scr; omega)) b0, RCon_cg (fun c k h1 h2 _ => hI c k (by unfold RowS Scr; omega)) c0, RM_cg (fun k _ => hI _ _ (by unfold RowS Scr; omega)) (fun k _ => hJ _ _ (by unfold RowS Scr; omega)) (fun k _ => hI _ _ (by unfold RowS Scr; omega)) (fun k _ => hI _ _ (by unfold RowS Scr; omega)) d0⟩, im 0 (by omega) b, im 1 (by omega) c, RCon_cg (fun c k _ _ _ => hI c k (by unfold RowS Scr; omega)) d, RCon_cg (fun c k _ _ _ => hI c k (by unfold RowS Scr; omega)) e, fun k h1 h2 => ?_, ⟨n, g1, ?_, ?_, fun k hk => ?_⟩, ?_, hn⟩
  · rw [hI _ _ (by unfold RowS Scr; omega), hI _ _ (by unfold RowS Scr; omega)]; exact f k h1 h2
  · rw [hI _ _ (by unfold RowS Scr; omega)]; exact g2
  · rw [hI _ _ (by unfold RowS Scr; omega)]; exact g3
  · rw [hI _ _ (by unfold RowS Scr; omega), hI _ _ (by unfold RowS Scr; omega)]; exact g4 k hk
  · unfold RFlt
    rw [hI 189 2 (by unfold RowS Scr; omega), hI 205 19 (by unfold RowS Scr; omega), hI 205 20 (by unfold RowS Scr; omega), hI 189 3 (by unfold RowS Scr; omega)]
    exact i
/-- what a call changes of row r -/
def RowP (r c k : Nat) : Prop := Scr c k ∨ ((c = 186 ∨ c = 187 ∨ c = 221 ∨ c = 222) ∧ k = r) ∨ ((c = 188 ∨ c = 223) ∧ 60 * r ≤ k ∧ k < 60 * r + 60)
theorem rowP_s {r : Nat} : ∀ c k, RowP r c k → RowS c k := fun c k q => by
  rcases q with q | q | q
  · exact .inl q
  · exact .inr (by omega)
  · exact .inr (by omega)
theorem RRow_up {w w' : jWd} (h : RRow w) {r m s : Nat} (hm : m ≤ 60) (hs : s ≤ 3) (f : frP (RowP r) w w') (e1 : wI w' 186 r = nI m) (e2 : wI w' 187 r = nI s) (e3 : wI w' 221 r = nI s) (e4 : wI w' 222 r = nI m) (e5 : ∀ k, k < m → wJ w' 188 (60 * r + k) = wJ w' 223 (60 * r + k)) : RRow w' := by
  intro j hj
  by_cases e : j = r
  · subst e
    exact .inr ⟨m, s, hm, hs, e1, e2, e3, e4, e5⟩
  · rw [frP_I f (show ¬ RowP r 186 j by unfold RowP Scr; omega), frP_I f (show ¬ RowP r 187 j by unfold RowP Scr; omega), frP_I f (show ¬ RowP r 221 j by unfold RowP Scr; omega), frP_I f (show ¬ RowP r 222 j by unfold RowP Scr; omega)]
    rcases h j hj with q | ⟨n, s, q1, q2, q3, q4, q5, q6, q7⟩
    · exact .inl q
    · exact .inr ⟨n, s, q1, q2, q3, q4, q5, q6, fun k hk => by rw [frP_J f (show ¬ RowP r 188 (60 * j + k) by unfold RowP Scr; omega), frP_J f (show ¬ RowP r 223 (60 * j + k) by unfold RowP Scr; omega)]; exact q7 k hk⟩
theorem cb_N {k : Nat} (h : k < 4) : fX7_canBe (nI k) = 1 := by
  unfold fX7_canBe
  rw [if_neg (nI_pos (by omega)), if_neg (show ¬ (4 : Int32) ≤ nI k from nI_ge (b := 4) h (by decide))]
theorem cb_cs (x : Int32) : (fX7_canBe x = 0 ∧ fX12_within x.toInt64 0 3 = 0) ∨ ∃ k : Nat, k < 4 ∧ x = nI k ∧ ¬ fX7_canBe (nI k) = 0 ∧ ¬ fX12_within (nI k).toInt64 0 3 = 0 := by
  rcases wi_cs x 0 3 (a := 0) (b := 3) rfl rfl (by decide) (by decide) with ⟨h1, h2⟩ | ⟨k, -, hk, rfl, h1, h2⟩
  · refine .inl ⟨?_, h2⟩
    unfold fX7_canBe
    rcases ev_i32 x with q | ⟨k, hk, rfl⟩
    · rw [if_pos q]
    · rw [if_neg (nI_pos hk)]
      by_cases q : k < 4
      · exact absurd (wi_of (lo := 0) (hi := 3) (Nat.zero_le k) (by omega) (by decide)) ((wi_X _ _ _).mp h1)
      · rw [if_pos (show (4 : Int32) ≤ nI k from nI_le (a := 4) (by omega) hk)]
  · exact .inr ⟨k, by omega, rfl, by rw [cb_N (by omega)]; decide, h2⟩
theorem zl_X {n r : Nat} (hr : r < 4) : ∀ c i f (w : jWd), i + c = 60 → c < f → (∀ j, j < i → wJ w 188 (60 * r + j) = 0) → ∃ w', lJ7_fill_bad5a_10 n 188 (nI (60 * r + 60)) (0 : Int64) f (nI (60 * r + i)) w = some w' ∧ (∀ j, j < 60 → wJ w' 188 (60 * r + j) = 0) ∧ frP (fun c k => c = 188 ∧ 60 * r ≤ k ∧ k < 60 * r + 60) w w' := by
  have l8 : ln 188 = 240 := rfl
  intro c
  induction c with
  | zero =>
    intro i f w hi hf h
    obtain ⟨f, rfl⟩ : ∃ g, f = g + 1 := ⟨f - 1, by omega⟩
    refine ⟨w, ?_, fun j hj => h j (by omega), frP_refl _ _⟩
    show bJ7_fill_bad5a_10 n 188 (nI (60 * r + 60)) (0 : Int64) _ (nI (60 * r + i)) w = _
    unfold bJ7_fill_bad5a_10
    rw [if_pos (nI_le (by omega) (by omega))]
  | succ c ih =>
    intro i f w hi hf h
    obtain ⟨f, rfl⟩ : ∃ g, f = g + 1 := ⟨f - 1, by omega⟩
    obtain ⟨w', e1, e2, e3⟩ := ih (i + 1) f (sJ w 188 (60 * r + i) 0) (by omega) (by omega) (fun j hj => by
      by_cases e : j = i
      · subst e; rw [ev_wJs]
      · rw [ev_wJn _ (by omega), h j (by omega)])
    refine ⟨w', ?_, e2, frP_trans (frP_sJ w _ ⟨rfl, by omega, by omega⟩) e3⟩
    show bJ7_fill_bad5a_10 n 188 (nI (60 * r + 60)) (0 : Int64) (lJ7_fill_bad5a_10 n 188 (nI (60 * r + 60)) (0 : Int64) f) (nI (60 * r + i)) w = _
    unfold bJ7_fill_bad5a_10 letV
    rw [if_neg (nI_ge (by omega) (by omega)), l8, grd_N (by omega) (by omega), nI_clamp (by omega), nI_1]
    exact e1
theorem zl_M {n r m : Nat} (hr : r < 4) (hm : m ≤ 60) : ∀ c i f (w : jWd), i + c = m → c < f → (∀ j, j < i → wJ w 223 (60 * r + j) = 0) → ∃ w', lX12_row_72 n (nI r) (nI m) f (nI i) w = some ((0 : Int32), w') ∧ (∀ j, j < m → wJ w' 223 (60 * r + j) = 0) ∧ frP (fun c k => c = 223 ∧ 60 * r ≤ k ∧ k < 60 * r + 60) w w' := by
  have l8 : ln 223 = 240 := rfl
  intro c
  induction c with
  | zero =>
    intro i f w hi hf h
    obtain ⟨f, rfl⟩ : ∃ g, f = g + 1 := ⟨f - 1, by omega⟩
    refine ⟨w, ?_, fun j hj => h j (by omega), frP_refl _ _⟩
    show bX12_row_72 n (nI r) (nI m) _ (nI i) w = _
    unfold bX12_row_72
    rw [if_pos (nI_le (by omega) (by omega))]
  | succ c ih =>
    intro i f w hi hf h
    obtain ⟨f, rfl⟩ : ∃ g, f = g + 1 := ⟨f - 1, by omega⟩
    have e : (60 : Int32) * nI r + nI i = nI (60 * r + i) := by rw [show (60 : Int32) = nI 60 from rfl, ev_mul, nI_add]
    obtain ⟨w', e1, e2, e3⟩ := ih (i + 1) f (sJ w 223 (60 * r + i) 0) (by omega) (by omega) (fun j hj => by
      by_cases e : j = i
      · subst e; rw [ev_wJs]
      · rw [ev_wJn _ (by omega), h j (by omega)])
    refine ⟨w', ?_, e2, frP_trans (frP_sJ w _ ⟨rfl, by omega, by omega⟩) e3⟩
    show bX12_row_72 n (nI r) (nI m) (lX12_row_72 n (nI r) (nI m) f) (nI i) w = _
    unfold bX12_row_72 letV
    rw [if_neg (nI_ge (by omega) (by omega)), e, l8, grd_N (by omega) (by omega), nI_clamp (by omega), nI_1]
    exact e1
theorem lay_X {n r s m : Nat} (hn : 60 < n) (hr : r < 4) (hm : m ≤ 60) (w : jWd) : ∃ w', fX7_lay n (nI r) (nI s) (nI m) w = some w' ∧ wI w' 186 r = nI m ∧ wI w' 187 r = nI s ∧ (∀ j, j < 60 → wJ w' 188 (60 * r + j) = 0) ∧ frP (RowP r) w w' := by
  have l6 : ln 186 = 4 := rfl
  have l7 : ln 187 = 4 := rfl
  have l8 : ln 188 = 240 := rfl
  have ea : nI r * (60 : Int32) = nI (60 * r) := by rw [show (60 : Int32) = nI 60 from rfl, ev_mul, Nat.mul_comm]
  have eb : nI (60 * r) + (60 : Int32) = nI (60 * r + 60) := nI_add _ 60
  obtain ⟨w', e1, e2, e3⟩ := zl_X (n := n) hr 60 0 n (sI (sI w 187 r (nI s)) 186 r (nI m)) (by omega) hn (fun j hj => absurd hj (Nat.not_lt_zero j))
  have f1 : frP (RowP r) w (sI (sI w 187 r (nI s)) 186 r (nI m)) := frP_trans (frP_sI _ _ (by unfold RowP; omega)) (frP_sI _ _ (by unfold RowP; omega))
  have f2 : frP (RowP r) (sI (sI w 187 r (nI s)) 186 r (nI m)) w' := frP_mono (fun c k q => by unfold RowP; omega) e3
  refine ⟨w', ?_, ?_, ?_, e2, frP_trans f1 f2⟩
  · unfold fX7_lay letV
    dsimp only
    rw [cb_N hr, if_neg (by decide), if_neg (nI_pos (by omega)), if_pos (show nI m ≤ (60 : Int32) from nI_le (b := 60) hm (by decide)), l7, grd_N hr (by decide), l6, grd_N hr (by decide), nI_clamp (by omega), ea, eb]
    unfold fJ7_fill_bad5a fJ7_rangeCheck_23922
    rw [l8, if_pos (nI_le (by omega) (by omega)), if_pos (show (0 : Int32) ≤ nI (60 * r) from nI_pos' (by omega)), if_pos (show nI (60 * r + 60) ≤ Int32.ofNat 240 from nI_le (b := 240) (by omega) (by decide)), ev_bO]
    exact (congrArg (fun x => bO x (fun (w_8 : jWd) => some w_8)) e1).trans rfl
  · rw [frP_I e3 (by omega)]
    exact ev_wIs _ _ _ _
  · rw [frP_I e3 (by omega), ev_wIn _ (by omega)]
    exact ev_wIs _ _ _ _
theorem s_row_n {n : Nat} (hn : 60 < n) (w : jWd) (a0 a1 a2 : Int32) (hw : RR w) : ∃ (v : Int32) (w1 w2 : jWd), fX11_row n a0 a1 a2 w = some (v, w1) ∧ fX12_row n a0 a1 a2 w1 = some (v, w2) ∧ RR w2 := by
  have l1 : ln 221 = 4 := rfl
  have l2 : ln 222 = 4 := rfl
  have bad2 : (fX7_canBe a0 = 0 ∧ fX12_within a0.toInt64 0 3 = 0) ∨ (fX11_within a1.toInt64 0 3 = 0 ∧ fX12_within a1.toInt64 0 3 = 0) → ∃ (v : Int32) (w1 w2 : jWd), fX11_row n a0 a1 a2 w = some (v, w1) ∧ fX12_row n a0 a1 a2 w1 = some (v, w2) ∧ RR w2 := by
    intro hb
    refine rr_call hw (.inr ⟨-2, 2, by decide, by decide, ⟨w, ?_, frP_refl _ _⟩, fun w1 f1 => ⟨sI w1 205 0 (0 : Int32), ?_, frS_0 w1⟩⟩)
    · unfold fX11_row letV
      dsimp only
      rw [rx_id2]
      rcases hb with hb | hb
      · rw [if_pos hb.1]
      · rw [if_pos hb.1]
        split <;> rfl
    · unfold fX12_row letV
      dsimp only
      rw [no_id2]
      rcases hb with hb | hb
      · rw [if_pos hb.2]
      · rw [if_pos hb.2]
        split <;> rfl
  rcases cb_cs a0 with hb | ⟨r, hr, rfl, c1, c2⟩
  · exact bad2 (.inl hb)
  rcases wi_cs a1 0 3 (a := 0) (b := 3) rfl rfl (by decide) (by decide) with hb | ⟨s, -, hs, rfl, h1, h2⟩
  · exact bad2 (.inr hb)
  rcases wi_cs a2 0 60 (a := 0) (b := 60) rfl rfl (by decide) (by decide) with ⟨h3, h4⟩ | ⟨m, -, hm, rfl, h3, h4⟩
  · refine rr_call hw (.inr ⟨-3, 3, by decide, by decide, ⟨w, ?_, frP_refl _ _⟩, fun w1 f1 => ⟨sI w1 205 0 (0 : Int32), ?_, frS_0 w1⟩⟩)
    · unfold fX11_row letV
      dsimp only
      rw [if_neg c1, if_neg h1, if_pos h3, rx_id3]
    · unfold fX12_row letV
      dsimp only
      rw [if_neg c2, if_neg h2, if_pos h4, no_id3]
  · obtain ⟨U1, e1, e2, e3, e4, e5⟩ := lay_X (s := s) hn hr hm w
    obtain ⟨U2, d1, d2, d3⟩ := zl_M (n := n) hr hm m 0 n (sI (sI (sI U1 205 0 (0 : Int32)) 221 r (nI s)) 222 r (nI m)) (by omega) (by omega) (fun j hj => absurd hj (Nat.not_lt_zero j))
    have f0 : frP (RowP r) U1 (sI (sI (sI U1 205 0 (0 : Int32)) 221 r (nI s)) 222 r (nI m)) := frP_trans (frP_trans (frP_sI _ _ (by unfold RowP Scr; omega)) (frP_sI _ _ (by unfold RowP; omega))) (frP_sI _ _ (by unfold RowP; omega))
    have f2 : frP (RowP r) (sI (sI (sI U1 205 0 (0 : Int32)) 221 r (nI s)) 222 r (nI m)) U2 := frP_mono (fun c k q => by unfold RowP; omega) d3
    have f3 : frP (RowP r) w U2 := frP_trans e5 (frP_trans f0 f2)
    refine ⟨0, U1, U2, ?_, ?_, rr_row (frP_mono rowP_s f3) hw (RRow_up hw.2.2.2.2.2.2.2.2 hm hs f3 ?_ ?_ ?_ ?_ (fun k hk => ?_))⟩
    · unfold fX11_row letV
      dsimp only
      rw [if_neg c1, if_neg h1, if_neg h3, e1]
      rfl
    · unfold fX12_row letV
      dsimp only
      rw [if_neg c2, if_neg h2, if_neg h4, l1, grd_N hr (by decide), l2, grd_N hr (by decide), nI_clamp (by omega)]
      exact d1
    · rw [frP_I d3 (by omega), ev_wIn _ (by omega), ev_wIn _ (by omega), ev_wIn _ (by omega)]
      exact e2
    · rw [frP_I d3 (by omega), ev_wIn _ (by omega), ev_wIn _ (by omega), ev_wIn _ (by omega)]
      exact e3
    · rw [frP_I d3 (by omega), ev_wIn _ (by omega)]
      exact ev_wIs _ _ _ _
    · rw [frP_I d3 (by omega)]
      exact ev_wIs _ _ _ _
    · rw [d2 k hk, frP_J d3 (by omega), wJ_sI, wJ_sI, wJ_sI]
      exact e4 k (by omega)
theorem s_row : fS_row RR := fun w a0 a1 a2 hw => ⟨20000, s_row_n (by decide) w a0 a1 a2 hw⟩
theorem cut_XM (x : Int64) (k : Int32) : fX12_cut x k = fX7_cut k x := rfl
theorem rx_l6 (u : jWd) : bO2 (fX11_refuse (-6 : Int32) u) (fun (r : Int32) (v : jWd) => some ((r).toInt64, v)) = some ((-6 : Int64), rfX u 6) := by rw [rf_X6]; rfl
theorem rx_l7 (u : jWd) : bO2 (fX11_refuse (-7 : Int32) u) (fun (r : Int32) (v : jWd) => some ((r).toInt64, v)) = some ((-7 : Int64), rfX u 7) := by rw [rf_X7]; rfl
theorem no_l6 (u : jWd) : bO2 (fX12_no (-6 : Int32) u) (fun (r : Int32) (v : jWd) => some ((r).toInt64, v)) = some ((-6 : Int64), rfM u 6) := by rw [rf_M6]; rfl
theorem no_l7 (u : jWd) : bO2 (fX12_no (-7 : Int32) u) (fun (r : Int32) (v : jWd) => some ((r).toInt64, v)) = some ((-7 : Int64), rfM u 7) := by rw [rf_M7]; rfl
theorem ne_m1 {m : Nat} (h : m < 2147483648) : ¬ nI m = (-1 : Int32) := fun z => absurd (show nI m < 0 by rw [z]; exact ev_m1) (nI_pos h)
theorem s_write : fS_write RR := by
  intro w a0 a1 a2 hw
  have l1 : ln 221 = 4 := rfl
  have l2 : ln 222 = 4 := rfl
  have l3 : ln 223 = 240 := rfl
  have l6 : ln 186 = 4 := rfl
  have l7 : ln 187 = 4 := rfl
  have l8 : ln 188 = 240 := rfl
  have hR := hw.2.2.2.2.2.2.2.2
  have hM : ∀ w1, frS2 w w1 → ∀ c k, (c = 221 ∨ c = 222) → wI (sI w1 205 0 (0 : Int32)) c k = wI w c k := fun w1 f1 c k hc => by rw [ev_wIn _ (by omega), frP_I f1 (by unfold Scr2 Scr; omega)]
  rcases cb_cs a0 with ⟨c1, c2⟩ | ⟨r, hr, rfl, c1, c2⟩
  · refine rr_call hw (.inr ⟨-2, 2, by decide, by decide, ⟨w, ?_, frP_refl _ _⟩, fun w1 f1 => ⟨sI w1 205 0 (0 : Int32), ?_, frS_0 w1⟩⟩)
    · unfold fX11_write
      rw [if_pos c1, rx_l2]
    · unfold fX12_write letV
      dsimp only
      rw [if_pos c2, no_l2]
  rcases hR r hr with ⟨q1, q2⟩ | ⟨m, s, hm, hs, q1, q2, q3, q4, q5⟩
  · refine rr_call hw (.inr ⟨-6, 6, by decide, by decide, ⟨w, ?_, frP_refl _ _⟩, fun w1 f1 => ⟨sI w1 205 0 (0 : Int32), ?_, frS_0 w1⟩⟩)
    · unfold fX11_write
      rw [if_neg c1, l6, grd_N hr (by decide), nI_clamp (by omega), q1, if_pos rfl, rx_l6]
    · unfold fX12_write letV
      dsimp only
      rw [if_neg c2, l1, grd_N hr (by decide), nI_clamp (by omega), hM w1 f1 _ _ (.inl rfl), q2, if_pos rfl, no_l6]
  rcases ix_cs a1 m with ⟨i, hi, rfl⟩ | hn
  · have eX : nI r * (60 : Int32) + nI i = nI (60 * r + i) := by rw [show (60 : Int32) = nI 60 from rfl, ev_mul, nI_add, Nat.mul_comm]
    have eM : (60 : Int32) * nI r + nI i = nI (60 * r + i) := by rw [show (60 : Int32) = nI 60 from rfl, ev_mul, nI_add]
    have y2 := wi_yes hi (show m < 2147483648 by omega)
    have y1 : ¬ fX11_within (nI i).toInt64 0 ((nI m - (1 : Int32)).toInt64) = 0 := y2
    obtain ⟨v, hv⟩ : ∃ v, v = fX7_cut (nI s) a2 := ⟨_, rfl⟩
    have p1 : wI (sI (sJ w 188 (60 * r + i) v) 205 0 (0 : Int32)) 221 r = nI s := by rw [ev_wIn _ (by omega), wI_sJ]; exact q3
    have p2 : wI (sI (sJ w 188 (60 * r + i) v) 205 0 (0 : Int32)) 222 r = nI m := by rw [ev_wIn _ (by omega), wI_sJ]; exact q4
    have f1 : frP (RowP r) w (sJ (sI (sJ w 188 (60 * r + i) v) 205 0 (0 : Int32)) 223 (60 * r + i) v) := frP_trans (frP_trans (frP_sJ _ _ (by unfold RowP; omega)) (frP_sI _ _ (by unfold RowP Scr; omega))) (frP_sJ _ _ (by unfold RowP; omega))
    refine ⟨v, sJ w 188 (60 * r + i) v, sJ (sI (sJ w 188 (60 * r + i) v) 205 0 (0 : Int32)) 223 (60 * r + i) v, ?_, ?_, rr_row (frP_mono rowP_s f1) hw (RRow_up hR hm hs f1 ?_ ?_ ?_ ?_ (fun k hk => ?_))⟩
    · unfold fX11_write
      rw [if_neg c1, l6, grd_N hr (by decide), nI_clamp (by omega), q1, if_neg (ne_m1 (by omega)), grd_N hr (by decide), if_neg y1]
      unfold fX7_put letV
      dsimp only
      rw [if_neg c1, if_neg (nI_pos (by omega)), l6, grd_N hr (by decide), nI_clamp (by omega), q1, if_pos (nI_lt hi (by omega)), l7, grd_N hr (by decide), eX, l8, grd_N (by omega) (by decide), nI_clamp (by omega), q2, ← hv]
      rfl
    · unfold fX12_write letV
      dsimp only
      rw [if_neg c2, l1, grd_N hr (by decide), nI_clamp (by omega), p1, if_neg (ne_m1 (by omega)), l2, grd_N hr (by decide), p2, if_neg y2, grd_N hr (by decide), eM, l3, grd_N (by omega) (by decide), grd_N (by omega) (by decide), nI_clamp (by omega), ev_wJs, cut_XM, ← hv]
    · rw [wI_sJ, ev_wIn _ (by omega), wI_sJ]; exact q1
    · rw [wI_sJ, ev_wIn _ (by omega), wI_sJ]; exact q2
    · rw [wI_sJ]; exact p1
    · rw [wI_sJ]; exact p2
    · rw [ev_wJn _ (by omega), wJ_sI]
      by_cases e : k = i
      · subst e
        rw [ev_wJs, ev_wJs]
      · rw [ev_wJn _ (by omega), ev_wJn _ (by omega), wJ_sI, ev_wJn _ (by omega)]
        exact q5 k hk
  · have y2 := wi_no hn (show m < 2147483648 by omega)
    have y1 : fX11_within a1.toInt64 0 ((nI m - (1 : Int32)).toInt64) = 0 := y2
    refine rr_call hw (.inr ⟨-7, 7, by decide, by decide, ⟨w, ?_, frP_refl _ _⟩, fun w1 f1 => ⟨sI w1 205 0 (0 : Int32), ?_, frS_0 w1⟩⟩)
    · unfold fX11_write
      rw [if_neg c1, l6, grd_N hr (by decide), nI_clamp (by omega), q1, if_neg (ne_m1 (by omega)), grd_N hr (by decide), if_pos y1, rx_l7]
    · unfold fX12_write letV
      dsimp only
      rw [if_neg c2, l1, grd_N hr (by decide), nI_clamp (by omega), hM w1 f1 _ _ (.inl rfl), q3, if_neg (ne_m1 (by omega)), l2, grd_N hr (by decide), hM w1 f1 _ _ (.inr rfl), q4, if_pos y2, no_l7]
