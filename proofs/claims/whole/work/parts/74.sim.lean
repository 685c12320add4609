/-! the simple calls: like, fault, status, count, smoothed, words, which -/
theorem rr_ref : jRef RR := by
  intro w k hw h1 h2
  obtain ⟨v, w1, w2, e1, e2, e3⟩ := rr_call (fx := some ((0 : Int32), rfX w k)) (fm := fun w1 => some ((0 : Int32), rfM (sI w1 205 0 (0 : Int32)) k)) hw (.inr ⟨0, k, h1, h2, ⟨w, rfl, frP_refl _ _⟩, fun w1 _ => ⟨sI w1 205 0 (0 : Int32), rfl, frS_0 w1⟩⟩)
  cases e1
  cases e2
  exact e3
theorem rr_scr : jScr Scr RR := fun _ _ hf hw => RR_fr (frP_of hf) hw
theorem rr_like : fS_like RR := s_like rr_ref rr_scr (fun k => by unfold Scr; omega) (by unfold Scr; omega)
theorem rr_fault : fS_fault RR := s_fault rr_scr (by unfold Scr; omega) (fun w hw => hw.2.2.2.2.2.2.2.1)
theorem s_status : fS_status RR := by
  intro w a0 hw
  have l4 : ln 204 = 8 := rfl
  have l6 : ln 206 = 8 := rfl
  have hf := RR_fr (frS_0 w) hw
  rcases wi_cs a0 1 7 (a := 1) (b := 7) rfl rfl (by decide) (by decide) with ⟨h1, h2⟩ | ⟨k, hk1, hk, rfl, h1, h2⟩
  · refine ⟨-1, w, sI w 205 0 (0 : Int32), ⟨?_, rfl⟩, ?_, hf⟩
    · unfold fX11_status
      rw [if_pos h1]
    · unfold fX12_status letV
      dsimp only
      rw [if_pos h2]
  · refine ⟨wI w 204 k, w, sI w 205 0 (0 : Int32), ⟨?_, rfl⟩, ?_, hf⟩
    · unfold fX11_status
      rw [if_neg h1, l4, grd_N (by omega) (by decide), nI_clamp (by omega)]
    · unfold fX12_status letV
      dsimp only
      rw [if_neg h2, l6, grd_N (by omega) (by decide), nI_clamp (by omega), ev_wIn _ (by omega), hw.2.2.2.2.2.1 k hk1 hk]
def swv (a : Int32) (f : Nat → Int32) : Int32 := if a = (0 : Int32) then f 0 else if a = (1 : Int32) then f 1 else if a = (2 : Int32) then f 2 else if a = (3 : Int32) then f 3 else if a = (4 : Int32) then f 4 else if a = (5 : Int32) then f 5 else if a = (6 : Int32) then f 6 else if a = (7 : Int32) then f 7 else if a = (8 : Int32) then f 8 else if a = (9 : Int32) then f 9 else if a = (10 : Int32) then f 10 else if a = (11 : Int32) then f 11 else if a = (12 : Int32) then f 12 else -1
theorem sw_X (a : Int32) (f : Nat → Int32) : (if a = (0 : Int32) then some (f 0) else if a = (1 : Int32) then some (f 1) else if a = (2 : Int32) then some (f 2) else if a = (3 : Int32) then some (f 3) else if a = (4 : Int32) then some (f 4) else if a = (5 : Int32) then some (f 5) else if a = (6 : Int32) then some (f 6) else if a = (7 : Int32) then some (f 7) else if a = (8 : Int32) then some (f 8) else if a = (9 : Int32) then some (f 9) else if a = (10 : Int32) then some (f 10) else if a = (11 : Int32) then some (f 11) else if a = (12 : Int32) then some (f 12) else some (-1 : Int32)) = some (swv a f) := by
  unfold swv
  by_cases h0 : a = (0 : Int32)
  · rw [if_pos h0, if_pos h0]
  rw [if_neg h0, if_neg h0]
  by_cases h1 : a = (1 : Int32)
  · rw [if_pos h1, if_pos h1]
  rw [if_neg h1, if_neg h1]
  by_cases h2 : a = (2 : Int32)
  · rw [if_pos h2, if_pos h2]
  rw [if_neg h2, if_neg h2]
  by_cases h3 : a = (3 : Int32)
  · rw [if_pos h3, if_pos h3]
  rw [if_neg h3, if_neg h3]
  by_cases h4 : a = (4 : Int32)
  · rw [if_pos h4, if_pos h4]
  rw [if_neg h4, if_neg h4]
  by_cases h5 : a = (5 : Int32)
  · rw [if_pos h5, if_pos h5]
  rw [if_neg h5, if_neg h5]
  by_cases h6 : a = (6 : Int32)
  · rw [if_pos h6, if_pos h6]
  rw [if_neg h6, if_neg h6]
  by_cases h7 : a = (7 : Int32)
  · rw [if_pos h7, if_pos h7]
  rw [if_neg h7, if_neg h7]
  by_cases h8 : a = (8 : Int32)
  · rw [if_pos h8, if_pos h8]
  rw [if_neg h8, if_neg h8]
  by_cases h9 : a = (9 : Int32)
  · rw [if_pos h9, if_pos h9]
  rw [if_neg h9, if_neg h9]
  by_cases h10 : a = (10 : Int32)
  · rw [if_pos h10, if_pos h10]
  rw [if_neg h10, if_neg h10]
  by_cases h11 : a = (11 : Int32)
  · rw [if_pos h11, if_pos h11]
  rw [if_neg h11, if_neg h11]
  by_cases h12 : a = (12 : Int32)
  · rw [if_pos h12, if_pos h12]
  rw [if_neg h12, if_neg h12]

theorem sw_M (a : Int32) (f : Nat → Int32) (w : jWd) : (if a = (0 : Int32) then some (f 0, w) else if a = (1 : Int32) then some (f 1, w) else if a = (2 : Int32) then some (f 2, w) else if a = (3 : Int32) then some (f 3, w) else if a = (4 : Int32) then some (f 4, w) else if a = (5 : Int32) then some (f 5, w) else if a = (6 : Int32) then some (f 6, w) else if a = (7 : Int32) then some (f 7, w) else if a = (8 : Int32) then some (f 8, w) else if a = (9 : Int32) then some (f 9, w) else if a = (10 : Int32) then some (f 10, w) else if a = (11 : Int32) then some (f 11, w) else if a = (12 : Int32) then some (f 12, w) else some ((-1 : Int32), w)) = some (swv a f, w) := by
  unfold swv
  by_cases h0 : a = (0 : Int32)
  · rw [if_pos h0, if_pos h0]
  rw [if_neg h0, if_neg h0]
  by_cases h1 : a = (1 : Int32)
  · rw [if_pos h1, if_pos h1]
  rw [if_neg h1, if_neg h1]
  by_cases h2 : a = (2 : Int32)
  · rw [if_pos h2, if_pos h2]
  rw [if_neg h2, if_neg h2]
  by_cases h3 : a = (3 : Int32)
  · rw [if_pos h3, if_pos h3]
  rw [if_neg h3, if_neg h3]
  by_cases h4 : a = (4 : Int32)
  · rw [if_pos h4, if_pos h4]
  rw [if_neg h4, if_neg h4]
  by_cases h5 : a = (5 : Int32)
  · rw [if_pos h5, if_pos h5]
  rw [if_neg h5, if_neg h5]
  by_cases h6 : a = (6 : Int32)
  · rw [if_pos h6, if_pos h6]
  rw [if_neg h6, if_neg h6]
  by_cases h7 : a = (7 : Int32)
  · rw [if_pos h7, if_pos h7]
  rw [if_neg h7, if_neg h7]
  by_cases h8 : a = (8 : Int32)
  · rw [if_pos h8, if_pos h8]
  rw [if_neg h8, if_neg h8]
  by_cases h9 : a = (9 : Int32)
  · rw [if_pos h9, if_pos h9]
  rw [if_neg h9, if_neg h9]
  by_cases h10 : a = (10 : Int32)
  · rw [if_pos h10, if_pos h10]
  rw [if_neg h10, if_neg h10]
  by_cases h11 : a = (11 : Int32)
  · rw [if_pos h11, if_pos h11]
  rw [if_neg h11, if_neg h11]
  by_cases h12 : a = (12 : Int32)
  · rw [if_pos h12, if_pos h12]
  rw [if_neg h12, if_neg h12]

theorem swv_no {a : Int32} (f : Nat → Int32) (h : ∀ k, k ≤ 12 → a ≠ nI k) : swv a f = -1 := by
  unfold swv
  rw [if_neg (show ¬ a = (0 : Int32) from h 0 (by decide)), if_neg (show ¬ a = (1 : Int32) from h 1 (by decide)), if_neg (show ¬ a = (2 : Int32) from h 2 (by decide)), if_neg (show ¬ a = (3 : Int32) from h 3 (by decide)), if_neg (show ¬ a = (4 : Int32) from h 4 (by decide)), if_neg (show ¬ a = (5 : Int32) from h 5 (by decide)), if_neg (show ¬ a = (6 : Int32) from h 6 (by decide)), if_neg (show ¬ a = (7 : Int32) from h 7 (by decide)), if_neg (show ¬ a = (8 : Int32) from h 8 (by decide)), if_neg (show ¬ a = (9 : Int32) from h 9 (by decide)), if_neg (show ¬ a = (10 : Int32) from h 10 (by decide)), if_neg (show ¬ a = (11 : Int32) from h 11 (by decide)), if_neg (show ¬ a = (12 : Int32) from h 12 (by decide))]
theorem win_M (k lo m : Nat) (hk : k < 2147483648) (hl : lo + m < 2147483648) (h0 : 1 ≤ lo) {x : Int64} (hx : x = lN (lo - 1 + m)) : (fX12_within (nI k).toInt64 (lN lo) x = 0) ↔ ¬ (lo ≤ k ∧ k < lo + m) := by
  subst hx
  rw [wi_XM, wi_X, nI_l (by omega)]
  refine not_congr (and_congr ?_ ?_)
  · exact pk_lLE (by omega) (by omega)
  · exact (pk_lLE (by omega) (by omega)).trans (by omega)
theorem wneg_M {x : Int32} (h : x < 0) (lo : Nat) (hl : lo < 2147483648) (y : Int64) : fX12_within x.toInt64 (lN lo) y = 0 := of_eq_true (ev_negM h hl y)
theorem s_count : fS_count RR := by
  intro w a0 hw
  obtain ⟨⟨A, L, F, W, h⟩, -, -, -, -, -, ⟨tn, t1, t2, t3, t4⟩, -⟩ := id hw
  have h40 := h.1.1.2.1
  have h12 := h.1.1.2.2.2.2.1
  have h0 := RN_fr (frS_0 w) h
  have hf := RR_fr (frS_0 w) hw
  have l7 : ln 207 = 3372 := rfl
  have l6 : ln (2 + 4) = 40 := rfl
  have l13 : ln (9 + 4) = 12 := rfl
  have e99 : (99 : Int32) + nI (A 0) = nI (99 + A 0) := nI_add 99 _
  have e199 : (199 : Int32) + nI (A 223) = nI (199 + A 223) := nI_add 199 _
  -- the switch
  obtain ⟨f, hfx⟩ : ∃ f : Nat → Int32, f = fun k => if k = 0 then nI (A 0) else if k = 1 then nI (A 223) else if k = 2 then nI (A 162) else if k = 3 then nI (A 547) else if k = 4 then nI (A 506) else if k = 5 then nI (A 848) else if k = 6 then nI (A 889) else if k = 7 then nI (A 970) else if k = 8 then nI (A 987) else if k = 9 then nI (F 0) else if k = 10 then nI (W 0) else if k = 11 then nI tn else nI (A 161) := ⟨_, rfl⟩
  have swX : (if a0 = (0 : Int32) then some (wI w 2 2) else if a0 = (1 : Int32) then some (wI w 9 2) else if a0 = (2 : Int32) then some (wI w 20 0) else if a0 = (3 : Int32) then some (wI w 41 0) else if a0 = (4 : Int32) then some (wI w 23 2) else if a0 = (5 : Int32) then some (wI w 48 0) else if a0 = (6 : Int32) then some (wI w 48 1) else if a0 = (7 : Int32) then some (wI w 48 2) else if a0 = (8 : Int32) then some (wI w 55 0) else if a0 = (9 : Int32) then some (wI w 32 0) else if a0 = (10 : Int32) then some (wI w 39 0) else if a0 = (11 : Int32) then some (wI w 0 8) else if a0 = (12 : Int32) then some (wI w 19 0) else some (-1 : Int32)) = some (swv a0 f) := by
    obtain ⟨r1, r2, r3, r4, r5, r6, r7, r8, r9, r10, r11⟩ := h.2.1
    rw [show wI w 2 2 = f 0 from r1.1.trans (by rw [hfx]; rfl), show wI w 9 2 = f 1 from r2.1.trans (by rw [hfx]; rfl), show wI w 20 0 = f 2 from r3.2.1.trans (by rw [hfx]; rfl), show wI w 41 0 = f 3 from r8.1.trans (by rw [hfx]; rfl), show wI w 23 2 = f 4 from r4.1.trans (by rw [hfx]; rfl), show wI w 48 0 = f 5 from r9.1.trans (by rw [hfx]; rfl), show wI w 48 1 = f 6 from r9.2.1.trans (by rw [hfx]; rfl), show wI w 48 2 = f 7 from r9.2.2.1.trans (by rw [hfx]; rfl), show wI w 55 0 = f 8 from r10.1.trans (by rw [hfx]; rfl), show wI w 32 0 = f 9 from r6.1.trans (by rw [hfx]; rfl), show wI w 39 0 = f 10 from r7.1.trans (by rw [hfx]; rfl), show wI w 0 8 = f 11 from t2.trans (by rw [hfx]; rfl), show wI w 19 0 = f 12 from r3.1.trans (by rw [hfx]; rfl)]
    exact sw_X a0 f
  have swM : (if a0 = (0 : Int32) then some ((wI (sI w 205 0 (0 : Int32)) 207 0), (sI w 205 0 (0 : Int32))) else if a0 = (1 : Int32) then some ((wI (sI w 205 0 (0 : Int32)) 207 223), (sI w 205 0 (0 : Int32))) else if a0 = (2 : Int32) then some ((wI (sI w 205 0 (0 : Int32)) 207 162), (sI w 205 0 (0 : Int32))) else if a0 = (3 : Int32) then some ((wI (sI w 205 0 (0 : Int32)) 207 547), (sI w 205 0 (0 : Int32))) else if a0 = (4 : Int32) then some ((wI (sI w 205 0 (0 : Int32)) 207 506), (sI w 205 0 (0 : Int32))) else if a0 = (5 : Int32) then some ((wI (sI w 205 0 (0 : Int32)) 207 848), (sI w 205 0 (0 : Int32))) else if a0 = (6 : Int32) then some ((wI (sI w 205 0 (0 : Int32)) 207 889), (sI w 205 0 (0 : Int32))) else if a0 = (7 : Int32) then some ((wI (sI w 205 0 (0 : Int32)) 207 970), (sI w 205 0 (0 : Int32))) else if a0 = (8 : Int32) then some ((wI (sI w 205 0 (0 : Int32)) 207 987), (sI w 205 0 (0 : Int32))) else if a0 = (9 : Int32) then some ((wI (sI w 205 0 (0 : Int32)) 211 0), (sI w 205 0 (0 : Int32))) else if a0 = (10 : Int32) then some ((wI (sI w 205 0 (0 : Int32)) 212 0), (sI w 205 0 (0 : Int32))) else if a0 = (11 : Int32) then some ((wI (sI w 205 0 (0 : Int32)) 205 9), (sI w 205 0 (0 : Int32))) else if a0 = (12 : Int32) then some ((wI (sI w 205 0 (0 : Int32)) 207 161), (sI w 205 0 (0 : Int32))) else some ((-1 : Int32), (sI w 205 0 (0 : Int32)))) = some (swv a0 f, (sI w 205 0 (0 : Int32))) := by
    have q9 : wI (sI w 205 0 (0 : Int32)) 205 9 = nI tn := by rw [ev_wIn _ (by omega), t3]
    rw [show wI (sI w 205 0 (0 : Int32)) 207 0 = f 0 from (RN_A h0 (show 0 < 1124 by decide)).trans (by rw [hfx]; rfl), show wI (sI w 205 0 (0 : Int32)) 207 223 = f 1 from (RN_A h0 (show 223 < 1124 by decide)).trans (by rw [hfx]; rfl), show wI (sI w 205 0 (0 : Int32)) 207 162 = f 2 from (RN_A h0 (show 162 < 1124 by decide)).trans (by rw [hfx]; rfl), show wI (sI w 205 0 (0 : Int32)) 207 547 = f 3 from (RN_A h0 (show 547 < 1124 by decide)).trans (by rw [hfx]; rfl), show wI (sI w 205 0 (0 : Int32)) 207 506 = f 4 from (RN_A h0 (show 506 < 1124 by decide)).trans (by rw [hfx]; rfl), show wI (sI w 205 0 (0 : Int32)) 207 848 = f 5 from (RN_A h0 (show 848 < 1124 by decide)).trans (by rw [hfx]; rfl), show wI (sI w 205 0 (0 : Int32)) 207 889 = f 6 from (RN_A h0 (show 889 < 1124 by decide)).trans (by rw [hfx]; rfl), show wI (sI w 205 0 (0 : Int32)) 207 970 = f 7 from (RN_A h0 (show 970 < 1124 by decide)).trans (by rw [hfx]; rfl), show wI (sI w 205 0 (0 : Int32)) 207 987 = f 8 from (RN_A h0 (show 987 < 1124 by decide)).trans (by rw [hfx]; rfl), show wI (sI w 205 0 (0 : Int32)) 211 0 = f 9 from (RN_F h0 0 (by decide)).trans (by rw [hfx]; rfl), show wI (sI w 205 0 (0 : Int32)) 212 0 = f 10 from (RN_W h0 (show 0 < 29 by decide)).trans (by rw [hfx]; rfl), show wI (sI w 205 0 (0 : Int32)) 205 9 = f 11 from (q9).trans (by rw [hfx]; rfl), show wI (sI w 205 0 (0 : Int32)) 207 161 = f 12 from (RN_A h0 (show 161 < 1124 by decide)).trans (by rw [hfx]; rfl)]
    exact sw_M a0 f _
  have hn : ∀ k, 100 ≤ k → k < 2147483648 → swv (nI k) f = -1 := fun k h1 h2 => swv_no f (fun j hj e => by
    have := (nI_eq (by omega) (by omega)).mp e
    omega)
  suffices hs : ∃ v, fX11_count a0 w = some v ∧ fX12_count a0 w = some (v, sI w 205 0 (0 : Int32)) by
    obtain ⟨v, v1, v2⟩ := hs
    exact ⟨v, w, _, ⟨v1, rfl⟩, v2, hf⟩
  unfold fX11_count fX12_count letV
  dsimp only
  rw [swX, swM, RN_A h0 (show 0 < 1124 by decide), RN_A h0 (show 223 < 1124 by decide), e99, e199, l7]
  rcases ev_i32 a0 with q | ⟨k, hk, rfl⟩
  · refine ⟨swv a0 f, ?_, ?_⟩
    · rw [if_pos (show fX11_within a0.toInt64 (100 : Int64) 199 = 0 from wneg_M q 100 (by decide) _), if_pos (Int32.lt_trans q (by decide))]
    · rw [if_pos (show fX12_within a0.toInt64 (100 : Int64) (nI (99 + A 0)).toInt64 = 0 from wneg_M q 100 (by decide) _), if_pos (show fX12_within a0.toInt64 (200 : Int64) (nI (199 + A 223)).toInt64 = 0 from wneg_M q 200 (by decide) _)]
  · have w1 : fX11_within (nI k).toInt64 (100 : Int64) (199 : Int64) = 0 ↔ ¬ (100 ≤ k ∧ k < 100 + 100) := win_M k 100 100 hk (by decide) (by decide) rfl
    have w2 : fX12_within (nI k).toInt64 (100 : Int64) ((nI (99 + A 0)).toInt64) = 0 ↔ ¬ (100 ≤ k ∧ k < 100 + A 0) := win_M k 100 (A 0) hk (by omega) (by decide) (nI_l (by omega))
    have w3 : fX12_within (nI k).toInt64 (200 : Int64) ((nI (199 + A 223)).toInt64) = 0 ↔ ¬ (200 ≤ k ∧ k < 200 + A 223) := win_M k 200 (A 223) hk (by omega) (by decide) (nI_l (by omega))
    by_cases c1 : k < 100
    · refine ⟨swv (nI k) f, ?_, ?_⟩
      · rw [if_pos (w1.mpr (by omega)), if_pos (show nI k < (200 : Int32) from nI_lt (b := 200) (by omega) (by decide))]
      · rw [if_pos (w2.mpr (by omega)), if_pos (w3.mpr (by omega))]
    by_cases c2 : k < 200
    · have es : nI k - (100 : Int32) = nI (k - 100) := ev_sub (b := 100) (by omega)
      rw [if_neg (fun z => w1.mp z ⟨by omega, by omega⟩), es]
      unfold fX11_linesOf
      rw [has_N (m := A 0) (by omega) (by omega) h.2.1.1.1, ev_bI]
      by_cases c3 : k - 100 < A 0
      · have e6 : wI w (2 + 4) (k - 100) = nI (A (121 + (k - 100))) := (h.2.1.1.2 _ c3).2.2.1
        refine ⟨nI (A (121 + (k - 100))), ?_, ?_⟩
        · rw [if_pos c3, l6, grd_N (by omega) (by decide), nI_clamp (by omega), e6]
          rfl
        · rw [if_neg (fun z => w2.mp z ⟨by omega, by omega⟩), show (121 : Int32) + nI k = nI (121 + k) from nI_add 121 k, show nI (121 + k) - (100 : Int32) = nI (121 + (k - 100)) by rw [show (100 : Int32) = nI 100 from rfl, ev_sub (by omega), show 121 + k - 100 = 121 + (k - 100) by omega], grd_N (by omega) (by decide), nI_clamp (by omega), RN_A h0 (show 121 + (k - 100) < 1124 by omega)]
      · refine ⟨-1, ?_, ?_⟩
        · rw [if_neg c3]
          rfl
        · rw [if_pos (w2.mpr (by omega)), if_pos (w3.mpr (by omega)), hn k (by omega) hk]
    · have es : nI k - (200 : Int32) = nI (k - 200) := ev_sub (b := 200) (by omega)
      rw [if_pos (w1.mpr (by omega)), if_neg (show ¬ nI k < (200 : Int32) from nI_nlt (b := 200) (by omega) (by omega)), es]
      unfold fX11_linesOf
      rw [has_N (m := A 223) (by omega) (by omega) h.2.1.2.1.1, ev_bI, if_pos (w2.mpr (by omega))]
      by_cases c3 : k - 200 < A 223
      · have e6 : wI w (9 + 4) (k - 200) = nI (A (236 + (k - 200))) := (h.2.1.2.1.2 _ c3).2.1
        refine ⟨nI (A (236 + (k - 200))), ?_, ?_⟩
        · rw [if_pos c3, l13, grd_N (by omega) (by decide), nI_clamp (by omega), e6]
          rfl
        · rw [if_neg (fun z => w3.mp z ⟨by omega, by omega⟩), show (236 : Int32) + nI k = nI (236 + k) from nI_add 236 k, show nI (236 + k) - (200 : Int32) = nI (236 + (k - 200)) by rw [show (200 : Int32) = nI 200 from rfl, ev_sub (by omega), show 236 + k - 200 = 236 + (k - 200) by omega], grd_N (by omega) (by decide), nI_clamp (by omega), RN_A h0 (show 236 + (k - 200) < 1124 by omega)]
      · refine ⟨-1, ?_, ?_⟩
        · rw [if_neg c3]
          rfl
        · rw [if_pos (w3.mpr (by omega)), hn k (by omega) hk]
theorem s_smoothed : fS_smoothed RR := by
  intro w a0 a1 hw
  obtain ⟨⟨A, L, F, W, h⟩, -⟩ := id hw
  have hM := rd_M h
  have hL := lnB_le a0
  refine ⟨20000, rr_call hw ?_⟩
  have e0 : lg_cmp (cln a0) (0 : Int64) = 0 ↔ lnB a0 = 0 := (l0_iff _).trans cln_0
  have bad : (lnB a0 = 0 ∨ fX11_within a1.toInt64 0 9 = 0) → noX (fX11_smoothed 20000 a0 a1 w) w (-3) 3 ∧ ∀ w1, frS2 w w1 → noM (fX12_smoothed 20000 a0 a1 w1) w1 (-3) 3 := by
    intro hb
    refine ⟨⟨w, ?_, frP_refl _ _⟩, fun w1 f1 => ⟨sI w1 205 0 (0 : Int32), ?_, frS_0 w1⟩⟩
    · unfold fX11_smoothed letV
      rw [cln_X (by decide)]
      dsimp only [bO]
      rw [rx_l3]
      by_cases z : lnB a0 = 0
      · rw [if_pos (e0.mpr z)]
      · rw [if_neg (fun y => z (e0.mp y)), if_pos (hb.resolve_left z)]
    · unfold fX12_smoothed letV
      rw [len_M (by decide)]
      dsimp only [bO]
      rw [no_l3]
      by_cases z : lnB a0 = 0
      · rw [if_pos (by rw [z]; rfl)]
      · rw [if_neg (fun y => z ((nI_z (by omega)).mp y)), if_pos (show fX12_within a1.toInt64 0 9 = 0 from hb.resolve_left z)]
  by_cases z : lnB a0 = 0
  · exact .inr ⟨-3, 3, by decide, by decide, bad (.inl z)⟩
  rcases wi_cs a1 0 9 (a := 0) (b := 9) rfl rfl (by decide) (by decide) with ⟨h1, h2⟩ | ⟨t, _, ht, rfl, h1, h2⟩
  · exact .inr ⟨-3, 3, by decide, by decide, bad (.inr h1)⟩
  · refine .inl ⟨smS F t (cln a0), ⟨w, ?_, frP_refl _ _⟩, fun w1 f1 => ?_⟩
    · unfold fX11_smoothed letV
      rw [cln_X (by decide)]
      dsimp only [bO]
      rw [if_neg (fun y => z (e0.mp y)), if_neg h1, sm_X (by decide) (by omega) h.2.1.2.2.2.2.2.1 h.1.2.2.2.1 (isC_cln a0)]
    · obtain ⟨w2, e1, e2⟩ := sm_M (n := 20000) (by decide) h.1.2.2.2.1 (t := t) (by omega) a0 (RN_F (hM w1 f1))
      refine ⟨w2, ?_, frP_trans (frS_0 w1) (frP_mono (fun c k q => psl_s c k (.inl q)) e2)⟩
      unfold fX12_smoothed letV
      rw [len_M (by decide)]
      dsimp only [bO]
      rw [if_neg (fun y => z ((nI_z (by omega)).mp y)), if_neg h2, e1]
      rfl
section VRS
variable {A : Nat → Nat} {L : Nat → Int64} {F W : Nat → Nat} {w : jWd}
theorem RN_20 (h : RN A L F W w) : A 506 ≤ 20 := h.1.1.2.2.2.2.2.2.2.1
theorem vh_yes (h : RN A L F W w) {v u : Nat} (hv : v < A 506) (hu : u ≤ 1) : fX5_has_ 23 (nI v) (nI u) w = some (bI true) := by
  have h20 := RN_20 h
  have l4 : ln (23 + 4) = 20 := rfl
  have e4 : wI w (23 + 4) v = nI 2 := (h.2.1.2.2.2.1.2 v hv).2.2.1
  unfold fX5_has_
  rw [has_yes hv (by omega) h.2.1.2.2.2.1.1, if_neg (by decide), if_neg (nI_pos (by omega)), l4, grd_N (by omega) (by decide), nI_clamp (by omega), e4, if_neg (nI_ge (by omega) (by decide))]
  rfl
theorem vh_no (h : RN A L F W w) {x : Int32} (hx : ∀ k, k < A 506 → x ≠ nI k) (y : Int32) : fX5_has_ 23 x y w = some (bI false) := by
  have h20 := RN_20 h
  unfold fX5_has_
  rw [has_no hx (by omega) h.2.1.2.2.2.1.1]
  rfl
theorem vrs_at (h : RN A L F W w) {v u : Nat} (hv : v < A 506) (hu : u ≤ 1) : fX5_at 23 (nI v) (nI u) w = some (L (684 + 20 * u + v)) := by
  have h20 := RN_20 h
  have l6 : ln (23 + 6) = 40 := rfl
  obtain ⟨-, -, -, q1, q2⟩ := h.2.1.2.2.2.1.2 v hv
  have e1 : wI w 23 1 = nI 2 := h.2.2.1.2.2.2.2.2.2.2.2
  unfold fX5_at
  rw [vh_yes h hv hu]
  dsimp only [bO]
  rw [if_neg (by decide), e1, ev_mul, nI_add, l6, grd_N (by omega) (by decide), nI_clamp (by omega)]
  rcases (show u = 0 ∨ u = 1 by omega) with e | e <;> subst e
  · rw [show v * 2 + 0 = 2 * v by omega]
    exact congrArg some q1
  · rw [show v * 2 + 1 = 2 * v + 1 by omega, show 684 + 20 * 1 + v = 704 + v by omega]
    exact congrArg some q2
/-- a word whose year is above a day -/
def ywS (A : Nat → Nat) (x : Int64) (d : Nat) : Nat → Nat → Bool
  | 0, _ => false
  | c + 1, i => if A (250 + bt x i) ≤ d then ywS A x d c (i + 1) else true
theorem yw_X {n : Nat} (hn : 20 < n) (h : RN A L F W w) {x : Int64} {d : Nat} (hd : d ≤ 9999) : ∀ c i f, i + c = lnB x → c < f → lX8_hasWordAfter_3 n 1 x (nI d) w f (nI i) = some (bI (ywS A x d c i)) := by
  have hL := lnB_le x
  have l30 : ln (1 + 30) = 256 := rfl
  intro c
  induction c with
  | zero =>
    intro i f hi hf
    obtain ⟨f, rfl⟩ : ∃ g, f = g + 1 := ⟨f - 1, by omega⟩
    show bX8_hasWordAfter_3 n 1 x (nI d) w _ (nI i) = _
    unfold bX8_hasWordAfter_3
    rw [len_X (by omega)]
    dsimp only [bO]
    rw [if_pos (nI_le (by omega) (by omega))]
    rfl
  | succ c ih =>
    intro i f hi hf
    obtain ⟨f, rfl⟩ : ∃ g, f = g + 1 := ⟨f - 1, by omega⟩
    have hb := bt_lt x i
    have hA := RN_9 h (250 + bt x i)
    have ey : wI w (1 + 30) (bt x i) = nI (A (250 + bt x i)) := h.2.1.2.2.2.2.1 _ hb
    show bX8_hasWordAfter_3 n 1 x (nI d) w (lX8_hasWordAfter_3 n 1 x (nI d) w f) (nI i) = _
    unfold bX8_hasWordAfter_3 ywS
    rw [len_X (by omega)]
    dsimp only [bO, letV]
    rw [if_neg (nI_ge (by omega) (by omega)), word_X x (by omega), l30, grd_N hb (by decide), nI_clamp (by omega), ey, nI_1]
    by_cases q : A (250 + bt x i) ≤ d
    · rw [if_pos (nI_le q (by omega)), if_pos q]
      exact ih (i + 1) f (by omega) (by omega)
    · rw [if_neg (nI_ge (by omega) (by omega)), if_neg q]
      rfl
theorem yw_M {n : Nat} (hn : 20 < n) (h : RN A L F W w) {v : Nat} (hv : v < 20) {x : Int64} (p4 : Int64) (K : Option (Int32 × jWd)) : ∀ c i f, i + c = lnB x → c < f → lX12_which_58 n (nI v) x p4 K w f (nI i) = if ywS A x (A (507 + v)) c i = true then some ((1 : Int32), w) else K := by
  have hL := lnB_le x
  have l7 : ln 207 = 3372 := rfl
  intro c
  induction c with
  | zero =>
    intro i f hi hf
    obtain ⟨f, rfl⟩ : ∃ g, f = g + 1 := ⟨f - 1, by omega⟩
    show bX12_which_58 n (nI v) x p4 K w _ (nI i) = _
    unfold bX12_which_58
    rw [len_M (by omega)]
    dsimp only [bO]
    rw [if_pos (nI_le (by omega) (by omega))]
    rfl
  | succ c ih =>
    intro i f hi hf
    obtain ⟨f, rfl⟩ : ∃ g, f = g + 1 := ⟨f - 1, by omega⟩
    have hb := bt_lt x i
    have hA := RN_9 h (250 + bt x i)
    have hD := RN_9 h (507 + v)
    show bX12_which_58 n (nI v) x p4 K w (lX12_which_58 n (nI v) x p4 K w f) (nI i) = _
    unfold bX12_which_58 ywS
    rw [len_M (by omega)]
    dsimp only [bO, letV]
    rw [if_neg (nI_ge (by omega) (by omega)), word_M x (by omega), show (250 : Int32) + nI (bt x i) = nI (250 + bt x i) from nI_add 250 _, show (507 : Int32) + nI v = nI (507 + v) from nI_add 507 v, l7, grd_N (by omega) (by decide), grd_N (by omega) (by decide), nI_clamp (by omega), nI_clamp (by omega), RN_A h (show 250 + bt x i < 1124 by omega), RN_A h (show 507 + v < 1124 by omega), nI_1]
    by_cases q : A (250 + bt x i) ≤ A (507 + v)
    · rw [if_pos (nI_le q (by omega)), if_pos q]
      exact ih (i + 1) f (by omega) (by omega)
    · rw [if_neg (nI_ge (by omega) (by omega)), if_neg q, if_pos rfl]
end VRS
theorem s_which : fS_which RR := by
  intro w a0 hw
  obtain ⟨⟨A, L, F, W, h⟩, -⟩ := id hw
  have h20 := RN_20 h
  have hM := rd_M h
  have l7 : ln 207 = 3372 := rfl
  have l8 : ln 208 = 2352 := rfl
  have l24 : ln 24 = 20 := rfl
  have l26 : ln 26 = 20 := rfl
  refine ⟨20000, rr_call hw ?_⟩
  rcases ix_cs a0 (A 506) with ⟨v, hv, rfl⟩ | hn
  · have hd := RN_9 h (507 + v)
    have ht := RN_9 h (527 + v)
    obtain ⟨c1, c2⟩ := h.1.2.2.1.2.2.2.1 v hv
    obtain ⟨x1, x2, -⟩ := h.2.1.2.2.2.1.2 v hv
    have x1 : wI w 24 v = nI (A (527 + v)) := x1
    have x2 : wI w 26 v = nI (A (507 + v)) := x2
    have hL := lnB_le (L (684 + v))
    left
    refine ⟨if ywS A (L (684 + v)) (A (507 + v)) (lnB (L (684 + v))) 0 = true then 1 else if smS F (A (527 + v)) (L (684 + v)) = L (704 + v) then 0 else if smS F (A (527 + v)) (L (704 + v)) = L (684 + v) then 1 else 2, ⟨w, ?_, frP_refl _ _⟩, fun w1 f1 => ?_⟩
    · have a0' : fX5_at 23 (nI v) (0 : Int32) w = some (L (684 + v)) := vrs_at h hv (u := 0) (by decide)
      have a1' : fX5_at 23 (nI v) (1 : Int32) w = some (L (704 + v)) := vrs_at h hv (u := 1) (by decide)
      have hh : fX5_has_ 23 (nI v) (1 : Int32) w = some (bI true) := vh_yes h hv (u := 1) (by decide)
      have hy : fX8_hasWordAfter 20000 1 (L (684 + v)) (nI (A (507 + v))) w = some (bI (ywS A (L (684 + v)) (A (507 + v)) (lnB (L (684 + v))) 0)) := yw_X (by decide) h hd (lnB (L (684 + v))) 0 20000 (by omega) (by omega)
      unfold fX11_which
      rw [hh]
      dsimp only [bO]
      rw [if_neg (by decide), a0']
      dsimp only
      rw [a1']
      dsimp only [letV]
      rw [l24, l26, grd_N (by omega) (by decide), grd_N (by omega) (by decide), nI_clamp (by omega), x1, x2, hy]
      dsimp only
      rw [sm_X (by decide) (by omega) h.2.1.2.2.2.2.2.1 h.1.2.2.2.1 c1.1]
      dsimp only
      rw [sm_X (by decide) (by omega) h.2.1.2.2.2.2.2.1 h.1.2.2.2.1 c2.1]
      dsimp only
      simp only [lg_cmp_eq]
      cases ywS A (L (684 + v)) (A (507 + v)) (lnB (L (684 + v))) 0
      · rw [if_pos (show bI false = 0 by decide), if_neg (show ¬ false = true by decide)]
        by_cases q2 : smS F (A (527 + v)) (L (684 + v)) = L (704 + v)
        · rw [if_pos q2, if_pos q2]
        · rw [if_neg q2, if_neg q2]
          by_cases q3 : smS F (A (527 + v)) (L (704 + v)) = L (684 + v)
          · rw [if_pos q3, if_pos q3]
          · rw [if_neg q3, if_neg q3]
      · rw [if_neg (show ¬ bI true = 0 by decide), if_pos rfl]
    · have h1 := hM w1 f1
      obtain ⟨w2, e1, f2⟩ := sm_M (n := 20000) (by decide) h.1.2.2.2.1 (t := A (527 + v)) (by omega) (L (684 + v)) (RN_F h1)
      have s2 : frS (sI w1 205 0 (0 : Int32)) w2 := frP_mono (fun c k q => psl_s c k (.inl q)) f2
      have h2 := RN_fr s2 h1
      obtain ⟨w3, e2, f3⟩ := sm_M (n := 20000) (by decide) h.1.2.2.2.1 (t := A (527 + v)) (by omega) (L (704 + v)) (RN_F h2)
      have s3 : frS w2 w3 := frP_mono (fun c k q => psl_s c k (.inl q)) f3
      rw [cln_id c1.1] at e1
      rw [cln_id c2.1] at e2
      have main : fX12_which 20000 (nI v) w1 = if ywS A (L (684 + v)) (A (507 + v)) (lnB (L (684 + v))) 0 = true then some ((1 : Int32), (sI w1 205 0 (0 : Int32))) else if smS F (A (527 + v)) (L (684 + v)) = L (704 + v) then some ((0 : Int32), w2) else if smS F (A (527 + v)) (L (704 + v)) = L (684 + v) then some ((1 : Int32), w3) else some ((2 : Int32), w3) := by
        unfold fX12_which
        rw [ev_letV, RN_A h1 (show 506 < 1124 by decide), if_neg (wi_yes hv (by omega)), show (684 : Int32) + nI v = nI (684 + v) from nI_add 684 v, show (704 : Int32) + nI v = nI (704 + v) from nI_add 704 v, show (527 : Int32) + nI v = nI (527 + v) from nI_add 527 v, l8, l7, grd_N (by omega) (by decide), ev_letV, grd_N (by omega) (by decide), ev_letV, nI_clamp (by omega), nI_clamp (by omega), nI_clamp (by omega), RN_L h1 (show 684 + v < 784 by omega), RN_L h1 (show 704 + v < 784 by omega)]
        refine (yw_M (n := 20000) (by decide) h1 (v := v) (by omega) _ _ (lnB (L (684 + v))) 0 20000 (by omega) (by omega)).trans ?_
        rw [grd_N (by omega) (by decide), RN_A h1 (show 527 + v < 1124 by omega), e1]
        dsimp only [bO2]
        rw [grd_N (by omega) (by decide), RN_A h2 (show 527 + v < 1124 by omega), e2]
        dsimp only [bO2]
        simp only [lg_cmp_eq]
      have g1 := frS_0 w1
      by_cases q1 : ywS A (L (684 + v)) (A (507 + v)) (lnB (L (684 + v))) 0 = true
      · rw [if_pos q1] at main ⊢
        exact ⟨_, main, g1⟩
      · rw [if_neg q1] at main ⊢
        by_cases q2 : smS F (A (527 + v)) (L (684 + v)) = L (704 + v)
        · rw [if_pos q2] at main ⊢
          exact ⟨_, main, frP_trans g1 s2⟩
        · rw [if_neg q2] at main ⊢
          by_cases q3 : smS F (A (527 + v)) (L (704 + v)) = L (684 + v)
          · rw [if_pos q3] at main ⊢
            exact ⟨_, main, frP_trans g1 (frP_trans s2 s3)⟩
          · rw [if_neg q3] at main ⊢
            exact ⟨_, main, frP_trans g1 (frP_trans s2 s3)⟩
  · refine .inr ⟨-2, 2, by decide, by decide, ⟨w, ?_, frP_refl _ _⟩, fun w1 f1 => ⟨sI w1 205 0 (0 : Int32), ?_, frS_0 w1⟩⟩
    · unfold fX11_which
      rw [vh_no h hn]
      dsimp only [bO]
      rw [if_pos (by decide), rx_id2]
    · unfold fX12_which letV
      dsimp only
      rw [RN_A (hM w1 f1) (show 506 < 1124 by decide), if_pos (wi_no hn (by omega)), no_id2]
