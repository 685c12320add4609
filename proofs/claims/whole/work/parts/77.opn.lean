/-! open: a SONG or a BOOK more -/
theorem start_X {t m mx : Nat} {w : jWd} (h1 : wI w t 2 = nI m) (h0 : wI w t 0 = nI mx) (hm : m < mx) (hx : mx ≤ 100) (l1 : ln (t + 1) = mx) (l2 : ln (t + 2) = mx) (l3 : ln (t + 3) = mx) (l4 : ln (t + 4) = mx) (a b c : Int32) : fX5_start t a b c w = some (nI m, sI (sI (sI (sI (sI w (t + 1) m a) (t + 2) m b) (t + 3) m c) (t + 4) m (0 : Int32)) t 2 (nI (m + 1))) := by
  have hf : fX5_isFull t w = 0 := by
    unfold fX5_isFull
    rw [h1, h0, if_pos (nI_lt hm (by omega))]
  unfold fX5_start letV
  rw [if_pos hf, l1, l2, l3, l4]
  dsimp only
  simp (disch := omega) only [h1, ev_wIn, grd_N, nI_clamp, nI_1]
theorem full_X {t m mx : Nat} {w : jWd} (h1 : wI w t 2 = nI m) (h0 : wI w t 0 = nI mx) (hx : mx ≤ 100) (hm : m ≤ mx) : fX5_isFull t w = bI (decide (m = mx)) := by
  unfold fX5_isFull
  rw [h1, h0]
  by_cases e : m = mx
  · rw [if_neg (nI_nlt (by omega) (by omega)), decide_eq_true e]; rfl
  · rw [if_pos (nI_lt (by omega) (by omega)), decide_eq_false e]; rfl
theorem gd_cs (x y : Int32) : (fX11_isGlenAndDay x y = 0 ∧ (fX12_within x.toInt64 0 15 = 0 ∨ fX12_within y.toInt64 0 9999 = 0)) ∨ ∃ g d : Nat, g ≤ 15 ∧ d ≤ 9999 ∧ x = nI g ∧ y = nI d ∧ fX11_isGlenAndDay (nI g) (nI d) = 1 ∧ ¬ fX12_within (nI g).toInt64 0 15 = 0 ∧ ¬ fX12_within (nI d).toInt64 0 9999 = 0 := by
  rcases wi_cs x 0 15 (a := 0) (b := 15) rfl rfl (by decide) (by decide) with ⟨h1, h2⟩ | ⟨g, _, hg, rfl, h1, h2⟩
  · refine .inl ⟨?_, .inl h2⟩
    unfold fX11_isGlenAndDay
    rw [if_pos h1]
  · rcases wi_cs y 0 9999 (a := 0) (b := 9999) rfl rfl (by decide) (by decide) with ⟨h3, h4⟩ | ⟨d, _, hd, rfl, h3, h4⟩
    · refine .inl ⟨?_, .inr h4⟩
      unfold fX11_isGlenAndDay
      rw [if_neg h1, if_pos h3]
    · refine .inr ⟨g, d, hg, hd, rfl, rfl, ?_, h2, h4⟩
      unfold fX11_isGlenAndDay
      rw [if_neg h1, if_neg h3]
section OPN
variable {A : Nat → Nat} {L : Nat → Int64} {F W : Nat → Nat} {w : jWd}
def opA (A : Nat → Nat) (a g d : Nat) : Nat → Nat := uN (uN (uN (uN (uN A (1 + A 0) a) (41 + A 0) g) (81 + A 0) d) (121 + A 0) 0) 0 (A 0 + 1)
theorem opA_A (h : InA A) (h0 : A 0 < 40) {a g d : Nat} (ha : a ≤ 9) (hg : g ≤ 15) (hd : d ≤ 9999) : InA (opA A a g d) := by
  unfold opA
  have e1 := InA_up h (k := 1 + A 0) (v := a) (by unfold okA; omega)
  have e2 := InA_up e1 (k := 41 + A 0) (v := g) (by unfold okA; omega)
  have e3 := InA_up e2 (k := 81 + A 0) (v := d) (by unfold okA; omega)
  have e4 := InA_up e3 (k := 121 + A 0) (v := 0) (by unfold okA; omega)
  exact InA_up e4 (k := 0) (v := A 0 + 1) (by unfold okA; omega)
theorem opA_i (h0 : A 0 < 40) {a g d j : Nat} (hj : 161 ≤ j) : opA A a g d j = A j := by
  unfold opA
  simp (disch := omega) only [uN_ne]
theorem RN_open (h : RN A L F W w) (h0 : A 0 < 40) {a g d : Nat} (ha : a ≤ 9) (hg : g ≤ 15) (hd : d ≤ 9999) {w1 w2 : jWd} (e1 : w1 = sI (sI (sI (sI (sI w 3 (A 0) (nI a)) 4 (A 0) (nI g)) 5 (A 0) (nI d)) 6 (A 0) (0 : Int32)) 2 2 (nI (A 0 + 1))) (hM : RM (opA A a g d) L F W 0 w2) (hX : ∀ c k, 1 ≤ c → c ≤ 57 → wI w2 c k = wI w1 c k ∧ wJ w2 c k = wJ w1 c k) : RN (opA A a g d) L F W w2 := by
  obtain ⟨⟨i1, i2, i3, i4, i5⟩, x, c, m⟩ := h
  have hA := opA_A i1 h0 ha hg hd
  have lim := RN_lim i1
  have e0 : opA A a g d 0 = A 0 + 1 := uN_eq
  subst e1
  refine ⟨⟨hA, ?_, ?_, i4, i5⟩, ?_, ?_, hM⟩
  · obtain ⟨q1, q2, q3, q4, q5⟩ := i2
    refine ⟨fun i hi => ?_, fun i g hi hg => ?_, fun i hi => ?_, fun i hi => ?_, ?_⟩
    · rw [opA_i h0 (by omega)] at hi ⊢; exact q1 i hi
    · rw [opA_i h0 (by omega)] at hi ⊢; exact q2 i g hi hg
    · rw [opA_i h0 (by omega)] at hi ⊢; exact q3 i hi
    · rw [opA_i h0 (by omega)] at hi; rw [opA_i h0 (by omega), opA_i h0 (by omega)]; exact q4 i hi
    · rw [opA_i h0 (by omega)]; exact q5
  · obtain ⟨q1, q2, q3, q4, q5⟩ := i3
    refine ⟨fun i k hi hk => ?_, fun i k hi hk => ?_, fun p hp => ?_, fun v hv => ?_, fun i hi => ?_⟩
    · rw [e0] at hi
      by_cases e : i = A 0
      · subst e
        unfold opA at hk
        simp (disch := omega) only [uN_ne, uN_eq] at hk
        omega
      · unfold opA at hk
        simp (disch := omega) only [uN_ne] at hk
        exact q1 i k (by omega) hk
    · rw [opA_i h0 (by omega)] at hi hk; exact q2 i k hi hk
    · rw [opA_i h0 (by omega)] at hp; exact q3 p hp
    · rw [opA_i h0 (by omega)] at hv; exact q4 v hv
    · rw [opA_i h0 (by omega)] at hi; exact q5 i hi
  · refine RX_cg hA (fun c k h1 h2 => (hX c k h1 (by omega)).1) (fun c k h1 h2 => (hX c k h1 (by omega)).2) ?_
    refine RX_RSong i1 x (fun j hj => opA_i h0 (by omega)) (fun _ _ => rfl) (fun c j _ _ hc => by simp (disch := omega) only [ev_wIn]) (fun _ _ _ _ _ => rfl) ?_
    obtain ⟨s0, s1⟩ := x.1
    refine ⟨by rw [e0]; exact ev_wIs _ _ _ _, fun i hi => ?_⟩
    rw [e0] at hi
    by_cases e : i = A 0
    · subst e
      unfold opA
      simp (disch := omega) only [uN_ne, uN_eq, ev_wIn, ev_wIs]
      refine ⟨by first | trivial | rfl, by first | trivial | rfl, by first | trivial | rfl, fun k hk => by omega⟩
    · obtain ⟨t1, t2, t3, t4⟩ := s1 i (by omega)
      unfold opA
      simp (disch := omega) only [uN_ne, ev_wIn]
      exact ⟨t1, t2, t3, t4⟩
  · refine RCon_c (fun c j hc hj => ?_) c
    rw [(hX c j (by omega) (by omega)).1]
    simp (disch := omega) only [ev_wIn]
def opB (A : Nat → Nat) (a : Nat) : Nat → Nat := uN (uN (uN A (224 + A 223) a) (236 + A 223) 0) 223 (A 223 + 1)
theorem opB_A (h : InA A) (h0 : A 223 < 12) {a : Nat} (ha : a ≤ 5) : InA (opB A a) := by
  unfold opB
  have e1 := InA_up h (k := 224 + A 223) (v := a) (by unfold okA; omega)
  have e4 := InA_up e1 (k := 236 + A 223) (v := 0) (by unfold okA; omega)
  exact InA_up e4 (k := 223) (v := A 223 + 1) (by unfold okA; omega)
theorem opB_i (h0 : A 223 < 12) {a j : Nat} (hj : j < 223 ∨ 248 ≤ j) : opB A a j = A j := by
  unfold opB
  simp (disch := omega) only [uN_ne]
theorem RN_openB (h : RN A L F W w) (h0 : A 223 < 12) {a : Nat} (ha : a ≤ 5) {w1 w2 : jWd} (e1 : w1 = sI (sI (sI (sI (sI w 10 (A 223) (nI a)) 11 (A 223) (0 : Int32)) 12 (A 223) (0 : Int32)) 13 (A 223) (0 : Int32)) 9 2 (nI (A 223 + 1))) (hM : RM (opB A a) L F W 0 w2) (hX : ∀ c k, 1 ≤ c → c ≤ 57 → wI w2 c k = wI w1 c k ∧ wJ w2 c k = wJ w1 c k) : RN (opB A a) L F W w2 := by
  obtain ⟨⟨i1, i2, i3, i4, i5⟩, x, c, m⟩ := h
  have hA := opB_A i1 h0 ha
  have lim := RN_lim i1
  have e0 : opB A a 223 = A 223 + 1 := uN_eq
  have h40 := i1.2.1
  have h12 := i1.2.2.1
  subst e1
  refine ⟨⟨hA, ?_, ?_, i4, i5⟩, ?_, ?_, hM⟩
  · obtain ⟨q1, q2, q3, q4, q5⟩ := i2
    refine ⟨fun i hi => ?_, fun i g hi hg => ?_, fun i hi => ?_, fun i hi => ?_, ?_⟩
    · rw [opB_i h0 (by omega)] at hi ⊢; exact q1 i hi
    · rw [opB_i h0 (by omega)] at hi ⊢; exact q2 i g hi hg
    · rw [opB_i h0 (by omega)] at hi ⊢; exact q3 i hi
    · rw [opB_i h0 (by omega)] at hi; rw [opB_i h0 (by omega), opB_i h0 (by omega)]; exact q4 i hi
    · rw [opB_i h0 (by omega)]; exact q5
  · obtain ⟨q1, q2, q3, q4, q5⟩ := i3
    refine ⟨fun i k hi hk => ?_, fun i k hi hk => ?_, fun p hp => ?_, fun v hv => ?_, fun i hi => ?_⟩
    · rw [opB_i h0 (by omega)] at hi; rw [opB_i h0 (by omega)] at hk; exact q1 i k hi hk
    · rw [e0] at hi
      by_cases e : i = A 223
      · subst e
        unfold opB at hk
        simp (disch := omega) only [uN_ne, uN_eq] at hk
        omega
      · unfold opB at hk
        simp (disch := omega) only [uN_ne] at hk
        exact q2 i k (by omega) hk
    · rw [opB_i h0 (by omega)] at hp; exact q3 p hp
    · rw [opB_i h0 (by omega)] at hv; exact q4 v hv
    · rw [opB_i h0 (by omega)] at hi; exact q5 i hi
  · refine RX_cg hA (fun c k h1 h2 => (hX c k h1 (by omega)).1) (fun c k h1 h2 => (hX c k h1 (by omega)).2) ?_
    refine RX_RBook i1 x (fun j hj => opB_i h0 (by omega)) (fun _ _ => rfl) (fun c j _ _ hc => by simp (disch := omega) only [ev_wIn]) (fun _ _ _ _ _ => rfl) ?_
    obtain ⟨s0, s1⟩ := x.2.1
    refine ⟨by rw [e0]; exact ev_wIs _ _ _ _, fun i hi => ?_⟩
    rw [e0] at hi
    by_cases e : i = A 223
    · subst e
      unfold opB
      simp (disch := omega) only [uN_ne, uN_eq, ev_wIn, ev_wIs]
      refine ⟨by first | trivial | rfl, by first | trivial | rfl, fun k hk => by omega⟩
    · obtain ⟨t1, t2, t3⟩ := s1 i (by omega)
      unfold opB
      simp (disch := omega) only [uN_ne, ev_wIn]
      exact ⟨t1, t2, t3⟩
  · refine RCon_c (fun c j hc hj => ?_) c
    rw [(hX c j (by omega) (by omega)).1]
    simp (disch := omega) only [ev_wIn]
theorem opens_M {m : Nat} (h0 : wI w 207 0 = nI m) (hm : m < 40) (a g d : Int32) : fX12_opens a g d w = some (nI m, sI (sI (sI (sI (sI w 207 (1 + m) a) 207 (41 + m) g) 207 (81 + m) d) 207 (121 + m) (0 : Int32)) 207 0 (nI (m + 1))) := by
  have l7 : ln 207 = 3372 := rfl
  have e1 : (1 : Int32) + nI m = nI (1 + m) := nI_add 1 m
  have e2 : (41 : Int32) + nI m = nI (41 + m) := nI_add 41 m
  have e3 : (81 : Int32) + nI m = nI (81 + m) := nI_add 81 m
  have e4 : (121 : Int32) + nI m = nI (121 + m) := nI_add 121 m
  unfold fX12_opens letV
  dsimp only
  rw [h0, e1, e2, e3, e4, l7]
  simp (disch := omega) only [grd_N, nI_clamp, ev_wIn, h0, nI_1]
end OPN
theorem now_207 {w : jWd} (k : Nat) (v : Int32) (hk : k < 1124) : frP NowS w (sI w 207 k v) := frP_sI _ _ (by unfold NowS; omega)
theorem now_208 {w : jWd} (k : Nat) (v : Int64) (hk : k < 784) : frP NowS w (sJ w 208 k v) := frP_sJ _ _ (by unfold NowS; omega)
theorem now_X {w : jWd} (c k : Nat) (v : Int32) (h1 : 1 ≤ c) (h2 : c ≤ 57) : frP NowS w (sI w c k v) := frP_sI _ _ (by unfold NowS; omega)
theorem now_XJ {w : jWd} (c k : Nat) (v : Int64) (h1 : 1 ≤ c) (h2 : c ≤ 57) : frP NowS w (sJ w c k v) := frP_sJ _ _ (by unfold NowS; omega)
theorem now_0 (w : jWd) : frP NowS w (sI w 205 0 (0 : Int32)) := frP_mono now_s (frS_0 w)
theorem s_open : fS_open RR := by
  intro w a0 a1 a2 a3 hw
  obtain ⟨⟨A, L, F, W, h⟩, -⟩ := id hw
  have h40 := h.1.1.2.1
  have h12 := h.1.1.2.2.2.2.1
  have hM := rd_M h
  have l7 : ln 207 = 3372 := rfl
  rcases wi_cs a0 0 1 (a := 0) (b := 1) rfl rfl (by decide) (by decide) with ⟨h1, h2⟩ | ⟨k, _, hk, rfl, h1, h2⟩
  · have e : ∀ j : Nat, j ≤ 1 → ¬ a0 = nI j := fun j hj e => by
      subst e
      exact absurd h2 (w0_of (lo := 0) (hi := 1) (by omega) hj (by decide))
    refine rr_call hw (.inr ⟨-2, 2, by decide, by decide, ⟨w, ?_, frP_refl _ _⟩, fun w1 f1 => ⟨sI w1 205 0 (0 : Int32), ?_, frS_0 w1⟩⟩)
    · unfold fX11_open letV
      dsimp only
      rw [if_neg (show ¬ a0 = (0 : Int32) from e 0 (by decide)), if_neg (show ¬ a0 = (1 : Int32) from e 1 (by decide)), rx_id2]
    · unfold fX12_open letV
      dsimp only
      rw [if_pos h2, no_id2]
  rcases (show k = 0 ∨ k = 1 by omega) with e | e <;> subst e
  · have cX : fX11_open (nI 0) a1 a2 a3 w = (if (fX11_within (a1.toInt64) (0 : Int64) (9 : Int64)) = 0 then some ((-3 : Int32), rfX w 3) else if (fX11_isGlenAndDay a2 a3) = 0 then some ((-3 : Int32), rfX w 3) else if (fX5_isFull 2 w) = 0 then bO2 (fX5_start 2 a1 a2 a3 w) (fun (r_12 : Int32) (w_11 : jWd) => some (r_12, w_11)) else some ((-4 : Int32), rfX w 4)) := by
      unfold fX11_open letV
      dsimp only
      rw [if_pos (show nI 0 = (0 : Int32) from rfl), if_pos (show nI 0 = (0 : Int32) from rfl), if_pos (show nI 0 = (0 : Int32) from rfl), if_pos (show nI 0 = (0 : Int32) from rfl), rx_id3, rx_id4]
      rfl
    have cM : ∀ w1, RN A L F W (sI w1 205 0 (0 : Int32)) → fX12_open (nI 0) a1 a2 a3 w1 = (if (fX12_within (a1.toInt64) (0 : Int64) (9 : Int64)) = 0 then some ((-3 : Int32), rfM (sI w1 205 0 (0 : Int32)) 3) else if (fX12_within (a2.toInt64) (0 : Int64) (15 : Int64)) = 0 then some ((-3 : Int32), rfM (sI w1 205 0 (0 : Int32)) 3) else if (fX12_within (a3.toInt64) (0 : Int64) (9999 : Int64)) = 0 then some ((-3 : Int32), rfM (sI w1 205 0 (0 : Int32)) 3) else if nI (A 0) = (40 : Int32) then some ((-4 : Int32), rfM (sI w1 205 0 (0 : Int32)) 4) else bO2 (fX12_opens a1 a2 a3 (sI w1 205 0 (0 : Int32))) (fun (r_15 : Int32) (w_14 : jWd) => some (r_15, w_14))) := by
      intro w1 h1'
      unfold fX12_open letV
      dsimp only
      rw [if_neg h2, if_pos (show nI 0 = (0 : Int32) from rfl), if_pos (show nI 0 = (0 : Int32) from rfl), if_neg (show ¬ nI 0 = (1 : Int32) by decide), no_id3, no_id4, RN_A h1' (show 0 < 1124 by decide)]
    have bad3 : (fX12_within (a1.toInt64) (0 : Int64) (9 : Int64) = 0 ∨ (fX11_isGlenAndDay a2 a3 = 0 ∧ (fX12_within a2.toInt64 0 15 = 0 ∨ fX12_within a3.toInt64 0 9999 = 0))) → ∃ v w1 w2, fX11_open (nI 0) a1 a2 a3 w = some (v, w1) ∧ fX12_open (nI 0) a1 a2 a3 w1 = some (v, w2) ∧ RR w2 := by
      intro hb
      refine rr_call hw (.inr ⟨-3, 3, by decide, by decide, ⟨w, ?_, frP_refl _ _⟩, fun w1 f1 => ⟨sI w1 205 0 (0 : Int32), ?_, frS_0 w1⟩⟩)
      · rw [cX]
        by_cases z : fX12_within (a1.toInt64) (0 : Int64) (9 : Int64) = 0
        · rw [if_pos (show fX11_within (a1.toInt64) (0 : Int64) (9 : Int64) = 0 from z)]
        · rw [if_neg (show ¬ fX11_within (a1.toInt64) (0 : Int64) (9 : Int64) = 0 from z), if_pos (hb.resolve_left z).1]
      · rw [cM w1 (hM w1 f1)]
        by_cases z : fX12_within (a1.toInt64) (0 : Int64) (9 : Int64) = 0
        · rw [if_pos z]
        · rw [if_neg z]
          by_cases y : fX12_within a2.toInt64 0 15 = 0
          · rw [if_pos y]
          · rw [if_neg y, if_pos ((hb.resolve_left z).2.resolve_left y)]
    rcases wi_cs a1 0 9 (a := 0) (b := 9) rfl rfl (by decide) (by decide) with ⟨h3, h4⟩ | ⟨t, _, ht, rfl, h3, h4⟩
    · exact bad3 (.inl h4)
    rcases gd_cs a2 a3 with hh | ⟨g, d, hg, hd, rfl, rfl, q1, q2, q3⟩
    · exact bad3 (.inr hh)
    have hfull := full_X (t := 2) h.2.1.1.1 h.2.2.1.1 (by decide) h40
    by_cases hz : A 0 = 40
    · refine rr_call hw (.inr ⟨-4, 4, by decide, by decide, ⟨w, ?_, frP_refl _ _⟩, fun w1 f1 => ⟨sI w1 205 0 (0 : Int32), ?_, frS_0 w1⟩⟩)
      · rw [cX, if_neg h3, q1, if_neg (by decide), hfull, ev_bI, if_pos hz]
      · rw [cM w1 (hM w1 f1), if_neg h4, if_neg q2, if_neg q3, if_pos (by rw [hz]; rfl)]
    · have hlt : A 0 < 40 := by omega
      have e1 := start_X (t := 2) h.2.1.1.1 h.2.2.1.1 hlt (by decide) rfl rfl rfl rfl (nI t) (nI g) (nI d)
      have f1 : frP NowS w (sI (sI (sI (sI (sI w 3 (A 0) (nI t)) 4 (A 0) (nI g)) 5 (A 0) (nI d)) 6 (A 0) (0 : Int32)) 2 2 (nI (A 0 + 1))) := frP_trans (frP_trans (frP_trans (frP_trans (now_X _ _ _ (by decide) (by decide)) (now_X _ _ _ (by decide) (by decide))) (now_X _ _ _ (by decide) (by decide))) (now_X _ _ _ (by decide) (by decide))) (now_X _ _ _ (by decide) (by decide))
      have m1 : RM A L F W 0 (sI (sI (sI (sI (sI (sI w 3 (A 0) (nI t)) 4 (A 0) (nI g)) 5 (A 0) (nI d)) 6 (A 0) (0 : Int32)) 2 2 (nI (A 0 + 1))) 205 0 (0 : Int32)) := RM_I (RM_I (RM_I (RM_I (RM_I (RM_I h.2.2.2 _ (by omega)) _ (by omega)) _ (by omega)) _ (by omega)) _ (by omega)) _ (by omega)
      have h0' : wI (sI (sI (sI (sI (sI (sI w 3 (A 0) (nI t)) 4 (A 0) (nI g)) 5 (A 0) (nI d)) 6 (A 0) (0 : Int32)) 2 2 (nI (A 0 + 1))) 205 0 (0 : Int32)) 207 0 = nI (A 0) := by
        simp (disch := omega) only [ev_wIn]
        exact RN_A h (by decide)
      have e2 := opens_M h0' hlt (nI t) (nI g) (nI d)
      refine ⟨nI (A 0), (sI (sI (sI (sI (sI w 3 (A 0) (nI t)) 4 (A 0) (nI g)) 5 (A 0) (nI d)) 6 (A 0) (0 : Int32)) 2 2 (nI (A 0 + 1))), (sI (sI (sI (sI (sI (sI (sI (sI (sI (sI (sI w 3 (A 0) (nI t)) 4 (A 0) (nI g)) 5 (A 0) (nI d)) 6 (A 0) (0 : Int32)) 2 2 (nI (A 0 + 1))) 205 0 (0 : Int32)) 207 (1 + A 0) (nI t)) 207 (41 + A 0) (nI g)) 207 (81 + A 0) (nI d)) 207 (121 + A 0) (0 : Int32)) 207 0 (nI (A 0 + 1))), ?_, ?_⟩
      · rw [cX, if_neg h3, q1, if_neg (by decide), hfull, ev_bI, if_neg hz, e1]
        rfl
      · refine ⟨?_, ?_⟩
        · have c0 : wI (sI (sI (sI (sI (sI w 3 (A 0) (nI t)) 4 (A 0) (nI g)) 5 (A 0) (nI d)) 6 (A 0) (0 : Int32)) 2 2 (nI (A 0 + 1))) 207 0 = nI (A 0) := by
            simp (disch := omega) only [ev_wIn]
            exact RN_A h (by decide)
          unfold fX12_open letV
          dsimp only
          rw [if_neg h2, if_pos (show nI 0 = (0 : Int32) from rfl), if_neg h4, if_neg q2, if_neg q3, if_pos (show nI 0 = (0 : Int32) from rfl), h0', if_neg (show ¬ nI (A 0) = (40 : Int32) from fun z => hz ((nI_eq (b := 40) (by omega) (by decide)).mp z)), if_neg (show ¬ nI 0 = (1 : Int32) by decide), e2]
          rfl
        · refine rr_now (frP_trans (frP_trans (frP_trans (frP_trans (frP_trans (frP_trans f1 (now_0 _)) (now_207 _ _ (by omega))) (now_207 _ _ (by omega))) (now_207 _ _ (by omega))) (now_207 _ _ (by omega))) (now_207 _ _ (by omega))) hw ⟨opA A t g d, L, F, W, RN_open h hlt ht hg hd rfl (RM_A (RM_A (RM_A (RM_A (RM_A m1 t) g) d) 0) (A 0 + 1)) (fun c k q1 q2 => ⟨?_, rfl⟩)⟩
          simp (disch := omega) only [ev_wIn]
  · have cX : fX11_open (nI 1) a1 a2 a3 w = (if (fX11_within (a1.toInt64) (0 : Int64) (5 : Int64)) = 0 then some ((-3 : Int32), rfX w 3) else if (fX5_isFull 9 w) = 0 then bO2 (fX5_start 9 a1 (0 : Int32) (0 : Int32) w) (fun (r_12 : Int32) (w_11 : jWd) => some (r_12, w_11)) else some ((-4 : Int32), rfX w 4)) := by
      unfold fX11_open letV
      dsimp only
      rw [if_neg (show ¬ nI 1 = (0 : Int32) by decide), if_pos (show nI 1 = (1 : Int32) from rfl), if_neg (show ¬ nI 1 = (0 : Int32) by decide), if_neg (show ¬ nI 1 = (0 : Int32) by decide), if_neg (show ¬ nI 1 = (0 : Int32) by decide), rx_id3, rx_id4]
      rfl
    have cM : ∀ w1, wI (sI w1 205 0 (0 : Int32)) 207 223 = nI (A 223) → fX12_open (nI 1) a1 a2 a3 w1 = (if (fX12_within (a1.toInt64) (0 : Int64) (5 : Int64)) = 0 then some ((-3 : Int32), rfM (sI w1 205 0 (0 : Int32)) 3) else if nI (A 223) = (12 : Int32) then some ((-4 : Int32), rfM (sI w1 205 0 (0 : Int32)) 4) else some (nI (A 223), sI (sI (sI (sI w1 205 0 (0 : Int32)) 207 (224 + A 223) a1) 207 (236 + A 223) (0 : Int32)) 207 223 (nI (A 223 + 1)))) := by
      intro w1 h1'
      have e224 : (224 : Int32) + nI (A 223) = nI (224 + A 223) := nI_add 224 _
      have e236 : (236 : Int32) + nI (A 223) = nI (236 + A 223) := nI_add 236 _
      unfold fX12_open letV
      dsimp only
      rw [if_neg h2, if_neg (show ¬ nI 1 = (0 : Int32) by decide), if_neg (show ¬ nI 1 = (0 : Int32) by decide), if_pos (show nI 1 = (1 : Int32) from rfl), no_id3, no_id4, l7]
      simp (disch := omega) only [h1', e224, e236, grd_N, nI_clamp, ev_wIn, ev_wIs, nI_1, nI_pred]
    rcases wi_cs a1 0 5 (a := 0) (b := 5) rfl rfl (by decide) (by decide) with ⟨h3, h4⟩ | ⟨t, _, ht, rfl, h3, h4⟩
    · refine rr_call hw (.inr ⟨-3, 3, by decide, by decide, ⟨w, ?_, frP_refl _ _⟩, fun w1 f1 => ⟨sI w1 205 0 (0 : Int32), ?_, frS_0 w1⟩⟩)
      · rw [cX, if_pos h3]
      · rw [cM w1 (RN_A (hM w1 f1) (by decide)), if_pos h4]
    have hfull := full_X (t := 9) h.2.1.2.1.1 h.2.2.1.2.2.1 (by decide) h12
    by_cases hz : A 223 = 12
    · refine rr_call hw (.inr ⟨-4, 4, by decide, by decide, ⟨w, ?_, frP_refl _ _⟩, fun w1 f1 => ⟨sI w1 205 0 (0 : Int32), ?_, frS_0 w1⟩⟩)
      · rw [cX, if_neg h3, hfull, ev_bI, if_pos hz]
      · rw [cM w1 (RN_A (hM w1 f1) (by decide)), if_neg h4, if_pos (by rw [hz]; rfl)]
    · have hlt : A 223 < 12 := by omega
      have e1 := start_X (t := 9) h.2.1.2.1.1 h.2.2.1.2.2.1 hlt (by decide) rfl rfl rfl rfl (nI t) (0 : Int32) (0 : Int32)
      have f1 : frP NowS w (sI (sI (sI (sI (sI w 10 (A 223) (nI t)) 11 (A 223) (0 : Int32)) 12 (A 223) (0 : Int32)) 13 (A 223) (0 : Int32)) 9 2 (nI (A 223 + 1))) := frP_trans (frP_trans (frP_trans (frP_trans (now_X _ _ _ (by decide) (by decide)) (now_X _ _ _ (by decide) (by decide))) (now_X _ _ _ (by decide) (by decide))) (now_X _ _ _ (by decide) (by decide))) (now_X _ _ _ (by decide) (by decide))
      have m1 : RM A L F W 0 (sI (sI (sI (sI (sI (sI w 10 (A 223) (nI t)) 11 (A 223) (0 : Int32)) 12 (A 223) (0 : Int32)) 13 (A 223) (0 : Int32)) 9 2 (nI (A 223 + 1))) 205 0 (0 : Int32)) := RM_I (RM_I (RM_I (RM_I (RM_I (RM_I h.2.2.2 _ (by omega)) _ (by omega)) _ (by omega)) _ (by omega)) _ (by omega)) _ (by omega)
      have c0 : wI (sI (sI (sI (sI (sI (sI w 10 (A 223) (nI t)) 11 (A 223) (0 : Int32)) 12 (A 223) (0 : Int32)) 13 (A 223) (0 : Int32)) 9 2 (nI (A 223 + 1))) 205 0 (0 : Int32)) 207 223 = nI (A 223) := by
        simp (disch := omega) only [ev_wIn]
        exact RN_A h (by decide)
      refine ⟨nI (A 223), sI (sI (sI (sI (sI w 10 (A 223) (nI t)) 11 (A 223) (0 : Int32)) 12 (A 223) (0 : Int32)) 13 (A 223) (0 : Int32)) 9 2 (nI (A 223 + 1)), (sI (sI (sI (sI (sI (sI (sI (sI (sI w 10 (A 223) (nI t)) 11 (A 223) (0 : Int32)) 12 (A 223) (0 : Int32)) 13 (A 223) (0 : Int32)) 9 2 (nI (A 223 + 1))) 205 0 (0 : Int32)) 207 (224 + A 223) (nI t)) 207 (236 + A 223) (0 : Int32)) 207 223 (nI (A 223 + 1))), ?_, (cM _ c0).trans (by rw [if_neg h4, if_neg (show ¬ nI (A 223) = (12 : Int32) from fun z => hz ((nI_eq (b := 12) (by omega) (by decide)).mp z))]), ?_⟩
      · rw [cX, if_neg h3, hfull, ev_bI, if_neg hz, e1]
        rfl
      · refine rr_now (frP_trans (frP_trans (frP_trans (frP_trans f1 (now_0 _)) (now_207 _ _ (by omega))) (now_207 _ _ (by omega))) (now_207 _ _ (by omega))) hw ⟨opB A t, L, F, W, RN_openB h hlt ht rfl (RM_A (RM_A (RM_A m1 t) 0) (A 223 + 1)) (fun c k q1 q2 => ⟨?_, rfl⟩)⟩
        simp (disch := omega) only [ev_wIn]
