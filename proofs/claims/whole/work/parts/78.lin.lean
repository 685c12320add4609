/-! line: a LINE more of a SONG, a BOOK, THE PRINT -/
theorem put_X {t g m c e : Nat} {w : jWd} (h2 : wI w t 2 = nI m) (hg : g < m) (hm : m ≤ 100) (h1 : wI w t 1 = nI e) (h4 : wI w (t + 4) g = nI c) (hc : c < e) (he : e ≤ 100) (l4 : g < ln (t + 4)) (l5 : g * e + c < ln (t + 5)) (l6 : g * e + c < ln (t + 6)) (b4 : ln (t + 4) ≤ 1000) (b5 : ln (t + 5) ≤ 1000) (b6 : ln (t + 6) ≤ 1000) (a : Int32) (l : Int64) : fX5_put t (nI g) a l w = some (nI c, sI (sJ (sI w (t + 5) (g * e + c) a) (t + 6) (g * e + c) l) (t + 4) g (nI (c + 1))) := by
  have hf : fX5_isFull_ t (nI g) w = some 0 := by
    unfold fX5_isFull_
    rw [has_yes hg (by omega) h2, if_neg (by decide), grd_N l4 (by omega), nI_clamp (by omega), h4, h1, if_pos (nI_lt hc (by omega))]
  unfold fX5_put letV
  rw [hf]
  dsimp only [bO]
  rw [if_pos rfl, grd_N l4 (by omega), nI_clamp (by omega), h4, h1, ev_mul, nI_add, grd_N l5 (by omega), nI_clamp (by omega)]
  rw [ev_wIn _ (by omega), h1, ev_mul, nI_add, grd_N l6 (by omega), nI_clamp (by omega), grd_N l4 (by omega), grd_N l4 (by omega), wI_sJ, ev_wIn _ (by omega), h4, nI_1]
theorem full__X {t g m c e : Nat} {w : jWd} (h2 : wI w t 2 = nI m) (hg : g < m) (hm : m ≤ 100) (h1 : wI w t 1 = nI e) (h4 : wI w (t + 4) g = nI c) (hc : c ≤ e) (he : e ≤ 100) (l4 : g < ln (t + 4)) (b4 : ln (t + 4) ≤ 1000) : fX5_isFull_ t (nI g) w = some (bI (decide (c = e))) := by
  unfold fX5_isFull_
  rw [has_yes hg (by omega) h2, if_neg (by decide), grd_N l4 (by omega), nI_clamp (by omega), h4, h1]
  by_cases q : c = e
  · rw [if_neg (nI_nlt (by omega) (by omega)), decide_eq_true q]; rfl
  · rw [if_pos (nI_lt (by omega) (by omega)), decide_eq_false q]; rfl
theorem isL_cln {x : Int64} (h : lnB x ≠ 0) : isL (cln x) := ⟨isC_cln x, fun e => h (cln_0.mp e)⟩
section LIN
variable {A : Nat → Nat} {L : Nat → Int64} {F W : Nat → Nat} {w : jWd}
theorem InB_same {A' : Nat → Nat} (h : InB A) (hA : InA A) (e : ∀ k, 250 ≤ k → A' k = A k) : InB A' := by
  obtain ⟨q1, q2, q3, q4, q5⟩ := h
  have lim := RN_lim hA
  refine ⟨fun i hi => ?_, fun i g hi hg => ?_, fun i hi => ?_, fun i hi => ?_, ?_⟩
  · rw [e _ (by omega)] at hi ⊢; exact q1 i hi
  · rw [e _ (by omega)] at hi ⊢; exact q2 i g hi hg
  · rw [e _ (by omega)] at hi ⊢; exact q3 i hi
  · rw [e _ (by omega)] at hi; rw [e _ (by omega), e _ (by omega)]; exact q4 i hi
  · rw [e _ (by omega)]; exact q5
theorem RN_lineS (h : RN A L F W w) {g c : Nat} (hg : g < A 0) (hc : A (121 + g) = c) (h12 : c < 12) {l : Int64} (hl : isL l) {a : Int32} {w1 w2 : jWd} (e1 : w1 = sJ (sI (sJ (sI w 7 (12 * g + c) a) 8 (12 * g + c) l) 6 g (nI (c + 1))) 30 (12 * g + c) (smS F (A (1 + g)) l)) (hM : RM (uN A (121 + g) (c + 1)) (uN L (12 * g + c) l) F W 0 w2) (hX : ∀ c k, 1 ≤ c → c ≤ 57 → wI w2 c k = wI w1 c k ∧ wJ w2 c k = wJ w1 c k) : RN (uN A (121 + g) (c + 1)) (uN L (12 * g + c) l) F W w2 := by
  obtain ⟨⟨i1, i2, i3, i4, i5⟩, x, co, m⟩ := h
  have h40 := i1.2.1
  have hA : InA (uN A (121 + g) (c + 1)) := InA_up i1 (by unfold okA; omega)
  subst e1
  have hi12 := i1.2.2.1
  refine ⟨⟨hA, InB_same i2 i1 (fun k hk => uN_ne (by omega)), ?_, i4, i5⟩, ?_, ?_, hM⟩
  · obtain ⟨q1, q2, q3, q4, q5⟩ := i3
    have d1 := i1.2.2.2.1
    have d2 := i1.2.2.2.2.1
    have d3 := i1.2.2.2.2.2.1
    have d4 := i1.2.2.2.2.2.2.2.1
    have d5 := i1.2.2.2.2.2.2.2.2.1
    refine ⟨fun i k hi hk => ?_, fun i k hi hk => ?_, fun p hp => ?_, fun v hv => ?_, fun i hi => ?_⟩
    · rw [uN_ne (by omega)] at hi
      by_cases e : i = g
      · subst e
        rw [uN_eq] at hk
        by_cases z : k = c
        · subst z; rw [uN_eq]; exact hl
        · rw [uN_ne (by omega)]; exact q1 i k hi (by omega)
      · rw [uN_ne (by omega)] at hk
        have := hi12 i (by omega)
        rw [uN_ne (by omega)]; exact q1 i k hi hk
    · rw [uN_ne (by omega)] at hi hk; rw [uN_ne (by omega)]; exact q2 i k hi hk
    · rw [uN_ne (by omega)] at hp; rw [uN_ne (by omega)]; exact q3 p hp
    · rw [uN_ne (by omega)] at hv; rw [uN_ne (by omega), uN_ne (by omega)]; exact q4 v hv
    · rw [uN_ne (by omega)] at hi; rw [uN_ne (by omega)]; exact q5 i hi
  · refine RX_cg hA (fun c k h1 h2 => (hX c k h1 (by omega)).1) (fun c k h1 h2 => (hX c k h1 (by omega)).2) ?_
    refine RX_RSong i1 x (fun j hj => uN_ne (by omega)) (fun j hj => uN_ne (by omega)) (fun c j _ _ hc => by simp (disch := omega) only [ev_wIn, wI_sJ]) (fun c j _ _ hc => by simp (disch := omega) only [ev_wJn, wJ_sI]) ?_
    obtain ⟨s0, s1⟩ := x.1
    refine ⟨by rw [uN_ne (by omega)]; simp (disch := omega) only [ev_wIn, wI_sJ]; exact s0, fun i hi => ?_⟩
    rw [uN_ne (by omega)] at hi
    obtain ⟨t1, t2, t3, t4⟩ := s1 i hi
    by_cases e : i = g
    · subst e
      refine ⟨by simp (disch := omega) only [uN_ne, ev_wIn, wI_sJ]; exact t1, by simp (disch := omega) only [uN_ne, ev_wIn, wI_sJ]; exact t2, by rw [uN_eq]; simp only [wI_sJ]; exact ev_wIs _ _ _ _, fun k hk => ?_⟩
      rw [uN_eq] at hk
      by_cases z : k = c
      · subst z
        rw [uN_eq, uN_ne (by omega)]
        exact ⟨by rw [ev_wJn _ (by omega), wJ_sI]; exact ev_wJs _ _ _ _, ev_wJs _ _ _ _⟩
      · simp (disch := omega) only [uN_ne, ev_wJn, wJ_sI]
        exact t4 k (by omega)
    · have := hi12 i (by omega)
      refine ⟨by simp (disch := omega) only [uN_ne, ev_wIn, wI_sJ]; exact t1, by simp (disch := omega) only [uN_ne, ev_wIn, wI_sJ]; exact t2, by simp (disch := omega) only [uN_ne, ev_wIn, wI_sJ]; exact t3, fun k hk => ?_⟩
      rw [uN_ne (by omega)] at hk
      simp (disch := omega) only [uN_ne, ev_wJn, wJ_sI]
      exact t4 k hk
  · refine RCon_c (fun c j hc hj => ?_) co
    rw [(hX c j (by omega) (by omega)).1]
    simp (disch := omega) only [ev_wIn, wI_sJ]
theorem RN_lineB (h : RN A L F W w) {g c : Nat} (hg : g < A 223) (hc : A (236 + g) = c) (h12 : c < 12) {l : Int64} (hl : isL l) {a : Int32} {w1 w2 : jWd} (e1 : w1 = sI (sJ (sI w 14 (12 * g + c) a) 15 (12 * g + c) l) 13 g (nI (c + 1))) (hM : RM (uN A (236 + g) (c + 1)) (uN L (540 + 12 * g + c) l) F W 0 w2) (hX : ∀ c k, 1 ≤ c → c ≤ 57 → wI w2 c k = wI w1 c k ∧ wJ w2 c k = wJ w1 c k) : RN (uN A (236 + g) (c + 1)) (uN L (540 + 12 * g + c) l) F W w2 := by
  obtain ⟨⟨i1, i2, i3, i4, i5⟩, x, co, m⟩ := h
  have h40 := i1.2.2.2.2.1
  have hA : InA (uN A (236 + g) (c + 1)) := InA_up i1 (by unfold okA; omega)
  subst e1
  have hi12 := i1.2.2.2.2.2.1
  refine ⟨⟨hA, InB_same i2 i1 (fun k hk => uN_ne (by omega)), ?_, i4, i5⟩, ?_, ?_, hM⟩
  · obtain ⟨q1, q2, q3, q4, q5⟩ := i3
    have d0 := i1.2.1
    have d0' := i1.2.2.1
    have d1 := i1.2.2.2.1
    have d4 := i1.2.2.2.2.2.2.2.1
    have d5 := i1.2.2.2.2.2.2.2.2.1
    refine ⟨fun i k hi hk => ?_, fun i k hi hk => ?_, fun p hp => ?_, fun v hv => ?_, fun i hi => ?_⟩
    · rw [uN_ne (by omega)] at hi
      rw [uN_ne (by omega)] at hk
      have := d0' i (by omega)
      rw [uN_ne (by omega)]; exact q1 i k hi hk
    · rw [uN_ne (by omega)] at hi
      by_cases e : i = g
      · subst e
        rw [uN_eq] at hk
        by_cases z : k = c
        · subst z; rw [uN_eq]; exact hl
        · rw [uN_ne (by omega)]; exact q2 i k hi (by omega)
      · rw [uN_ne (by omega)] at hk
        have := hi12 i (by omega)
        rw [uN_ne (by omega)]; exact q2 i k hi hk
    · rw [uN_ne (by omega)] at hp; rw [uN_ne (by omega)]; exact q3 p hp
    · rw [uN_ne (by omega)] at hv; rw [uN_ne (by omega), uN_ne (by omega)]; exact q4 v hv
    · rw [uN_ne (by omega)] at hi; rw [uN_ne (by omega)]; exact q5 i hi
  · refine RX_cg hA (fun c k h1 h2 => (hX c k h1 (by omega)).1) (fun c k h1 h2 => (hX c k h1 (by omega)).2) ?_
    refine RX_RBook i1 x (fun j hj => uN_ne (by omega)) (fun j hj => uN_ne (by omega)) (fun c j _ _ hc => by simp (disch := omega) only [ev_wIn, wI_sJ]) (fun c j _ _ hc => by simp (disch := omega) only [ev_wJn, wJ_sI]) ?_
    obtain ⟨s0, s1⟩ := x.2.1
    refine ⟨by rw [uN_ne (by omega)]; simp (disch := omega) only [ev_wIn, wI_sJ]; exact s0, fun i hi => ?_⟩
    rw [uN_ne (by omega)] at hi
    obtain ⟨t1, t3, t4⟩ := s1 i hi
    by_cases e : i = g
    · subst e
      refine ⟨by simp (disch := omega) only [uN_ne, ev_wIn, wI_sJ]; exact t1, by rw [uN_eq]; exact ev_wIs _ _ _ _, fun k hk => ?_⟩
      rw [uN_eq] at hk
      by_cases z : k = c
      · subst z
        rw [uN_eq, wJ_sI]
        exact ev_wJs _ _ _ _
      · simp (disch := omega) only [uN_ne, ev_wJn, wJ_sI]
        exact t4 k (by omega)
    · have := hi12 i (by omega)
      refine ⟨by simp (disch := omega) only [uN_ne, ev_wIn, wI_sJ]; exact t1, by simp (disch := omega) only [uN_ne, ev_wIn, wI_sJ]; exact t3, fun k hk => ?_⟩
      rw [uN_ne (by omega)] at hk
      simp (disch := omega) only [uN_ne, ev_wJn, wJ_sI]
      exact t4 k hk
  · refine RCon_c (fun c j hc hj => ?_) co
    rw [(hX c j (by omega) (by omega)).1]
    simp (disch := omega) only [ev_wIn, wI_sJ]
theorem RN_lineP (h : RN A L F W w) {p t : Nat} (hp : A 162 = p) (h60 : p < 60) (ht : t ≤ 9) {l : Int64} (hl : isL l) {w1 w2 : jWd} (e1 : w1 = sI (sJ (sI w 21 p (nI t)) 22 p l) 20 0 (nI (p + 1))) (hM : RM (uN (uN A (163 + p) t) 162 (p + 1)) (uN L (480 + p) l) F W 0 w2) (hX : ∀ c k, 1 ≤ c → c ≤ 57 → wI w2 c k = wI w1 c k ∧ wJ w2 c k = wJ w1 c k) : RN (uN (uN A (163 + p) t) 162 (p + 1)) (uN L (480 + p) l) F W w2 := by
  obtain ⟨⟨i1, i2, i3, i4, i5⟩, x, co, m⟩ := h
  have hA1 : InA (uN A (163 + p) t) := InA_up i1 (by unfold okA; omega)
  have hA : InA (uN (uN A (163 + p) t) 162 (p + 1)) := InA_up hA1 (by unfold okA; omega)
  subst e1
  refine ⟨⟨hA, InB_same i2 i1 (fun k hk => by rw [uN_ne (by omega), uN_ne (by omega)]), ?_, i4, i5⟩, ?_, ?_, hM⟩
  · obtain ⟨q1, q2, q3, q4, q5⟩ := i3
    have d0 := i1.2.1
    have d0' := i1.2.2.1
    have d1 := i1.2.2.2.2.1
    have d1' := i1.2.2.2.2.2.1
    have d4 := i1.2.2.2.2.2.2.2.1
    have d5 := i1.2.2.2.2.2.2.2.2.1
    refine ⟨fun i k hi hk => ?_, fun i k hi hk => ?_, fun j hj => ?_, fun v hv => ?_, fun i hi => ?_⟩
    · rw [uN_ne (by omega), uN_ne (by omega)] at hi
      rw [uN_ne (by omega), uN_ne (by omega)] at hk
      have := d0' i (by omega)
      rw [uN_ne (by omega)]; exact q1 i k hi hk
    · rw [uN_ne (by omega), uN_ne (by omega)] at hi
      rw [uN_ne (by omega), uN_ne (by omega)] at hk
      rw [uN_ne (by omega)]; exact q2 i k hi hk
    · rw [uN_eq] at hj
      by_cases e : j = p
      · subst e; rw [uN_eq]; exact hl
      · rw [uN_ne (by omega)]; exact q3 j (by omega)
    · rw [uN_ne (by omega), uN_ne (by omega)] at hv; rw [uN_ne (by omega), uN_ne (by omega)]; exact q4 v hv
    · rw [uN_ne (by omega), uN_ne (by omega)] at hi; rw [uN_ne (by omega)]; exact q5 i hi
  · refine RX_cg hA (fun c k h1 h2 => (hX c k h1 (by omega)).1) (fun c k h1 h2 => (hX c k h1 (by omega)).2) ?_
    refine RX_RPrint i1 x (fun j hj => by rw [uN_ne (by omega), uN_ne (by omega)]) (fun j hj => uN_ne (by omega)) (fun c j _ _ hc => by simp (disch := omega) only [ev_wIn, wI_sJ]) (fun c j _ _ hc => by simp (disch := omega) only [ev_wJn, wJ_sI]) ?_
    obtain ⟨s0, s1, s2⟩ := x.2.2.1
    refine ⟨by simp (disch := omega) only [uN_ne, ev_wIn, wI_sJ]; exact s0, by rw [uN_eq]; exact ev_wIs _ _ _ _, fun j hj => ?_⟩
    rw [uN_eq] at hj
    by_cases e : j = p
    · subst e
      rw [uN_ne (by omega), uN_eq, uN_eq]
      exact ⟨by rw [ev_wIn _ (by omega), wI_sJ]; exact ev_wIs _ _ _ _, by rw [wJ_sI]; exact ev_wJs _ _ _ _⟩
    · simp (disch := omega) only [uN_ne, ev_wIn, wI_sJ, ev_wJn, wJ_sI]
      exact s2 j (by omega)
  · refine RCon_c (fun c j hc hj => ?_) co
    rw [(hX c j (by omega) (by omega)).1]
    simp (disch := omega) only [ev_wIn, wI_sJ]
end LIN
theorem s_line : fS_line RR := by
  intro w a0 a1 a2 a3 hw
  obtain ⟨⟨A, L, F, W, h⟩, -⟩ := id hw
  have h40 := h.1.1.2.1
  have h12 := h.1.1.2.2.2.2.1
  have h60 := h.1.1.2.2.2.1
  have hM := rd_M h
  have hL := lnB_le a3
  have l7 : ln 207 = 3372 := rfl
  have l8 : ln 208 = 2352 := rfl
  have e0 : lg_cmp (cln a3) (0 : Int64) = 0 ↔ lnB a3 = 0 := (l0_iff _).trans cln_0
  have enz : nI (lnB a3) = (0 : Int32) ↔ lnB a3 = 0 := nI_z (by omega)
  refine ⟨20000, ?_⟩
  rcases wi_cs a0 0 2 (a := 0) (b := 2) rfl rfl (by decide) (by decide) with ⟨h1, h2⟩ | ⟨k, _, hk, rfl, h1, h2⟩
  · have e : ∀ j : Nat, j ≤ 2 → ¬ a0 = nI j := fun j hj e => by
      subst e
      exact absurd h2 (w0_of (lo := 0) (hi := 2) (by omega) hj (by decide))
    refine rr_call hw (.inr ⟨-2, 2, by decide, by decide, ⟨w, ?_, frP_refl _ _⟩, fun w1 f1 => ⟨sI w1 205 0 (0 : Int32), ?_, frS_0 w1⟩⟩)
    · unfold fX11_line
      rw [if_pos h1, rx_id2]
    · unfold fX12_line letV
      dsimp only
      rw [if_neg (show ¬ a0 = (0 : Int32) from e 0 (by decide)), if_neg (show ¬ a0 = (1 : Int32) from e 1 (by decide)), if_neg (show ¬ a0 = (2 : Int32) from e 2 (by decide)), no_id2]
  rcases (show k = 0 ∨ k = 1 ∨ k = 2 by omega) with e | e | e <;> subst e
  · -- a SONG
    have cX : fX11_line 20000 (nI 0) a1 a2 a3 w = if fX5_has 2 a1 w = 0 then some ((-2 : Int32), rfX w 2) else if lnB a3 = 0 then some ((-3 : Int32), rfX w 3) else bO (fX5_isFull_ 2 a1 w) (fun (r_9 : Int32) => if r_9 = 0 then bO2 (fX8_putIntoSong 20000 1 a1 (cln a3) w) (fun (r_17 : Int32) (w_16 : jWd) => some (r_17, w_16)) else some ((-4 : Int32), rfX w 4)) := by
      unfold fX11_line letV
      dsimp only
      rw [if_neg h1, if_neg (show ¬ nI 0 = (2 : Int32) by decide), if_neg (show ¬ nI 0 = (2 : Int32) by decide), cln_X (by decide)]
      dsimp only [bO]
      rw [rx_id2, rx_id3, rx_id4, if_pos (show nI 0 = (0 : Int32) from rfl)]
      simp only [e0]
      rfl
    have cM : ∀ w1, wI (sI w1 205 0 (0 : Int32)) 207 0 = nI (A 0) → fX12_line 20000 (nI 0) a1 a2 a3 w1 = (if (fX12_within ((a1).toInt64) (0 : Int64) ((nI (A 0) - (1 : Int32)).toInt64)) = 0 then some ((-2 : Int32), rfM (sI w1 205 0 (0 : Int32)) 2) else if lnB a3 = 0 then some ((-3 : Int32), rfM (sI w1 205 0 (0 : Int32)) 3) else grd ((121 : Int32) + a1) (ln 207) (if (wI (sI w1 205 0 (0 : Int32)) 207 (((121 : Int32) + a1)).toNatClampNeg) = (12 : Int32) then some ((-4 : Int32), rfM (sI w1 205 0 (0 : Int32)) 4) else grd ((121 : Int32) + a1) (ln 207) (grd (((0 : Int32) + ((12 : Int32) * a1)) + (wI (sI w1 205 0 (0 : Int32)) 207 (((121 : Int32) + a1)).toNatClampNeg)) (ln 208) (letV (sJ (sI w1 205 0 (0 : Int32)) 208 (((((0 : Int32) + ((12 : Int32) * a1)) + (wI (sI w1 205 0 (0 : Int32)) 207 (((121 : Int32) + a1)).toNatClampNeg))).toNatClampNeg) (cln a3)) (fun (w_23 : jWd) => grd ((121 : Int32) + a1) (ln 207) (grd ((121 : Int32) + a1) (ln 207) (letV (sI w_23 207 ((((121 : Int32) + a1)).toNatClampNeg) ((wI w_23 207 (((121 : Int32) + a1)).toNatClampNeg) + (1 : Int32))) (fun (w_27 : jWd) => grd ((121 : Int32) + a1) (ln 207) (some (((wI w_27 207 (((121 : Int32) + a1)).toNatClampNeg) - (1 : Int32)), w_27)))))))))) := by
      intro w1 h0'
      unfold fX12_line letV
      dsimp only
      rw [if_pos (show nI 0 = (0 : Int32) from rfl), if_pos (show nI 0 = (0 : Int32) from rfl), if_pos (show nI 0 = (0 : Int32) from rfl), if_neg (show ¬ nI 0 = (2 : Int32) by decide), if_neg (show ¬ nI 0 = (2 : Int32) by decide), len_M (by decide), cln_M (by decide)]
      dsimp only [bO]
      rw [no_id2, no_id3, no_id4, h0']
      simp only [enz]
    rcases ix_cs a1 (A 0) with ⟨g, hg, rfl⟩ | hn
    · have hg12 := h.1.1.2.2.1 g (by omega)
      have e6 : wI w (2 + 4) g = nI (A (121 + g)) := (h.2.1.1.2 g hg).2.2.1
      have e3 : wI w (1 + 2) g = nI (A (1 + g)) := (h.2.1.1.2 g hg).1
      have hfull := full__X (t := 2) h.2.1.1.1 hg (by omega) h.2.2.1.2.1 e6 hg12 (by decide) (by show g < 40; omega) (by decide)
      have e121 : (121 : Int32) + nI g = nI (121 + g) := nI_add 121 g
      by_cases z : lnB a3 = 0
      · refine rr_call hw (.inr ⟨-3, 3, by decide, by decide, ⟨w, ?_, frP_refl _ _⟩, fun w1 f1 => ⟨sI w1 205 0 (0 : Int32), ?_, frS_0 w1⟩⟩)
        · rw [cX, has_yes hg (by omega) h.2.1.1.1, if_neg (by decide), if_pos z]
        · rw [cM w1 (RN_A (hM w1 f1) (by decide)), if_neg (wi_yes hg (by omega)), if_pos z]
      by_cases hz : A (121 + g) = 12
      · refine rr_call hw (.inr ⟨-4, 4, by decide, by decide, ⟨w, ?_, frP_refl _ _⟩, fun w1 f1 => ⟨sI w1 205 0 (0 : Int32), ?_, frS_0 w1⟩⟩)
        · rw [cX, has_yes hg (by omega) h.2.1.1.1, if_neg (by decide), if_neg z, hfull]
          dsimp only [bO]
          rw [ev_bI, if_pos hz]
        · rw [cM w1 (RN_A (hM w1 f1) (by decide)), if_neg (wi_yes hg (by omega)), if_neg z, e121, l7, grd_N (by omega) (by decide), nI_clamp (by omega), RN_A (hM w1 f1) (by omega), if_pos (by rw [hz]; rfl)]
      · obtain ⟨c, hc⟩ : ∃ c, A (121 + g) = c := ⟨_, rfl⟩
        rw [hc] at hg12 hz e6 hfull
        have hlt : c < 12 := by omega
        have hlC := isL_cln z
        have t9 := RN_9 h (1 + g)
        have hput := put_X (t := 2) h.2.1.1.1 hg (by omega) h.2.2.1.2.1 e6 hlt (by decide) (by show g < 40; omega) (by show g * 12 + c < 480; omega) (by show g * 12 + c < 480; omega) (by decide) (by decide) (by decide) (nI (A (1 + g))) (cln a3)
        rw [Nat.mul_comm g 12] at hput
        have hFX : FX F 32 (sI (sJ (sI w 7 (12 * g + c) (nI (A (1 + g)))) 8 (12 * g + c) (cln a3)) 6 g (nI (c + 1))) := FX_cg (fun c k _ _ => by simp (disch := omega) only [ev_wIn, wI_sJ]) (fun c k _ _ => by simp (disch := omega) only [ev_wJn, wJ_sI]) h.2.1.2.2.2.2.2.1
        have hps : fX8_putIntoSong 20000 1 (nI g) (cln a3) w = some (nI c, sJ (sI (sJ (sI w 7 (12 * g + c) (nI (A (1 + g)))) 8 (12 * g + c) (cln a3)) 6 g (nI (c + 1))) 30 (12 * g + c) (smS F (A (1 + g)) (cln a3))) := by
          have l3 : ln (1 + 2) = 40 := rfl
          have l30 : ln (1 + 29) = 480 := rfl
          unfold fX8_putIntoSong letV
          rw [has_yes hg (by omega) h.2.1.1.1, if_neg (by decide), l3, l30, grd_N (by omega) (by decide), nI_clamp (by omega), e3, hput]
          dsimp only [bO2]
          have e3' : wI (sI (sJ (sI w 7 (12 * g + c) (nI (A (1 + g)))) 8 (12 * g + c) (cln a3)) 6 g (nI (c + 1))) (1 + 2) g = nI (A (1 + g)) := by simp (disch := omega) only [ev_wIn, wI_sJ]; exact e3
          rw [if_neg (nI_pos (by omega)), grd_N (by omega) (by decide), e3', sm_X (by decide) (by omega) hFX h.1.2.2.2.1 hlC.1]
          dsimp only [bO]
          rw [show (12 : Int32) = nI 12 from rfl, ev_mul, nI_add, Nat.mul_comm g 12, grd_N (by omega) (by decide), nI_clamp (by omega)]
        obtain ⟨W1, hW1⟩ : ∃ W1, W1 = sJ (sI (sJ (sI w 7 (12 * g + c) (nI (A (1 + g)))) 8 (12 * g + c) (cln a3)) 6 g (nI (c + 1))) 30 (12 * g + c) (smS F (A (1 + g)) (cln a3)) := ⟨_, rfl⟩
        have hI : ∀ a b, 58 ≤ a → wI W1 a b = wI w a b := fun a b hab => by rw [hW1]; simp (disch := omega) only [ev_wIn, wI_sJ]
        have f1 : frP NowS w W1 := by
          rw [hW1]
          exact frP_trans (frP_trans (frP_trans (now_X _ _ _ (by decide) (by decide)) (now_XJ _ _ _ (by decide) (by decide))) (now_X _ _ _ (by decide) (by decide))) (now_XJ _ _ _ (by decide) (by decide))
        have m1 : RM A L F W 0 (sI W1 205 0 (0 : Int32)) := by
          rw [hW1]
          exact RM_I (RM_J (RM_I (RM_J (RM_I h.2.2.2 _ (by omega)) _ (by omega)) _ (by omega)) _ (by omega)) _ (by omega)
        have q0 : wI (sI W1 205 0 (0 : Int32)) 207 0 = nI (A 0) := by rw [ev_wIn _ (by omega), hI _ _ (by decide)]; exact RN_A h (by decide)
        have q1 : wI (sI W1 205 0 (0 : Int32)) 207 (121 + g) = nI c := by rw [ev_wIn _ (by omega), hI _ _ (by decide), RN_A h (show 121 + g < 1124 by omega), hc]
        refine ⟨nI c, W1, sI (sJ (sI W1 205 0 (0 : Int32)) 208 (12 * g + c) (cln a3)) 207 (121 + g) (nI (c + 1)), ?_, ?_, ?_⟩
        · rw [cX, has_yes hg (by omega) h.2.1.1.1, if_neg (by decide), if_neg z, hfull]
          dsimp only [bO]
          rw [ev_bI, if_neg hz, hps, hW1]
          rfl
        · rw [cM W1 q0, if_neg (wi_yes hg (by omega)), if_neg z, e121, l7, l8, grd_N (by omega) (by decide), nI_clamp (by omega), q1, if_neg (show ¬ nI c = (12 : Int32) from fun y => hz ((nI_eq (b := 12) (by omega) (by decide)).mp y)), show (0 : Int32) + (12 : Int32) * nI g + nI c = nI (12 * g + c) by rw [show (12 : Int32) = nI 12 from rfl, ev_mul, Int32.zero_add, nI_add], grd_N (by omega) (by decide), grd_N (by omega) (by decide), nI_clamp (by omega)]
          dsimp only [letV]
          rw [grd_N (by omega) (by decide), grd_N (by omega) (by decide), grd_N (by omega) (by decide), ev_wIs, wI_sJ, q1, nI_1, nI_pred]
        · refine rr_now (frP_trans (frP_trans (frP_trans f1 (now_0 _)) (now_208 _ _ (by omega))) (now_207 _ _ (by omega))) hw ⟨uN A (121 + g) (c + 1), uN L (12 * g + c) (cln a3), F, W, RN_lineS h hg hc hlt hlC hW1 (RM_A (RM_L m1 (cln a3)) (c + 1)) (fun a b _ _ => ?_)⟩
          exact ⟨by simp (disch := omega) only [ev_wIn, wI_sJ], by simp (disch := omega) only [ev_wJn, wJ_sI]⟩
    · refine rr_call hw (.inr ⟨-2, 2, by decide, by decide, ⟨w, ?_, frP_refl _ _⟩, fun w1 f1 => ⟨sI w1 205 0 (0 : Int32), ?_, frS_0 w1⟩⟩)
      · rw [cX, has_no hn (by omega) h.2.1.1.1, if_pos (by decide)]
      · rw [cM w1 (RN_A (hM w1 f1) (by decide)), if_pos (wi_no hn (by omega))]
  · -- a BOOK
    have cX : fX11_line 20000 (nI 1) a1 a2 a3 w = if fX5_has 9 a1 w = 0 then some ((-2 : Int32), rfX w 2) else if lnB a3 = 0 then some ((-3 : Int32), rfX w 3) else bO (fX5_isFull_ 9 a1 w) (fun (r_9 : Int32) => if r_9 = 0 then bO2 (fX5_put 9 a1 (0 : Int32) (cln a3) w) (fun (r_17 : Int32) (w_16 : jWd) => some (r_17, w_16)) else some ((-4 : Int32), rfX w 4)) := by
      unfold fX11_line letV
      dsimp only
      rw [if_neg h1, if_neg (show ¬ nI 1 = (2 : Int32) by decide), if_neg (show ¬ nI 1 = (2 : Int32) by decide), cln_X (by decide)]
      dsimp only [bO]
      rw [rx_id2, rx_id3, rx_id4, if_neg (show ¬ nI 1 = (0 : Int32) by decide), if_neg (show ¬ nI 1 = (2 : Int32) by decide)]
      simp only [e0]
      rfl
    have cM : ∀ w1, wI (sI w1 205 0 (0 : Int32)) 207 223 = nI (A 223) → fX12_line 20000 (nI 1) a1 a2 a3 w1 = (if (fX12_within ((a1).toInt64) (0 : Int64) ((nI (A 223) - (1 : Int32)).toInt64)) = 0 then some ((-2 : Int32), rfM (sI w1 205 0 (0 : Int32)) 2) else if lnB a3 = 0 then some ((-3 : Int32), rfM (sI w1 205 0 (0 : Int32)) 3) else grd ((236 : Int32) + a1) (ln 207) (if (wI (sI w1 205 0 (0 : Int32)) 207 (((236 : Int32) + a1)).toNatClampNeg) = (12 : Int32) then some ((-4 : Int32), rfM (sI w1 205 0 (0 : Int32)) 4) else grd ((236 : Int32) + a1) (ln 207) (grd (((540 : Int32) + ((12 : Int32) * a1)) + (wI (sI w1 205 0 (0 : Int32)) 207 (((236 : Int32) + a1)).toNatClampNeg)) (ln 208) (letV (sJ (sI w1 205 0 (0 : Int32)) 208 (((((540 : Int32) + ((12 : Int32) * a1)) + (wI (sI w1 205 0 (0 : Int32)) 207 (((236 : Int32) + a1)).toNatClampNeg))).toNatClampNeg) (cln a3)) (fun (w_23 : jWd) => grd ((236 : Int32) + a1) (ln 207) (grd ((236 : Int32) + a1) (ln 207) (letV (sI w_23 207 ((((236 : Int32) + a1)).toNatClampNeg) ((wI w_23 207 (((236 : Int32) + a1)).toNatClampNeg) + (1 : Int32))) (fun (w_27 : jWd) => grd ((236 : Int32) + a1) (ln 207) (some (((wI w_27 207 (((236 : Int32) + a1)).toNatClampNeg) - (1 : Int32)), w_27)))))))))) := by
      intro w1 h0'
      unfold fX12_line letV
      dsimp only
      rw [if_neg (show ¬ nI 1 = (0 : Int32) by decide), if_pos (show nI 1 = (1 : Int32) from rfl), if_neg (show ¬ nI 1 = (0 : Int32) by decide), if_neg (show ¬ nI 1 = (0 : Int32) by decide), if_neg (show ¬ nI 1 = (2 : Int32) by decide), if_neg (show ¬ nI 1 = (2 : Int32) by decide), len_M (by decide), cln_M (by decide)]
      dsimp only [bO]
      rw [no_id2, no_id3, no_id4, h0']
      simp only [enz]
    rcases ix_cs a1 (A 223) with ⟨g, hg, rfl⟩ | hn
    · have hg12 := h.1.1.2.2.2.2.2.1 g (by omega)
      have e6 : wI w (9 + 4) g = nI (A (236 + g)) := (h.2.1.2.1.2 g hg).2.1
      have hfull := full__X (t := 9) h.2.1.2.1.1 hg (by omega) h.2.2.1.2.2.2.1 e6 hg12 (by decide) (by show g < 12; omega) (by decide)
      have e121 : (236 : Int32) + nI g = nI (236 + g) := nI_add 236 g
      by_cases z : lnB a3 = 0
      · refine rr_call hw (.inr ⟨-3, 3, by decide, by decide, ⟨w, ?_, frP_refl _ _⟩, fun w1 f1 => ⟨sI w1 205 0 (0 : Int32), ?_, frS_0 w1⟩⟩)
        · rw [cX, has_yes hg (by omega) h.2.1.2.1.1, if_neg (by decide), if_pos z]
        · rw [cM w1 (RN_A (hM w1 f1) (by decide)), if_neg (wi_yes hg (by omega)), if_pos z]
      by_cases hz : A (236 + g) = 12
      · refine rr_call hw (.inr ⟨-4, 4, by decide, by decide, ⟨w, ?_, frP_refl _ _⟩, fun w1 f1 => ⟨sI w1 205 0 (0 : Int32), ?_, frS_0 w1⟩⟩)
        · rw [cX, has_yes hg (by omega) h.2.1.2.1.1, if_neg (by decide), if_neg z, hfull]
          dsimp only [bO]
          rw [ev_bI, if_pos hz]
        · rw [cM w1 (RN_A (hM w1 f1) (by decide)), if_neg (wi_yes hg (by omega)), if_neg z, e121, l7, grd_N (by omega) (by decide), nI_clamp (by omega), RN_A (hM w1 f1) (by omega), if_pos (by rw [hz]; rfl)]
      · obtain ⟨c, hc⟩ : ∃ c, A (236 + g) = c := ⟨_, rfl⟩
        rw [hc] at hg12 hz e6 hfull
        have hlt : c < 12 := by omega
        have hlC := isL_cln z
        have hput := put_X (t := 9) h.2.1.2.1.1 hg (by omega) h.2.2.1.2.2.2.1 e6 hlt (by decide) (by show g < 12; omega) (by show g * 12 + c < 144; omega) (by show g * 12 + c < 144; omega) (by decide) (by decide) (by decide) (0 : Int32) (cln a3)
        rw [Nat.mul_comm g 12] at hput
        obtain ⟨W1, hW1⟩ : ∃ W1, W1 = sI (sJ (sI w 14 (12 * g + c) (0 : Int32)) 15 (12 * g + c) (cln a3)) 13 g (nI (c + 1)) := ⟨_, rfl⟩
        have hI : ∀ a b, 58 ≤ a → wI W1 a b = wI w a b := fun a b hab => by rw [hW1]; simp (disch := omega) only [ev_wIn, wI_sJ]
        have f1 : frP NowS w W1 := by
          rw [hW1]
          exact frP_trans (frP_trans (now_X _ _ _ (by decide) (by decide)) (now_XJ _ _ _ (by decide) (by decide))) (now_X _ _ _ (by decide) (by decide))
        have m1 : RM A L F W 0 (sI W1 205 0 (0 : Int32)) := by
          rw [hW1]
          exact RM_I (RM_I (RM_J (RM_I h.2.2.2 _ (by omega)) _ (by omega)) _ (by omega)) _ (by omega)
        have q0 : wI (sI W1 205 0 (0 : Int32)) 207 223 = nI (A 223) := by rw [ev_wIn _ (by omega), hI _ _ (by decide)]; exact RN_A h (by decide)
        have q1 : wI (sI W1 205 0 (0 : Int32)) 207 (236 + g) = nI c := by rw [ev_wIn _ (by omega), hI _ _ (by decide), RN_A h (show 236 + g < 1124 by omega), hc]
        refine ⟨nI c, W1, sI (sJ (sI W1 205 0 (0 : Int32)) 208 (540 + 12 * g + c) (cln a3)) 207 (236 + g) (nI (c + 1)), ?_, ?_, ?_⟩
        · rw [cX, has_yes hg (by omega) h.2.1.2.1.1, if_neg (by decide), if_neg z, hfull]
          dsimp only [bO]
          rw [ev_bI, if_neg hz, hput, hW1]
          rfl
        · rw [cM W1 q0, if_neg (wi_yes hg (by omega)), if_neg z, e121, l7, l8, grd_N (by omega) (by decide), nI_clamp (by omega), q1, if_neg (show ¬ nI c = (12 : Int32) from fun y => hz ((nI_eq (b := 12) (by omega) (by decide)).mp y)), show (540 : Int32) + (12 : Int32) * nI g + nI c = nI (540 + 12 * g + c) by rw [show (12 : Int32) = nI 12 from rfl, ev_mul, show (540 : Int32) = nI 540 from rfl, nI_add, nI_add], grd_N (by omega) (by decide), grd_N (by omega) (by decide), nI_clamp (by omega)]
          dsimp only [letV]
          rw [grd_N (by omega) (by decide), grd_N (by omega) (by decide), grd_N (by omega) (by decide), ev_wIs, wI_sJ, q1, nI_1, nI_pred]
        · refine rr_now (frP_trans (frP_trans (frP_trans f1 (now_0 _)) (now_208 _ _ (by omega))) (now_207 _ _ (by omega))) hw ⟨uN A (236 + g) (c + 1), uN L (540 + 12 * g + c) (cln a3), F, W, RN_lineB h hg hc hlt hlC hW1 (RM_A (RM_L m1 (cln a3)) (c + 1)) (fun a b _ _ => ?_)⟩
          exact ⟨by simp (disch := omega) only [ev_wIn, wI_sJ], by simp (disch := omega) only [ev_wJn, wJ_sI]⟩
    · refine rr_call hw (.inr ⟨-2, 2, by decide, by decide, ⟨w, ?_, frP_refl _ _⟩, fun w1 f1 => ⟨sI w1 205 0 (0 : Int32), ?_, frS_0 w1⟩⟩)
      · rw [cX, has_no hn (by omega) h.2.1.2.1.1, if_pos (by decide)]
      · rw [cM w1 (RN_A (hM w1 f1) (by decide)), if_pos (wi_no hn (by omega))]
  · -- THE PRINT
    have hp1 : wI w 16 2 = nI 1 := h.2.2.1.2.2.2.2.2.2.1
    have cX : fX11_line 20000 (nI 2) a1 a2 a3 w = if (fX11_within ((a2).toInt64) (0 : Int64) (9 : Int64)) = 0 then some ((-3 : Int32), rfX w 3) else if lnB a3 = 0 then some ((-3 : Int32), rfX w 3) else bO (fX5_isFull_ 16 (0 : Int32) w) (fun (r_9 : Int32) => if r_9 = 0 then bO2 (fX5_put 16 (0 : Int32) a2 (cln a3) w) (fun (r_17 : Int32) (w_16 : jWd) => some (r_17, w_16)) else some ((-4 : Int32), rfX w 4)) := by
      have hh : fX5_has (fX8_pile 1 (nI 2)) (0 : Int32) w = bI true := has_yes (k := 0) (show 0 < 1 by decide) (by decide) hp1
      unfold fX11_line letV
      dsimp only
      rw [if_neg h1, if_pos (show nI 2 = (2 : Int32) from rfl), if_pos (show nI 2 = (2 : Int32) from rfl), cln_X (by decide)]
      dsimp only [bO]
      rw [hh, if_neg (show ¬ bI true = 0 by decide), rx_id3, rx_id4, if_neg (show ¬ nI 2 = (0 : Int32) by decide), if_pos (show nI 2 = (2 : Int32) from rfl)]
      simp only [e0]
      rfl
    have cM : ∀ w1, wI (sI w1 205 0 (0 : Int32)) 207 162 = nI (A 162) → fX12_line 20000 (nI 2) a1 a2 a3 w1 = (if lnB a3 = 0 then some ((-3 : Int32), rfM (sI w1 205 0 (0 : Int32)) 3) else if (fX12_within ((a2).toInt64) (0 : Int64) (9 : Int64)) = 0 then some ((-3 : Int32), rfM (sI w1 205 0 (0 : Int32)) 3) else if nI (A 162) = (60 : Int32) then some ((-4 : Int32), rfM (sI w1 205 0 (0 : Int32)) 4) else some (nI (A 162), sI (sJ (sI (sI w1 205 0 (0 : Int32)) 207 (163 + A 162) a2) 208 (480 + A 162) (cln a3)) 207 162 (nI (A 162 + 1)))) := by
      intro w1 h0'
      have e163 : (163 : Int32) + nI (A 162) = nI (163 + A 162) := nI_add 163 _
      have e480 : (480 : Int32) + nI (A 162) = nI (480 + A 162) := nI_add 480 _
      unfold fX12_line letV
      dsimp only
      rw [if_neg (show ¬ nI 2 = (0 : Int32) by decide), if_neg (show ¬ nI 2 = (1 : Int32) by decide), if_pos (show nI 2 = (2 : Int32) from rfl), if_pos (show nI 2 = (2 : Int32) from rfl), if_pos (show nI 2 = (2 : Int32) from rfl), len_M (by decide), cln_M (by decide)]
      dsimp only [bO]
      rw [no_id3, no_id4, l7, l8]
      simp (disch := omega) only [enz, h0', e163, e480, grd_N, nI_clamp, ev_wIn, ev_wIs, wI_sJ, nI_1, nI_pred]
    have e6 : wI w (16 + 4) 0 = nI (A 162) := h.2.1.2.2.1.2.1
    have hfull := full__X (t := 16) (g := 0) hp1 (by decide) (by decide) h.2.2.1.2.2.2.2.2.1 e6 h60 (by decide) (by decide) (by decide)
    by_cases z : lnB a3 = 0
    · refine rr_call hw (.inr ⟨-3, 3, by decide, by decide, ⟨w, ?_, frP_refl _ _⟩, fun w1 f1 => ⟨sI w1 205 0 (0 : Int32), ?_, frS_0 w1⟩⟩)
      · rw [cX, if_pos z]
        split <;> rfl
      · rw [cM w1 (RN_A (hM w1 f1) (by decide)), if_pos z]
    rcases wi_cs a2 0 9 (a := 0) (b := 9) rfl rfl (by decide) (by decide) with ⟨h3, h4⟩ | ⟨t, _, ht, rfl, h3, h4⟩
    · refine rr_call hw (.inr ⟨-3, 3, by decide, by decide, ⟨w, ?_, frP_refl _ _⟩, fun w1 f1 => ⟨sI w1 205 0 (0 : Int32), ?_, frS_0 w1⟩⟩)
      · rw [cX, if_pos h3]
      · rw [cM w1 (RN_A (hM w1 f1) (by decide)), if_neg z, if_pos h4]
    by_cases hz : A 162 = 60
    · refine rr_call hw (.inr ⟨-4, 4, by decide, by decide, ⟨w, ?_, frP_refl _ _⟩, fun w1 f1 => ⟨sI w1 205 0 (0 : Int32), ?_, frS_0 w1⟩⟩)
      · rw [cX, if_neg h3, if_neg z, show (0 : Int32) = nI 0 from rfl, hfull]
        dsimp only [bO]
        rw [show nI 0 = (0 : Int32) from rfl, ev_bI, if_pos hz]
      · rw [cM w1 (RN_A (hM w1 f1) (by decide)), if_neg z, if_neg h4, if_pos (by rw [hz]; rfl)]
    · have hlt : A 162 < 60 := by omega
      have hlC := isL_cln z
      have hput := put_X (t := 16) (g := 0) hp1 (by decide) (by decide) h.2.2.1.2.2.2.2.2.1 e6 hlt (by decide) (by decide) (by show 0 * 60 + A 162 < 60; omega) (by show 0 * 60 + A 162 < 60; omega) (by decide) (by decide) (by decide) (nI t) (cln a3)
      rw [show 0 * 60 + A 162 = A 162 by omega] at hput
      obtain ⟨W1, hW1⟩ : ∃ W1, W1 = sI (sJ (sI w 21 (A 162) (nI t)) 22 (A 162) (cln a3)) 20 0 (nI (A 162 + 1)) := ⟨_, rfl⟩
      have hI : ∀ a b, 58 ≤ a → wI W1 a b = wI w a b := fun a b hab => by rw [hW1]; simp (disch := omega) only [ev_wIn, wI_sJ]
      have f1 : frP NowS w W1 := by
        rw [hW1]
        exact frP_trans (frP_trans (now_X _ _ _ (by decide) (by decide)) (now_XJ _ _ _ (by decide) (by decide))) (now_X _ _ _ (by decide) (by decide))
      have m1 : RM A L F W 0 (sI W1 205 0 (0 : Int32)) := by
        rw [hW1]
        exact RM_I (RM_I (RM_J (RM_I h.2.2.2 _ (by omega)) _ (by omega)) _ (by omega)) _ (by omega)
      have q0 : wI (sI W1 205 0 (0 : Int32)) 207 162 = nI (A 162) := by rw [ev_wIn _ (by omega), hI _ _ (by decide)]; exact RN_A h (by decide)
      refine ⟨nI (A 162), W1, sI (sJ (sI (sI W1 205 0 (0 : Int32)) 207 (163 + A 162) (nI t)) 208 (480 + A 162) (cln a3)) 207 162 (nI (A 162 + 1)), ?_, ?_, ?_⟩
      · rw [cX, if_neg h3, if_neg z, show (0 : Int32) = nI 0 from rfl, hfull]
        dsimp only [bO]
        rw [show nI 0 = (0 : Int32) from rfl, ev_bI, if_neg hz, show (0 : Int32) = nI 0 from rfl, hput, hW1]
        rfl
      · rw [cM W1 q0, if_neg z, if_neg h4, if_neg (show ¬ nI (A 162) = (60 : Int32) from fun y => hz ((nI_eq (b := 60) (by omega) (by decide)).mp y))]
      · refine rr_now (frP_trans (frP_trans (frP_trans (frP_trans f1 (now_0 _)) (now_207 _ _ (by omega))) (now_208 _ _ (by omega))) (now_207 _ _ (by omega))) hw ⟨uN (uN A (163 + A 162) t) 162 (A 162 + 1), uN L (480 + A 162) (cln a3), F, W, RN_lineP h rfl hlt ht hlC hW1 (RM_A (RM_L (RM_A m1 t) (cln a3)) (A 162 + 1)) (fun a b _ _ => ?_)⟩
        exact ⟨by simp (disch := omega) only [ev_wIn, wI_sJ], by simp (disch := omega) only [ev_wJn, wJ_sI]⟩
