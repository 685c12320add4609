/-! version, answer -/
section VER
variable {A : Nat → Nat} {L : Nat → Int64} {F W : Nat → Nat} {w : jWd}
def veA (A : Nat → Nat) (d t : Nat) : Nat → Nat := uN (uN (uN A (507 + A 506) d) (527 + A 506) t) 506 (A 506 + 1)
def veL (A : Nat → Nat) (L : Nat → Int64) (o y : Int64) : Nat → Int64 := uN (uN L (684 + A 506) o) (704 + A 506) y
theorem RN_ver (h : RN A L F W w) (h0 : A 506 < 20) {d t : Nat} (hd : d ≤ 9999) (ht : t ≤ 9) {o y : Int64} (ho : isL o) (hy : isL y) {w2 : jWd} (q24 : ∀ k, wI w2 24 k = if k = A 506 then nI t else wI w 24 k) (q26 : ∀ k, wI w2 26 k = if k = A 506 then nI d else wI w 26 k) (q27 : ∀ k, wI w2 27 k = if k = A 506 then nI 2 else wI w 27 k) (q29 : ∀ k, wJ w2 29 k = if k = 2 * A 506 + 1 then y else if k = 2 * A 506 then o else wJ w 29 k) (q23 : wI w2 23 2 = nI (A 506 + 1)) (q231 : ∀ k, k ≠ 2 → wI w2 23 k = wI w 23 k) (hX : ∀ c k, 1 ≤ c → c ≤ 57 → ¬ (23 ≤ c ∧ c ≤ 29) → wI w2 c k = wI w c k ∧ wJ w2 c k = wJ w c k) (hM : RM (veA A d t) (veL A L o y) F W 0 w2) : RN (veA A d t) (veL A L o y) F W w2 := by
  obtain ⟨⟨i1, i2, i3, i4, i5⟩, x, co, m⟩ := h
  have hA : InA (veA A d t) := by
    unfold veA
    have e1 := InA_up i1 (k := 507 + A 506) (v := d) (by unfold okA; omega)
    have e2 := InA_up e1 (k := 527 + A 506) (v := t) (by unfold okA; omega)
    exact InA_up e2 (k := 506) (v := A 506 + 1) (by unfold okA; omega)
  have e0 : veA A d t 506 = A 506 + 1 := uN_eq
  have eA : ∀ j, ¬ (506 ≤ j ∧ j < 547) → veA A d t j = A j := fun j hj => by unfold veA; simp (disch := omega) only [uN_ne]
  have eL : ∀ j, ¬ (684 ≤ j ∧ j < 724) → veL A L o y j = L j := fun j hj => by unfold veL; simp (disch := omega) only [uN_ne]
  have lim := RN_lim i1
  have d0 := i1.2.1
  have d0' := i1.2.2.1
  have d1 := i1.2.2.2.2.1
  have d1' := i1.2.2.2.2.2.1
  have d2 := i1.2.2.2.1
  refine ⟨⟨hA, ?_, ?_, i4, i5⟩, ?_, ?_, hM⟩
  · obtain ⟨q1, q2, q3, q4, q5⟩ := i2
    refine ⟨fun i hi => ?_, fun i g hi hg => ?_, fun i hi => ?_, fun i hi => ?_, ?_⟩
    · rw [eA _ (by omega)] at hi ⊢; exact q1 i hi
    · rw [eA _ (by omega)] at hi ⊢; exact q2 i g hi hg
    · rw [eA _ (by omega)] at hi ⊢; exact q3 i hi
    · rw [eA _ (by omega)] at hi; rw [eA _ (by omega), eA _ (by omega)]; exact q4 i hi
    · rw [eA _ (by omega)]; exact q5
  · obtain ⟨q1, q2, q3, q4, q5⟩ := i3
    refine ⟨fun i k hi hk => ?_, fun i k hi hk => ?_, fun p hp => ?_, fun v hv => ?_, fun i hi => ?_⟩
    · rw [eA _ (by omega)] at hi; rw [eA _ (by omega)] at hk
      have := d0' i (by omega)
      rw [eL _ (by omega)]; exact q1 i k hi hk
    · rw [eA _ (by omega)] at hi; rw [eA _ (by omega)] at hk
      have := d1' i (by omega)
      rw [eL _ (by omega)]; exact q2 i k hi hk
    · rw [eA _ (by omega)] at hp; rw [eL _ (by omega)]; exact q3 p hp
    · rw [e0] at hv
      unfold veL
      by_cases e : v = A 506
      · subst e
        rw [uN_ne (by omega), uN_eq, uN_eq]
        exact ⟨ho, hy⟩
      · simp (disch := omega) only [uN_ne]
        exact q4 v (by omega)
    · rw [eA _ (by omega)] at hi; rw [eL _ (by omega)]; exact q5 i hi
  · refine RX_RVers i1 x (fun j hj => eA j hj) (fun j hj => eL j hj) (fun c j h1 h2 hc => (hX c j h1 h2 hc).1) (fun c j h1 h2 hc => (hX c j h1 h2 hc).2) ?_
    obtain ⟨s0, s1⟩ := x.2.2.2.1
    refine ⟨by rw [e0]; exact q23, fun v hv => ?_⟩
    rw [e0] at hv
    have a24 := q24 v
    have a26 := q26 v
    have a27 := q27 v
    have a29 := q29 (2 * v)
    have a29b := q29 (2 * v + 1)
    by_cases e : v = A 506
    · subst e
      rw [if_pos rfl] at a24 a26 a27
      rw [if_neg (by omega), if_pos rfl] at a29
      rw [if_pos rfl] at a29b
      unfold veA veL
      simp (disch := omega) only [uN_ne, uN_eq]
      exact ⟨a24, a26, a27, a29, a29b⟩
    · rw [if_neg e] at a24 a26 a27
      rw [if_neg (by omega), if_neg (by omega)] at a29 a29b
      obtain ⟨t1, t2, t3, t4, t5⟩ := s1 v (by omega)
      unfold veA veL
      simp (disch := omega) only [uN_ne]
      exact ⟨a24.trans t1, a26.trans t2, a27.trans t3, a29.trans t4, a29b.trans t5⟩
  · refine RCon_c (fun c j hc hj => ?_) co
    by_cases e : c = 23
    · subst e
      exact q231 j (by omega)
    · exact (hX c j (by omega) (by omega) (by omega)).1
def anA (A : Nat → Nat) (g d h f s : Nat) : Nat → Nat := uN (uN (uN (uN (uN (uN A (548 + A 547) g) (608 + A 547) d) (668 + A 547) h) (728 + A 547) f) (788 + A 547) s) 547 (A 547 + 1)
theorem RN_ans (h : RN A L F W w) (h0 : A 547 < 60) {g d ho f s : Nat} (hg : g ≤ 15) (hd : d ≤ 9999) (hh : ho ≤ 9) (hf : f ≤ 2) (hs : s ≤ 2) {l : Int64} (hl : isC l) {w2 : jWd} (hX : ∀ c k, 1 ≤ c → c ≤ 57 → wI w2 c k = wI (sJ (sI (sI (sI (sI (sI (sI w 42 (A 547) (nI g)) 43 (A 547) (nI d)) 44 (A 547) (nI ho)) 41 0 (nI (A 547 + 1))) 45 (A 547) (nI f)) 46 (A 547) (nI s)) 47 (A 547) l) c k ∧ wJ w2 c k = wJ (sJ (sI (sI (sI (sI (sI (sI w 42 (A 547) (nI g)) 43 (A 547) (nI d)) 44 (A 547) (nI ho)) 41 0 (nI (A 547 + 1))) 45 (A 547) (nI f)) 46 (A 547) (nI s)) 47 (A 547) l) c k) (hM : RM (anA A g d ho f s) (uN L (724 + A 547) l) F W 0 w2) : RN (anA A g d ho f s) (uN L (724 + A 547) l) F W w2 := by
  obtain ⟨⟨i1, i2, i3, i4, i5⟩, x, co, m⟩ := h
  have hA : InA (anA A g d ho f s) := by
    unfold anA
    have e1 := InA_up i1 (k := 548 + A 547) (v := g) (by unfold okA; omega)
    have e2 := InA_up e1 (k := 608 + A 547) (v := d) (by unfold okA; omega)
    have e3 := InA_up e2 (k := 668 + A 547) (v := ho) (by unfold okA; omega)
    have e4 := InA_up e3 (k := 728 + A 547) (v := f) (by unfold okA; omega)
    have e5 := InA_up e4 (k := 788 + A 547) (v := s) (by unfold okA; omega)
    exact InA_up e5 (k := 547) (v := A 547 + 1) (by unfold okA; omega)
  have e0 : anA A g d ho f s 547 = A 547 + 1 := uN_eq
  have eA : ∀ j, ¬ (547 ≤ j ∧ j < 848) → anA A g d ho f s j = A j := fun j hj => by unfold anA; simp (disch := omega) only [uN_ne]
  have lim := RN_lim i1
  have d0 := i1.2.1
  have d0' := i1.2.2.1
  have d1 := i1.2.2.2.2.1
  have d1' := i1.2.2.2.2.2.1
  have d2 := i1.2.2.2.1
  have d3 := i1.2.2.2.2.2.2.2.1
  refine ⟨⟨hA, ?_, ?_, i4, i5⟩, ?_, ?_, hM⟩
  · obtain ⟨q1, q2, q3, q4, q5⟩ := i2
    refine ⟨fun i hi => ?_, fun i g hi hg => ?_, fun i hi => ?_, fun i hi => ?_, ?_⟩
    · rw [eA _ (by omega)] at hi ⊢; exact q1 i hi
    · rw [eA _ (by omega)] at hi ⊢; exact q2 i g hi hg
    · rw [e0] at hi
      by_cases e : i = A 547
      · subst e
        unfold anA
        simp (disch := omega) only [uN_ne, uN_eq]
        exact hh
      · unfold anA
        simp (disch := omega) only [uN_ne]
        exact q3 i (by omega)
    · rw [eA _ (by omega)] at hi; rw [eA _ (by omega), eA _ (by omega)]; exact q4 i hi
    · rw [eA _ (by omega)]; exact q5
  · obtain ⟨q1, q2, q3, q4, q5⟩ := i3
    refine ⟨fun i k hi hk => ?_, fun i k hi hk => ?_, fun p hp => ?_, fun v hv => ?_, fun i hi => ?_⟩
    · rw [eA _ (by omega)] at hi; rw [eA _ (by omega)] at hk
      have := d0' i (by omega)
      rw [uN_ne (by omega)]; exact q1 i k hi hk
    · rw [eA _ (by omega)] at hi; rw [eA _ (by omega)] at hk
      have := d1' i (by omega)
      rw [uN_ne (by omega)]; exact q2 i k hi hk
    · rw [eA _ (by omega)] at hp; rw [uN_ne (by omega)]; exact q3 p hp
    · rw [eA _ (by omega)] at hv; rw [uN_ne (by omega), uN_ne (by omega)]; exact q4 v hv
    · rw [e0] at hi
      by_cases e : i = A 547
      · subst e; rw [uN_eq]; exact hl
      · rw [uN_ne (by omega)]; exact q5 i (by omega)
  · refine RX_cg hA (fun c k h1 h2 => (hX c k h1 (by omega)).1) (fun c k h1 h2 => (hX c k h1 (by omega)).2) ?_
    refine RX_RAns i1 x (fun j hj => eA j hj) (fun j hj => uN_ne (by omega)) (fun c j _ _ hc => by simp (disch := omega) only [ev_wIn, wI_sJ]) (fun c j _ _ hc => by simp (disch := omega) only [ev_wJn, wJ_sI]) ?_
    obtain ⟨s0, s1⟩ := x.2.2.2.2.2.2.2.1
    refine ⟨by rw [e0]; simp (disch := omega) only [ev_wIn, wI_sJ]; exact ev_wIs _ _ _ _, fun i hi => ?_⟩
    rw [e0] at hi
    by_cases e : i = A 547
    · subst e
      unfold anA
      simp (disch := omega) only [uN_ne, uN_eq, ev_wIn, wI_sJ]
      refine ⟨ev_wIs _ _ _ _, ev_wIs _ _ _ _, ev_wIs _ _ _ _, ev_wIs _ _ _ _, ev_wIs _ _ _ _, ev_wJs _ _ _ _⟩
    · unfold anA
      simp (disch := omega) only [uN_ne, ev_wIn, wI_sJ, ev_wJn, wJ_sI]
      exact s1 i (by omega)
  · refine RCon_c (fun c j hc hj => ?_) co
    rw [(hX c j (by omega) (by omega)).1]
    simp (disch := omega) only [ev_wIn, wI_sJ]
theorem ans_M {n m : Nat} (hn : 8 < n) (h0 : wI w 207 547 = nI m) (hm : m < 60) (g d h f s : Int32) (l : Int64) : fX12_answers n g d h f s l w = some (sI (sJ (sI (sI (sI (sI (sI w 207 (548 + m) g) 207 (608 + m) d) 207 (668 + m) h) 207 (728 + m) f) 207 (788 + m) s) 208 (724 + m) (cln l)) 207 547 (nI (m + 1))) := by
  have l7 : ln 207 = 3372 := rfl
  have l8 : ln 208 = 2352 := rfl
  have e1 : (548 : Int32) + nI m = nI (548 + m) := nI_add 548 m
  have e2 : (608 : Int32) + nI m = nI (608 + m) := nI_add 608 m
  have e3 : (668 : Int32) + nI m = nI (668 + m) := nI_add 668 m
  have e4 : (728 : Int32) + nI m = nI (728 + m) := nI_add 728 m
  have e5 : (788 : Int32) + nI m = nI (788 + m) := nI_add 788 m
  have e6 : (724 : Int32) + nI m = nI (724 + m) := nI_add 724 m
  unfold fX12_answers letV
  dsimp only
  rw [h0, e1, e2, e3, e4, e5, e6, l7, l8, cln_M hn]
  dsimp only [bO]
  simp (disch := omega) only [grd_N, nI_clamp, ev_wIn, wI_sJ, h0, nI_1]
theorem ans_X {m : Nat} (h0 : wI w 41 0 = nI m) (hm : m < 60) (g d h f s : Int32) (l : Int64) : bO2 (fX0_start 41 g d h w) (fun (r_14 : Int32) (w_13 : jWd) => bO (fX0_hear 41 r_14 f s l w_13) (fun (w_16 : jWd) => some (r_14, w_16))) = some (nI m, sJ (sI (sI (sI (sI (sI (sI w 42 m g) 43 m d) 44 m h) 41 0 (nI (m + 1))) 45 m f) 46 m s) 47 m l) := by
  have l1 : ln (41 + 1) = 60 := rfl
  have l2 : ln (41 + 2) = 60 := rfl
  have l3 : ln (41 + 3) = 60 := rfl
  have l4 : ln (41 + 4) = 60 := rfl
  have l5 : ln (41 + 5) = 60 := rfl
  have l6 : ln (41 + 6) = 60 := rfl
  have hs : fX0_start 41 g d h w = some (nI m, sI (sI (sI (sI w 42 m g) 43 m d) 44 m h) 41 0 (nI (m + 1))) := by
    unfold fX0_start letV
    dsimp only
    rw [h0, if_pos (show nI m < (60 : Int32) from nI_lt (b := 60) hm (by decide)), l1, l2, l3]
    simp (disch := omega) only [grd_N, nI_clamp, ev_wIn, h0, nI_1]
  rw [hs]
  dsimp only [bO2]
  have hh : fX0_has 41 (nI m) (sI (sI (sI (sI w 42 m g) 43 m d) 44 m h) 41 0 (nI (m + 1))) = bI true := ha_yes (show m < m + 1 by omega) (by omega) (ev_wIs _ _ _ _)
  unfold fX0_hear letV
  rw [hh, if_neg (by decide), l4, l5, l6]
  simp (disch := omega) only [grd_N, nI_clamp]
  rfl
end VER
theorem s_version : fS_version RR := by
  intro w a0 a1 a2 a3 hw
  obtain ⟨⟨A, L, F, W, h⟩, -⟩ := id hw
  have h20 := RN_20 h
  have hM := rd_M h
  have hL0 := lnB_le a0
  have hL1 := lnB_le a1
  have l7 : ln 207 = 3372 := rfl
  have l8 : ln 208 = 2352 := rfl
  have e0 : lg_cmp (cln a0) (0 : Int64) = 0 ↔ lnB a0 = 0 := (l0_iff _).trans cln_0
  have e1 : lg_cmp (cln a1) (0 : Int64) = 0 ↔ lnB a1 = 0 := (l0_iff _).trans cln_0
  have z0 : nI (lnB a0) = (0 : Int32) ↔ lnB a0 = 0 := nI_z (by omega)
  have z1 : nI (lnB a1) = (0 : Int32) ↔ lnB a1 = 0 := nI_z (by omega)
  refine ⟨20000, ?_⟩
  have cX : fX11_version 20000 a0 a1 a2 a3 w = if lnB a0 = 0 then some ((-3 : Int32), rfX w 3) else if lnB a1 = 0 then some ((-3 : Int32), rfX w 3) else if fX11_within a2.toInt64 0 9999 = 0 then some ((-3 : Int32), rfX w 3) else if fX11_within a3.toInt64 0 9 = 0 then some ((-3 : Int32), rfX w 3) else if fX5_isFull 23 w = 0 then bO2 (fX5_start 23 a3 (0 : Int32) a2 w) (fun (r_15 : Int32) (w_14 : jWd) => bO2 (fX5_put 23 r_15 a3 (cln a0) w_14) (fun (r_18 : Int32) (w_17 : jWd) => bO2 (fX5_put 23 r_15 a3 (cln a1) w_17) (fun (r_21 : Int32) (w_20 : jWd) => some (r_15, w_20)))) else some ((-4 : Int32), rfX w 4) := by
    unfold fX11_version letV
    rw [cln_X (by decide), cln_X (by decide)]
    dsimp only [bO]
    rw [rx_id3, rx_id4]
    simp only [e0, e1]
  have cM : ∀ w1, wI (sI w1 205 0 (0 : Int32)) 207 506 = nI (A 506) → A 506 ≤ 20 → fX12_version 20000 a0 a1 a2 a3 w1 = if lnB a0 = 0 then some ((-3 : Int32), rfM (sI w1 205 0 (0 : Int32)) 3) else if lnB a1 = 0 then some ((-3 : Int32), rfM (sI w1 205 0 (0 : Int32)) 3) else if fX12_within a2.toInt64 0 9999 = 0 then some ((-3 : Int32), rfM (sI w1 205 0 (0 : Int32)) 3) else if fX12_within a3.toInt64 0 9 = 0 then some ((-3 : Int32), rfM (sI w1 205 0 (0 : Int32)) 3) else if nI (A 506) = (20 : Int32) then some ((-4 : Int32), rfM (sI w1 205 0 (0 : Int32)) 4) else some (nI (A 506), sI (sI (sI (sJ (sJ (sI w1 205 0 (0 : Int32)) 208 (684 + A 506) (cln a0)) 208 (704 + A 506) (cln a1)) 207 (507 + A 506) a2) 207 (527 + A 506) a3) 207 506 (nI (A 506 + 1))) := by
    intro w1 h0' hle
    have f1 : (684 : Int32) + nI (A 506) = nI (684 + A 506) := nI_add 684 _
    have f2 : (704 : Int32) + nI (A 506) = nI (704 + A 506) := nI_add 704 _
    have f3 : (507 : Int32) + nI (A 506) = nI (507 + A 506) := nI_add 507 _
    have f4 : (527 : Int32) + nI (A 506) = nI (527 + A 506) := nI_add 527 _
    unfold fX12_version letV
    rw [len_M (by decide), len_M (by decide), cln_M (by decide), cln_M (by decide)]
    dsimp only [bO]
    rw [no_id3, no_id4, h0', f1, f2, f3, f4, l7, l8]
    simp (disch := omega) only [z0, z1, grd_N, nI_clamp, ev_wIn, wI_sJ, h0', nI_1]
  have bad3 : (lnB a0 = 0 ∨ lnB a1 = 0 ∨ fX11_within a2.toInt64 0 9999 = 0 ∨ fX11_within a3.toInt64 0 9 = 0) → ∃ v w1 w2, fX11_version 20000 a0 a1 a2 a3 w = some (v, w1) ∧ fX12_version 20000 a0 a1 a2 a3 w1 = some (v, w2) ∧ RR w2 := by
    intro hb
    refine rr_call hw (.inr ⟨-3, 3, by decide, by decide, ⟨w, ?_, frP_refl _ _⟩, fun w1 f1 => ⟨sI w1 205 0 (0 : Int32), ?_, frS_0 w1⟩⟩)
    · rw [cX]
      by_cases y1 : lnB a0 = 0
      · rw [if_pos y1]
      · rw [if_neg y1]
        by_cases y2 : lnB a1 = 0
        · rw [if_pos y2]
        · rw [if_neg y2]
          by_cases y3 : fX11_within a2.toInt64 0 9999 = 0
          · rw [if_pos y3]
          · rw [if_neg y3, if_pos (((hb.resolve_left y1).resolve_left y2).resolve_left y3)]
    · rw [cM w1 (RN_A (hM w1 f1) (by decide)) h20]
      by_cases y1 : lnB a0 = 0
      · rw [if_pos y1]
      · rw [if_neg y1]
        by_cases y2 : lnB a1 = 0
        · rw [if_pos y2]
        · rw [if_neg y2]
          by_cases y3 : fX12_within a2.toInt64 0 9999 = 0
          · rw [if_pos y3]
          · rw [if_neg y3, if_pos (show fX12_within a3.toInt64 0 9 = 0 from ((hb.resolve_left y1).resolve_left y2).resolve_left y3)]
  by_cases y1 : lnB a0 = 0
  · exact bad3 (.inl y1)
  by_cases y2 : lnB a1 = 0
  · exact bad3 (.inr (.inl y2))
  rcases wi_cs a2 0 9999 (a := 0) (b := 9999) rfl rfl (by decide) (by decide) with ⟨h1, h2⟩ | ⟨d, _, hd, rfl, h1, h2⟩
  · exact bad3 (.inr (.inr (.inl h1)))
  rcases wi_cs a3 0 9 (a := 0) (b := 9) rfl rfl (by decide) (by decide) with ⟨h3, h4⟩ | ⟨t, _, ht, rfl, h3, h4⟩
  · exact bad3 (.inr (.inr (.inr h3)))
  have s0 := h.2.1.2.2.2.1.1
  have c0 : wI w 23 0 = nI 20 := h.2.2.1.2.2.2.2.2.2.2.1
  have c1 : wI w 23 1 = nI 2 := h.2.2.1.2.2.2.2.2.2.2.2
  have hfull := full_X (t := 23) s0 c0 (by decide) h20
  by_cases hz : A 506 = 20
  · refine rr_call hw (.inr ⟨-4, 4, by decide, by decide, ⟨w, ?_, frP_refl _ _⟩, fun w1 f1 => ⟨sI w1 205 0 (0 : Int32), ?_, frS_0 w1⟩⟩)
    · rw [cX, if_neg y1, if_neg y2, if_neg h1, if_neg h3, hfull, ev_bI, if_pos hz]
    · rw [cM w1 (RN_A (hM w1 f1) (by decide)) h20, if_neg y1, if_neg y2, if_neg h2, if_neg h4, if_pos (by rw [hz]; rfl)]
  · have hlt : A 506 < 20 := by omega
    obtain ⟨v, hv⟩ : ∃ v, A 506 = v := ⟨_, rfl⟩
    rw [hv] at hlt s0 hz hfull
    have b1 := start_X (t := 23) s0 c0 hlt (by decide) rfl rfl rfl rfl (nI t) (0 : Int32) (nI d)
    obtain ⟨U1, hU1⟩ : ∃ U1, U1 = sI (sI (sI (sI (sI w 24 v (nI t)) 25 v (0 : Int32)) 26 v (nI d)) 27 v (0 : Int32)) 23 2 (nI (v + 1)) := ⟨_, rfl⟩
    have b1 : fX5_start 23 (nI t) (0 : Int32) (nI d) w = some (nI v, U1) := by rw [hU1]; exact b1
    have b2 := put_X (t := 23) (w := U1) (g := v) (m := v + 1) (c := 0) (e := 2) (by rw [hU1]; exact ev_wIs _ _ _ _) (by omega) (by omega) (by rw [hU1]; simp (disch := omega) only [ev_wIn]; exact c1) (by rw [hU1]; simp (disch := omega) only [ev_wIn]; exact ev_wIs _ _ _ _) (by decide) (by decide) (by show v < 20; omega) (by show v * 2 + 0 < 40; omega) (by show v * 2 + 0 < 40; omega) (by decide) (by decide) (by decide) (nI t) (cln a0)
    obtain ⟨U2, hU2⟩ : ∃ U2, U2 = sI (sJ (sI U1 28 (v * 2 + 0) (nI t)) 29 (v * 2 + 0) (cln a0)) 27 v (nI (0 + 1)) := ⟨_, rfl⟩
    have b2 : fX5_put 23 (nI v) (nI t) (cln a0) U1 = some (nI 0, U2) := by rw [hU2]; exact b2
    have b3 := put_X (t := 23) (w := U2) (g := v) (m := v + 1) (c := 1) (e := 2) (by rw [hU2, hU1]; simp (disch := omega) only [ev_wIn, wI_sJ]; exact ev_wIs _ _ _ _) (by omega) (by omega) (by rw [hU2, hU1]; simp (disch := omega) only [ev_wIn, wI_sJ]; exact c1) (by rw [hU2]; exact ev_wIs _ _ _ _) (by decide) (by decide) (by show v < 20; omega) (by show v * 2 + 1 < 40; omega) (by show v * 2 + 1 < 40; omega) (by decide) (by decide) (by decide) (nI t) (cln a1)
    obtain ⟨U3, hU3⟩ : ∃ U3, U3 = sI (sJ (sI U2 28 (v * 2 + 1) (nI t)) 29 (v * 2 + 1) (cln a1)) 27 v (nI (1 + 1)) := ⟨_, rfl⟩
    have b3 : fX5_put 23 (nI v) (nI t) (cln a1) U2 = some (nI 1, U3) := by rw [hU3]; exact b3
    have f1 : frP NowS w U3 := by
      rw [hU3, hU2, hU1]
      exact frP_trans (frP_trans (frP_trans (frP_trans (frP_trans (frP_trans (frP_trans (frP_trans (frP_trans (frP_trans (now_X _ _ _ (by decide) (by decide)) (now_X _ _ _ (by decide) (by decide))) (now_X _ _ _ (by decide) (by decide))) (now_X _ _ _ (by decide) (by decide))) (now_X _ _ _ (by decide) (by decide))) (now_X _ _ _ (by decide) (by decide))) (now_XJ _ _ _ (by decide) (by decide))) (now_X _ _ _ (by decide) (by decide))) (now_X _ _ _ (by decide) (by decide))) (now_XJ _ _ _ (by decide) (by decide))) (now_X _ _ _ (by decide) (by decide))
    have m1 : RM A L F W 0 (sI U3 205 0 (0 : Int32)) := by
      rw [hU3, hU2, hU1]
      exact RM_I (RM_I (RM_J (RM_I (RM_I (RM_J (RM_I (RM_I (RM_I (RM_I (RM_I (RM_I h.2.2.2 _ (by omega)) _ (by omega)) _ (by omega)) _ (by omega)) _ (by omega)) _ (by omega)) _ (by omega)) _ (by omega)) _ (by omega)) _ (by omega)) _ (by omega)) _ (by omega)
    have q0 : wI (sI U3 205 0 (0 : Int32)) 207 506 = nI (A 506) := by
      have e := m1.1 506 (by decide)
      exact e
    refine ⟨nI v, U3, sI (sI (sI (sJ (sJ (sI U3 205 0 (0 : Int32)) 208 (684 + v) (cln a0)) 208 (704 + v) (cln a1)) 207 (507 + v) (nI d)) 207 (527 + v) (nI t)) 207 506 (nI (v + 1)), ?_, ?_, ?_⟩
    · rw [cX, if_neg y1, if_neg y2, if_neg h1, if_neg h3, hfull, ev_bI, if_neg hz, b1]
      dsimp only [bO2]
      rw [b2]
      dsimp only
      rw [b3]
    · rw [cM U3 q0 h20, if_neg y1, if_neg y2, if_neg h2, if_neg h4, hv, if_neg (show ¬ nI v = (20 : Int32) from fun z => hz ((nI_eq (b := 20) (by omega) (by decide)).mp z))]
    · refine rr_now (frP_trans (frP_trans (frP_trans (frP_trans (frP_trans (frP_trans f1 (now_0 _)) (now_208 _ _ (by omega))) (now_208 _ _ (by omega))) (now_207 _ _ (by omega))) (now_207 _ _ (by omega))) (now_207 _ _ (by omega))) hw ⟨veA A d t, veL A L (cln a0) (cln a1), F, W, ?_⟩
      subst hv
      refine RN_ver h hlt hd ht (isL_cln y1) (isL_cln y2) (fun k => ?_) (fun k => ?_) (fun k => ?_) (fun k => ?_) ?_ (fun k hk => ?_) (fun c k c1 c2 c3 => ⟨?_, ?_⟩) (RM_A (RM_A (RM_A (RM_L (RM_L m1 (cln a0)) (cln a1)) d) t) (A 506 + 1))
      · rw [hU3, hU2, hU1]
        simp (disch := omega) only [ev_wIn, wI_sJ]
        rw [wI_sI]
        by_cases e : k = A 506
        · rw [if_pos ⟨rfl, e⟩, if_pos e]
        · rw [if_neg (fun z => e z.2), if_neg e]
      · rw [hU3, hU2, hU1]
        simp (disch := omega) only [ev_wIn, wI_sJ]
        rw [wI_sI]
        by_cases e : k = A 506
        · rw [if_pos ⟨rfl, e⟩, if_pos e]
        · rw [if_neg (fun z => e z.2), if_neg e]
          simp (disch := omega) only [ev_wIn]
      · by_cases e : k = A 506
        · subst e
          rw [if_pos rfl, hU3]
          simp (disch := omega) only [ev_wIn, wI_sJ]
          exact ev_wIs _ _ _ _
        · rw [if_neg e, hU3, hU2, hU1]
          simp (disch := omega) only [ev_wIn, wI_sJ]
      · by_cases e : k = 2 * A 506 + 1
        · subst e
          rw [if_pos rfl, hU3]
          simp (disch := omega) only [ev_wJn, wJ_sI]
          rw [show A 506 * 2 + 1 = 2 * A 506 + 1 by omega]
          exact ev_wJs _ _ _ _
        · rw [if_neg e]
          by_cases e2 : k = 2 * A 506
          · subst e2
            rw [if_pos rfl, hU3, hU2]
            simp (disch := omega) only [ev_wJn, wJ_sI]
            rw [show A 506 * 2 + 0 = 2 * A 506 by omega]
            exact ev_wJs _ _ _ _
          · rw [if_neg e2, hU3, hU2, hU1]
            simp (disch := omega) only [ev_wJn, wJ_sI]
      · rw [hU3, hU2, hU1]
        simp (disch := omega) only [ev_wIn, wI_sJ]
        exact ev_wIs _ _ _ _
      · rw [hU3, hU2, hU1]
        simp (disch := omega) only [ev_wIn, wI_sJ]
      · rw [hU3, hU2, hU1]
        simp (disch := omega) only [ev_wIn, wI_sJ]
      · rw [hU3, hU2, hU1]
        simp (disch := omega) only [ev_wJn, wJ_sI]
theorem s_answer : fS_answer RR := by
  intro w a0 a1 a2 a3 a4 a5 hw
  obtain ⟨⟨A, L, F, W, h⟩, -⟩ := id hw
  have h60 := RN_60 h
  have hM := rd_M h
  have hL := lnB_le a5
  have e0 : lg_cmp (cln a5) (0 : Int64) = 0 ↔ lnB a5 = 0 := (l0_iff _).trans cln_0
  have z0 : nI (lnB a5) = (0 : Int32) ↔ lnB a5 = 0 := nI_z (by omega)
  refine ⟨20000, ?_⟩
  have cX : fX11_answer 20000 a0 a1 a2 a3 a4 a5 w = if fX11_isGlenAndDay a0 a1 = 0 then some ((-3 : Int32), rfX w 3) else if fX11_within a2.toInt64 0 9 = 0 then some ((-3 : Int32), rfX w 3) else if fX11_within a3.toInt64 0 2 = 0 then some ((-3 : Int32), rfX w 3) else if fX11_within a4.toInt64 0 2 = 0 then some ((-3 : Int32), rfX w 3) else if lnB a5 = 0 ∧ a5 ≠ 0 then some ((-3 : Int32), rfX w 3) else if fX0_room 41 w = 0 then some ((-4 : Int32), rfX w 4) else bO2 (fX0_start 41 a0 a1 a2 w) (fun (r_14 : Int32) (w_13 : jWd) => bO (fX0_hear 41 r_14 a3 a4 (cln a5) w_13) (fun (w_16 : jWd) => some (r_14, w_16))) := by
    unfold fX11_answer letV
    rw [cln_X (by decide)]
    dsimp only [bO]
    rw [rx_id3, rx_id4]
    simp only [e0, l0_iff]
    by_cases y1 : lnB a5 = 0
    · by_cases y2 : a5 = 0
      · simp only [if_pos y1, if_pos y2, if_neg (show ¬ (lnB a5 = 0 ∧ a5 ≠ 0) from fun z => z.2 y2)]
      · simp only [if_pos y1, if_neg y2, if_pos (show lnB a5 = 0 ∧ a5 ≠ 0 from ⟨y1, y2⟩)]
    · simp only [if_neg y1, if_neg (show ¬ (lnB a5 = 0 ∧ a5 ≠ 0) from fun z => y1 z.1)]
  have cM : ∀ w1, wI (sI w1 205 0 (0 : Int32)) 207 547 = nI (A 547) → fX12_answer 20000 a0 a1 a2 a3 a4 a5 w1 = if fX12_isAnswer a0.toInt64 a1.toInt64 a2.toInt64 a3.toInt64 a4.toInt64 = 0 then some ((-3 : Int32), rfM (sI w1 205 0 (0 : Int32)) 3) else if lnB a5 = 0 ∧ a5 ≠ 0 then some ((-3 : Int32), rfM (sI w1 205 0 (0 : Int32)) 3) else if nI (A 547) = (60 : Int32) then some ((-4 : Int32), rfM (sI w1 205 0 (0 : Int32)) 4) else bO (fX12_answers 20000 a0 a1 a2 a3 a4 a5 (sI w1 205 0 (0 : Int32))) (fun (w_9 : jWd) => some (((wI w_9 207 547) - (1 : Int32)), w_9)) := by
    intro w1 h0'
    unfold fX12_answer letV
    dsimp only
    rw [len_M (by decide)]
    dsimp only [bO]
    rw [no_id3, no_id4, h0']
    simp only [z0, l0_iff]
    by_cases y2 : a5 = 0
    · simp only [if_pos y2, if_neg (show ¬ (lnB a5 = 0 ∧ a5 ≠ 0) from fun z => z.2 y2)]
    · by_cases y1 : lnB a5 = 0
      · simp only [if_neg y2, if_pos y1, if_pos (show lnB a5 = 0 ∧ a5 ≠ 0 from ⟨y1, y2⟩)]
      · simp only [if_neg y2, if_neg y1, if_neg (show ¬ (lnB a5 = 0 ∧ a5 ≠ 0) from fun z => y1 z.1)]
  have bad3 : ((fX11_isGlenAndDay a0 a1 = 0 ∧ (fX12_within a0.toInt64 0 15 = 0 ∨ fX12_within a1.toInt64 0 9999 = 0)) ∨ fX11_within a2.toInt64 0 9 = 0 ∨ fX11_within a3.toInt64 0 2 = 0 ∨ fX11_within a4.toInt64 0 2 = 0 ∨ (lnB a5 = 0 ∧ a5 ≠ 0)) → ∃ v w1 w2, fX11_answer 20000 a0 a1 a2 a3 a4 a5 w = some (v, w1) ∧ fX12_answer 20000 a0 a1 a2 a3 a4 a5 w1 = some (v, w2) ∧ RR w2 := by
    intro hb
    refine rr_call hw (.inr ⟨-3, 3, by decide, by decide, ⟨w, ?_, frP_refl _ _⟩, fun w1 f1 => ⟨sI w1 205 0 (0 : Int32), ?_, frS_0 w1⟩⟩)
    · rw [cX]
      by_cases y1 : fX11_isGlenAndDay a0 a1 = 0
      · rw [if_pos y1]
      rw [if_neg y1]
      have hb := hb.resolve_left (fun z => y1 z.1)
      by_cases y2 : fX11_within a2.toInt64 0 9 = 0
      · rw [if_pos y2]
      rw [if_neg y2]
      have hb := hb.resolve_left y2
      by_cases y3 : fX11_within a3.toInt64 0 2 = 0
      · rw [if_pos y3]
      rw [if_neg y3]
      have hb := hb.resolve_left y3
      by_cases y4 : fX11_within a4.toInt64 0 2 = 0
      · rw [if_pos y4]
      rw [if_neg y4, if_pos (hb.resolve_left y4)]
    · rw [cM w1 (RN_A (hM w1 f1) (by decide))]
      by_cases y : fX12_isAnswer a0.toInt64 a1.toInt64 a2.toInt64 a3.toInt64 a4.toInt64 = 0
      · rw [if_pos y]
      rw [if_neg y]
      refine if_pos ?_
      unfold fX12_isAnswer at y
      by_cases y1 : fX12_within a0.toInt64 0 15 = 0
      · rw [if_pos y1] at y; exact absurd rfl y
      rw [if_neg y1] at y
      by_cases y2 : fX12_within a1.toInt64 0 9999 = 0
      · rw [if_pos y2] at y; exact absurd rfl y
      rw [if_neg y2] at y
      by_cases y3 : fX12_within a2.toInt64 0 9 = 0
      · rw [if_pos y3] at y; exact absurd rfl y
      rw [if_neg y3] at y
      by_cases y4 : fX12_within a3.toInt64 0 2 = 0
      · rw [if_pos y4] at y; exact absurd rfl y
      rw [if_neg y4] at y
      by_cases y5 : fX12_within a4.toInt64 0 2 = 0
      · rw [if_pos y5] at y; exact absurd rfl y
      exact ((((hb.resolve_left (fun z => z.2.elim y1 y2)).resolve_left y3).resolve_left y4).resolve_left y5)
  rcases gd_cs a0 a1 with hh | ⟨g, d, hg, hd, rfl, rfl, q1, q2, q3⟩
  · exact bad3 (.inl hh)
  rcases wi_cs a2 0 9 (a := 0) (b := 9) rfl rfl (by decide) (by decide) with ⟨h1, h2⟩ | ⟨ho, _, hho, rfl, h1, h2⟩
  · exact bad3 (.inr (.inl h1))
  rcases wi_cs a3 0 2 (a := 0) (b := 2) rfl rfl (by decide) (by decide) with ⟨h3, h4⟩ | ⟨f, _, hf, rfl, h3, h4⟩
  · exact bad3 (.inr (.inr (.inl h3)))
  rcases wi_cs a4 0 2 (a := 0) (b := 2) rfl rfl (by decide) (by decide) with ⟨h5, h6⟩ | ⟨s, _, hs, rfl, h5, h6⟩
  · exact bad3 (.inr (.inr (.inr (.inl h5))))
  by_cases hl : lnB a5 = 0 ∧ a5 ≠ 0
  · exact bad3 (.inr (.inr (.inr (.inr hl))))
  have s0 := (RN_an h).1
  have hroom : fX0_room 41 w = nI (60 - A 547) := by
    unfold fX0_room
    rw [s0, show (60 : Int32) = nI 60 from rfl, ev_sub h60]
  have hia : ¬ fX12_isAnswer (nI g).toInt64 (nI d).toInt64 (nI ho).toInt64 (nI f).toInt64 (nI s).toInt64 = 0 := by
    unfold fX12_isAnswer
    rw [if_neg q2, if_neg q3, if_neg h2, if_neg h4, if_neg h6]
    decide
  by_cases hz : A 547 = 60
  · refine rr_call hw (.inr ⟨-4, 4, by decide, by decide, ⟨w, ?_, frP_refl _ _⟩, fun w1 f1 => ⟨sI w1 205 0 (0 : Int32), ?_, frS_0 w1⟩⟩)
    · rw [cX, q1, if_neg (by decide), if_neg h1, if_neg h3, if_neg h5, if_neg hl, hroom, hz, if_pos (by decide)]
    · rw [cM w1 (RN_A (hM w1 f1) (by decide)), if_neg hia, if_neg hl, if_pos (by rw [hz]; rfl)]
  · have hlt : A 547 < 60 := by omega
    have b1 := ans_X s0 hlt (nI g) (nI d) (nI ho) (nI f) (nI s) (cln a5)
    obtain ⟨U1, hU1⟩ : ∃ U1, U1 = sJ (sI (sI (sI (sI (sI (sI w 42 (A 547) (nI g)) 43 (A 547) (nI d)) 44 (A 547) (nI ho)) 41 0 (nI (A 547 + 1))) 45 (A 547) (nI f)) 46 (A 547) (nI s)) 47 (A 547) (cln a5) := ⟨_, rfl⟩
    rw [← hU1] at b1
    have f1 : frP NowS w U1 := by
      rw [hU1]
      exact frP_trans (frP_trans (frP_trans (frP_trans (frP_trans (frP_trans (now_X _ _ _ (by decide) (by decide)) (now_X _ _ _ (by decide) (by decide))) (now_X _ _ _ (by decide) (by decide))) (now_X _ _ _ (by decide) (by decide))) (now_X _ _ _ (by decide) (by decide))) (now_X _ _ _ (by decide) (by decide))) (now_XJ _ _ _ (by decide) (by decide))
    have m1 : RM A L F W 0 (sI U1 205 0 (0 : Int32)) := by
      rw [hU1]
      exact RM_I (RM_J (RM_I (RM_I (RM_I (RM_I (RM_I (RM_I h.2.2.2 _ (by omega)) _ (by omega)) _ (by omega)) _ (by omega)) _ (by omega)) _ (by omega)) _ (by omega)) _ (by omega)
    have q0 : wI (sI U1 205 0 (0 : Int32)) 207 547 = nI (A 547) := m1.1 547 (by decide)
    have b2 := ans_M (n := 20000) (by decide) q0 hlt (nI g) (nI d) (nI ho) (nI f) (nI s) a5
    refine ⟨nI (A 547), U1, sI (sJ (sI (sI (sI (sI (sI (sI U1 205 0 (0 : Int32)) 207 (548 + A 547) (nI g)) 207 (608 + A 547) (nI d)) 207 (668 + A 547) (nI ho)) 207 (728 + A 547) (nI f)) 207 (788 + A 547) (nI s)) 208 (724 + A 547) (cln a5)) 207 547 (nI (A 547 + 1)), ?_, ?_, ?_⟩
    · rw [cX, q1, if_neg (by decide), if_neg h1, if_neg h3, if_neg h5, if_neg hl, hroom, if_neg (fun z => by have := (nI_z (by omega)).mp z; omega)]
      exact b1
    · rw [cM U1 q0, if_neg hia, if_neg hl, if_neg (show ¬ nI (A 547) = (60 : Int32) from fun z => hz ((nI_eq (b := 60) (by omega) (by decide)).mp z)), b2]
      dsimp only [bO]
      rw [ev_wIs, nI_pred]
    · refine rr_now (frP_trans (frP_trans (frP_trans (frP_trans (frP_trans (frP_trans (frP_trans (frP_trans f1 (now_0 _)) (now_207 _ _ (by omega))) (now_207 _ _ (by omega))) (now_207 _ _ (by omega))) (now_207 _ _ (by omega))) (now_207 _ _ (by omega))) (now_208 _ _ (by omega))) (now_207 _ _ (by omega))) hw ⟨anA A g d ho f s, uN L (724 + A 547) (cln a5), F, W, ?_⟩
      refine RN_ans h hlt hg hd hho hf hs (isC_cln a5) (fun c k c1 c2 => ?_) (RM_A (RM_L (RM_A (RM_A (RM_A (RM_A (RM_A m1 g) d) ho) f) s) (cln a5)) (A 547 + 1))
      rw [← hU1]
      exact ⟨by simp (disch := omega) only [ev_wIn, wI_sJ], by simp (disch := omega) only [ev_wJn, wJ_sI]⟩
