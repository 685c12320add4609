/-! world, says; row, write -/
section WLD
variable {A : Nat → Nat} {L : Nat → Int64} {F W : Nat → Nat} {w : jWd}
/-- c zeros from place lo on -/
def zA (A : Nat → Nat) (lo c : Nat) : Nat → Nat := fun k => if lo ≤ k ∧ k < lo + c then 0 else A k
theorem zA_0 (A : Nat → Nat) (lo : Nat) : zA A lo 0 = A := by
  funext k
  unfold zA
  rw [if_neg (by omega)]
theorem zA_s (A : Nat → Nat) (lo c : Nat) : uN (zA A lo c) (lo + c) 0 = zA A lo (c + 1) := by
  funext k
  unfold zA uN
  by_cases e : k = lo + c
  · rw [if_pos e, if_pos (by omega)]
  · rw [if_neg e]
    show (if lo ≤ k ∧ k < lo + c then 0 else A k) = _
    by_cases q : lo ≤ k ∧ k < lo + c
    · rw [if_pos q, if_pos (by omega)]
    · rw [if_neg q, if_neg (by omega)]
theorem zA_ne {A : Nat → Nat} {lo c k : Nat} (h : ¬ (lo ≤ k ∧ k < lo + c)) : zA A lo c k = A k := if_neg h
theorem zA_in {A : Nat → Nat} {lo c k : Nat} (h : lo ≤ k ∧ k < lo + c) : zA A lo c k = 0 := if_pos h
theorem wz_M {n m : Nat} (hm : m < 8) (K : jWd → Option (Int32 × jWd)) : ∀ c g f (w : jWd), g + c = 16 → c < f → wI w 207 987 = nI m → RM (zA A (996 + 16 * m) g) L F W 0 w → ∃ w', lX12_world_64 n K f (nI g) w = K w' ∧ RM (zA A (996 + 16 * m) 16) L F W 0 w' ∧ wI w' 207 987 = nI m ∧ frP (fun c k => c = 207 ∧ 996 ≤ k ∧ k < 1124) w w' := by
  have l7 : ln 207 = 3372 := rfl
  intro c
  induction c with
  | zero =>
    intro g f w hg hf h0 hM
    obtain ⟨f, rfl⟩ : ∃ g, f = g + 1 := ⟨f - 1, by omega⟩
    have hM2 : RM (zA A (996 + 16 * m) 16) L F W 0 w := by
      have e : g = 16 := by omega
      rw [e] at hM
      exact hM
    refine ⟨w, ?_, hM2, h0, frP_refl _ _⟩
    show bX12_world_64 n K _ (nI g) w = _
    unfold bX12_world_64
    rw [if_pos (show (16 : Int32) ≤ nI g from nI_le (a := 16) (by omega) (by omega))]
  | succ c ih =>
    intro g f w hg hf h0 hM
    obtain ⟨f, rfl⟩ : ∃ g, f = g + 1 := ⟨f - 1, by omega⟩
    have e : (996 : Int32) + (16 : Int32) * nI m + nI g = nI (996 + 16 * m + g) := by rw [show (16 : Int32) = nI 16 from rfl, ev_mul, show (996 : Int32) = nI 996 from rfl, nI_add, nI_add]
    have hM1 := RM_A hM (k := 996 + 16 * m + g) 0
    rw [zA_s] at hM1
    obtain ⟨w', e1, e2, e3, e4⟩ := ih (g + 1) f _ (by omega) (by omega) (by rw [ev_wIn _ (by omega)]; exact h0) hM1
    refine ⟨w', ?_, e2, e3, frP_trans (frP_sI _ _ ⟨rfl, by omega, by omega⟩) e4⟩
    show bX12_world_64 n K (lX12_world_64 n K f) (nI g) w = _
    unfold bX12_world_64 letV
    rw [if_neg (show ¬ (16 : Int32) ≤ nI g from nI_ge (b := 16) (by omega) (by decide)), h0, e, l7, grd_N (by omega) (by decide), nI_clamp (by omega), nI_1]
    exact e1
def woA (A : Nat → Nat) (v : Nat) : Nat → Nat := uN (zA (uN A (988 + A 987) v) (996 + 16 * A 987) 16) 987 (A 987 + 1)
theorem RN_world (h : RN A L F W w) (h0 : A 987 < 8) {v : Nat} (hv : v ≤ 99) {w2 : jWd} (hX : ∀ c k, 1 ≤ c → c ≤ 57 → wI w2 c k = wI (sI (sI w 56 (A 987) (nI v)) 55 0 (nI (A 987 + 1))) c k ∧ wJ w2 c k = wJ w c k) (hM : RM (woA A v) L F W 0 w2) : RN (woA A v) L F W w2 := by
  obtain ⟨⟨i1, i2, i3, i4, i5⟩, x, co, m⟩ := h
  have eA : ∀ j, j < 987 → woA A v j = A j := fun j hj => by
    unfold woA
    rw [uN_ne (by omega), zA_ne (by omega), uN_ne (by omega)]
  have e0 : woA A v 987 = A 987 + 1 := uN_eq
  have eW : ∀ j, j < A 987 → woA A v (988 + j) = A (988 + j) := fun j hj => by
    unfold woA
    rw [uN_ne (by omega), zA_ne (by omega), uN_ne (by omega)]
  have eV : woA A v (988 + A 987) = v := by
    unfold woA
    rw [uN_ne (by omega), zA_ne (by omega), uN_eq]
  have eS : ∀ j g, j < A 987 → g < 16 → woA A v (996 + 16 * j + g) = A (996 + 16 * j + g) := fun j g hj hg => by
    unfold woA
    rw [uN_ne (by omega), zA_ne (by omega), uN_ne (by omega)]
  have eZ : ∀ g, g < 16 → woA A v (996 + 16 * A 987 + g) = 0 := fun g hg => by
    unfold woA
    rw [uN_ne (by omega), zA_in (by omega)]
  have lim := RN_lim i1
  have hA : InA (woA A v) := by
    obtain ⟨a0, a1, a2, a3, a4, a5, ⟨a6, a6b, a6c⟩, a7, a8, a9, b1, b2, b3⟩ := i1
    refine ⟨fun k => ?_, by rw [eA _ (by omega)]; exact a1, fun i hi => by rw [eA _ (by omega)]; exact a2 i hi, by rw [eA _ (by omega)]; exact a3, by rw [eA _ (by omega)]; exact a4, fun i hi => by rw [eA _ (by omega)]; exact a5 i hi, ?_, by rw [eA _ (by omega)]; exact a7, by rw [eA _ (by omega)]; exact a8, by rw [eA _ (by omega)]; exact a9, by rw [eA _ (by omega)]; exact b1, by rw [eA _ (by omega)]; exact b2, by rw [e0]; omega⟩
    · unfold woA
      refine uN_9 (fun j => ?_) (by omega) k
      unfold zA
      split
      · omega
      · exact uN_9 a0 (by omega) j
    · rw [eA _ (by omega), eA _ (by omega)]
      exact ⟨a6, a6b, a6c⟩
  have d0 := i1.2.1
  have d1 := i1.2.2.2.2.1
  have d2 := i1.2.2.2.1
  have d3 := i1.2.2.2.2.2.2.2.1
  refine ⟨⟨hA, ?_, ?_, i4, i5⟩, ?_, ?_, hM⟩
  · obtain ⟨q1, q2, q3, q4, q5⟩ := i2
    refine ⟨fun i hi => ?_, fun i g hi hg => ?_, fun i hi => ?_, fun i hi => ?_, ?_⟩
    · rw [e0] at hi
      by_cases e : i = A 987
      · subst e; rw [eV]; exact hv
      · rw [eW _ (by omega)]; exact q1 i (by omega)
    · rw [e0] at hi
      by_cases e : i = A 987
      · subst e; rw [eZ _ hg]; omega
      · rw [eS _ _ (by omega) hg]; exact q2 i g (by omega) hg
    · rw [eA _ (by omega)] at hi ⊢; exact q3 i hi
    · rw [eA _ (by omega)] at hi; rw [eA _ (by omega), eA _ (by omega)]; exact q4 i hi
    · rw [eA _ (by omega)]; exact q5
  · obtain ⟨q1, q2, q3, q4, q5⟩ := i3
    refine ⟨fun i k hi hk => ?_, fun i k hi hk => ?_, fun p hp => ?_, fun v hv => ?_, fun i hi => ?_⟩
    · rw [eA _ (by omega)] at hi; rw [eA _ (by omega)] at hk; exact q1 i k hi hk
    · rw [eA _ (by omega)] at hi; rw [eA _ (by omega)] at hk; exact q2 i k hi hk
    · rw [eA _ (by omega)] at hp; exact q3 p hp
    · rw [eA _ (by omega)] at hv; exact q4 v hv
    · rw [eA _ (by omega)] at hi; exact q5 i hi
  · refine RX_RWorld i1 x (fun j hj => ?_) (fun c j h1 h2 hc => ?_) (fun c j h1 h2 hc => (hX c j h1 h2).2) ?_
    · by_cases q : j < 987
      · exact eA j q
      · unfold woA
        rw [uN_ne (by omega), zA_ne (by omega), uN_ne (by omega)]
    · rw [(hX c j h1 h2).1]
      simp (disch := omega) only [ev_wIn]
    · obtain ⟨s0, s1, s2⟩ := x.2.2.2.2.2.2.2.2.2.1
      have h55 := (hX 55 0 (by decide) (by decide)).1
      rw [ev_wIs] at h55
      have h56 : ∀ k, wI w2 56 k = if k = A 987 then nI v else wI w 56 k := fun k => by
        rw [(hX 56 k (by decide) (by decide)).1, ev_wIn _ (by omega), wI_sI]
        by_cases e : k = A 987
        · rw [if_pos ⟨rfl, e⟩, if_pos e]
        · rw [if_neg (fun z => e z.2), if_neg e]
      have h57 : ∀ k, wI w2 57 k = wI w 57 k := fun k => by
        rw [(hX 57 k (by decide) (by decide)).1, ev_wIn _ (by omega), ev_wIn _ (by omega)]
      refine ⟨by rw [e0]; exact h55, fun i hi => ⟨?_, fun g hg => ?_⟩, fun i hi h8 g hg => ?_⟩
      · rw [e0] at hi
        have := h56 i
        by_cases e : i = A 987
        · subst e
          rw [if_pos rfl] at this
          rw [eV]
          exact this
        · rw [if_neg e] at this
          rw [eW _ (by omega)]
          exact this.trans (s1 i (by omega)).1
      · rw [e0] at hi
        refine (h57 _).trans ?_
        by_cases e : i = A 987
        · subst e
          rw [eZ _ hg]
          exact s2 (A 987) (by omega) (by omega) g hg
        · rw [eS _ _ (by omega) hg]
          exact (s1 i (by omega)).2 g hg
      · rw [e0] at hi
        exact (h57 _).trans (s2 i (by omega) h8 g hg)
  · refine RCon_c (fun c j hc hj => ?_) co
    rw [(hX c j (by omega) (by omega)).1]
    simp (disch := omega) only [ev_wIn]
theorem RN_says (h : RN A L F W w) {i g v : Nat} (hi : i < A 987) (hg : g < 16) (hv : v ≤ 3) {w2 : jWd} (hX : ∀ c k, 1 ≤ c → c ≤ 57 → wI w2 c k = wI (sI w 57 (16 * i + g) (nI v)) c k ∧ wJ w2 c k = wJ w c k) (hM : RM (uN A (996 + 16 * i + g) v) L F W 0 w2) : RN (uN A (996 + 16 * i + g) v) L F W w2 := by
  obtain ⟨⟨i1, i2, i3, i4, i5⟩, x, co, m⟩ := h
  have lim := RN_lim i1
  have hA : InA (uN A (996 + 16 * i + g) v) := InA_up i1 (by unfold okA; omega)
  refine ⟨⟨hA, ?_, InL_up i3 i1 (by omega), i4, i5⟩, ?_, ?_, hM⟩
  · obtain ⟨q1, q2, q3, q4, q5⟩ := i2
    refine ⟨fun j hj => ?_, fun j k hj hk => ?_, fun j hj => ?_, fun j hj => ?_, ?_⟩
    · rw [uN_ne (by omega)] at hj; rw [uN_ne (by omega)]; exact q1 j hj
    · rw [uN_ne (by omega)] at hj
      refine uN_c (q2 j k hj hk) (fun _ => hv)
    · rw [uN_ne (by omega)] at hj; rw [uN_ne (by omega)]; exact q3 j hj
    · rw [uN_ne (by omega)] at hj; rw [uN_ne (by omega), uN_ne (by omega)]; exact q4 j hj
    · rw [uN_ne (by omega)]; exact q5
  · refine RX_RWorld i1 x (fun j hj => uN_ne (by omega)) (fun c j h1 h2 hc => ?_) (fun c j h1 h2 hc => (hX c j h1 h2).2) ?_
    · rw [(hX c j h1 h2).1, ev_wIn _ (by omega)]
    · obtain ⟨s0, s1, s2⟩ := x.2.2.2.2.2.2.2.2.2.1
      have hX0 : ∀ c k, c ≠ 57 → 1 ≤ c → c ≤ 57 → wI w2 c k = wI w c k := fun c k h0 h1 h2 => by rw [(hX c k h1 h2).1, ev_wIn _ (by omega)]
      have h57 : ∀ k, wI w2 57 k = if k = 16 * i + g then nI v else wI w 57 k := fun k => by
        rw [(hX 57 k (by decide) (by decide)).1, wI_sI]
        by_cases e : k = 16 * i + g
        · rw [if_pos ⟨rfl, e⟩, if_pos e]
        · rw [if_neg (fun z => e z.2), if_neg e]
      refine ⟨by rw [uN_ne (by omega)]; exact (hX0 55 0 (by decide) (by decide) (by decide)).trans s0, fun j hj => ⟨?_, fun k hk => ?_⟩, fun j hj h8 k hk => ?_⟩
      · rw [uN_ne (by omega)] at hj
        rw [uN_ne (by omega)]; exact (hX0 56 j (by decide) (by decide) (by decide)).trans (s1 j hj).1
      · rw [uN_ne (by omega)] at hj
        refine (h57 _).trans ?_
        by_cases e : 16 * j + k = 16 * i + g
        · rw [if_pos e, show 996 + 16 * j + k = 996 + 16 * i + g by omega, uN_eq]
        · rw [if_neg e, uN_ne (by omega)]; exact (s1 j hj).2 k hk
      · rw [uN_ne (by omega)] at hj
        refine (h57 _).trans ?_
        rw [if_neg (by omega)]
        exact s2 j hj h8 k hk
  · refine RCon_c (fun c j hc hj => ?_) co
    rw [(hX c j (by omega) (by omega)).1, ev_wIn _ (by omega)]
theorem RN_8 (h : RN A L F W w) : A 987 ≤ 8 := (RN_lim h.1.1).1
theorem hw_N {k m : Nat} (hk : k < 2147483648) (hm : m < 2147483648) (h : wI w 55 0 = nI m) : fX10_has 55 (nI k) w = bI (decide (k < m)) := by
  unfold fX10_has
  rw [if_neg (nI_pos hk), h]
  by_cases q : k < m
  · rw [if_neg (nI_ge q hm), decide_eq_true q]; rfl
  · rw [if_pos (nI_le (by omega) hk), decide_eq_false q]; rfl
theorem hw_no {m : Nat} {x : Int32} (h : ∀ k, k < m → x ≠ nI k) (hm : m < 2147483648) (hs : wI w 55 0 = nI m) : fX10_has 55 x w = bI false := by
  rcases ev_i32 x with q | ⟨k, hk, rfl⟩
  · unfold fX10_has
    rw [if_pos q]; rfl
  · rw [hw_N hk hm hs, decide_eq_false (fun z => h k z rfl)]
end WLD
theorem s_world_n {n : Nat} (hn : 20 < n) (w : jWd) (a0 : Int32) (hw : RR w) : ∃ (v : Int32) (w1 w2 : jWd), fX11_world a0 w = some (v, w1) ∧ fX12_world n a0 w1 = some (v, w2) ∧ RR w2 := by
  obtain ⟨⟨A, L, F, W, h⟩, -⟩ := id hw
  have h8 := RN_8 h
  have hM := rd_M h
  have l7 : ln 207 = 3372 := rfl
  have s0 : wI w 55 0 = nI (A 987) := h.2.1.2.2.2.2.2.2.2.2.2.1.1
  rcases wi_cs a0 1 99 (a := 1) (b := 99) rfl rfl (by decide) (by decide) with ⟨h1, h2⟩ | ⟨v, hv1, hv, rfl, h1, h2⟩
  · refine rr_call hw (.inr ⟨-3, 3, by decide, by decide, ⟨w, ?_, frP_refl _ _⟩, fun w1 f1 => ⟨sI w1 205 0 (0 : Int32), ?_, frS_0 w1⟩⟩)
    · unfold fX11_world
      rw [if_pos h1, rx_id3]
    · unfold fX12_world letV
      dsimp only
      rw [if_pos h2, no_id3]
  by_cases hz : A 987 = 8
  · refine rr_call hw (.inr ⟨-4, 4, by decide, by decide, ⟨w, ?_, frP_refl _ _⟩, fun w1 f1 => ⟨sI w1 205 0 (0 : Int32), ?_, frS_0 w1⟩⟩)
    · unfold fX11_world
      rw [if_neg h1, s0, if_neg (show ¬ nI (A 987) < (8 : Int32) from nI_nlt (b := 8) (by omega) (by omega)), rx_id4]
    · unfold fX12_world letV
      dsimp only
      rw [if_neg h2, RN_A (hM w1 f1) (show 987 < 1124 by decide), if_pos (by rw [hz]; rfl), no_id4]
  · have hlt : A 987 < 8 := by omega
    obtain ⟨U1, hU1⟩ : ∃ U1, U1 = sI (sI w 56 (A 987) (nI v)) 55 0 (nI (A 987 + 1)) := ⟨_, rfl⟩
    have b1 : fX11_world (nI v) w = some (nI (A 987), U1) := by
      have l1 : ln (55 + 1) = 8 := rfl
      unfold fX11_world fX10_start letV
      dsimp only
      rw [if_neg h1, s0, if_pos (show nI (A 987) < (8 : Int32) from nI_lt (b := 8) hlt (by decide)), if_pos (show nI (A 987) < (8 : Int32) from nI_lt (b := 8) hlt (by decide)), l1, grd_N hlt (by decide), nI_clamp (by omega), ev_wIn _ (by omega), s0, nI_1, hU1]
      rfl
    have f1 : frP NowS w U1 := by
      rw [hU1]
      exact frP_trans (now_X _ _ _ (by decide) (by decide)) (now_X _ _ _ (by decide) (by decide))
    have m1 : RM A L F W 0 (sI U1 205 0 (0 : Int32)) := by
      rw [hU1]
      exact RM_I (RM_I (RM_I h.2.2.2 _ (by omega)) _ (by omega)) _ (by omega)
    have q0 : wI (sI U1 205 0 (0 : Int32)) 207 987 = nI (A 987) := m1.1 987 (by decide)
    have m2 := RM_A m1 (k := 988 + A 987) v
    have q1 : wI (sI (sI U1 205 0 (0 : Int32)) 207 (988 + A 987) (nI v)) 207 987 = nI (A 987) := by rw [ev_wIn _ (by omega)]; exact q0
    rw [← zA_0 (uN A (988 + A 987) v) (996 + 16 * A 987)] at m2
    obtain ⟨U2, e1, e2, e3, e4⟩ := wz_M (n := n) hlt (fun (w_11 : jWd) => letV (sI w_11 207 987 ((wI w_11 207 987) + (1 : Int32))) (fun (w_12 : jWd) => some (((wI w_12 207 987) - (1 : Int32)), w_12))) 16 0 n _ (by omega) (by omega) q1 m2
    refine ⟨nI (A 987), U1, sI U2 207 987 (nI (A 987 + 1)), b1, ?_, ?_⟩
    · unfold fX12_world
      rw [ev_letV, if_neg h2, q0, if_neg (show ¬ nI (A 987) = (8 : Int32) from fun z => hz ((nI_eq (b := 8) (by omega) (by decide)).mp z)), show (988 : Int32) + nI (A 987) = nI (988 + A 987) from nI_add 988 _, l7, grd_N (by omega) (by decide), nI_clamp (by omega), ev_letV]
      refine e1.trans ?_
      dsimp only [letV]
      rw [e3, nI_1, ev_wIs, nI_pred]
    · have f2 : frP NowS (sI (sI U1 205 0 (0 : Int32)) 207 (988 + A 987) (nI v)) U2 := frP_mono (fun c k q => by unfold NowS; omega) e4
      refine rr_now (frP_trans (frP_trans (frP_trans (frP_trans f1 (now_0 _)) (now_207 _ _ (by omega))) f2) (now_207 _ _ (by omega))) hw ⟨woA A v, L, F, W, RN_world h hlt hv (fun c k c1 c2 => ?_) (RM_A e2 (A 987 + 1))⟩
      rw [← hU1]
      refine ⟨?_, ?_⟩
      · rw [ev_wIn _ (by omega), frP_I e4 (by omega), ev_wIn _ (by omega), ev_wIn _ (by omega)]
      · rw [wJ_sI, frP_J e4 (by omega), wJ_sI, wJ_sI, hU1, wJ_sI, wJ_sI]
theorem s_world : fS_world RR := fun w a0 hw => ⟨20000, s_world_n (by decide) w a0 hw⟩
theorem s_says : fS_says RR := by
  intro w a0 a1 a2 hw
  obtain ⟨⟨A, L, F, W, h⟩, -⟩ := id hw
  have h8 := RN_8 h
  have hM := rd_M h
  have l7 : ln 207 = 3372 := rfl
  have l2 : ln (55 + 2) = 128 := rfl
  have s0 : wI w 55 0 = nI (A 987) := h.2.1.2.2.2.2.2.2.2.2.2.1.1
  have bad2 : ((∀ k, k < A 987 → a0 ≠ nI k) ∨ fX11_within a1.toInt64 0 15 = 0) → ∃ v w1 w2, fX11_says a0 a1 a2 w = some (v, w1) ∧ fX12_says a0 a1 a2 w1 = some (v, w2) ∧ RR w2 := by
    intro hb
    refine rr_call hw (.inr ⟨-2, 2, by decide, by decide, ⟨w, ?_, frP_refl _ _⟩, fun w1 f1 => ⟨sI w1 205 0 (0 : Int32), ?_, frS_0 w1⟩⟩)
    · unfold fX11_says letV
      dsimp only
      rw [rx_id2]
      rcases ix_cs a0 (A 987) with ⟨i, hi, rfl⟩ | hn
      · have hb := hb.resolve_left (fun q => q i hi rfl)
        rw [hw_N (by omega) (by omega) s0, decide_eq_true hi, if_neg (by decide), if_pos hb]
      · rw [hw_no hn (by omega) s0, if_pos (by decide)]
    · unfold fX12_says letV
      dsimp only
      rw [no_id2, RN_A (hM w1 f1) (show 987 < 1124 by decide)]
      rcases hb with hb | hb
      · rw [if_pos (wi_no hb (by omega))]
      · rw [if_pos (show fX12_within a1.toInt64 0 15 = 0 from hb)]
        split <;> rfl
  rcases ix_cs a0 (A 987) with ⟨i, hi, rfl⟩ | hn
  · rcases wi_cs a1 0 15 (a := 0) (b := 15) rfl rfl (by decide) (by decide) with ⟨h1, h2⟩ | ⟨g, _, hg, rfl, h1, h2⟩
    · exact bad2 (.inr h1)
    have hh : fX10_has 55 (nI i) w = bI true := by rw [hw_N (by omega) (by omega) s0, decide_eq_true hi]
    rcases wi_cs a2 0 3 (a := 0) (b := 3) rfl rfl (by decide) (by decide) with ⟨h3, h4⟩ | ⟨v, _, hv, rfl, h3, h4⟩
    · refine rr_call hw (.inr ⟨-3, 3, by decide, by decide, ⟨w, ?_, frP_refl _ _⟩, fun w1 f1 => ⟨sI w1 205 0 (0 : Int32), ?_, frS_0 w1⟩⟩)
      · unfold fX11_says letV
        dsimp only
        rw [hh, if_neg (by decide), if_neg h1, if_pos h3, rx_id3]
      · unfold fX12_says letV
        dsimp only
        rw [RN_A (hM w1 f1) (show 987 < 1124 by decide), if_neg (wi_yes hi (by omega)), if_neg h2, if_pos h4, no_id3]
    · have eX : nI i * (16 : Int32) + nI g = nI (16 * i + g) := by rw [show (16 : Int32) = nI 16 from rfl, ev_mul, nI_add, Nat.mul_comm]
      have eM : (996 : Int32) + (16 : Int32) * nI i + nI g = nI (996 + 16 * i + g) := by rw [show (16 : Int32) = nI 16 from rfl, ev_mul, show (996 : Int32) = nI 996 from rfl, nI_add, nI_add]
      have ec : wI w (55 + 2) (16 * i + g) = nI (A (996 + 16 * i + g)) := ((h.2.1.2.2.2.2.2.2.2.2.2.1.2.1 i hi).2 g (by omega))
      have m1 : RM A L F W 0 (sI (sI w 57 (16 * i + g) (nI v)) 205 0 (0 : Int32)) := RM_I (RM_I h.2.2.2 _ (by omega)) _ (by omega)
      have q0 : wI (sI (sI w 57 (16 * i + g) (nI v)) 205 0 (0 : Int32)) 207 987 = nI (A 987) := m1.1 987 (by decide)
      have q1 : wI (sI (sI w 57 (16 * i + g) (nI v)) 205 0 (0 : Int32)) 207 (996 + 16 * i + g) = nI (A (996 + 16 * i + g)) := by
        have e := m1.1 (996 + 16 * i + g) (by omega)
        rwa [show 1124 * 0 + (996 + 16 * i + g) = 996 + 16 * i + g by omega] at e
      refine ⟨nI (A (996 + 16 * i + g)), sI w 57 (16 * i + g) (nI v), sI (sI (sI w 57 (16 * i + g) (nI v)) 205 0 (0 : Int32)) 207 (996 + 16 * i + g) (nI v), ?_, ?_, ?_⟩
      · unfold fX11_says letV
        dsimp only
        rw [hh, if_neg (by decide), if_neg h1, if_neg h3]
        unfold fX10_tell letV
        dsimp only
        rw [hh, if_neg (by decide), if_neg (nI_pos (by omega)), if_pos (show nI g < (16 : Int32) from nI_lt (b := 16) (by omega) (by decide)), eX, l2, grd_N (by omega) (by decide), grd_N (by omega) (by decide), nI_clamp (by omega), ec]
        rfl
      · unfold fX12_says letV
        dsimp only
        rw [q0, if_neg (wi_yes hi (by omega)), if_neg h2, if_neg h4, eM, l7, grd_N (by omega) (by decide), grd_N (by omega) (by decide), nI_clamp (by omega), q1]
      · refine rr_now (frP_trans (frP_trans (now_X _ _ _ (by decide) (by decide)) (now_0 _)) (now_207 _ _ (by omega))) hw ⟨uN A (996 + 16 * i + g) v, L, F, W, RN_says h hi (by omega) hv (fun c k c1 c2 => ⟨?_, rfl⟩) (RM_A m1 v)⟩
        simp (disch := omega) only [ev_wIn]
  · exact bad2 (.inl hn)
