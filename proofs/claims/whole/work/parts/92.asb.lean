/-! ask: the call -/
section ASB
variable {A : Nat → Nat} {L : Nat → Int64} {F W : Nat → Nat} {w : jWd}
theorem wsN_s (A : Nat → Nat) (g a j : Nat) : wsN A g a (j + 1) = wsN A g a j + if A (996 + 16 * j + g) = a then 2 ^ j else 0 := rfl
theorem ga_in {n V : Nat} (K : jWd → Option jWd) (hV : V < 8) (h3 : ∀ g, g < 16 → A (996 + 16 * V + g) ≤ 3) : ∀ c g f (w : jWd), g + c = 16 → c < f → (∀ g, g < 16 → wI w 57 (16 * V + g) = nI (A (996 + 16 * V + g))) → (∀ g' a, g' < 16 → a < 4 → wI w 58 (4 * g' + a) = nI (wsN A g' a (if g' < g then V + 1 else V))) → ∃ w', lX10_gatherSayings_20 n 55 (nI V) K f (nI g) w = K w' ∧ (∀ g' a, g' < 16 → a < 4 → wI w' 58 (4 * g' + a) = nI (wsN A g' a (V + 1))) ∧ frP (fun c _ => c = 58) w w' := by
  have l2 : ln (55 + 2) = 128 := rfl
  have l3 : ln (55 + 3) = 64 := rfl
  intro c
  induction c with
  | zero =>
    intro g f w hi hf h57 h58
    obtain ⟨f, rfl⟩ : ∃ g, f = g + 1 := ⟨f - 1, by omega⟩
    refine ⟨w, ?_, fun g' a hg ha => by rw [h58 g' a hg ha, if_pos (by omega)], frP_refl _ _⟩
    show bX10_gatherSayings_20 n 55 (nI V) K _ (nI g) w = _
    unfold bX10_gatherSayings_20
    rw [if_pos (show (16 : Int32) ≤ nI g from nI_le (a := 16) (by omega) (by omega))]
  | succ c ih =>
    intro g f w hi hf h57 h58
    obtain ⟨f, rfl⟩ : ∃ g, f = g + 1 := ⟨f - 1, by omega⟩
    have hg : g < 16 := by omega
    have e57 : wI w (55 + 2) (V * 16 + g) = nI (A (996 + 16 * V + g)) := by rw [Nat.mul_comm V 16]; exact h57 g hg
    obtain ⟨y, hy⟩ : ∃ y, y = A (996 + 16 * V + g) := ⟨_, rfl⟩
    have y3 : y ≤ 3 := by rw [hy]; exact h3 g hg
    have e58 : wI w (55 + 3) (g * 4 + y) = nI (wsN A g y V) := by
      rw [Nat.mul_comm g 4]
      have := h58 g y hg (by omega)
      rw [if_neg (by omega)] at this
      exact this
    obtain ⟨w', d1, d2, d3⟩ := ih (g + 1) f (sI w 58 (g * 4 + y) (nI (wsN A g y V + 2 ^ V))) (by omega) (by omega) (fun g hg => by rw [ev_wIn _ (by omega)]; exact h57 g hg) (fun g' a hg' ha => by
      by_cases e : g' = g
      · subst e
        rw [if_pos (by omega), wsN_s, ← hy]
        by_cases e2 : a = y
        · subst e2
          rw [if_pos rfl, Nat.mul_comm 4 g']
          exact ev_wIs _ _ _ _
        · rw [if_neg (fun z => e2 z.symm), ev_wIn _ (by omega), h58 g' a hg ha, if_neg (by omega), Nat.add_zero]
      · rw [ev_wIn _ (by omega), h58 g' a hg' ha]
        by_cases e2 : g' < g
        · rw [if_pos e2, if_pos (by omega)]
        · rw [if_neg e2, if_neg (by omega)])
    refine ⟨w', ?_, d2, frP_trans (frP_sI _ _ rfl) d3⟩
    have e3 : nI y &&& (3 : Int32) = nI y := by
      rw [pk_andN (k := 2) (by omega) rfl, Nat.mod_eq_of_lt (by omega)]
    show bX10_gatherSayings_20 n 55 (nI V) K (lX10_gatherSayings_20 n 55 (nI V) K f) (nI g) w = _
    unfold bX10_gatherSayings_20 letV
    dsimp only
    rw [if_neg (show ¬ (16 : Int32) ≤ nI g from nI_ge (b := 16) hg (by decide)), show nI V * (16 : Int32) = nI (V * 16) from pk_mul V 16, nI_add, l2, grd_N (by omega) (by decide), nI_clamp (by omega), e57, ← hy, e3, show nI g * (4 : Int32) = nI (g * 4) from pk_mul g 4, nI_add, l3, grd_N (by omega) (by decide), grd_N (by omega) (by decide), nI_clamp (by omega), e58, ak_shl (by omega), ak_nor, ak_or (wsN_lt A g y V), nI_1]
    exact d1
theorem ga_X {n : Nat} (hn : 20 < n) (hm : A 987 ≤ 8) (h3 : ∀ i g, i < A 987 → g < 16 → A (996 + 16 * i + g) ≤ 3) : ∀ c V f (w : jWd), V + c = A 987 → c < f → wI w 55 0 = nI (A 987) → (∀ i g, i < A 987 → g < 16 → wI w 57 (16 * i + g) = nI (A (996 + 16 * i + g))) → (∀ g a, g < 16 → a < 4 → wI w 58 (4 * g + a) = nI (wsN A g a V)) → ∃ w', lX10_gatherSayings_10 n 55 f (nI V) w = some w' ∧ (∀ g a, g < 16 → a < 4 → wI w' 58 (4 * g + a) = nI (wsN A g a (A 987))) ∧ frP (fun c _ => c = 58) w w' := by
  intro c
  induction c with
  | zero =>
    intro V f w hi hf h55 h57 h58
    obtain ⟨f, rfl⟩ : ∃ g, f = g + 1 := ⟨f - 1, by omega⟩
    refine ⟨w, ?_, fun g a hg ha => by rw [show A 987 = V by omega]; exact h58 g a hg ha, frP_refl _ _⟩
    show bX10_gatherSayings_10 n 55 _ (nI V) w = _
    unfold bX10_gatherSayings_10
    rw [h55, if_pos (nI_le (by omega) (by omega))]
  | succ c ih =>
    intro V f w hi hf h55 h57 h58
    obtain ⟨f, rfl⟩ : ∃ g, f = g + 1 := ⟨f - 1, by omega⟩
    obtain ⟨u, e1, e2, e3⟩ := ga_in (A := A) (n := n) (V := V) (fun (w_12 : jWd) => lX10_gatherSayings_10 n 55 f (nI (V + 1)) w_12) (by omega) (fun g hg => h3 V g (by omega) hg) 16 0 n w (by omega) (by omega) (fun g hg => h57 V g (by omega) hg) (fun g a hg ha => by rw [if_neg (by omega)]; exact h58 g a hg ha)
    obtain ⟨w', d1, d2, d3⟩ := ih (V + 1) f u (by omega) (by omega) (by rw [frP_I e3 (by omega)]; exact h55) (fun i g hi' hg => by rw [frP_I e3 (by omega)]; exact h57 i g hi' hg) e2
    refine ⟨w', ?_, d2, frP_trans e3 d3⟩
    show bX10_gatherSayings_10 n 55 (lX10_gatherSayings_10 n 55 f) (nI V) w = _
    unfold bX10_gatherSayings_10 letV
    rw [h55, if_neg (nI_ge (by omega) (by omega)), nI_1]
    exact e1.trans d1
theorem gat_X {n : Nat} (hn : 100 < n) (h : RN A L F W w) : ∃ w', fX10_gatherSayings n 55 w = some w' ∧ (∀ g a, g < 16 → a < 4 → wI w' 58 (4 * g + a) = nI (wsN A g a (A 987))) ∧ frP (fun c _ => c = 58) w w' := by
  obtain ⟨d1, d2⟩ := RN_wd h
  obtain ⟨m8, b1, b2⟩ := RN_wb h
  have l3 : ln (55 + 3) = 64 := rfl
  obtain ⟨u, e1, e2, e3⟩ := fill_X (n := n) (p := 55 + 3) (by rw [l3]; omega) (by rw [l3]; decide) (0 : Int32) w
  have e3 : frP (fun c _ => c = 58) w u := frP_mono (fun c k z => z.1) e3
  obtain ⟨w', a1, a2, a3⟩ := ga_X (A := A) (n := n) (by omega) m8 b2 (A 987) 0 n u (by omega) (by omega) (by rw [frP_I e3 (by omega)]; exact d1) (fun i g hi hg => by rw [frP_I e3 (by omega)]; exact (d2 i hi).2 g hg) (fun g a hg ha => e2 (4 * g + a) (by rw [l3]; omega))
  refine ⟨w', ?_, a2, frP_trans e3 a3⟩
  unfold fX10_gatherSayings
  rw [e1, ev_bO]
  exact a1
/-- what is found of a set -/
def bst (A : Nat → Nat) (m p : Nat) : Option (Nat × Nat) := bsS A (csN A m p) m p 16 0 none
theorem csN_b {m k p : Nat} (h : p < k) : csN A m k p = bC (bst A m p) := csN_st k h
theorem wg_X {n set : Nat} (hn : 100 < n) (hs : set < 2 ^ A 987) : ∀ c k f (w : jWd), RN A L F W w → k + c = set + 1 → c < f → (∀ g a, g < 16 → a < 4 → wI w 58 (4 * g + a) = nI (wsN A g a (A 987))) → (∀ p, p < k → subI set p → wI w 59 p = nI (bC (bst A (A 987) p)) ∧ wI w 60 p = bF (bst A (A 987) p)) → ∃ w', lX10_weigh_15 n 55 (nI set) f (nI k) w = some w' ∧ wI w' 59 set = nI (bC (bst A (A 987) set)) ∧ wI w' 60 set = bF (bst A (A 987) set) ∧ frP (fun c _ => c = 59 ∨ c = 60) w w' := by
  have l4 : ln (55 + 4) = 256 := rfl
  have l5 : ln (55 + 5) = 256 := rfl
  intro c
  induction c with
  | zero =>
    intro k f w h hi hf h58 hp
    obtain ⟨m8, b1, b2⟩ := RN_wb h
    have hs8 : set < 256 := Nat.lt_of_lt_of_le hs (ak_p2 m8 (Nat.le_refl _))
    obtain ⟨f, rfl⟩ : ∃ g, f = g + 1 := ⟨f - 1, by omega⟩
    refine ⟨w, ?_, (hp set (by omega) (sub_self set)).1, (hp set (by omega) (sub_self set)).2, frP_refl _ _⟩
    show bX10_weigh_15 n 55 (nI set) _ (nI k) w = _
    unfold bX10_weigh_15
    rw [if_pos (nI_lt (by omega) (by omega))]
  | succ c ih =>
    intro k f w h hi hf h58 hp
    obtain ⟨m8, b1, b2⟩ := RN_wb h
    have hs8 : set < 256 := Nat.lt_of_lt_of_le hs (ak_p2 m8 (Nat.le_refl _))
    obtain ⟨f, rfl⟩ : ∃ g, f = g + 1 := ⟨f - 1, by omega⟩
    have head : lX10_weigh_15 n 55 (nI set) (f + 1) (nI k) w = if (nI k &&& (nI set ^^^ (-1 : Int32))) = 0 then bO (fX10_weighOne n 55 (nI k) w) (fun (w_6 : jWd) => lX10_weigh_15 n 55 (nI set) f (nI (k + 1)) w_6) else lX10_weigh_15 n 55 (nI set) f (nI (k + 1)) w := by
      show bX10_weigh_15 n 55 (nI set) (lX10_weigh_15 n 55 (nI set) f) (nI k) w = _
      unfold bX10_weigh_15 letV
      rw [if_neg (nI_nlt (by omega) (by omega)), l4, if_neg (show ¬ Int32.ofNat 256 ≤ nI k from nI_ge (b := 256) (by omega) (by decide)), nI_1]
    rw [head]
    by_cases q : subI set k
    · have hk2 : k < 2 ^ A 987 := by omega
      obtain ⟨u, hu⟩ : ∃ u, u = sI (sI w (55 + 4) k (0 : Int32)) (55 + 5) k (-1 : Int32) := ⟨_, rfl⟩
      have fu : frP (fun c j => (c = 59 ∨ c = 60) ∧ j = k) w u := by
        rw [hu]
        exact frP_trans (frP_sI _ _ ⟨.inl rfl, rfl⟩) (frP_sI _ _ ⟨.inr rfl, rfl⟩)
      have hU : RN A L F W u := RN_fr (frP_mono (fun c j z => by unfold Scr; omega) fu) h
      have ew : fX10_weightOf n 55 (nI k) u = some (nI (wtN A k (A 987))) := wt_X hU (by omega) (A 987) 0 n (by omega) (by omega)
      have u59 : wI u 59 k = nI (bC none) := by
        rw [hu, ev_wIn _ (by omega)]
        exact ev_wIs _ _ _ _
      have u60 : wI u 60 k = bF none := by
        rw [hu]
        exact ev_wIs _ _ _ _
      obtain ⟨v, e1, e2, e3, e4⟩ := wo_X (A := A) (n := n) (s := k) (set := set) (cc := csN A (A 987) k) (by omega) hk2 m8 b1 b2 (csN_bd m8 b1 b2 k (by omega)) q 16 0 n none u (by omega) (by omega) (fun g a hg ha => by rw [frP_I fu (by omega)]; exact h58 g a hg ha) (fun p hp1 hp2 => by rw [frP_I fu (by omega), csN_b hp1]; exact (hp p hp1 hp2).1) u59 u60 (Nat.zero_le _) (fun v h e => absurd e (by simp))
      have fv := frP_trans fu e4
      obtain ⟨w', d1, d2, d3, d4⟩ := ih (k + 1) f v (RN_fr (frP_mono (fun c j z => by unfold Scr; omega) fv) h) (by omega) (by omega) (fun g a hg ha => by rw [frP_I fv (by omega)]; exact h58 g a hg ha) (fun p hp1 hp2 => by
        by_cases e : p = k
        · subst e
          exact ⟨e2, e3⟩
        · rw [frP_I fv (by omega), frP_I fv (by omega)]
          exact hp p (by omega) hp2)
      refine ⟨w', ?_, d2, d3, frP_trans (frP_mono (fun c j z => z.1) fv) d4⟩
      have eo : fX10_weighOne n 55 (nI k) w = some v := by
        unfold fX10_weighOne letV
        dsimp only
        rw [l4, l5, grd_N (by omega) (by decide), grd_N (by omega) (by decide), nI_clamp (by omega), ← hu, ew, ev_bO]
        exact e1
      have q' : (nI k &&& (nI set ^^^ (-1 : Int32))) = 0 := q
      rw [if_pos q', eo, ev_bO]
      exact d1
    · obtain ⟨w', d1, d2, d3, d4⟩ := ih (k + 1) f w h (by omega) (by omega) h58 (fun p hp1 hp2 => by
        by_cases e : p = k
        · subst e
          exact absurd hp2 q
        · exact hp p (by omega) hp2)
      have q' : ¬ (nI k &&& (nI set ^^^ (-1 : Int32))) = 0 := q
      exact ⟨w', by rw [if_neg q']; exact d1, d2, d3, d4⟩
theorem wg_M {n set : Nat} {P2 : Int32} (K : Int32 → jWd → Option (Int32 × jWd)) (hn : 100 < n) (hs : set < 2 ^ A 987) : ∀ c k f x (w : jWd), RN A L F W w → k + c = set + 1 → c < f → (∀ p, p < k → subI set p → wI w 220 p = nI (bC (bst A (A 987) p))) → (1 ≤ k → subI set (k - 1) → x = bF (bst A (A 987) (k - 1))) → ∃ w', lX12_ask_49 n (nI set) P2 K f x (nI k) w = K (bF (bst A (A 987) set)) w' ∧ wI w' 220 set = nI (bC (bst A (A 987) set)) ∧ frP (fun c _ => c = 220) w w' := by
  have l4 : ln 220 = 256 := rfl
  intro c
  induction c with
  | zero =>
    intro k f x w h hi hf hp hx
    obtain ⟨m8, b1, b2⟩ := RN_wb h
    have hs8 : set < 256 := Nat.lt_of_lt_of_le hs (ak_p2 m8 (Nat.le_refl _))
    obtain ⟨f, rfl⟩ : ∃ g, f = g + 1 := ⟨f - 1, by omega⟩
    refine ⟨w, ?_, hp set (by omega) (sub_self set), frP_refl _ _⟩
    have ek : k - 1 = set := by omega
    rw [ek] at hx
    show bX12_ask_49 n (nI set) P2 K _ x (nI k) w = _
    unfold bX12_ask_49
    rw [if_pos (nI_lt (by omega) (by omega)), hx (by omega) (sub_self set)]
  | succ c ih =>
    intro k f x w h hi hf hp hx
    obtain ⟨m8, b1, b2⟩ := RN_wb h
    have hs8 : set < 256 := Nat.lt_of_lt_of_le hs (ak_p2 m8 (Nat.le_refl _))
    obtain ⟨f, rfl⟩ : ∃ g, f = g + 1 := ⟨f - 1, by omega⟩
    obtain ⟨u, hu⟩ : ∃ u, u = sI w 220 k (0 : Int32) := ⟨_, rfl⟩
    have fu : frP (fun c j => c = 220 ∧ j = k) w u := by
      rw [hu]
      exact frP_sI _ _ ⟨rfl, rfl⟩
    have hU : RN A L F W u := RN_fr (frP_mono (fun c j z => by unfold Scr; omega) fu) h
    have u0 : wI u 220 k = nI 0 := by rw [hu]; exact ev_wIs _ _ _ _
    have head : lX12_ask_49 n (nI set) P2 K (f + 1) x (nI k) w = if (nI k &&& (nI set ^^^ (-1 : Int32))) = 0 then if nI k = 0 then lX12_ask_49 n (nI set) P2 K f (-1 : Int32) (nI (k + 1)) u else lX12_ask_85 n (nI set) P2 (nI k) (fun (z3_26 : Int32) (w_25 : jWd) => lX12_ask_49 n (nI set) P2 K f z3_26 (nI (k + 1)) w_25) n (-1 : Int32) (0 : Int32) u else lX12_ask_49 n (nI set) P2 K f (-1 : Int32) (nI (k + 1)) u := by
      show bX12_ask_49 n (nI set) P2 K (lX12_ask_49 n (nI set) P2 K f) x (nI k) w = _
      unfold bX12_ask_49 letV
      dsimp only
      rw [if_neg (nI_nlt (by omega) (by omega)), l4, grd_N (by omega) (by decide), nI_clamp (by omega), ← hu, nI_1]
    rw [head]
    by_cases q : subI set k
    · have q' : (nI k &&& (nI set ^^^ (-1 : Int32))) = 0 := q
      rw [if_pos q']
      by_cases k0 : k = 0
      · subst k0
        have eb : bst A (A 987) 0 = none := bs_0 16 0
        rw [if_pos (show nI 0 = (0 : Int32) from rfl)]
        obtain ⟨w', d1, d2, d3⟩ := ih 1 f (-1) u hU (by omega) (by omega) (fun p hp1 hp2 => by
          rw [show p = 0 by omega, eb]
          exact u0) (fun _ _ => by
          show (-1 : Int32) = bF (bst A (A 987) 0)
          rw [eb]
          rfl)
        exact ⟨w', d1, d2, frP_trans (frP_mono (fun c j z => z.1) fu) d3⟩
      · rw [if_neg (nI_ne0 (by omega) (by omega))]
        obtain ⟨v, e1, e2, e3⟩ := wo_M (A := A) (L := L) (F := F) (W := W) (n := n) (s := k) (set := set) (cc := csN A (A 987) k) (P1 := nI set) (P2 := P2) (fun (z3_26 : Int32) (w_25 : jWd) => lX12_ask_49 n (nI set) P2 K f z3_26 (nI (k + 1)) w_25) (by omega) (by omega) (csN_bd m8 b1 b2 k (by omega)) q 16 0 n none u hU (by omega) (by omega) (fun p hp1 hp2 => by rw [frP_I fu (by omega), csN_b hp1]; exact hp p hp1 hp2) u0 (Nat.zero_le _) (fun v h e => absurd e (by simp))
        have fv := frP_trans fu e3
        obtain ⟨w', d1, d2, d3⟩ := ih (k + 1) f (bF (bst A (A 987) k)) v (RN_fr (frP_mono (fun c j z => by unfold Scr; omega) fv) h) (by omega) (by omega) (fun p hp1 hp2 => by
          by_cases e : p = k
          · subst e
            exact e2
          · rw [frP_I fv (by omega)]
            exact hp p (by omega) hp2) (fun _ _ => rfl)
        exact ⟨w', (show _ = _ from e1).trans d1, d2, frP_trans (frP_mono (fun c j z => z.1) fv) d3⟩
    · have q' : ¬ (nI k &&& (nI set ^^^ (-1 : Int32))) = 0 := q
      rw [if_neg q']
      obtain ⟨w', d1, d2, d3⟩ := ih (k + 1) f (-1) u hU (by omega) (by omega) (fun p hp1 hp2 => by
        by_cases e : p = k
        · subst e
          exact absurd hp2 q
        · rw [frP_I fu (by omega)]
          exact hp p (by omega) hp2) (fun _ z => absurd z q)
      exact ⟨w', d1, d2, frP_trans (frP_mono (fun c j z => z.1) fu) d3⟩
theorem wa_yes {set m : Nat} (hm : m ≤ 8) (h : set < 2 ^ m) (e : wI w 55 0 = nI m) : fX10_hasAll 55 (nI set) w = 1 := by
  have := ak_p2 hm (Nat.le_refl m)
  unfold fX10_hasAll
  rw [e, if_neg (nI_pos (by omega)), ak_shl (by omega), if_neg (nI_ge h (by omega))]
theorem wa_no {m : Nat} {x : Int32} (hm : m ≤ 8) (h : ∀ k, k < 2 ^ m → x ≠ nI k) (e : wI w 55 0 = nI m) : fX10_hasAll 55 x w = 0 := by
  unfold fX10_hasAll
  rcases ev_i32 x with q | ⟨k, hk, rfl⟩
  · rw [if_pos q]
  · have : 2 ^ m ≤ k := by
      rcases Nat.lt_or_ge k (2 ^ m) with q | q
      · exact absurd rfl (h k q)
      · exact q
    rw [if_neg (nI_pos hk), e, ak_shl (by omega), if_pos (nI_le this hk)]
theorem s_ask_n {n : Nat} (hn : 1000 < n) (w : jWd) (a0 a1 : Int32) (hw : RR w) : ∃ (v : Int32) (w1 w2 : jWd), fX11_ask n a0 a1 w = some (v, w1) ∧ fX12_ask n a0 a1 w1 = some (v, w2) ∧ RR w2 := by
  obtain ⟨⟨A, L, F, W, h⟩, -⟩ := id hw
  obtain ⟨d1, d2⟩ := RN_wd h
  obtain ⟨m8, b1, b2⟩ := RN_wb h
  have p8 := ak_p2 m8 (Nat.le_refl (A 987))
  have l9 : ln 59 = 256 := rfl
  have l6 : ln 60 = 256 := rfl
  have l2 : ln 220 = 256 := rfl
  have hM : ∀ w1, frS2 w w1 → RN A L F W (sI w1 205 0 (0 : Int32)) := fun w1 f1 => RN_fr2 (frP_trans f1 (frS_2 (frS_0 w1))) h
  refine rr_call hw ?_
  have bad : (∀ k, k < 2 ^ A 987 → a0 ≠ nI k) ∨ (fX11_isHalf a1 = 0 ∧ fX12_within a1.toInt64 0 1 = 0) → noX (fX11_ask n a0 a1 w) w (-2) 2 ∧ ∀ w1, frS2 w w1 → noM (fX12_ask n a0 a1 w1) w1 (-2) 2 := by
    intro hb
    refine ⟨⟨w, ?_, frP_refl _ _⟩, fun w1 f1 => ⟨sI w1 205 0 (0 : Int32), ?_, frS_0 w1⟩⟩
    · unfold fX11_ask letV
      dsimp only
      rw [rx_id2]
      rcases hb with hb | hb
      · rw [if_pos (wa_no m8 hb d1)]
      · rw [if_pos hb.1]
        split <;> rfl
    · unfold fX12_ask letV
      dsimp only
      rw [no_id2, RN_A (hM w1 f1) (show 987 < 1124 by decide), ak_shl (by omega)]
      rcases hb with hb | hb
      · rw [if_pos (wi_no hb (by omega))]
        split <;> rfl
      · rw [if_pos hb.2]
  rcases ix_cs a0 (2 ^ A 987) with ⟨set, hset, rfl⟩ | hno
  · rcases hf_cs a1 with hh | ⟨k, hk, rfl, hk1, hk2⟩
    · exact .inr ⟨-2, 2, by decide, by decide, bad (.inr hh)⟩
    · left
      refine ⟨if k = 0 then nI (bC (bst A (A 987) set)) else bF (bst A (A 987) set), ?_, fun w1 f1 => ?_⟩
      · obtain ⟨u, e1, e2, e3⟩ := gat_X (n := n) (by omega) h
        have fu : frS w u := frP_mono (fun c j z => by unfold Scr; omega) e3
        obtain ⟨v, g1, g2, g3, g4⟩ := wg_X (A := A) (L := L) (F := F) (W := W) (n := n) (set := set) (by omega) hset (set + 1) 0 n u (RN_fr fu h) (by omega) (by omega) e2 (fun p hp _ => absurd hp (Nat.not_lt_zero p))
        refine ⟨v, ?_, frP_trans fu (frP_mono (fun c j z => by unfold Scr; omega) g4)⟩
        unfold fX11_ask fX10_weigh letV
        dsimp only
        rw [wa_yes m8 hset d1, if_neg (by decide), hk1, if_neg (by decide), e1, ev_bO, if_neg (by decide)]
        refine (congrArg (fun x => bO x (fun (w_6 : jWd) => if nI k = 0 then grd (nI set) (ln 59) (some ((wI w_6 59 (nI set).toNatClampNeg), w_6)) else grd (nI set) (ln 60) (some ((wI w_6 60 (nI set).toNatClampNeg), w_6)))) g1).trans ?_
        rw [ev_bO, l9, l6, grd_N (by omega) (by decide), grd_N (by omega) (by decide), nI_clamp (by omega), g2, g3]
        rcases (show k = 0 ∨ k = 1 by omega) with e | e <;> subst e <;> rfl
      · obtain ⟨v, g1, g2, g3⟩ := wg_M (A := A) (L := L) (F := F) (W := W) (n := n) (set := set) (P2 := nI k) (fun (z3_32 : Int32) (w_31 : jWd) => if nI k = 0 then grd (nI set) (ln 220) (some ((wI w_31 220 (nI set).toNatClampNeg), w_31)) else some (z3_32, w_31)) (by omega) hset (set + 1) 0 n (-1) (sI w1 205 0 (0 : Int32)) (hM w1 f1) (by omega) (by omega) (fun p hp _ => absurd hp (Nat.not_lt_zero p)) (fun z _ => absurd z (by decide))
        refine ⟨v, ?_, frP_trans (frS_0 w1) (frP_mono (fun c j z => by unfold Scr; omega) g3)⟩
        unfold fX12_ask letV
        dsimp only
        rw [if_neg hk2, RN_A (hM w1 f1) (show 987 < 1124 by decide), ak_shl (by omega), if_neg (wi_yes hset (by omega))]
        refine (show _ = _ from g1).trans ?_
        rw [l2, grd_N (by omega) (by decide), nI_clamp (by omega), g2]
        rcases (show k = 0 ∨ k = 1 by omega) with e | e <;> subst e <;> rfl
  · exact .inr ⟨-2, 2, by decide, by decide, bad (.inl hno)⟩
theorem s_ask : fS_ask RR := fun w a0 a1 hw => ⟨20000, s_ask_n (by decide) w a0 a1 hw⟩
end ASB
