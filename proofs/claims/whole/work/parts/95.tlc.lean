/-! told: the call -/
section TLC
variable {A : Nat → Nat} {L : Nat → Int64} {F W : Nat → Nat} {w u : jWd}
theorem opA_A9 (h : InA A) (h0 : A 0 < 40) {a g d : Nat} (ha : a ≤ 9999) (hg : g ≤ 15) (hd : d ≤ 9999) : InA (opA A a g d) := by
  unfold opA
  have e1 := InA_up h (k := 1 + A 0) (v := a) (by unfold okA; omega)
  have e2 := InA_up e1 (k := 41 + A 0) (v := g) (by unfold okA; omega)
  have e3 := InA_up e2 (k := 81 + A 0) (v := d) (by unfold okA; omega)
  have e4 := InA_up e3 (k := 121 + A 0) (v := 0) (by unfold okA; omega)
  exact InA_up e4 (k := 0) (v := A 0 + 1) (by unfold okA; omega)
theorem RN_open9 (h : RN A L F W w) (h0 : A 0 < 40) {a g d : Nat} (ha : a ≤ 9999) (hg : g ≤ 15) (hd : d ≤ 9999) {w1 w2 : jWd} (e1 : w1 = sI (sI (sI (sI (sI w 3 (A 0) (nI a)) 4 (A 0) (nI g)) 5 (A 0) (nI d)) 6 (A 0) (0 : Int32)) 2 2 (nI (A 0 + 1))) (hM : RM (opA A a g d) L F W 0 w2) (hX : ∀ c k, 1 ≤ c → c ≤ 57 → wI w2 c k = wI w1 c k ∧ wJ w2 c k = wJ w1 c k) : RN (opA A a g d) L F W w2 := by
  obtain ⟨⟨i1, i2, i3, i4, i5⟩, x, c, m⟩ := h
  have hA := opA_A9 i1 h0 ha hg hd
  have lim := RN_lim i1
  have e0 : opA A a g d 0 = A 0 + 1 := uN_eq
  subst e1
  refine ⟨⟨hA, ?_, ?_, i4, i5⟩, ?_, ?_, hM⟩
  · obtain ⟨q1, q2, q3, q4, q5⟩ := i2
    refine ⟨fun i hi => ?_, fun i g hi hg => ?_, fun i hi => ?_, fun i hi => ?_, ?_⟩
    · rw [opA_i h0 (by omega)] at hi ⊢; exact q1 i hi
    · rw [opA_i h0 (by omega)] at hi ⊢; exact q2 i g hi hg
    · rw [opA_i h0 (by omega)] at hi ⊢; exact q3 i hi
    · rw [opA_i h0 (by omega)] at hi; rw [opA_i h0 (by omega), opA_i h0 (by omega)]; exact q4 i hi
    · rw [opA_i h0 (by omega)]; exact q5
  · obtain ⟨q1, q2, q3, q4, q5⟩ := i3
    refine ⟨fun i k hi hk => ?_, fun i k hi hk => ?_, fun p hp => ?_, fun v hv => ?_, fun i hi => ?_⟩
    · rw [e0] at hi
      by_cases e : i = A 0
      · subst e
        unfold opA at hk
        simp (disch := omega) only [uN_ne, uN_eq] at hk
        omega
      · unfold opA at hk
        simp (disch := omega) only [uN_ne] at hk
        exact q1 i k (by omega) hk
    · rw [opA_i h0 (by omega)] at hi hk; exact q2 i k hi hk
    · rw [opA_i h0 (by omega)] at hp; exact q3 p hp
    · rw [opA_i h0 (by omega)] at hv; exact q4 v hv
    · rw [opA_i h0 (by omega)] at hi; exact q5 i hi
  · refine RX_cg hA (fun c k h1 h2 => (hX c k h1 (by omega)).1) (fun c k h1 h2 => (hX c k h1 (by omega)).2) ?_
    refine RX_RSong i1 x (fun j hj => opA_i h0 (by omega)) (fun _ _ => rfl) (fun c j _ _ hc => by simp (disch := omega) only [ev_wIn]) (fun _ _ _ _ _ => rfl) ?_
    obtain ⟨s0, s1⟩ := x.1
    refine ⟨by rw [e0]; exact ev_wIs _ _ _ _, fun i hi => ?_⟩
    rw [e0] at hi
    by_cases e : i = A 0
    · subst e
      unfold opA
      simp (disch := omega) only [uN_ne, uN_eq, ev_wIn, ev_wIs]
      refine ⟨by first | trivial | rfl, by first | trivial | rfl, by first | trivial | rfl, fun k hk => by omega⟩
    · obtain ⟨t1, t2, t3, t4⟩ := s1 i (by omega)
      unfold opA
      simp (disch := omega) only [uN_ne, ev_wIn]
      exact ⟨t1, t2, t3, t4⟩
  · refine RCon_c (fun c j hc hj => ?_) c
    rw [(hX c j (by omega) (by omega)).1]
    simp (disch := omega) only [ev_wIn]
/-- the class's half of what both hold -/
def RXN (A : Nat → Nat) (L : Nat → Int64) (F W : Nat → Nat) (u : jWd) : Prop := In A L F W ∧ RX A L F W 1 u ∧ RCon 1 u
def shM (A : Nat → Nat) (L : Nat → Int64) (F W : Nat → Nat) (u : jWd) : jWd := (fun c k => if c = 207 then nI (A k) else if c = 211 then nI (F k) else if c = 212 then nI (W k) else wI u c k, fun c k => if c = 208 then L k else wJ u c k)
theorem shM_I {c k : Nat} (h : c ≤ 57) : wI (shM A L F W u) c k = wI u c k := by
  show (if c = 207 then nI (A k) else if c = 211 then nI (F k) else if c = 212 then nI (W k) else wI u c k) = _
  rw [if_neg (by omega), if_neg (by omega), if_neg (by omega)]
theorem shM_J {c k : Nat} (h : c ≤ 57) : wJ (shM A L F W u) c k = wJ u c k := by
  show (if c = 208 then L k else wJ u c k) = _
  rw [if_neg (by omega)]
theorem shM_M : RM A L F W 0 (shM A L F W u) := by
  refine ⟨fun k _ => ?_, fun k _ => ?_, fun k _ => ?_, fun k _ => ?_⟩
  · rw [show 1124 * 0 + k = k by omega]
    show (if 207 = 207 then nI (A k) else if 207 = 211 then nI (F k) else if 207 = 212 then nI (W k) else wI u 207 k) = _
    rw [if_pos rfl]
  · rw [show 784 * 0 + k = k by omega]
    show (if 208 = 208 then L k else wJ u 208 k) = _
    rw [if_pos rfl]
  · rw [show 645 * 0 + k = k by omega]
    show (if 211 = 207 then nI (A k) else if 211 = 211 then nI (F k) else if 211 = 212 then nI (W k) else wI u 211 k) = _
    rw [if_neg (by decide), if_pos rfl]
  · rw [show 29 * 0 + k = k by omega]
    show (if 212 = 207 then nI (A k) else if 212 = 211 then nI (F k) else if 212 = 212 then nI (W k) else wI u 212 k) = _
    rw [if_neg (by decide), if_neg (by decide), if_pos rfl]
theorem RXN_cg (h : RXN A L F W w) (e : ∀ c k, 1 ≤ c → c ≤ 57 → wI u c k = wI w c k ∧ wJ u c k = wJ w c k) : RXN A L F W u := ⟨h.1, RX_cg h.1.1 (fun c k h1 h2 => (e c k h1 h2).1) (fun c k h1 h2 => (e c k h1 h2).2) h.2.1, RCon_cg (fun c k h1 h2 _ => (e c k (by omega) (by omega)).1) h.2.2⟩
theorem RXN_of (h : RN A L F W w) : RXN A L F W w := ⟨h.1, h.2.1, h.2.2.1⟩
theorem RXN_sh (h : RXN A L F W u) : RN A L F W (shM A L F W u) := by
  obtain ⟨a, b, c⟩ := RXN_cg (u := shM A L F W u) h (fun c k _ h2 => ⟨shM_I h2, shM_J h2⟩)
  exact ⟨a, b, c, shM_M⟩
theorem RXN_open (h : RXN A L F W u) (h0 : A 0 < 40) {a g d : Nat} (ha : a ≤ 9999) (hg : g ≤ 15) (hd : d ≤ 9999) : RXN (opA A a g d) L F W (sI (sI (sI (sI (sI u 3 (A 0) (nI a)) 4 (A 0) (nI g)) 5 (A 0) (nI d)) 6 (A 0) (0 : Int32)) 2 2 (nI (A 0 + 1))) := by
  have r := RN_open9 (w2 := shM (opA A a g d) L F W (sI (sI (sI (sI (sI (shM A L F W u) 3 (A 0) (nI a)) 4 (A 0) (nI g)) 5 (A 0) (nI d)) 6 (A 0) (0 : Int32)) 2 2 (nI (A 0 + 1)))) (RXN_sh h) h0 ha hg hd rfl shM_M (fun c k _ h2 => ⟨shM_I h2, shM_J h2⟩)
  refine RXN_cg (RXN_of r) (fun c k _ h2 => ⟨?_, ?_⟩)
  · rw [shM_I h2, wI_sI, wI_sI, wI_sI, wI_sI, wI_sI, wI_sI, wI_sI, wI_sI, wI_sI, wI_sI, shM_I h2]
  · rw [shM_J h2, wJ_sI, wJ_sI, wJ_sI, wJ_sI, wJ_sI, wJ_sI, wJ_sI, wJ_sI, wJ_sI, wJ_sI, shM_J h2]
theorem RXN_line (h : RXN A L F W u) {g c : Nat} (hg : g < A 0) (hc : A (121 + g) = c) (h12 : c < 12) {l : Int64} (hl : isL l) (a : Int32) : RXN (uN A (121 + g) (c + 1)) (uN L (12 * g + c) l) F W (sJ (sI (sJ (sI u 7 (12 * g + c) a) 8 (12 * g + c) l) 6 g (nI (c + 1))) 30 (12 * g + c) (smS F (A (1 + g)) l)) := by
  have r := RN_lineS (w2 := shM (uN A (121 + g) (c + 1)) (uN L (12 * g + c) l) F W (sJ (sI (sJ (sI (shM A L F W u) 7 (12 * g + c) a) 8 (12 * g + c) l) 6 g (nI (c + 1))) 30 (12 * g + c) (smS F (A (1 + g)) l))) (RXN_sh h) hg hc h12 hl rfl shM_M (fun c k _ h2 => ⟨shM_I h2, shM_J h2⟩)
  refine RXN_cg (RXN_of r) (fun c k _ h2 => ⟨?_, ?_⟩)
  · rw [shM_I h2, wI_sJ, wI_sJ, wI_sI, wI_sI, wI_sJ, wI_sJ, wI_sI, wI_sI, shM_I h2]
  · rw [shM_J h2, wJ_sJ, wJ_sJ, wJ_sI, wJ_sI, wJ_sJ, wJ_sJ, wJ_sI, wJ_sI, shM_J h2]
theorem pis_X {n : Nat} (hn : 300 < n) (h : RXN A L F W w) {g c : Nat} (hg : g < A 0) (hc : A (121 + g) = c) (hlt : c < 12) {l : Int64} (hl : isL l) : fX8_putIntoSong n 1 (nI g) l w = some (nI c, sJ (sI (sJ (sI w 7 (12 * g + c) (nI (A (1 + g)))) 8 (12 * g + c) l) 6 g (nI (c + 1))) 30 (12 * g + c) (smS F (A (1 + g)) l)) := by
  obtain ⟨hin, hx, hk⟩ := h
  have h40 := hin.1.2.1
  have e6 : wI w (2 + 4) g = nI c := by rw [← hc]; exact (hx.1.2 g hg).2.2.1
  have e3 : wI w (1 + 2) g = nI (A (1 + g)) := (hx.1.2 g hg).1
  have t9 := hin.1.1 (1 + g)
  have hput := put_X (t := 2) hx.1.1 hg (by omega) hk.2.1 e6 hlt (by decide) (by show g < 40; omega) (by show g * 12 + c < 480; omega) (by show g * 12 + c < 480; omega) (by decide) (by decide) (by decide) (nI (A (1 + g))) l
  rw [Nat.mul_comm g 12] at hput
  have hFX : FX F 32 (sI (sJ (sI w 7 (12 * g + c) (nI (A (1 + g)))) 8 (12 * g + c) l) 6 g (nI (c + 1))) := FX_cg (fun c k _ _ => by simp (disch := omega) only [ev_wIn, wI_sJ]) (fun c k _ _ => by simp (disch := omega) only [ev_wJn, wJ_sI]) hx.2.2.2.2.2.1
  have l3 : ln (1 + 2) = 40 := rfl
  have l30 : ln (1 + 29) = 480 := rfl
  unfold fX8_putIntoSong letV
  rw [has_yes hg (by omega) hx.1.1, if_neg (by decide), l3, l30, grd_N (by omega) (by decide), nI_clamp (by omega), e3, hput]
  dsimp only [bO2]
  have e3' : wI (sI (sJ (sI w 7 (12 * g + c) (nI (A (1 + g)))) 8 (12 * g + c) l) 6 g (nI (c + 1))) (1 + 2) g = nI (A (1 + g)) := by simp (disch := omega) only [ev_wIn, wI_sJ]; exact e3
  rw [if_neg (nI_pos (by omega)), grd_N (by omega) (by decide), e3', sm_X (by omega) (by omega) hFX hin.2.2.2.1 hl.1]
  dsimp only [bO]
  rw [show (12 : Int32) = nI 12 from rfl, ev_mul, nI_add, Nat.mul_comm g 12, grd_N (by omega) (by decide), nI_clamp (by omega)]
/-- the LINES of the young SONG from i on -/
def tLL (L : Nat → Int64) (s i m : Nat) (lf : Nat → Int64) : Nat → Int64 := fun k => if 12 * s + i ≤ k ∧ k < 12 * s + m then lf (k - 12 * s) else L k
theorem tLL_s {s i m : Nat} {lf : Nat → Int64} (h : i < m) : tLL (uN L (12 * s + i) (lf i)) s (i + 1) m lf = tLL L s i m lf := by
  funext k
  unfold tLL
  by_cases e : k = 12 * s + i
  · subst e
    rw [if_neg (by omega), if_pos (by omega), uN_eq, show 12 * s + i - 12 * s = i by omega]
  · by_cases q : 12 * s + i ≤ k ∧ k < 12 * s + m
    · rw [if_pos q, if_pos (by omega)]
    · rw [if_neg q, if_neg (by omega), uN_ne e]
theorem tLL_0 {s i : Nat} {lf : Nat → Int64} : tLL L s i i lf = L := by
  funext k
  unfold tLL
  rw [if_neg (by omega)]
theorem uN_uN {α : Type} {B : Nat → α} {x : Nat} {a b : α} : uN (uN B x a) x b = uN B x b := by
  funext k
  by_cases e : k = x
  · subst e
    rw [uN_eq, uN_eq]
  · rw [uN_ne e, uN_ne e, uN_ne e]
theorem uN_id {α : Type} {B : Nat → α} {x : Nat} {a : α} (h : B x = a) : uN B x a = B := by
  funext k
  by_cases e : k = x
  · subst e
    rw [uN_eq, h]
  · rw [uN_ne e]
theorem tp_X {n s m : Nat} {lf : Nat → Int64} (hn : 300 < n) (hm : m ≤ 12) (hl : ∀ j, j < m → isL (lf j)) : ∀ c i f (A : Nat → Nat) (L : Nat → Int64) (u : jWd), i + c = m → c < f → A (121 + s) = i → s < A 0 → RXN A L F W u → (∀ j, j < m → wJ u 203 j = lf j) → ∃ u', lX11_told_113 n (nI m) (nI s) f (nI i) u = some (nI s, u') ∧ RXN (uN A (121 + s) m) (tLL L s i m lf) F W u' ∧ frP (fun c _ => 1 ≤ c ∧ c ≤ 57) u u' := by
  have l203 : ln 203 = 12 := rfl
  intro c
  induction c with
  | zero =>
    intro i f A L u hi hf hA hs h h203
    obtain ⟨f, rfl⟩ : ∃ g, f = g + 1 := ⟨f - 1, by omega⟩
    have ei : i = m := by omega
    subst ei
    refine ⟨u, ?_, by rw [uN_id hA, tLL_0]; exact h, frP_refl _ _⟩
    show bX11_told_113 n (nI i) (nI s) _ (nI i) u = _
    unfold bX11_told_113
    rw [if_pos (nI_le (by omega) (by omega))]
  | succ c ih =>
    intro i f A L u hi hf hA hs h h203
    obtain ⟨f, rfl⟩ : ∃ g, f = g + 1 := ⟨f - 1, by omega⟩
    have hli := hl i (by omega)
    have e1 := pis_X (n := n) hn h hs hA (by omega) hli
    have r1 := RXN_line h hs hA (by omega) hli (nI (A (1 + s)))
    have h40 := h.1.1.2.1
    obtain ⟨v, hv⟩ : ∃ v, v = sJ (sI (sJ (sI u 7 (12 * s + i) (nI (A (1 + s)))) 8 (12 * s + i) (lf i)) 6 s (nI (i + 1))) 30 (12 * s + i) (smS F (A (1 + s)) (lf i)) := ⟨_, rfl⟩
    have fv : frP (fun c _ => 1 ≤ c ∧ c ≤ 57) u v := by
      rw [hv]
      exact frP_trans (frP_trans (frP_trans (frP_sI _ _ (by omega)) (frP_sJ _ _ (by omega))) (frP_sI _ _ (by omega))) (frP_sJ _ _ (by omega))
    rw [← hv] at e1 r1
    obtain ⟨u', d1, d2, d3⟩ := ih (i + 1) f (uN A (121 + s) (i + 1)) (uN L (12 * s + i) (lf i)) v (by omega) (by omega) uN_eq (by rw [uN_ne (by omega)]; exact hs) r1 (fun j hj => by rw [frP_J fv (by omega)]; exact h203 j hj)
    refine ⟨u', ?_, by rw [uN_uN, tLL_s (by omega)] at d2; exact d2, frP_trans fv d3⟩
    show bX11_told_113 n (nI m) (nI s) (lX11_told_113 n (nI m) (nI s) f) (nI i) u = _
    unfold bX11_told_113 letV
    dsimp only
    rw [if_neg (nI_ge (by omega) (by omega)), if_neg (show ¬ (12 : Int32) ≤ nI i from nI_ge (b := 12) (by omega) (by decide)), l203, grd_N (by omega) (by decide), nI_clamp (by omega), h203 i (by omega), e1, ev_bO2, nI_1]
    exact d1
theorem tp_M {n s m : Nat} {lf : Nat → Int64} (K : jWd → Option (Int32 × jWd)) (hm : m ≤ 12) (hs : s < 40) : ∀ c i f (L : Nat → Int64) (u : jWd), i + c = m → c < f → RM A L F W 0 u → (∀ j, j < m → wJ u 217 j = lf j) → ∃ u', lX12_told_288 n (nI m) (nI s) K f (nI i) u = K u' ∧ RM A (tLL L s i m lf) F W 0 u' ∧ frP (fun c k => c = 208 ∧ k < 480) u u' := by
  have l217 : ln 217 = 12 := rfl
  have l8 : ln 208 = 2352 := rfl
  intro c
  induction c with
  | zero =>
    intro i f L u hi hf h h217
    obtain ⟨f, rfl⟩ : ∃ g, f = g + 1 := ⟨f - 1, by omega⟩
    have ei : i = m := by omega
    subst ei
    refine ⟨u, ?_, by rw [tLL_0]; exact h, frP_refl _ _⟩
    show bX12_told_288 n (nI i) (nI s) K _ (nI i) u = _
    unfold bX12_told_288
    rw [if_pos (nI_le (by omega) (by omega))]
  | succ c ih =>
    intro i f L u hi hf h h217
    obtain ⟨f, rfl⟩ : ∃ g, f = g + 1 := ⟨f - 1, by omega⟩
    have fv : frP (fun c k => c = 208 ∧ k < 480) u (sJ u 208 (12 * s + i) (lf i)) := frP_sJ _ _ ⟨rfl, by omega⟩
    obtain ⟨u', d1, d2, d3⟩ := ih (i + 1) f (uN L (12 * s + i) (lf i)) (sJ u 208 (12 * s + i) (lf i)) (by omega) (by omega) (RM_L h (lf i)) (fun j hj => by rw [frP_J fv (by omega)]; exact h217 j hj)
    refine ⟨u', ?_, by rw [tLL_s (by omega)] at d2; exact d2, frP_trans fv d3⟩
    show bX12_told_288 n (nI m) (nI s) K (lX12_told_288 n (nI m) (nI s) K f) (nI i) u = _
    unfold bX12_told_288 letV
    dsimp only
    rw [if_neg (nI_ge (by omega) (by omega)), l217, l8, grd_N (by omega) (by decide), nI_clamp (by omega), h217 i (by omega), show (12 : Int32) * nI s = nI (12 * s) from pk_mul 12 s, nI_add, grd_N (by omega) (by decide), nI_clamp (by omega), nI_1]
    exact d1
theorem s_told_n {n : Nat} (hn : 300 < n) (w : jWd) (a0 a1 a2 a3 : Int32) (hw : RR w) : ∃ (v : Int32) (w1 w2 : jWd), fX11_told n a0 a1 a2 a3 w = some (v, w1) ∧ fX12_told n a0 a1 a2 a3 w1 = some (v, w2) ∧ RR w2 := by
  obtain ⟨⟨A, L, F, W, h⟩, -⟩ := id hw
  have h40 := h.1.1.2.1
  have hF : InF F := h.1.2.2.2.1
  have hW : InW W := h.1.2.2.2.2
  have hM : ∀ w1, frS2 w w1 → RN A L F W (sI w1 205 0 (0 : Int32)) := fun w1 f1 => RN_fr2 (frP_trans f1 (frS_2 (frS_0 w1))) h
  have l3 : ln 3 = 40 := rfl
  have l7 : ln 207 = 3372 := rfl
  rcases ix_cs a0 (A 0) with ⟨g, hg, rfl⟩ | hno
  · have hhas := has_yes hg (by omega) h.2.1.1.1
    rcases gd_cs a1 a2 with ⟨q1, q2⟩ | ⟨gl, d, hgl, hd, rfl, rfl, q1, q2, q3⟩
    · refine rr_call hw (.inr ⟨-3, 3, by decide, by decide, ⟨w, ?_, frP_refl _ _⟩, fun w1 f1 => ⟨sI w1 205 0 (0 : Int32), ?_, frS_0 w1⟩⟩)
      · unfold fX11_told
        rw [hhas, if_neg (by decide), if_pos q1, rx_id3]
      · unfold fX12_told letV
        dsimp only
        rw [RN_A (hM w1 f1) (show 0 < 1124 by decide), if_neg (wi_yes hg (by omega)), no_id3]
        rcases q2 with q2 | q2
        · rw [if_pos q2]
        · rw [if_pos q2]
          split <;> rfl
    have hfull := full_X (t := 2) h.2.1.1.1 h.2.2.1.1 (by decide) h40
    by_cases hz : A 0 = 40
    · refine rr_call hw (.inr ⟨-4, 4, by decide, by decide, ⟨w, ?_, frP_refl _ _⟩, fun w1 f1 => ⟨sI w1 205 0 (0 : Int32), ?_, frS_0 w1⟩⟩)
      · unfold fX11_told
        rw [hhas, if_neg (by decide), q1, if_neg (by decide), hfull, ev_bI, if_pos hz, rx_id4]
      · unfold fX12_told letV
        dsimp only
        rw [RN_A (hM w1 f1) (show 0 < 1124 by decide), if_neg (wi_yes hg (by omega)), if_neg q2, if_neg q3, if_pos (by rw [hz]; rfl), no_id4]
    have hlt : A 0 < 40 := by omega
    have hg12 := h.1.1.2.2.1 g (by omega)
    have t9 := h.1.1.1 (1 + g)
    have hLs : ∀ j, 0 ≤ j → j < 0 + A (121 + g) → isL (L (12 * g + j)) := fun j _ hj => h.1.2.2.1.1 g j hg (by omega)
    obtain ⟨T, hT⟩ : ∃ T, T = tlS F W (A (1 + g)) (fun j => L (12 * g + j)) (A (121 + g)) 0 a3 0 (fun _ => 0) := ⟨_, rfl⟩
    have ok := tlS_ok hF hW (t := A (1 + g)) (ls := fun j => L (12 * g + j)) (A (121 + g)) 0 a3 0 (fun _ => 0) hLs (by omega) (fun j hj => absurd hj (Nat.not_lt_zero j))
    rw [← hT] at ok
    -- the class's telling
    obtain ⟨u1, x1, x2, x3⟩ := tl_X (n := n) hn hg (fun (z4_25 : Int32) (z5_26 : Int32) (w_24 : jWd) => bO (fX8_moveAbout n 1 203 z5_26 z4_25 w_24) (fun (w_28 : jWd) => some (z5_26, w_28))) (A (121 + g)) 0 n a3 0 (fun _ => 0) w h (by omega) (by omega) (by omega) (fun j hj => absurd hj (Nat.not_lt_zero j))
    rw [← hT] at x1 x2
    have fx1 : frS w u1 := frP_mono (fun c k z => by unfold Scr; omega) x3
    have hU1 := RN_fr fx1 h
    have etell : fX8_tellOn n 1 (nI g) a3 203 w = bO (fX8_moveAbout n 1 203 (nI T.1) T.2.2 u1) (fun (w_28 : jWd) => some (nI T.1, w_28)) := by
      unfold fX8_tellOn
      rw [show fX5_has (1 + 1) (nI g) w = bI true from hhas, if_neg (by decide)]
      exact x1
    -- the reference's telling, from any world that follows
    have telM : ∀ w1, RMN A L F W (sI w1 205 0 (0 : Int32)) → ∀ K : Int32 → jWd → Option (Int32 × jWd), ∃ w', lX12_told_91 n (nI g) (nI gl) (nI d) K n (0 : Int32) (0 : Int32) (sI (sI w1 205 0 (0 : Int32)) 205 25 a3) = K (nI T.1) w' ∧ wI w' 205 25 = T.2.2 ∧ (∀ j, j < T.1 → wJ w' 217 j = T.2.1 j) ∧ frS w1 w' := by
      intro w1 f1 K
      have f2 : frS (sI w1 205 0 (0 : Int32)) (sI (sI w1 205 0 (0 : Int32)) 205 25 a3) := frP_sI _ _ (by unfold Scr; omega)
      obtain ⟨w', d1, d2, d3, d4⟩ := tl_M (n := n) hn hg (P2 := nI gl) (P3 := nI d) K (A (121 + g)) 0 n a3 0 (fun _ => 0) (sI (sI w1 205 0 (0 : Int32)) 205 25 a3) (RMN_fr f2 f1) (ev_wIs _ _ _ _) (by omega) (by omega) (by omega) (fun j hj => absurd hj (Nat.not_lt_zero j))
      rw [← hT] at d1 d2 d3
      exact ⟨w', d1, d2, d3, frP_trans (frS_0 w1) (frP_trans f2 d4)⟩
    have headM : ∀ w1, RMN A L F W (sI w1 205 0 (0 : Int32)) → fX12_told n (nI g) (nI gl) (nI d) a3 w1 = lX12_told_91 n (nI g) (nI gl) (nI d) (fun (z5_36 : Int32) (w_35 : jWd) => if z5_36 = 0 then bO2 (fX12_no (-5 : Int32) w_35) (fun (r_71 : Int32) (w_70 : jWd) => some (r_71, w_70)) else lX12_told_202 n (nI g) (nI gl) (nI d) z5_36 (fun (w_54 : jWd) => grd ((1 : Int32) + nI g) (ln 207) (bO2 (fX12_opens (wI w_54 207 (((1 : Int32) + nI g)).toNatClampNeg) (nI gl) (nI d) w_54) (fun (r_58 : Int32) (w_57 : jWd) => lX12_told_288 n z5_36 r_58 (fun (w_65 : jWd) => grd ((121 : Int32) + r_58) (ln 207) (letV (sI w_65 207 ((((121 : Int32) + r_58)).toNatClampNeg) z5_36) (fun (w_66 : jWd) => some (r_58, w_66)))) n (0 : Int32) w_57))) n (0 : Int32) w_35) n (0 : Int32) (0 : Int32) (sI (sI w1 205 0 (0 : Int32)) 205 25 a3) := by
      intro w1 f1
      unfold fX12_told
      rw [ev_letV, RMN_A f1 (show 0 < 1124 by decide), if_neg (wi_yes hg (by omega)), ev_letV, if_neg q2, if_neg q3, if_neg (show ¬ nI (A 0) = (40 : Int32) from fun z => hz ((nI_eq (b := 40) (by omega) (by decide)).mp z)), ev_letV]
    have headX : fX11_told n (nI g) (nI gl) (nI d) a3 w = bO2 (bO (fX8_moveAbout n 1 203 (nI T.1) T.2.2 u1) (fun (w_28 : jWd) => some (nI T.1, w_28))) (fun (r_3 : Int32) (w_2 : jWd) => if r_3 = 0 then bO2 (fX11_refuse (-5 : Int32) w_2) (fun (r_16 : Int32) (w_15 : jWd) => some (r_16, w_15)) else grd (nI g) (ln 3) (bO2 (fX5_start 2 (wI w_2 3 (nI g).toNatClampNeg) (nI gl) (nI d) w_2) (fun (r_7 : Int32) (w_6 : jWd) => lX11_told_113 n r_3 r_7 n (0 : Int32) w_6))) := by
      unfold fX11_told
      rw [hhas, if_neg (by decide), q1, if_neg (by decide), hfull, ev_bI, if_neg hz, etell]
    by_cases m0 : T.1 = 0
    · refine rr_call hw (.inr ⟨-5, 5, by decide, by decide, ⟨u1, ?_, fx1⟩, fun w1 f1 => ?_⟩)
      · rw [headX, m0]
        have e0 : fX8_moveAbout n 1 203 (nI 0) T.2.2 u1 = some u1 := by
          obtain ⟨f, rfl⟩ : ∃ f, n = f + 1 := ⟨n - 1, by omega⟩
          show bX8_moveAbout_6 (f + 1) 1 203 (nI 0) (lX8_moveAbout_6 (f + 1) 1 203 (nI 0) f) T.2.2 (0 : Int32) u1 = _
          unfold bX8_moveAbout_6
          rw [if_pos (by decide)]
        rw [e0, ev_bO, ev_bO2, if_pos (show nI 0 = (0 : Int32) from rfl), rx_id5]
      · obtain ⟨w', d1, d2, d3, d4⟩ := telM w1 (RMN_of (hM w1 f1)) (fun (z5_36 : Int32) (w_35 : jWd) => if z5_36 = 0 then bO2 (fX12_no (-5 : Int32) w_35) (fun (r_71 : Int32) (w_70 : jWd) => some (r_71, w_70)) else lX12_told_202 n (nI g) (nI gl) (nI d) z5_36 (fun (w_54 : jWd) => grd ((1 : Int32) + nI g) (ln 207) (bO2 (fX12_opens (wI w_54 207 (((1 : Int32) + nI g)).toNatClampNeg) (nI gl) (nI d) w_54) (fun (r_58 : Int32) (w_57 : jWd) => lX12_told_288 n z5_36 r_58 (fun (w_65 : jWd) => grd ((121 : Int32) + r_58) (ln 207) (letV (sI w_65 207 ((((121 : Int32) + r_58)).toNatClampNeg) z5_36) (fun (w_66 : jWd) => some (r_58, w_66)))) n (0 : Int32) w_57))) n (0 : Int32) w_35)
        refine ⟨w', ?_, d4⟩
        rw [headM w1 (RMN_of (hM w1 f1)), d1, m0]
        rw [if_pos (show nI 0 = (0 : Int32) from rfl), no_id5]
    · obtain ⟨m, hm⟩ : ∃ m, m = T.1 := ⟨_, rfl⟩
      obtain ⟨lf, hlf⟩ : ∃ lf, lf = mvS W (m - 1) 0 T.2.2 T.2.1 := ⟨_, rfl⟩
      rw [← hm] at ok m0 headX x2 telM
      have lfL : ∀ j, j < m → isL (lf j) := by
        rw [hlf]
        exact mvS_ok (m - 1) 0 T.2.2 T.2.1 (by omega) ok.2
      -- the class
      obtain ⟨u2, y1, y2, y3⟩ := mv_X (W := W) (n := n) (m := m) (by omega) (m - 1) 0 n T.2.2 T.2.1 u1 (RN_lw hU1).2.2.1 (by omega) (by omega) x2
      rw [← hlf] at y2
      have fx2 : frS w u2 := frP_trans fx1 (frP_mono (fun c k z => by unfold Scr; omega) y3)
      have hU2 := RN_fr fx2 h
      have e3 : wI u2 3 g = nI (A (1 + g)) := (hU2.2.1.1.2 g hg).1
      obtain ⟨u3, hu3⟩ : ∃ u3, u3 = sI (sI (sI (sI (sI u2 3 (A 0) (nI (A (1 + g)))) 4 (A 0) (nI gl)) 5 (A 0) (nI d)) 6 (A 0) (0 : Int32)) 2 2 (nI (A 0 + 1)) := ⟨_, rfl⟩
      have est := start_X (t := 2) hU2.2.1.1.1 hU2.2.2.1.1 hlt (by decide) rfl rfl rfl rfl (nI (A (1 + g))) (nI gl) (nI d)
      have est : fX5_start 2 (nI (A (1 + g))) (nI gl) (nI d) u2 = some (nI (A 0), u3) := by rw [hu3]; exact est
      have fu3 : frP (fun c _ => 1 ≤ c ∧ c ≤ 57) u2 u3 := by
        rw [hu3]
        exact frP_trans (frP_trans (frP_trans (frP_trans (frP_sI _ _ (by omega)) (frP_sI _ _ (by omega))) (frP_sI _ _ (by omega))) (frP_sI _ _ (by omega))) (frP_sI _ _ (by omega))
      have rU3 : RXN (opA A (A (1 + g)) gl d) L F W u3 := by rw [hu3]; exact RXN_open (RXN_of hU2) hlt t9 hgl hd
      have o0 : opA A (A (1 + g)) gl d 0 = A 0 + 1 := uN_eq
      have o121 : opA A (A (1 + g)) gl d (121 + A 0) = 0 := by
        unfold opA
        rw [uN_ne (by omega), uN_eq]
      have l203 : ∀ j, j < m → wJ u3 203 j = lf j := fun j hj => by rw [frP_J fu3 (by omega)]; exact y2 j hj
      obtain ⟨u4, z1, z2, z3⟩ := tp_X (n := n) (s := A 0) (m := m) (lf := lf) (F := F) (W := W) hn (by omega) lfL m 0 n (opA A (A (1 + g)) gl d) L u3 (by omega) (by omega) o121 (by rw [o0]; omega) rU3 l203
      have fX : frP NowS w u4 := frP_trans (frP_mono now_s fx2) (frP_mono (fun c k z => by unfold NowS; omega) (frP_trans fu3 z3))
      have eX : fX11_told n (nI g) (nI gl) (nI d) a3 w = some (nI (A 0), u4) := by
        have emv : fX8_moveAbout n 1 203 (nI m) T.2.2 u1 = some u2 := y1
        rw [headX, emv, ev_bO, ev_bO2, if_neg (nI_ne0 (by omega) (by omega)), l3, grd_N (by omega) (by decide), nI_clamp (by omega), e3, est, ev_bO2]
        exact z1
      -- the reference, from there
      have f04 : frP (fun c k => Scr c k ∨ (1 ≤ c ∧ c ≤ 57)) w u4 := frP_trans (frP_mono (fun c k z => .inl z) fx2) (frP_mono (fun c k z => .inr z) (frP_trans fu3 z3))
      have r4 : RMN A L F W (sI u4 205 0 (0 : Int32)) := RMN_frX (frP_trans f04 (frP_mono (fun c k z => .inl z) (frS_0 u4))) (RMN_of h)
      have eM := headM u4 r4
      obtain ⟨v1, d1, d2, d3, d4⟩ := telM u4 r4 (fun (z5_36 : Int32) (w_35 : jWd) => if z5_36 = 0 then bO2 (fX12_no (-5 : Int32) w_35) (fun (r_71 : Int32) (w_70 : jWd) => some (r_71, w_70)) else lX12_told_202 n (nI g) (nI gl) (nI d) z5_36 (fun (w_54 : jWd) => grd ((1 : Int32) + nI g) (ln 207) (bO2 (fX12_opens (wI w_54 207 (((1 : Int32) + nI g)).toNatClampNeg) (nI gl) (nI d) w_54) (fun (r_58 : Int32) (w_57 : jWd) => lX12_told_288 n z5_36 r_58 (fun (w_65 : jWd) => grd ((121 : Int32) + r_58) (ln 207) (letV (sI w_65 207 ((((121 : Int32) + r_58)).toNatClampNeg) z5_36) (fun (w_66 : jWd) => some (r_58, w_66)))) n (0 : Int32) w_57))) n (0 : Int32) w_35)
      have rV1 : RMN A L F W v1 := RMN_frX (frP_trans f04 (frP_mono (fun c k z => .inl z) d4)) (RMN_of h)
      obtain ⟨v2, g1, g2, g3⟩ := mv_M (W := W) (n := n) (m := m) (by omega) (P1 := nI g) (P2 := nI gl) (P3 := nI d) (fun (w_54 : jWd) => grd ((1 : Int32) + nI g) (ln 207) (bO2 (fX12_opens (wI w_54 207 (((1 : Int32) + nI g)).toNatClampNeg) (nI gl) (nI d) w_54) (fun (r_58 : Int32) (w_57 : jWd) => lX12_told_288 n (nI m) r_58 (fun (w_65 : jWd) => grd ((121 : Int32) + r_58) (ln 207) (letV (sI w_65 207 ((((121 : Int32) + r_58)).toNatClampNeg) (nI m)) (fun (w_66 : jWd) => some (r_58, w_66)))) n (0 : Int32) w_57))) (m - 1) 0 n T.2.2 T.2.1 v1 (RMN_W rV1 (by decide)) d2 (by omega) (by omega) d3
      rw [← hlf] at g2
      have fv2 : frS v1 v2 := frP_mono (fun c k z => by unfold Scr; omega) g3
      have rV2 := RMN_fr fv2 rV1
      obtain ⟨v3, hv3⟩ : ∃ v3, v3 = sI (sI (sI (sI (sI v2 207 (1 + A 0) (nI (A (1 + g)))) 207 (41 + A 0) (nI gl)) 207 (81 + A 0) (nI d)) 207 (121 + A 0) (0 : Int32)) 207 0 (nI (A 0 + 1)) := ⟨_, rfl⟩
      have eop : fX12_opens (nI (A (1 + g))) (nI gl) (nI d) v2 = some (nI (A 0), v3) := by rw [hv3]; exact opens_M (RMN_A rV2 (by decide)) hlt _ _ _
      have rV3 : RM (opA A (A (1 + g)) gl d) L F W 0 v3 := by rw [hv3]; exact RM_A (RM_A (RM_A (RM_A (RM_A rV2.2 (A (1 + g))) gl) d) 0) (A 0 + 1)
      have fv3 : frP (fun c k => c = 207 ∧ k < 1124) v2 v3 := by
        rw [hv3]
        exact frP_trans (frP_trans (frP_trans (frP_trans (frP_sI _ _ ⟨rfl, by omega⟩) (frP_sI _ _ ⟨rfl, by omega⟩)) (frP_sI _ _ ⟨rfl, by omega⟩)) (frP_sI _ _ ⟨rfl, by omega⟩)) (frP_sI _ _ ⟨rfl, by omega⟩)
      obtain ⟨v4, i1, i2, i3⟩ := tp_M (A := opA A (A (1 + g)) gl d) (F := F) (W := W) (n := n) (s := A 0) (m := m) (lf := lf) (fun (w_65 : jWd) => grd ((121 : Int32) + nI (A 0)) (ln 207) (letV (sI w_65 207 ((((121 : Int32) + nI (A 0))).toNatClampNeg) (nI m)) (fun (w_66 : jWd) => some (nI (A 0), w_66)))) (by omega) hlt m 0 n L v3 (by omega) (by omega) rV3 (fun j hj => by rw [frP_J fv3 (by omega)]; exact g2 j hj)
      have rV5 := RM_A i2 (k := 121 + A 0) m
      have fE : frP (fun c k => Scr c k ∨ (c = 207 ∧ k < 1124) ∨ (c = 208 ∧ k < 784)) u4 (sI v4 207 (121 + A 0) (nI m)) := frP_trans (frP_mono (fun c k z => .inl z) (frP_trans d4 fv2)) (frP_trans (frP_mono (fun c k z => .inr (.inl z)) fv3) (frP_trans (frP_mono (fun c k z => .inr (.inr ⟨z.1, by omega⟩)) i3) (frP_sI _ _ (.inr (.inl ⟨rfl, by omega⟩)))))
      obtain ⟨a5, b5, c5⟩ := RXN_cg (u := sI v4 207 (121 + A 0) (nI m)) z2 (fun c k _ _ => ⟨frP_I fE (by unfold Scr; omega), frP_J fE (by unfold Scr; omega)⟩)
      refine ⟨nI (A 0), u4, sI v4 207 (121 + A 0) (nI m), eX, ?_, rr_now (frP_trans fX (frP_mono (fun c k z => z.elim .inl (fun y => y.elim (fun y => .inr (.inr (.inl y))) (fun y => .inr (.inr (.inr (.inl y)))))) fE)) hw ⟨_, _, F, W, a5, b5, c5, rV5⟩⟩
      rw [eM, d1]
      rw [if_neg (nI_ne0 (by omega) (by omega))]
      refine (show _ = _ from g1).trans ?_
      have eg : (1 : Int32) + nI g = nI (1 + g) := nI_add 1 g
      have es : (121 : Int32) + nI (A 0) = nI (121 + A 0) := nI_add 121 _
      rw [eg, l7, grd_N (by omega) (by decide), nI_clamp (by omega), RMN_A rV2 (show 1 + g < 1124 by omega), eop, ev_bO2]
      refine (show _ = _ from i1).trans ?_
      rw [es, l7, grd_N (by omega) (by decide), nI_clamp (by omega)]
      rfl
  · refine rr_call hw (.inr ⟨-2, 2, by decide, by decide, ⟨w, ?_, frP_refl _ _⟩, fun w1 f1 => ⟨sI w1 205 0 (0 : Int32), ?_, frS_0 w1⟩⟩)
    · unfold fX11_told
      rw [has_no hno (by omega) h.2.1.1.1, if_pos (by decide), rx_id2]
    · unfold fX12_told letV
      dsimp only
      rw [RN_A (hM w1 f1) (show 0 < 1124 by decide), if_pos (wi_no hno (by omega)), no_id2]
theorem s_told : fS_told RR := fun w a0 a1 a2 a3 hw => ⟨20000, s_told_n (by decide) w a0 a1 a2 a3 hw⟩
end TLC
