/-! THE JUDGE in the class: which lines, the nearest, whose -/
theorem ev_bI {α : Type} (P : Prop) [Decidable P] (a b : α) : (if bI (decide P) = (0 : Int32) then a else b) = if P then b else a := by
  by_cases h : P
  · rw [decide_eq_true h, if_neg (by decide), if_pos h]
  · rw [decide_eq_false h, if_pos (by decide), if_neg h]
theorem has_N {c k m : Nat} {w : jWd} (hk : k < 2147483648) (hm : m < 2147483648) (h : wI w c 2 = nI m) : fX5_has c (nI k) w = bI (decide (k < m)) := by
  unfold fX5_has
  rw [if_neg (nI_pos hk), h]
  by_cases q : k < m
  · rw [if_neg (nI_ge q hm), decide_eq_true q]; rfl
  · rw [if_pos (nI_le (by omega) hk), decide_eq_false q]; rfl
theorem has_neg {c : Nat} {x : Int32} {w : jWd} (h : x < 0) : fX5_has c x w = bI false := by
  unfold fX5_has
  rw [if_pos h]; rfl
section JDX
variable {A : Nat → Nat} {L : Nat → Int64} {F W : Nat → Nat} {w : jWd}
theorem early_X (h : RN A L F W w) {i : Nat} (hi : i < A 0) : fX8_isEarly 1 (nI i) w = some (bI (decide (A (81 + i) ≤ A 161))) := by
  have h9 := h.1.1.1
  have h40 := h.1.1.2.1
  have l4 : ln (1 + 4) = 40 := rfl
  have l18 : ln (1 + 18) = 1 := rfl
  have e1 : wI w (1 + 4) i = nI (A (81 + i)) := (h.2.1.1.2 i hi).2.1
  have e2 : wI w (1 + 18) 0 = nI (A 161) := h.2.1.2.2.1.1
  have a1 := h9 (81 + i)
  have a2 := h9 161
  have e0 : ((0 : Int32)).toNatClampNeg = 0 := rfl
  unfold fX8_isEarly
  rw [has_N (m := A 0) (by omega) (by omega) h.2.1.1.1, ev_bI, if_pos hi, l4, grd_N (by omega) (by decide), l18, show (0 : Int32) = nI 0 from rfl, grd_N (by omega) (by decide), nI_clamp (by omega), nI_clamp (by omega), e1, e2]
  by_cases q : A (81 + i) ≤ A 161
  · rw [if_neg (nI_nlt q (by omega)), decide_eq_true q]; rfl
  · rw [if_pos (nI_lt (by omega) (by omega)), decide_eq_false q]; rfl
/-- the kinds of lines to look among: 0 to 3 as told, 6 early, 7 late, 8 THE PRINT's, 9 of other lands -/
def amK (A : Nat → Nat) (t k i : Nat) : Bool := if k = 0 then decide (A (81 + i) ≤ A 161) && decide (A (1 + i) = t) else if k = 1 then decide (A (81 + i) ≤ A 161) && !decide (A (1 + i) = t) else if k = 2 ∨ k = 6 then decide (A (81 + i) ≤ A 161) else if k = 7 then !decide (A (81 + i) ≤ A 161) else if k = 9 then !decide (A (224 + i) = 0) else true
def pcK (k : Nat) : Nat := if k = 8 then 16 else if k = 3 ∨ k = 9 then 9 else 2
def eK (k : Nat) : Nat := if k = 8 then 60 else 12
def gK (A : Nat → Nat) (k : Nat) : Nat := if k = 8 then 1 else if k = 3 ∨ k = 9 then A 223 else A 0
def cK (A : Nat → Nat) (k g : Nat) : Nat := if k = 8 then A 162 else if k = 3 ∨ k = 9 then A (236 + g) else A (121 + g)
def yK (A : Nat → Nat) (L : Nat → Int64) (F : Nat → Nat) (k g i : Nat) : Int64 := if k = 8 then L (480 + i) else if k = 3 ∨ k = 9 then L (540 + 12 * g + i) else if k = 2 then smS F (A (1 + g)) (L (12 * g + i)) else L (12 * g + i)
/-- a pile's facts -/
theorem pile_X (h : RN A L F W w) {k g : Nat} (hk : k ≤ 9) (hg : g < gK A k) : wI w (pcK k) 2 = nI (gK A k) ∧ gK A k ≤ 40 ∧ g < ln (pcK k + 4) ∧ ln (pcK k + 4) ≤ 40 ∧ wI w (pcK k + 4) g = nI (cK A k g) ∧ cK A k g ≤ 60 ∧ wI w (pcK k) 1 = nI (eK k) ∧ ln (pcK k + 6) ≤ 480 ∧ ∀ i, i < cK A k g → g * eK k + i < ln (pcK k + 6) ∧ (if k = 2 then wJ w 30 (g * eK k + i) else wJ w (pcK k + 6) (g * eK k + i)) = yK A L F k g i ∧ isL (yK A L F k g i) := by
  obtain ⟨⟨⟨a0, a1, a2, a3, a4, a5, -⟩, -, ⟨l1, l2, l3, l4, l5⟩, hF, -⟩, ⟨⟨x0, x1⟩, ⟨y0, y1⟩, ⟨z0, z1, z2⟩, -⟩, ⟨c1, c2, c3, c4, c5, c6, c7, -⟩, -⟩ := h
  by_cases h8 : k = 8
  · subst h8
    have hg1 : gK A 8 = 1 := rfl
    have hg0 : g = 0 := by rw [hg1] at hg; omega
    subst hg0
    refine ⟨c7, by rw [hg1]; decide, by decide, by decide, z1, a3, c6, by decide, fun i hi => ?_⟩
    have hi : i < A 162 := hi
    refine ⟨by show 0 * 60 + i < 60; omega, ?_, l3 i hi⟩
    rw [if_neg (by decide)]
    show wJ w 22 (0 * 60 + i) = L (480 + i)
    rw [show 0 * 60 + i = i by omega]
    exact (z2 i hi).2
  by_cases h3 : k = 3 ∨ k = 9
  · have p1 : pcK k = 9 := by unfold pcK; rw [if_neg h8, if_pos h3]
    have p2 : gK A k = A 223 := by unfold gK; rw [if_neg h8, if_pos h3]
    have p3 : cK A k g = A (236 + g) := by unfold cK; rw [if_neg h8, if_pos h3]
    have p4 : eK k = 12 := by unfold eK; rw [if_neg h8]
    have p5 : ∀ i, yK A L F k g i = L (540 + 12 * g + i) := fun i => by unfold yK; rw [if_neg h8, if_pos h3]
    rw [p2] at hg
    obtain ⟨b1, b2, b3⟩ := y1 g hg
    have hc := a5 g (by omega)
    rw [p1, p2, p3, p4]
    refine ⟨y0, by omega, by show g < 12; omega, by decide, b2, by omega, c4, by decide, fun i hi => ?_⟩
    rw [p5]
    refine ⟨by show g * 12 + i < 144; omega, ?_, l2 g i hg hi⟩
    rw [if_neg (by omega), Nat.mul_comm g 12]
    exact b3 i hi
  · have p1 : pcK k = 2 := by unfold pcK; rw [if_neg h8, if_neg h3]
    have p2 : gK A k = A 0 := by unfold gK; rw [if_neg h8, if_neg h3]
    have p3 : cK A k g = A (121 + g) := by unfold cK; rw [if_neg h8, if_neg h3]
    have p4 : eK k = 12 := by unfold eK; rw [if_neg h8]
    have p5 : ∀ i, yK A L F k g i = if k = 2 then smS F (A (1 + g)) (L (12 * g + i)) else L (12 * g + i) := fun i => by unfold yK; rw [if_neg h8, if_neg h3]
    rw [p2] at hg
    obtain ⟨b1, b2, b3, b4⟩ := x1 g hg
    have hc := a2 g (by omega)
    rw [p1, p2, p3, p4]
    refine ⟨x0, by omega, by show g < 40; omega, by decide, b3, by omega, c2, by decide, fun i hi => ?_⟩
    rw [p5]
    have hL := l1 g i hg hi
    refine ⟨by show g * 12 + i < 480; omega, ?_, ?_⟩
    · rw [Nat.mul_comm g 12]
      by_cases h2 : k = 2
      · rw [if_pos h2, if_pos h2]
        exact (b4 i hi).2
      · rw [if_neg h2, if_neg h2]
        exact (b4 i hi).1
    · split
      · exact ⟨smS_C hF _ hL.1, smS_nz hF _ hL.1 hL.2⟩
      · exact hL
theorem among_X (h : RN A L F W w) {k g t : Nat} {a2 : Int32} (hk : k ≤ 9) (hne : k ≠ 4 ∧ k ≠ 5) (hg : g < gK A k) (ht : k ≤ 1 → a2 = nI t ∧ t ≤ 9999) : fX2_isAmong (nI k) (nI g) a2 w = some (bI (amK A t k g)) := by
  have h9 := h.1.1.1
  have h40 := h.1.1.2.1
  have song : k = 0 ∨ k = 1 ∨ k = 2 ∨ k = 6 ∨ k = 7 → g < A 0 := fun q => by
    have : gK A k = A 0 := by unfold gK; rw [if_neg (by omega), if_neg (by omega)]
    omega
  have l3 : ln 3 = 40 := rfl
  have l10 : ln 10 = 12 := rfl
  rcases (show k = 0 ∨ k = 1 ∨ k = 2 ∨ k = 3 ∨ k = 6 ∨ k = 7 ∨ k = 8 ∨ k = 9 by omega) with e | e | e | e | e | e | e | e <;> subst e
  · have hs := song (by omega)
    obtain ⟨rfl, ht⟩ := ht (by omega)
    have e1 : wI w 3 g = nI (A (1 + g)) := (h.2.1.1.2 g hs).1
    have := h9 (1 + g)
    refine Eq.trans (show _ = bO (fX8_isEarly 1 (nI g) w) (fun (r_3 : Int32) => if r_3 = 0 then some (0 : Int32) else grd (nI g) (ln 3) (if (wI w 3 (nI g).toNatClampNeg) = nI t then some (1 : Int32) else some (0 : Int32))) from rfl) ?_
    rw [early_X h hs]
    dsimp only [bO]
    rw [ev_bI, l3, grd_N (by omega) (by decide), nI_clamp (by omega), e1]
    show _ = some (bI (decide (A (81 + g) ≤ A 161) && decide (A (1 + g) = t)))
    by_cases q : A (81 + g) ≤ A 161
    · rw [if_pos q, decide_eq_true q, Bool.true_and]
      by_cases z : A (1 + g) = t
      · rw [if_pos (by rw [z]), decide_eq_true z]; rfl
      · rw [if_neg (fun y => z ((nI_eq (by omega) (by omega)).mp y)), decide_eq_false z]; rfl
    · rw [if_neg q, decide_eq_false q, Bool.false_and]; rfl
  · have hs := song (by omega)
    obtain ⟨rfl, ht⟩ := ht (by omega)
    have e1 : wI w 3 g = nI (A (1 + g)) := (h.2.1.1.2 g hs).1
    have := h9 (1 + g)
    refine Eq.trans (show _ = bO (fX8_isEarly 1 (nI g) w) (fun (r_3 : Int32) => if r_3 = 0 then some (0 : Int32) else grd (nI g) (ln 3) (if (wI w 3 (nI g).toNatClampNeg) = nI t then some (0 : Int32) else some (1 : Int32))) from rfl) ?_
    rw [early_X h hs]
    dsimp only [bO]
    rw [ev_bI, l3, grd_N (by omega) (by decide), nI_clamp (by omega), e1]
    show _ = some (bI (decide (A (81 + g) ≤ A 161) && !decide (A (1 + g) = t)))
    by_cases q : A (81 + g) ≤ A 161
    · rw [if_pos q, decide_eq_true q, Bool.true_and]
      by_cases z : A (1 + g) = t
      · rw [if_pos (by rw [z]), decide_eq_true z]; rfl
      · rw [if_neg (fun y => z ((nI_eq (by omega) (by omega)).mp y)), decide_eq_false z]; rfl
    · rw [if_neg q, decide_eq_false q, Bool.false_and]; rfl
  · refine Eq.trans (show _ = bO (fX8_isEarly 1 (nI g) w) (fun (r_11 : Int32) => some (r_11 &&& 1)) from rfl) ?_
    rw [early_X h (song (by omega))]
    dsimp only [bO]
    rw [bI_and]
    rfl
  · rfl
  · refine Eq.trans (show _ = bO (fX8_isEarly 1 (nI g) w) (fun (r_11 : Int32) => some (r_11 &&& 1)) from rfl) ?_
    rw [early_X h (song (by omega))]
    dsimp only [bO]
    rw [bI_and]
    rfl
  · refine Eq.trans (show _ = bO (fX8_isEarly 1 (nI g) w) (fun (r_17 : Int32) => if r_17 = 0 then some (1 : Int32) else some (0 : Int32)) from rfl) ?_
    rw [early_X h (song (by omega))]
    dsimp only [bO]
    rw [ev_bI]
    show _ = some (bI (!decide (A (81 + g) ≤ A 161)))
    by_cases q : A (81 + g) ≤ A 161
    · rw [if_pos q, decide_eq_true q]; rfl
    · rw [if_neg q, decide_eq_false q]; rfl
  · rfl
  · have hg : g < A 223 := hg
    have h12 := h.1.1.2.2.2.2.1
    have e1 : wI w 10 g = nI (A (224 + g)) := (h.2.1.2.1.2 g hg).1
    have := h9 (224 + g)
    refine Eq.trans (show _ = if (fX5_has 9 (nI g) w) = 0 then some (0 : Int32) else grd (nI g) (ln 10) (if (wI w 10 (nI g).toNatClampNeg) = 0 then some (0 : Int32) else some (1 : Int32)) from rfl) ?_
    rw [has_N (m := A 223) (by omega) (by omega) h.2.1.2.1.1, ev_bI, if_pos hg, l10, grd_N (by omega) (by decide), nI_clamp (by omega), e1]
    show _ = some (bI (!decide (A (224 + g) = 0)))
    by_cases z : A (224 + g) = 0
    · rw [if_pos (by rw [z]; rfl), decide_eq_true z]; rfl
    · rw [if_neg (fun y => z ((nI_z (by omega)).mp y)), decide_eq_false z]; rfl
/-- the greatest LIKE of a group's lines, of groups, with the first place that has it (where it isn't 0) -/
def nrL (lk : Nat → Nat) (g : Nat) : Nat → Nat → Nat × Nat → Nat × Nat
  | 0, _, st => st
  | c + 1, i, st => nrL lk g c (i + 1) (if st.1 < lk i then (lk i, 100 * g + i) else st)
def nrG (sel : Nat → Bool) (cnt : Nat → Nat) (lk : Nat → Nat → Nat) : Nat → Nat → Nat × Nat → Nat × Nat
  | 0, _, st => st
  | c + 1, g, st => nrG sel cnt lk c (g + 1) (if sel g = true then nrL (lk g) g (cnt g) 0 st else st)
def nrS (A : Nat → Nat) (L : Nat → Int64) (F : Nat → Nat) (k t : Nat) (l : Int64) : Nat × Nat := nrG (amK A t k) (cK A k) (fun g i => alkN l (yK A L F k g i)) (gK A k) 0 (0, 0)
theorem nrL_le {lk : Nat → Nat} (hlk : ∀ i, lk i ≤ 100) {g : Nat} (hg : g ≤ 40) : ∀ c i st, i + c ≤ 60 → st.1 ≤ 100 ∧ st.2 ≤ 9999 → (nrL lk g c i st).1 ≤ 100 ∧ (nrL lk g c i st).2 ≤ 9999 := by
  intro c
  induction c with
  | zero => intro i st _ h; exact h
  | succ c ih =>
    intro i st hi h
    unfold nrL
    split
    · exact ih _ _ (by omega) ⟨hlk i, by show 100 * g + i ≤ 9999; omega⟩
    · exact ih _ _ (by omega) h
theorem nrG_le {sel : Nat → Bool} {cnt : Nat → Nat} {lk : Nat → Nat → Nat} (hlk : ∀ g i, lk g i ≤ 100) : ∀ c g st, g + c ≤ 41 → (∀ j, j < g + c → cnt j ≤ 60) → st.1 ≤ 100 ∧ st.2 ≤ 9999 → (nrG sel cnt lk c g st).1 ≤ 100 ∧ (nrG sel cnt lk c g st).2 ≤ 9999 := by
  intro c
  induction c with
  | zero => intro g st _ _ h; exact h
  | succ c ih =>
    intro g st hg hc h
    unfold nrG
    split
    · exact ih _ _ (by omega) (fun j hj => hc j (by omega)) (nrL_le (hlk g) (by omega) _ _ _ (by have := hc g (by omega); omega) h)
    · exact ih _ _ (by omega) (fun j hj => hc j (by omega)) h
def plI (st : Nat × Nat) : Int32 := if st.1 = 0 then -1 else nI st.2
def P182 (c k : Nat) : Prop := c = 182 ∧ 3 ≤ k
theorem p182_s : ∀ c k, P182 c k → Scr c k := fun c k h => by unfold P182 at h; unfold Scr; omega
theorem nrL_X {n : Nat} (hn : 20 < n) {k g : Nat} (hk : k ≤ 9) (hg : g < gK A k) {l : Int64} (hl : isC l) (tale : Int32) (K : Int32 → jWd → Option (Int32 × jWd)) : ∀ c i f st (w : jWd), RN A L F W w → i + c = cK A k g → c < f → st.1 ≤ 100 → wI w 182 5 = plI st → ∃ w', lX2_nearest_46 n (nI k) l tale (pcK k) (nI g) K f (nI st.1) (nI i) w = K (nI (nrL (fun i => alkN l (yK A L F k g i)) g c i st).1) w' ∧ wI w' 182 5 = plI (nrL (fun i => alkN l (yK A L F k g i)) g c i st) ∧ frP P182 w w' := by
  intro c
  induction c with
  | zero =>
    intro i f st w h hi hf h1 h2
    obtain ⟨f, rfl⟩ : ∃ g, f = g + 1 := ⟨f - 1, by omega⟩
    obtain ⟨q1, q2, q3, q4, q5, q6, q7, q8, q9⟩ := pile_X h hk hg
    refine ⟨w, ?_, h2, frP_refl _ _⟩
    show bX2_nearest_46 n (nI k) l tale (pcK k) (nI g) K _ (nI st.1) (nI i) w = _
    unfold bX2_nearest_46
    rw [grd_N q3 (by omega), nI_clamp (by omega), q5, if_pos (nI_le (by omega) (by omega))]
    rfl
  | succ c ih =>
    intro i f st w h hi hf h1 h2
    obtain ⟨f, rfl⟩ : ∃ g, f = g + 1 := ⟨f - 1, by omega⟩
    obtain ⟨q1, q2, q3, q4, q5, q6, q7, q8, q9⟩ := pile_X h hk hg
    obtain ⟨r1, r2, r3⟩ := q9 i (by omega)
    have ha := alkN_le l (yK A L F k g i)
    have l30 : ln 30 = 480 := rfl
    have r1' : k = 2 → g * eK k + i < 480 := fun e => by subst e; exact r1
    have hv : ∀ J : Int64 → Option (Int32 × jWd), (if nI k = (2 : Int32) then grd (nI (g * eK k + i)) (ln 30) (J (wJ w 30 (nI (g * eK k + i)).toNatClampNeg)) else grd (nI (g * eK k + i)) (ln (pcK k + 6)) (J (wJ w (pcK k + 6) (nI (g * eK k + i)).toNatClampNeg))) = J (yK A L F k g i) := by
      intro J
      rw [nI_clamp (by omega)]
      by_cases e : k = 2
      · rw [if_pos e] at r2
        rw [if_pos (show nI k = (2 : Int32) by rw [e]; rfl), l30, grd_N (r1' e) (by decide), r2]
      · rw [if_neg e] at r2
        rw [if_neg (show ¬ nI k = (2 : Int32) from fun z => e ((nI_eq (b := 2) (by omega) (by decide)).mp z)), grd_N r1 (by omega), r2]
    have step : bX2_nearest_46 n (nI k) l tale (pcK k) (nI g) K (lX2_nearest_46 n (nI k) l tale (pcK k) (nI g) K f) (nI st.1) (nI i) w = (if alkN l (yK A L F k g i) ≤ st.1 then lX2_nearest_46 n (nI k) l tale (pcK k) (nI g) K f (nI st.1) (nI (i + 1)) w else lX2_nearest_46 n (nI k) l tale (pcK k) (nI g) K f (nI (alkN l (yK A L F k g i))) (nI (i + 1)) (sI w 182 5 (nI (100 * g + i)))) := by
      unfold bX2_nearest_46
      rw [grd_N q3 (by omega), nI_clamp (by omega), q5, if_neg (nI_ge (by omega) (by omega)), q7, ev_mul, nI_add, ev_letV]
      refine letJ (x := yK A L F k g i) hv ?_
      rw [alk_X (by omega) hl r3.1 (fun q => r3.2 q.2)]
      dsimp only [bO, letV]
      rw [show (100 : Int32) * nI g + nI i = nI (100 * g + i) by rw [show (100 : Int32) = nI 100 from rfl, ev_mul, nI_add], nI_1]
      by_cases q : alkN l (yK A L F k g i) ≤ st.1
      · rw [if_pos (nI_le q (by omega)), if_pos q]
      · rw [if_neg (nI_ge (by omega) (by omega)), if_neg q]
    show ∃ w', bX2_nearest_46 n (nI k) l tale (pcK k) (nI g) K (lX2_nearest_46 n (nI k) l tale (pcK k) (nI g) K f) (nI st.1) (nI i) w = _ ∧ _
    rw [step]
    unfold nrL
    by_cases q : alkN l (yK A L F k g i) ≤ st.1
    · rw [if_pos q, if_neg (by omega)]
      exact ih (i + 1) f st w h (by omega) (by omega) h1 h2
    · rw [if_neg q, if_pos (by omega)]
      have f1 : frP P182 w (sI w 182 5 (nI (100 * g + i))) := frP_sI _ _ ⟨rfl, by decide⟩
      obtain ⟨w', e1, e2, e3⟩ := ih (i + 1) f (alkN l (yK A L F k g i), 100 * g + i) _ (RN_fr (frP_mono p182_s f1) h) (by omega) (by omega) ha (by
        rw [ev_wIs]
        unfold plI
        rw [if_neg (by show ¬ alkN l (yK A L F k g i) = 0; omega)])
      exact ⟨w', e1, e2, frP_trans f1 e3⟩
theorem nrG_X {n : Nat} (hn : 70 < n) {k t : Nat} (hk : k ≤ 9) (hne : k ≠ 4 ∧ k ≠ 5) {l : Int64} (hl : isC l) {tale : Int32} (ht : k ≤ 1 → tale = nI t ∧ t ≤ 9999) : ∀ c g f st (w : jWd), RN A L F W w → g + c = gK A k → c < f → st.1 ≤ 100 ∧ st.2 ≤ 9999 → wI w 182 5 = plI st → ∃ w', lX2_nearest_18 n (nI k) l tale (pcK k) f (nI st.1) (nI g) w = some (nI (nrG (amK A t k) (cK A k) (fun g i => alkN l (yK A L F k g i)) c g st).1, w') ∧ wI w' 182 5 = plI (nrG (amK A t k) (cK A k) (fun g i => alkN l (yK A L F k g i)) c g st) ∧ frP P182 w w' := by
  intro c
  induction c with
  | zero =>
    intro g f st w h hg hf h1 h2
    obtain ⟨f, rfl⟩ : ∃ g, f = g + 1 := ⟨f - 1, by omega⟩
    have hm : wI w (pcK k) 2 = nI (gK A k) ∧ gK A k ≤ 40 := by
      have h40 := h.1.1.2.1
      have h12 := h.1.1.2.2.2.2.1
      unfold pcK gK
      by_cases h8 : k = 8
      · rw [if_pos h8, if_pos h8]; exact ⟨h.2.2.1.2.2.2.2.2.2.1, by omega⟩
      · rw [if_neg h8, if_neg h8]
        by_cases h3 : k = 3 ∨ k = 9
        · rw [if_pos h3, if_pos h3]; exact ⟨h.2.1.2.1.1, by omega⟩
        · rw [if_neg h3, if_neg h3]; exact ⟨h.2.1.1.1, by omega⟩
    refine ⟨w, ?_, h2, frP_refl _ _⟩
    show bX2_nearest_18 n (nI k) l tale (pcK k) _ (nI st.1) (nI g) w = _
    unfold bX2_nearest_18
    rw [hm.1, if_pos (nI_le (by omega) (by omega))]
    rfl
  | succ c ih =>
    intro g f st w h hg hf h1 h2
    obtain ⟨f, rfl⟩ : ∃ g, f = g + 1 := ⟨f - 1, by omega⟩
    obtain ⟨q1, q2, q3, q4, q5, q6, -⟩ := pile_X h hk (show g < gK A k by omega)
    have step : ∀ (R : Option (Int32 × jWd)), (if amK A t k g = true then lX2_nearest_46 n (nI k) l tale (pcK k) (nI g) (fun (z6_23 : Int32) (w_22 : jWd) => lX2_nearest_18 n (nI k) l tale (pcK k) f z6_23 (nI (g + 1)) w_22) n (nI st.1) (nI 0) w else lX2_nearest_18 n (nI k) l tale (pcK k) f (nI st.1) (nI (g + 1)) w) = R → bX2_nearest_18 n (nI k) l tale (pcK k) (lX2_nearest_18 n (nI k) l tale (pcK k) f) (nI st.1) (nI g) w = R := by
      intro R hR
      rw [← hR]
      unfold bX2_nearest_18
      rw [q1, if_neg (nI_ge (by omega) (by omega)), among_X h hk hne (show g < gK A k by omega) ht]
      dsimp only [bO, letV]
      rw [nI_1]
      cases amK A t k g
      · rw [if_pos (by decide), if_neg (by decide)]
      · rw [if_neg (by decide), if_pos rfl]
        rfl
    show ∃ w', bX2_nearest_18 n (nI k) l tale (pcK k) (lX2_nearest_18 n (nI k) l tale (pcK k) f) (nI st.1) (nI g) w = _ ∧ _
    unfold nrG
    by_cases q : amK A t k g = true
    · obtain ⟨w1, e1, e2, e3⟩ := nrL_X (n := n) (by omega) hk (show g < gK A k by omega) hl tale (fun (z6_23 : Int32) (w_22 : jWd) => lX2_nearest_18 n (nI k) l tale (pcK k) f z6_23 (nI (g + 1)) w_22) (cK A k g) 0 n st w h (by omega) (by omega) h1.1 h2
      have hb := nrL_le (lk := fun i => alkN l (yK A L F k g i)) (fun i => alkN_le _ _) (g := g) (by omega) (cK A k g) 0 st (by omega) h1
      obtain ⟨w2, i1, i2, i3⟩ := ih (g + 1) f _ w1 (RN_fr (frP_mono p182_s e3) h) (by omega) (by omega) hb e2
      rw [if_pos q]
      exact ⟨w2, step _ (by rw [if_pos q]; exact e1.trans i1), i2, frP_trans e3 i3⟩
    · obtain ⟨w2, i1, i2, i3⟩ := ih (g + 1) f st w h (by omega) (by omega) h1 h2
      rw [if_neg q]
      exact ⟨w2, step _ (by rw [if_neg q]; exact i1), i2, i3⟩
theorem nr_X {n : Nat} (hn : 70 < n) (h : RN A L F W w) {k t : Nat} (hk : k ≤ 9) (hne : k ≠ 4 ∧ k ≠ 5) {l : Int64} (hl : isC l) {tale : Int32} (ht : k ≤ 1 → tale = nI t ∧ t ≤ 9999) : ∃ w', fX2_nearest n (nI k) l tale w = some (nI (nrS A L F k t l).1, w') ∧ wI w' 182 5 = plI (nrS A L F k t l) ∧ frP P182 w w' := by
  have hp : fX2_pileOf (nI k) = pcK k := by
    rcases (show k = 0 ∨ k = 1 ∨ k = 2 ∨ k = 3 ∨ k = 6 ∨ k = 7 ∨ k = 8 ∨ k = 9 by omega) with e | e | e | e | e | e | e | e <;> subst e <;> rfl
  have f1 : frP P182 w (sI w 182 5 (-1 : Int32)) := frP_sI _ _ ⟨rfl, by decide⟩
  obtain ⟨w', e1, e2, e3⟩ := nrG_X (n := n) hn hk hne hl ht (gK A k) 0 n (0, 0) _ (RN_fr (frP_mono p182_s f1) h) (by omega) (by
    have h40 := h.1.1.2.1
    have h12 := h.1.1.2.2.2.2.1
    unfold gK
    split
    · omega
    · split <;> omega) ⟨by decide, by decide⟩ (by rw [ev_wIs]; rfl)
  refine ⟨w', ?_, e2, frP_trans f1 e3⟩
  unfold fX2_nearest letV
  dsimp only
  rw [hp]
  exact e1
end JDX
