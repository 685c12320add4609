/-! most, chance, odds -/
def moS (m : Nat → Nat) : Nat → Nat → Nat × Nat × Nat → Nat × Nat × Nat
  | 0, _, st => st
  | c + 1, b, st => moS m c (b + 1) (if st.2.1 < m b then (b, m b, st.2.2 + m b) else (st.1, st.2.1, st.2.2 + m b))
theorem moS_le {m : Nat → Nat} (hm : ∀ b, m b ≤ 60) : ∀ c b st, b + c ≤ 12 → st.1 ≤ 12 ∧ st.2.1 ≤ 60 ∧ st.2.2 ≤ 60 * b → (moS m c b st).1 ≤ 12 ∧ (moS m c b st).2.1 ≤ 60 ∧ (moS m c b st).2.2 ≤ 60 * (b + c) := by
  intro c
  induction c with
  | zero => intro b st _ h; exact h
  | succ c ih =>
    intro b st hb h
    have := hm b
    unfold moS
    rw [show b + (c + 1) = b + 1 + c by omega]
    refine ih (b + 1) _ (by omega) ?_
    split
    · exact ⟨by show b ≤ 12; omega, this, by show st.2.2 + m b ≤ _; omega⟩
    · exact ⟨h.1, h.2.1, by show st.2.2 + m b ≤ _; omega⟩
section MOS
variable {A : Nat → Nat} {L : Nat → Int64} {F W : Nat → Nat} {w : jWd}
theorem ms_X {n : Nat} (hn : 70 < n) (h : RN A L F W w) {t : Nat} (ht : t < 2147483648) (a1 : Int32) (K : Int32 → Int32 → Int32 → Option (Int32 × jWd)) : ∀ c b f st, b + c = A 223 → c < f → st.1 ≤ 12 ∧ st.2.1 ≤ 60 ∧ st.2.2 ≤ 60 * b → lX11_most_67 n (nI t) a1 (nI (A 223)) K w f (nI st.1) (nI st.2.1) (nI st.2.2) (nI b) = K (nI (moS (fun b => mtS A L b t (A 162)) c b st).1) (nI (moS (fun b => mtS A L b t (A 162)) c b st).2.1) (nI (moS (fun b => mtS A L b t (A 162)) c b st).2.2) := by
  have h12 := h.1.1.2.2.2.2.1
  have h60 := h.1.1.2.2.2.1
  intro c
  induction c with
  | zero =>
    intro b f st hb hf hst
    obtain ⟨f, rfl⟩ : ∃ g, f = g + 1 := ⟨f - 1, by omega⟩
    show bX11_most_67 n (nI t) a1 (nI (A 223)) K w _ (nI st.1) (nI st.2.1) (nI st.2.2) (nI b) = _
    unfold bX11_most_67
    rw [if_pos (nI_le (by omega) (by omega))]
    rfl
  | succ c ih =>
    intro b f st hb hf hst
    obtain ⟨f, rfl⟩ : ∃ g, f = g + 1 := ⟨f - 1, by omega⟩
    have hm := mtS_le (A := A) (L := L) b t (A 162)
    show bX11_most_67 n (nI t) a1 (nI (A 223)) K w (lX11_most_67 n (nI t) a1 (nI (A 223)) K w f) (nI st.1) (nI st.2.1) (nI st.2.2) (nI b) = _
    unfold bX11_most_67 moS
    rw [if_neg (nI_ge (by omega) (by omega)), mt_X hn h (by omega) ht]
    dsimp only [bO, letV]
    rw [nI_1, nI_add]
    by_cases q : st.2.1 < mtS A L b t (A 162)
    · rw [if_neg (nI_ge q (by omega)), if_pos q]
      exact ih (b + 1) f (b, mtS A L b t (A 162), st.2.2 + mtS A L b t (A 162)) (by omega) (by omega) ⟨by show b ≤ 12; omega, by show mtS A L b t (A 162) ≤ 60; omega, by show st.2.2 + mtS A L b t (A 162) ≤ _; omega⟩
    · rw [if_pos (nI_le (by omega) (by omega)), if_neg q]
      exact ih (b + 1) f (st.1, st.2.1, st.2.2 + mtS A L b t (A 162)) (by omega) (by omega) ⟨hst.1, hst.2.1, by show st.2.2 + mtS A L b t (A 162) ≤ _; omega⟩
theorem mos_M {n : Nat} (hn : 70 < n) {t : Nat} (ht : t < 2147483648) (a1 : Int32) (K : Int32 → Int32 → Int32 → jWd → Option (Int32 × jWd)) : ∀ c b f st (w : jWd), RN A L F W w → b + c = A 223 → c < f → st.1 ≤ 12 ∧ st.2.1 ≤ 60 ∧ st.2.2 ≤ 60 * b → ∃ w', lX12_most_72 n (nI t) a1 K f (nI st.1) (nI st.2.1) (nI st.2.2) (nI b) w = K (nI (moS (fun b => mtS A L b t (A 162)) c b st).1) (nI (moS (fun b => mtS A L b t (A 162)) c b st).2.1) (nI (moS (fun b => mtS A L b t (A 162)) c b st).2.2) w' ∧ frP P210 w w' := by
  intro c
  induction c with
  | zero =>
    intro b f st w h hb hf hst
    have h12 := h.1.1.2.2.2.2.1
    obtain ⟨f, rfl⟩ : ∃ g, f = g + 1 := ⟨f - 1, by omega⟩
    refine ⟨w, ?_, frP_refl _ _⟩
    show bX12_most_72 n (nI t) a1 K _ (nI st.1) (nI st.2.1) (nI st.2.2) (nI b) w = _
    unfold bX12_most_72
    rw [RN_A h (show 223 < 1124 by decide), if_pos (nI_le (by omega) (by omega))]
    rfl
  | succ c ih =>
    intro b f st w h hb hf hst
    have h12 := h.1.1.2.2.2.2.1
    have h60 := h.1.1.2.2.2.1
    obtain ⟨f, rfl⟩ : ∃ g, f = g + 1 := ⟨f - 1, by omega⟩
    have hm := mtS_le (A := A) (L := L) b t (A 162)
    obtain ⟨w1, e1, e2⟩ := mt_M hn h (show b < A 223 by omega) ht
    obtain ⟨w2, i1, i2⟩ := ih (b + 1) f (if st.2.1 < mtS A L b t (A 162) then (b, mtS A L b t (A 162), st.2.2 + mtS A L b t (A 162)) else (st.1, st.2.1, st.2.2 + mtS A L b t (A 162))) w1 (RN_fr (frP_mono p210_s e2) h) (by omega) (by omega) (by
      split
      · exact ⟨by show b ≤ 12; omega, by show mtS A L b t (A 162) ≤ 60; omega, by show st.2.2 + mtS A L b t (A 162) ≤ _; omega⟩
      · exact ⟨hst.1, hst.2.1, by show st.2.2 + mtS A L b t (A 162) ≤ _; omega⟩)
    refine ⟨w2, ?_, frP_trans e2 i2⟩
    show bX12_most_72 n (nI t) a1 K (lX12_most_72 n (nI t) a1 K f) (nI st.1) (nI st.2.1) (nI st.2.2) (nI b) w = _
    unfold bX12_most_72 moS
    rw [RN_A h (show 223 < 1124 by decide), if_neg (nI_ge (by omega) (by omega)), e1]
    dsimp only [bO2, letV]
    rw [nI_1, nI_add, ← i1]
    by_cases q : st.2.1 < mtS A L b t (A 162)
    · rw [if_pos (nI_lt q (by omega)), if_pos q]
    · rw [if_neg (nI_nlt (by omega) (by omega)), if_neg q]
end MOS
theorem s_most : fS_most RR := by
  intro w a0 a1 hw
  obtain ⟨⟨A, L, F, W, h⟩, -⟩ := id hw
  have h12 := h.1.1.2.2.2.2.1
  have h60 := h.1.1.2.2.2.1
  have hM := rd_M h
  have e9 : wI w 9 2 = nI (A 223) := h.2.1.2.1.1
  refine ⟨20000, rr_call hw ?_⟩
  rcases wi_cs a1 0 2 (a := 0) (b := 2) rfl rfl (by decide) (by decide) with ⟨h1, h2⟩ | ⟨k, _, hk, rfl, h1, h2⟩
  · refine .inr ⟨-2, 2, by decide, by decide, ⟨w, ?_, frP_refl _ _⟩, fun w1 f1 => ⟨sI w1 205 0 (0 : Int32), ?_, frS_0 w1⟩⟩
    · unfold fX11_most
      rw [rx_id2, if_pos h1]
    · unfold fX12_most letV
      dsimp only
      rw [no_id2, if_pos h2]
  rcases bd_cs a0 with hh | ⟨t, ht1, ht2, rfl, ht3, ht4⟩
  · refine .inr ⟨-3, 3, by decide, by decide, ⟨w, ?_, frP_refl _ _⟩, fun w1 f1 => ⟨sI w1 205 0 (0 : Int32), ?_, frS_0 w1⟩⟩
    · unfold fX11_most
      rw [if_neg h1, if_pos hh.1, rx_id3]
    · unfold fX12_most letV
      dsimp only
      rw [if_neg h2, if_pos hh.2, no_id3]
  by_cases hz : A 223 = 0
  · refine .inr ⟨-5, 5, by decide, by decide, ⟨w, ?_, frP_refl _ _⟩, fun w1 f1 => ⟨sI w1 205 0 (0 : Int32), ?_, frS_0 w1⟩⟩
    · unfold fX11_most letV
      dsimp only
      rw [if_neg h1, if_neg ht3, e9, if_pos (by rw [hz]; rfl), rx_id5]
    · unfold fX12_most letV
      dsimp only
      rw [if_neg h2, if_neg ht4, RN_A (hM w1 f1) (show 223 < 1124 by decide), if_pos (by rw [hz]; rfl), no_id5]
  · left
    have hne : ¬ nI (A 223) = 0 := fun q => hz ((nI_z (by omega)).mp q)
    obtain ⟨m1, m2, m3⟩ := moS_le (m := fun b => mtS A L b t (A 162)) (fun b => by have := mtS_le (A := A) (L := L) b t (A 162); omega) (A 223) 0 (0, 0, 0) (by omega) ⟨by decide, by decide, by decide⟩
    have hmul : (moS (fun b => mtS A L b t (A 162)) (A 223) 0 (0, 0, 0)).2.1 * A 223 ≤ 60 * 12 := Nat.mul_le_mul m2 h12
    refine ⟨if k = 2 then nI (moS (fun b => mtS A L b t (A 162)) (A 223) 0 (0, 0, 0)).1 else (lN (frN ((moS (fun b => mtS A L b t (A 162)) (A 223) 0 (0, 0, 0)).2.1 * A 223) (moS (fun b => mtS A L b t (A 162)) (A 223) 0 (0, 0, 0)).2.2 k)).toInt32, ⟨w, ?_, frP_refl _ _⟩, fun w1 f1 => ?_⟩
    · unfold fX11_most letV
      dsimp only
      rw [if_neg h1, if_neg ht3, e9, if_neg hne]
      refine (ms_X (n := 20000) (by decide) h (t := t) (by omega) (nI k) _ (A 223) 0 20000 (0, 0, 0) (by omega) (by omega) ⟨by decide, by decide, by decide⟩).trans ?_
      by_cases e : k = 2
      · rw [if_pos e, if_pos (show nI k = (2 : Int32) by rw [e]; rfl)]
      · rw [if_neg e, if_neg (show ¬ nI k = (2 : Int32) from fun z => e ((nI_eq (b := 2) (by omega) (by decide)).mp z)), ev_mul, nI_l (by omega), nI_l (by omega), fr_X (by decide) (by omega) (by omega) (by omega)]
        rfl
    · have h1' := hM w1 f1
      obtain ⟨w2, e1, e2⟩ := mos_M (n := 20000) (by decide) (t := t) (by omega) (nI k) (fun (z3_13 : Int32) (z4_14 : Int32) (z5_15 : Int32) (w_12 : jWd) => if nI k = (2 : Int32) then some (z3_13, w_12) else bO (fX12_part 20000 (((z4_14 * (wI w_12 207 223))).toInt64) ((z5_15).toInt64) (nI k)) (fun (r_17 : Int64) => some (((r_17).toInt32), w_12))) (A 223) 0 20000 (0, 0, 0) _ h1' (by omega) (by omega) ⟨by decide, by decide, by decide⟩
      have hr := RN_fr (frP_mono p210_s e2) h1'
      refine ⟨w2, ?_, frP_trans (frS_0 w1) (frP_mono p210_s e2)⟩
      unfold fX12_most letV
      dsimp only
      rw [if_neg h2, if_neg ht4, RN_A h1' (show 223 < 1124 by decide), if_neg hne]
      refine e1.trans ?_
      by_cases e : k = 2
      · rw [if_pos e, if_pos (show nI k = (2 : Int32) by rw [e]; rfl)]
      · rw [if_neg e, if_neg (show ¬ nI k = (2 : Int32) from fun z => e ((nI_eq (b := 2) (by omega) (by decide)).mp z)), RN_A hr (show 223 < 1124 by decide), ev_mul, nI_l (by omega), nI_l (by omega), fr_M (by decide) (by omega) (by omega) (by omega)]
        rfl
section CHN
variable {A : Nat → Nat} {L : Nat → Int64} {F W : Nat → Nat} {w : jWd}
/-- is a line like a line of THE PRINT -/
def lkP (L : Nat → Int64) (t : Nat) (y : Int64) (p : Nat) : Nat := if alkN y (L (480 + p)) < t then 0 else 1
def ngK (A : Nat → Nat) (k g : Nat) : Nat := if amK A 0 k g = true then cK A k g else 0
def ngY (A : Nat → Nat) (L : Nat → Int64) (F : Nat → Nat) (k t g : Nat) : Nat := if amK A 0 k g = true then sm (fun i => sm (lkP L t (yK A L F k g i)) (A 162)) (cK A k g) else 0
theorem lkP_le (L : Nat → Int64) (t : Nat) (y : Int64) (p : Nat) : lkP L t y p ≤ 1 := by unfold lkP; split <;> omega
theorem cK_le (h : InA A) {k g : Nat} (hg : g < gK A k) : cK A k g ≤ 60 := by
  obtain ⟨a0, a1, a2, a3, a4, a5, -⟩ := h
  unfold gK at hg
  unfold cK
  by_cases h8 : k = 8
  · rw [if_pos h8]; omega
  · rw [if_neg h8] at hg ⊢
    by_cases h3 : k = 3 ∨ k = 9
    · rw [if_pos h3] at hg ⊢
      have := a5 g (by omega)
      omega
    · rw [if_neg h3] at hg ⊢
      have := a2 g (by omega)
      omega
theorem gK_le (h : InA A) (k : Nat) : gK A k ≤ 40 := by
  obtain ⟨a0, a1, a2, a3, a4, a5, -⟩ := h
  unfold gK
  split
  · omega
  · split <;> omega
theorem ng_le (h : InA A) {k g : Nat} (hg : g ≤ gK A k) : sm (ngK A k) g ≤ 2400 := by
  have h1 := sm_le (f := ngK A k) (b := 60) g (fun i hi => by
    unfold ngK
    split
    · exact cK_le h (by omega)
    · omega)
  have := gK_le h k
  have : g * 60 ≤ 40 * 60 := Nat.mul_le_mul_right _ (by omega)
  omega
theorem pl_le (h : InA A) (t : Nat) (y : Int64) {p : Nat} (hp : p ≤ A 162) : sm (lkP L t y) p ≤ 60 := by
  have h1 := sm_le (f := lkP L t y) (b := 1) p (fun i _ => lkP_le _ _ _ _)
  have := h.2.2.2.1
  omega
theorem ni_le (h : InA A) {k t g : Nat} (hg : g < gK A k) {i : Nat} (hi : i ≤ cK A k g) : sm (fun i => sm (lkP L t (yK A L F k g i)) (A 162)) i ≤ 3600 := by
  have h1 := sm_le (f := fun i => sm (lkP L t (yK A L F k g i)) (A 162)) (b := 60) i (fun i _ => pl_le h _ _ (Nat.le_refl _))
  have := cK_le h hg
  have : i * 60 ≤ 60 * 60 := Nat.mul_le_mul_right _ (by omega)
  omega
theorem ny_le (h : InA A) {k t g : Nat} (hg : g ≤ gK A k) : sm (ngY A L F k t) g ≤ 144000 := by
  have h1 := sm_le (f := ngY A L F k t) (b := 3600) g (fun i hi => by
    unfold ngY
    split
    · exact ni_le h (by omega) (Nat.le_refl _)
    · omega)
  have := gK_le h k
  have : g * 3600 ≤ 40 * 3600 := Nat.mul_le_mul_right _ (by omega)
  omega
theorem pl_Xl2 {n : Nat} (hn : 20 < n) (h : RN A L F W w) {t : Nat} (ht : t < 2147483648) {y : Int64} (hy : isL y) : ∀ c p f, p + c = A 162 → c < f → lX2_printedLike_6 n y (nI t) w f (nI (sm (lkP L t y) p)) (nI p) = some (nI (sm (lkP L t y) (A 162))) := by
  have h60 := h.1.1.2.2.2.1
  have e20 : wI w 20 0 = nI (A 162) := h.2.1.2.2.1.2.1
  intro c
  induction c with
  | zero =>
    intro p f hp hf
    obtain ⟨f, rfl⟩ : ∃ g, f = g + 1 := ⟨f - 1, by omega⟩
    show bX2_printedLike_6 n y (nI t) w _ (nI (sm (lkP L t y) p)) (nI p) = _
    unfold bX2_printedLike_6
    rw [e20, if_pos (nI_le (by omega) (by omega)), show p = A 162 by omega]
  | succ c ih =>
    intro p f hp hf
    obtain ⟨f, rfl⟩ : ∃ g, f = g + 1 := ⟨f - 1, by omega⟩
    have hL := h.1.2.2.1.2.2.1 p (by omega)
    have hi : lX2_printedLike_6 n y (nI t) w f (nI (sm (lkP L t y) p + lkP L t y p)) (nI (p + 1)) = _ := ih (p + 1) f (by omega) (by omega)
    have ha := alkN_le y (L (480 + p))
    show bX2_printedLike_6 n y (nI t) w (lX2_printedLike_6 n y (nI t) w f) (nI (sm (lkP L t y) p)) (nI p) = _
    unfold bX2_printedLike_6
    rw [e20, if_neg (nI_ge (by omega) (by omega)), pr_at h (by omega)]
    dsimp only [bO]
    rw [alk_X (by omega) hy.1 hL.1 (fun q => hy.2 q.1)]
    dsimp only [bO, letV]
    rw [nI_1, nI_1]
    unfold lkP at hi
    by_cases q : alkN y (L (480 + p)) < t
    · rw [if_pos q] at hi
      rw [if_pos (nI_lt q ht)]
      exact hi
    · rw [if_neg q] at hi
      rw [if_neg (nI_nlt (by omega) (by omega))]
      exact hi
theorem plk_X {n : Nat} (hn : 70 < n) (h : RN A L F W w) {t : Nat} (ht : t < 2147483648) {y : Int64} (hy : isL y) : fX2_printedLike n y (nI t) w = some (nI (sm (lkP L t y) (A 162))) :=
  pl_Xl2 (by omega) h ht hy (A 162) 0 n (by omega) (by have := h.1.1.2.2.2.1; omega)
theorem pb_i {n : Nat} (hn : 70 < n) (h : RN A L F W w) {k t g : Nat} (hk : k = 6 ∨ k = 9) (hg : g < gK A k) (ht : t < 2147483648) (B : Nat) (K : Int32 → Option Int32) : ∀ c i f, i + c = cK A k g → c < f → lX2_pairsBy_38 n (nI k) (nI t) (pcK k) (nI g) K w f (nI (B + sm (fun i => sm (lkP L t (yK A L F k g i)) (A 162)) i)) (nI i) = K (nI (B + sm (fun i => sm (lkP L t (yK A L F k g i)) (A 162)) (cK A k g))) := by
  obtain ⟨q1, q2, q3, q4, q5, q6, q7, q8, q9⟩ := pile_X h (show k ≤ 9 by omega) hg
  intro c
  induction c with
  | zero =>
    intro i f hi hf
    obtain ⟨f, rfl⟩ : ∃ g, f = g + 1 := ⟨f - 1, by omega⟩
    show bX2_pairsBy_38 n (nI k) (nI t) (pcK k) (nI g) K w _ (nI (B + sm (fun i => sm (lkP L t (yK A L F k g i)) (A 162)) i)) (nI i) = _
    unfold bX2_pairsBy_38
    rw [grd_N q3 (by omega), nI_clamp (by omega), q5, if_pos (nI_le (by omega) (by omega)), show i = cK A k g by omega]
  | succ c ih =>
    intro i f hi hf
    obtain ⟨f, rfl⟩ : ∃ g, f = g + 1 := ⟨f - 1, by omega⟩
    obtain ⟨r1, r2, r3⟩ := q9 i (by omega)
    have hi := ih (i + 1) f (by omega) (by omega)
    show bX2_pairsBy_38 n (nI k) (nI t) (pcK k) (nI g) K w (lX2_pairsBy_38 n (nI k) (nI t) (pcK k) (nI g) K w f) (nI (B + sm (fun i => sm (lkP L t (yK A L F k g i)) (A 162)) i)) (nI i) = _
    unfold bX2_pairsBy_38
    rw [grd_N q3 (by omega), nI_clamp (by omega), q5, if_neg (nI_ge (by omega) (by omega)), at_X h (show k ≤ 9 by omega) (by omega) hg (by omega)]
    dsimp only [bO]
    rw [plk_X hn h ht r3]
    dsimp only [bO, letV]
    rw [nI_1, nI_add, Nat.add_assoc]
    exact hi
theorem pb_l {n : Nat} (hn : 70 < n) (h : RN A L F W w) {k t : Nat} (hk : k = 6 ∨ k = 9) (ht : t < 2147483648) : ∀ c g f, g + c = gK A k → c < f → lX2_pairsBy_12 n (nI k) (nI t) (pcK k) w f (nI (sm (ngY A L F k t) g)) (nI g) = some (nI (sm (ngY A L F k t) (gK A k))) := by
  have h40 := gK_le h.1.1 k
  have hz : wI w (pcK k) 2 = nI (gK A k) := by
    rcases hk with e | e <;> subst e
    · exact h.2.1.1.1
    · exact h.2.1.2.1.1
  intro c
  induction c with
  | zero =>
    intro g f hg hf
    obtain ⟨f, rfl⟩ : ∃ g, f = g + 1 := ⟨f - 1, by omega⟩
    show bX2_pairsBy_12 n (nI k) (nI t) (pcK k) w _ (nI (sm (ngY A L F k t) g)) (nI g) = _
    unfold bX2_pairsBy_12
    rw [hz, if_pos (nI_le (by omega) (by omega)), show g = gK A k by omega]
  | succ c ih =>
    intro g f hg hf
    obtain ⟨f, rfl⟩ : ∃ g, f = g + 1 := ⟨f - 1, by omega⟩
    have hc := cK_le h.1.1 (show g < gK A k by omega)
    have hi : lX2_pairsBy_12 n (nI k) (nI t) (pcK k) w f (nI (sm (ngY A L F k t) g + ngY A L F k t g)) (nI (g + 1)) = _ := ih (g + 1) f (by omega) (by omega)
    show bX2_pairsBy_12 n (nI k) (nI t) (pcK k) w (lX2_pairsBy_12 n (nI k) (nI t) (pcK k) w f) (nI (sm (ngY A L F k t) g)) (nI g) = _
    unfold bX2_pairsBy_12
    rw [hz, if_neg (nI_ge (by omega) (by omega)), among_X h (show k ≤ 9 by omega) (by omega) (show g < gK A k by omega) (t := 0) (fun q => by omega)]
    dsimp only [bO, letV]
    rw [nI_1]
    unfold ngY at hi
    cases ha : amK A 0 k g
    · rw [ha] at hi
      rw [if_pos (by decide)]
      exact hi
    · rw [ha, if_pos rfl] at hi
      rw [if_neg (by decide)]
      refine (pb_i (n := n) hn h hk (show g < gK A k by omega) ht (sm (ngY A L F k t) g) _ (cK A k g) 0 n (by omega) (by omega)).trans ?_
      exact hi
theorem pb_X {n : Nat} (hn : 70 < n) (h : RN A L F W w) {k t : Nat} (hk : k = 6 ∨ k = 9) (ht : t < 2147483648) : fX2_pairsBy n (nI k) (nI t) w = some (nI (sm (ngY A L F k t) (gK A k))) := by
  have hp : fX2_pileOf (nI k) = pcK k := by rcases hk with e | e <;> subst e <;> rfl
  unfold fX2_pairsBy letV
  dsimp only
  rw [hp]
  exact pb_l hn h hk ht (gK A k) 0 n (by omega) (by have := gK_le h.1.1 k; omega)
theorem pa_l {n : Nat} (h : RN A L F W w) {k : Nat} (hk : k = 6 ∨ k = 9) (K : Int32 → Option Int32) : ∀ c g f, g + c = gK A k → c < f → lX2_pairs_11 n (nI k) (pcK k) K w f (nI (sm (ngK A k) g)) (nI g) = K (nI (sm (ngK A k) (gK A k))) := by
  have h40 := gK_le h.1.1 k
  have hz : wI w (pcK k) 2 = nI (gK A k) := by
    rcases hk with e | e <;> subst e
    · exact h.2.1.1.1
    · exact h.2.1.2.1.1
  intro c
  induction c with
  | zero =>
    intro g f hg hf
    obtain ⟨f, rfl⟩ : ∃ g, f = g + 1 := ⟨f - 1, by omega⟩
    show bX2_pairs_11 n (nI k) (pcK k) K w _ (nI (sm (ngK A k) g)) (nI g) = _
    unfold bX2_pairs_11
    rw [hz, if_pos (nI_le (by omega) (by omega)), show g = gK A k by omega]
  | succ c ih =>
    intro g f hg hf
    obtain ⟨f, rfl⟩ : ∃ g, f = g + 1 := ⟨f - 1, by omega⟩
    obtain ⟨q1, q2, q3, q4, q5, q6, -⟩ := pile_X h (show k ≤ 9 by omega) (show g < gK A k by omega)
    have hi : lX2_pairs_11 n (nI k) (pcK k) K w f (nI (sm (ngK A k) g + ngK A k g)) (nI (g + 1)) = _ := ih (g + 1) f (by omega) (by omega)
    show bX2_pairs_11 n (nI k) (pcK k) K w (lX2_pairs_11 n (nI k) (pcK k) K w f) (nI (sm (ngK A k) g)) (nI g) = _
    unfold bX2_pairs_11
    rw [hz, if_neg (nI_ge (by omega) (by omega)), among_X h (show k ≤ 9 by omega) (by omega) (show g < gK A k by omega) (t := 0) (fun q => by omega)]
    dsimp only [bO, letV]
    rw [nI_1]
    unfold ngK at hi
    cases ha : amK A 0 k g
    · rw [ha] at hi
      rw [if_pos (by decide)]
      exact hi
    · rw [ha, if_pos rfl] at hi
      rw [if_neg (by decide), grd_N q3 (by omega), nI_clamp (by omega), q5, nI_add]
      exact hi
theorem pa_X {n : Nat} (hn : 70 < n) (h : RN A L F W w) {k : Nat} (hk : k = 6 ∨ k = 9) : fX2_pairs n (nI k) w = some (nI (sm (ngK A k) (gK A k) * A 162)) := by
  have hp : fX2_pileOf (nI k) = pcK k := by rcases hk with e | e <;> subst e <;> rfl
  have e20 : wI w 20 0 = nI (A 162) := h.2.1.2.2.1.2.1
  unfold fX2_pairs letV
  dsimp only
  rw [hp]
  refine (pa_l (n := n) h hk _ (gK A k) 0 n (by omega) (by have := gK_le h.1.1 k; omega)).trans ?_
  rw [e20, ev_mul]
end CHN
