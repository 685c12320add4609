/-! answers: back, backOdds, parted, muddled, glen -/
section ANS
variable {A : Nat → Nat} {L : Nat → Int64} {F W : Nat → Nat} {w : jWd}
theorem ha_N {k m : Nat} (hk : k < 2147483648) (hm : m < 2147483648) (h : wI w 41 0 = nI m) : fX0_has 41 (nI k) w = bI (decide (k < m)) := by
  unfold fX0_has
  rw [if_neg (nI_pos hk), h]
  by_cases q : k < m
  · rw [if_neg (nI_ge q hm), decide_eq_true q]; rfl
  · rw [if_pos (nI_le (by omega) hk), decide_eq_false q]; rfl
theorem ha_no {m : Nat} {x : Int32} (h : ∀ k, k < m → x ≠ nI k) (hm : m < 2147483648) (hs : wI w 41 0 = nI m) : fX0_has 41 x w = bI false := by
  rcases ev_i32 x with q | ⟨k, hk, rfl⟩
  · unfold fX0_has
    rw [if_pos q]; rfl
  · rw [ha_N hk hm hs, decide_eq_false (fun z => h k z rfl)]
theorem ha_yes {m k : Nat} (h : k < m) (hm : m < 2147483648) (hs : wI w 41 0 = nI m) : fX0_has 41 (nI k) w = bI true := by
  rw [ha_N (by omega) hm hs, decide_eq_true h]
theorem RN_an (h : RN A L F W w) : wI w 41 0 = nI (A 547) ∧ ∀ i, i < A 547 → wI w 42 i = nI (A (548 + i)) ∧ wI w 43 i = nI (A (608 + i)) ∧ wI w 44 i = nI (A (668 + i)) ∧ wI w 45 i = nI (A (728 + i)) ∧ wI w 46 i = nI (A (788 + i)) ∧ wJ w 47 i = L (724 + i) := h.2.1.2.2.2.2.2.2.2.1
theorem RN_60 (h : RN A L F W w) : A 547 ≤ 60 := h.1.1.2.2.2.2.2.2.2.2.1
theorem RN_hi (h : RN A L F W w) : wI w 1 11 = nI (A 248) := h.2.1.2.2.2.2.2.2.2.2.2.2.1
theorem RN_hb (h : RN A L F W w) : 1 ≤ A 249 ∧ A 249 ≤ A 248 ∧ A 248 ≤ 100 := h.1.1.2.2.2.2.2.2.1
theorem RN_pd (h : RN A L F W w) : wI w 19 0 = nI (A 161) := h.2.1.2.2.1.1
theorem RN_al (h : RN A L F W w) {a : Nat} (ha : a < A 547) : isC (L (724 + a)) := h.1.2.2.1.2.2.2.2 a ha
def bkS (A : Nat → Nat) (L : Nat → Int64) (F : Nat → Nat) (a : Nat) : Bool := decide (L (724 + a) ≠ 0 ∧ A 161 < A (608 + a) ∧ ¬ (nrS A L F 8 0 (L (724 + a))).1 < A 248 ∧ (nrS A L F 6 0 (L (724 + a))).1 < A 248)
def mdS (A : Nat → Nat) (L : Nat → Int64) (F : Nat → Nat) (a : Nat) : Bool := decide (L (724 + a) ≠ 0 ∧ A (788 + a) = 1 ∧ ¬ (nrS A L F 6 0 (L (724 + a))).1 < A 248 ∧ (nrS A L F 8 0 (L (724 + a))).1 < A 248)
theorem nr8_X {n : Nat} (hn : 70 < n) (h : RN A L F W w) {l : Int64} (hl : isC l) : ∃ w', fX2_nearest n (8 : Int32) l (-1 : Int32) w = some (nI (nrS A L F 8 0 l).1, w') ∧ frP P182 w w' := by
  obtain ⟨w', e1, -, e3⟩ := nr_X (n := n) hn h (k := 8) (t := 0) (by decide) (by decide) hl (tale := -1) (fun q => absurd q (by decide))
  exact ⟨w', e1, e3⟩
theorem nr6_X {n : Nat} (hn : 70 < n) (h : RN A L F W w) {l : Int64} (hl : isC l) : ∃ w', fX2_nearest n (6 : Int32) l (-1 : Int32) w = some (nI (nrS A L F 6 0 l).1, w') ∧ frP P182 w w' := by
  obtain ⟨w', e1, -, e3⟩ := nr_X (n := n) hn h (k := 6) (t := 0) (by decide) (by decide) hl (tale := -1) (fun q => absurd q (by decide))
  exact ⟨w', e1, e3⟩
theorem ms6_M {n : Nat} (hn : 70 < n) (h : RN A L F W w) (l : Int64) : ∃ w' v, fX12_mostOfSongs n l (1 : Int32) w = some (v, w') ∧ mxR (nrS A L F 6 0 l).1 v ∧ frP P210 w w' := ms_M hn h l true 0
theorem bk_X {n : Nat} (hn : 70 < n) (h : RN A L F W w) {a : Nat} (ha : a < A 547) : ∃ w', fX2_isBack n (nI a) w = some (bI (bkS A L F a), w') ∧ frP P182 w w' := by
  have h60 := RN_60 h
  obtain ⟨s0, s1⟩ := RN_an h
  obtain ⟨x1, x2, x3, x4, x5, x6⟩ := s1 a ha
  have hl := RN_al h ha
  have d1 := RN_9 h 161
  have d2 := RN_9 h (608 + a)
  obtain ⟨b1, b2, b3⟩ := RN_hb h
  have n8 := nrS_le (L := L) (F := F) h.1.1 (k := 8) (t := 0) (l := L (724 + a))
  have n6 := nrS_le (L := L) (F := F) h.1.1 (k := 6) (t := 0) (l := L (724 + a))
  have l47 : ln 47 = 60 := rfl
  have l43 : ln 43 = 60 := rfl
  obtain ⟨w1, e1, f1⟩ := nr8_X hn h hl
  have h1 := RN_fr (frP_mono p182_s f1) h
  obtain ⟨w2, e2, f2⟩ := nr6_X hn h1 hl
  have h2 := RN_fr (frP_mono p182_s f2) h1
  have main : fX2_isBack n (nI a) w = if L (724 + a) = 0 then some ((0 : Int32), w) else if A 161 < A (608 + a) then (if (nrS A L F 8 0 (L (724 + a))).1 < A 248 then some ((0 : Int32), w1) else if A 248 ≤ (nrS A L F 6 0 (L (724 + a))).1 then some ((0 : Int32), w2) else some ((1 : Int32), w2)) else some ((0 : Int32), w) := by
    unfold fX2_isBack
    rw [ha_yes ha (by omega) s0, if_neg (by decide), l47, l43, grd_N (by omega) (by decide), nI_clamp (by omega), x6, x2, RN_pd h]
    dsimp only [letV]
    rw [grd_N (by omega) (by decide), e1]
    dsimp only [bO2]
    rw [RN_hi h1, e2]
    dsimp only [bO2]
    rw [RN_hi h2]
    simp (disch := omega) only [ev_lt, ev_le, l0_iff]
  unfold bkS
  by_cases q1 : L (724 + a) = 0
  · rw [if_pos q1] at main
    exact ⟨w, by rw [main, decide_eq_false (fun z => z.1 q1)]; rfl, frP_refl _ _⟩
  rw [if_neg q1] at main
  by_cases q2 : A 161 < A (608 + a)
  · rw [if_pos q2] at main
    by_cases q3 : (nrS A L F 8 0 (L (724 + a))).1 < A 248
    · rw [if_pos q3] at main
      exact ⟨w1, by rw [main, decide_eq_false (fun z => z.2.2.1 q3)]; rfl, f1⟩
    · rw [if_neg q3] at main
      by_cases q4 : A 248 ≤ (nrS A L F 6 0 (L (724 + a))).1
      · rw [if_pos q4] at main
        exact ⟨w2, by rw [main, decide_eq_false (fun z => by have := z.2.2.2; omega)]; rfl, frP_trans f1 f2⟩
      · rw [if_neg q4] at main
        exact ⟨w2, by rw [main, decide_eq_true ⟨q1, q2, q3, by omega⟩]; rfl, frP_trans f1 f2⟩
  · rw [if_neg q2] at main
    exact ⟨w, by rw [main, decide_eq_false (fun z => q2 z.2.1)]; rfl, frP_refl _ _⟩
theorem md_X {n : Nat} (hn : 70 < n) (h : RN A L F W w) {a : Nat} (ha : a < A 547) : ∃ w', fX2_isMuddled n (nI a) w = some (bI (mdS A L F a), w') ∧ frP P182 w w' := by
  have h60 := RN_60 h
  obtain ⟨s0, s1⟩ := RN_an h
  obtain ⟨x1, x2, x3, x4, x5, x6⟩ := s1 a ha
  have hl := RN_al h ha
  have d2 := RN_9 h (788 + a)
  obtain ⟨b1, b2, b3⟩ := RN_hb h
  have n8 := nrS_le (L := L) (F := F) h.1.1 (k := 8) (t := 0) (l := L (724 + a))
  have n6 := nrS_le (L := L) (F := F) h.1.1 (k := 6) (t := 0) (l := L (724 + a))
  have l47 : ln 47 = 60 := rfl
  have l46 : ln 46 = 60 := rfl
  obtain ⟨w1, e1, f1⟩ := nr6_X hn h hl
  have h1 := RN_fr (frP_mono p182_s f1) h
  obtain ⟨w2, e2, f2⟩ := nr8_X hn h1 hl
  have h2 := RN_fr (frP_mono p182_s f2) h1
  have main : fX2_isMuddled n (nI a) w = if L (724 + a) = 0 then some ((0 : Int32), w) else if A (788 + a) = 1 then (if (nrS A L F 6 0 (L (724 + a))).1 < A 248 then some ((0 : Int32), w1) else if A 248 ≤ (nrS A L F 8 0 (L (724 + a))).1 then some ((0 : Int32), w2) else some ((1 : Int32), w2)) else some ((0 : Int32), w) := by
    unfold fX2_isMuddled
    rw [ha_yes ha (by omega) s0, if_neg (by decide), l47, l46, grd_N (by omega) (by decide), nI_clamp (by omega), x6, x5]
    dsimp only [letV]
    rw [grd_N (by omega) (by decide), e1]
    dsimp only [bO2]
    rw [RN_hi h1, e2]
    dsimp only [bO2]
    rw [RN_hi h2]
    have e1b : (nI (A (788 + a)) = (1 : Int32)) = (A (788 + a) = 1) := propext (nI_eq (b := 1) (by omega) (by decide))
    simp (disch := omega) only [ev_lt, ev_le, l0_iff, e1b]
  unfold mdS
  by_cases q1 : L (724 + a) = 0
  · rw [if_pos q1] at main
    exact ⟨w, by rw [main, decide_eq_false (fun z => z.1 q1)]; rfl, frP_refl _ _⟩
  rw [if_neg q1] at main
  by_cases q2 : A (788 + a) = 1
  · rw [if_pos q2] at main
    by_cases q3 : (nrS A L F 6 0 (L (724 + a))).1 < A 248
    · rw [if_pos q3] at main
      exact ⟨w1, by rw [main, decide_eq_false (fun z => z.2.2.1 q3)]; rfl, f1⟩
    · rw [if_neg q3] at main
      by_cases q4 : A 248 ≤ (nrS A L F 8 0 (L (724 + a))).1
      · rw [if_pos q4] at main
        exact ⟨w2, by rw [main, decide_eq_false (fun z => by have := z.2.2.2; omega)]; rfl, frP_trans f1 f2⟩
      · rw [if_neg q4] at main
        exact ⟨w2, by rw [main, decide_eq_true ⟨q1, q2, q3, by omega⟩]; rfl, frP_trans f1 f2⟩
  · rw [if_neg q2] at main
    exact ⟨w, by rw [main, decide_eq_false (fun z => q2 z.2.1)]; rfl, frP_refl _ _⟩
theorem bh_M (h : RN A L F W w) {a : Nat} (ha : a < A 547) : fX12_isBehind (nI a) w = some (bI (decide (L (724 + a) ≠ 0 ∧ A 161 < A (608 + a)))) := by
  have h60 := RN_60 h
  have d1 := RN_9 h 161
  have d2 := RN_9 h (608 + a)
  have l7 : ln 207 = 3372 := rfl
  have l8 : ln 208 = 2352 := rfl
  unfold fX12_isBehind
  rw [show (724 : Int32) + nI a = nI (724 + a) from nI_add 724 a, show (608 : Int32) + nI a = nI (608 + a) from nI_add 608 a, l7, l8, grd_N (by omega) (by decide), grd_N (by omega) (by decide), nI_clamp (by omega), nI_clamp (by omega), RN_L h (by omega), RN_A h (show 608 + a < 1124 by omega), RN_A h (show 161 < 1124 by decide)]
  by_cases q1 : L (724 + a) = 0
  · rw [if_pos ((l0_iff _).mpr q1), decide_eq_false (fun z => z.1 q1)]; rfl
  · rw [if_neg (fun z => q1 ((l0_iff _).mp z))]
    by_cases q2 : A 161 < A (608 + a)
    · rw [if_neg (nI_ge q2 (by omega)), decide_eq_true ⟨q1, q2⟩]; rfl
    · rw [if_pos (nI_le (by omega) (by omega)), decide_eq_false (fun z => q2 z.2)]; rfl
theorem bk_M {n : Nat} (hn : 70 < n) (h : RN A L F W w) {a : Nat} (ha : a < A 547) : ∃ w', fX12_isBack n (nI a) w = some (bI (bkS A L F a), w') ∧ frP P210 w w' := by
  have h60 := RN_60 h
  obtain ⟨b1, b2, b3⟩ := RN_hb h
  have n8 := nrS_le (L := L) (F := F) h.1.1 (k := 8) (t := 0) (l := L (724 + a))
  have n6 := nrS_le (L := L) (F := F) h.1.1 (k := 6) (t := 0) (l := L (724 + a))
  have l8 : ln 208 = 2352 := rfl
  obtain ⟨w1, v1, e1, m1, f1⟩ := mp_M (n := n) hn h (L (724 + a)) 0
  have h1 := RN_fr (frP_mono p210_s f1) h
  obtain ⟨w2, v2, e2, m2, f2⟩ := ms6_M (n := n) hn h1 (L (724 + a))
  have h2 := RN_fr (frP_mono p210_s f2) h1
  have t1 := mx_lt m1 (H := A 248) (by omega) (by omega) (by omega)
  have t2 := mx_le m2 (H := A 248) (by omega) (by omega) (by omega)
  have main : fX12_isBack n (nI a) w = if L (724 + a) ≠ 0 ∧ A 161 < A (608 + a) then (if v1 < nI (A 248) then some ((0 : Int32), w1) else if nI (A 248) ≤ v2 then some ((0 : Int32), w2) else some ((1 : Int32), w2)) else some ((0 : Int32), w) := by
    unfold fX12_isBack
    rw [show (724 : Int32) + nI a = nI (724 + a) from nI_add 724 a, l8, grd_N (by omega) (by decide), nI_clamp (by omega), RN_L h (by omega), bh_M h ha]
    dsimp only [letV, bO]
    rw [ev_bI, e1]
    dsimp only [bO2]
    rw [RN_A h1 (show 248 < 1124 by decide), e2]
    dsimp only [bO2]
    rw [RN_A h2 (show 248 < 1124 by decide)]
  unfold bkS
  by_cases q : L (724 + a) ≠ 0 ∧ A 161 < A (608 + a)
  · rw [if_pos q] at main
    by_cases q3 : (nrS A L F 8 0 (L (724 + a))).1 < A 248
    · rw [if_pos (t1.mpr q3)] at main
      exact ⟨w1, by rw [main, decide_eq_false (fun z => z.2.2.1 q3)]; rfl, f1⟩
    · rw [if_neg (fun z => q3 (t1.mp z))] at main
      by_cases q4 : (nrS A L F 6 0 (L (724 + a))).1 < A 248
      · rw [if_neg (fun z => t2.mp z q4)] at main
        exact ⟨w2, by rw [main, decide_eq_true ⟨q.1, q.2, q3, q4⟩]; rfl, frP_trans f1 f2⟩
      · rw [if_pos (t2.mpr q4)] at main
        exact ⟨w2, by rw [main, decide_eq_false (fun z => q4 z.2.2.2)]; rfl, frP_trans f1 f2⟩
  · rw [if_neg q] at main
    exact ⟨w, by rw [main, decide_eq_false (fun z => q ⟨z.1, z.2.1⟩)]; rfl, frP_refl _ _⟩
theorem md_M {n : Nat} (hn : 70 < n) (h : RN A L F W w) {a : Nat} (ha : a < A 547) : ∃ w', fX12_isMuddled n (nI a) w = some (bI (mdS A L F a), w') ∧ frP P210 w w' := by
  have h60 := RN_60 h
  have d2 := RN_9 h (788 + a)
  obtain ⟨b1, b2, b3⟩ := RN_hb h
  have n8 := nrS_le (L := L) (F := F) h.1.1 (k := 8) (t := 0) (l := L (724 + a))
  have n6 := nrS_le (L := L) (F := F) h.1.1 (k := 6) (t := 0) (l := L (724 + a))
  have l7 : ln 207 = 3372 := rfl
  have l8 : ln 208 = 2352 := rfl
  obtain ⟨w1, v1, e1, m1, f1⟩ := ms6_M (n := n) hn h (L (724 + a))
  have h1 := RN_fr (frP_mono p210_s f1) h
  obtain ⟨w2, v2, e2, m2, f2⟩ := mp_M (n := n) hn h1 (L (724 + a)) 0
  have h2 := RN_fr (frP_mono p210_s f2) h1
  have t1 := mx_lt m1 (H := A 248) (by omega) (by omega) (by omega)
  have t2 := mx_le m2 (H := A 248) (by omega) (by omega) (by omega)
  have main : fX12_isMuddled n (nI a) w = if A (788 + a) = 1 then (if L (724 + a) = 0 then some ((0 : Int32), w) else if v1 < nI (A 248) then some ((0 : Int32), w1) else if nI (A 248) ≤ v2 then some ((0 : Int32), w2) else some ((1 : Int32), w2)) else some ((0 : Int32), w) := by
    unfold fX12_isMuddled
    rw [show (724 : Int32) + nI a = nI (724 + a) from nI_add 724 a, show (788 : Int32) + nI a = nI (788 + a) from nI_add 788 a, l8, l7, grd_N (by omega) (by decide), nI_clamp (by omega), RN_L h (by omega)]
    dsimp only [letV]
    rw [grd_N (by omega) (by decide), nI_clamp (by omega), RN_A h (show 788 + a < 1124 by omega), e1]
    dsimp only [bO2]
    rw [RN_A h1 (show 248 < 1124 by decide), e2]
    dsimp only [bO2]
    rw [RN_A h2 (show 248 < 1124 by decide)]
    have e1b : (nI (A (788 + a)) = (1 : Int32)) = (A (788 + a) = 1) := propext (nI_eq (b := 1) (by omega) (by decide))
    simp only [l0_iff, e1b]
  unfold mdS
  by_cases q2 : A (788 + a) = 1
  · rw [if_pos q2] at main
    by_cases q1 : L (724 + a) = 0
    · rw [if_pos q1] at main
      exact ⟨w, by rw [main, decide_eq_false (fun z => z.1 q1)]; rfl, frP_refl _ _⟩
    rw [if_neg q1] at main
    by_cases q3 : (nrS A L F 6 0 (L (724 + a))).1 < A 248
    · rw [if_pos (t1.mpr q3)] at main
      exact ⟨w1, by rw [main, decide_eq_false (fun z => z.2.2.1 q3)]; rfl, f1⟩
    · rw [if_neg (fun z => q3 (t1.mp z))] at main
      by_cases q4 : (nrS A L F 8 0 (L (724 + a))).1 < A 248
      · rw [if_neg (fun z => t2.mp z q4)] at main
        exact ⟨w2, by rw [main, decide_eq_true ⟨q1, q2, q3, q4⟩]; rfl, frP_trans f1 f2⟩
      · rw [if_pos (t2.mpr q4)] at main
        exact ⟨w2, by rw [main, decide_eq_false (fun z => q4 z.2.2.2)]; rfl, frP_trans f1 f2⟩
  · rw [if_neg q2] at main
    exact ⟨w, by rw [main, decide_eq_false (fun z => q2 z.2.1)]; rfl, frP_refl _ _⟩
theorem it_yes (h : RN A L F W w) {a : Nat} (ha : a < A 547) : fX12_isThere (nI a) w = some (bI true) := by
  have h60 := RN_60 h
  unfold fX12_isThere
  rw [if_neg (nI_pos (by omega)), RN_A h (show 547 < 1124 by decide), if_neg (nI_ge ha (by omega))]
  rfl
theorem it_no (h : RN A L F W w) {x : Int32} (hx : ∀ k, k < A 547 → x ≠ nI k) : fX12_isThere x w = some (bI false) := by
  have h60 := RN_60 h
  unfold fX12_isThere
  rcases ev_i32 x with q | ⟨k, hk, rfl⟩
  · rw [if_pos q]; rfl
  · rw [if_neg (nI_pos hk), RN_A h (show 547 < 1124 by decide), if_pos (nI_le (by
      rcases Nat.lt_or_ge k (A 547) with z | z
      · exact absurd rfl (hx k z)
      · exact z) hk)]
    rfl
/-! muddled: how many, or which -/
theorem mu_X {n : Nat} (hn : 70 < n) (i : Int32) (K : Int32 → jWd → Option (Int32 × jWd)) (hK : ∀ m w, K (nI m) w = some (if i = -1 then nI m else -1, w)) : ∀ c a f m (w : jWd), RN A L F W w → a + c = A 547 → c < f → m ≤ a → ∃ w', lX2_muddledAt_4 n i K f (nI m) (nI a) w = some (adF (mdS A L F) i c a m, w') ∧ frP P182 w w' := by
  intro c
  induction c with
  | zero =>
    intro a f m w h ha hf hm
    obtain ⟨f, rfl⟩ : ∃ g, f = g + 1 := ⟨f - 1, by omega⟩
    have h60 := RN_60 h
    refine ⟨w, ?_, frP_refl _ _⟩
    show bX2_muddledAt_4 n i K _ (nI m) (nI a) w = _
    unfold bX2_muddledAt_4
    rw [(RN_an h).1, if_pos (nI_le (by omega) (by omega)), hK]
    rfl
  | succ c ih =>
    intro a f m w h ha hf hm
    obtain ⟨f, rfl⟩ : ∃ g, f = g + 1 := ⟨f - 1, by omega⟩
    have h60 := RN_60 h
    obtain ⟨w1, e1, f1⟩ := md_X hn h (show a < A 547 by omega)
    have h1 := RN_fr (frP_mono p182_s f1) h
    have step : lX2_muddledAt_4 n i K (f + 1) (nI m) (nI a) w = if mdS A L F a = true then (if nI m = i then some (nI a, w1) else lX2_muddledAt_4 n i K f (nI (m + 1)) (nI (a + 1)) w1) else lX2_muddledAt_4 n i K f (nI m) (nI (a + 1)) w1 := by
      show bX2_muddledAt_4 n i K (lX2_muddledAt_4 n i K f) (nI m) (nI a) w = _
      unfold bX2_muddledAt_4
      rw [(RN_an h).1, if_neg (nI_ge (by omega) (by omega)), e1]
      dsimp only [bO2, letV]
      rw [nI_1, nI_1]
      cases mdS A L F a
      · rw [if_pos (by decide), if_neg (by decide)]
      · rw [if_neg (by decide), if_pos rfl]
    rw [step]
    unfold adF
    by_cases q : mdS A L F a = true
    · rw [if_pos q, if_pos q]
      by_cases z : nI m = i
      · rw [if_pos z, if_pos z]
        exact ⟨w1, rfl, f1⟩
      · rw [if_neg z, if_neg z]
        obtain ⟨w2, i1, i2⟩ := ih (a + 1) f (m + 1) w1 h1 (by omega) (by omega) (by omega)
        exact ⟨w2, i1, frP_trans f1 i2⟩
    · rw [if_neg q, if_neg q]
      obtain ⟨w2, i1, i2⟩ := ih (a + 1) f m w1 h1 (by omega) (by omega) (by omega)
      exact ⟨w2, i1, frP_trans f1 i2⟩
theorem mu_M {n : Nat} (hn : 70 < n) (i : Int32) (K : Int32 → jWd → Option (Int32 × jWd)) (hK : ∀ m w, K (nI m) w = some (if i = -1 then nI m else -1, w)) : ∀ c a f m (w : jWd), RN A L F W w → a + c = A 547 → c < f → m ≤ a → ∃ w', lX12_muddled_9 n i K f (nI m) (nI a) w = some (adF (mdS A L F) i c a m, w') ∧ frP P210 w w' := by
  intro c
  induction c with
  | zero =>
    intro a f m w h ha hf hm
    obtain ⟨f, rfl⟩ : ∃ g, f = g + 1 := ⟨f - 1, by omega⟩
    have h60 := RN_60 h
    refine ⟨w, ?_, frP_refl _ _⟩
    show bX12_muddled_9 n i K _ (nI m) (nI a) w = _
    unfold bX12_muddled_9
    rw [RN_A h (show 547 < 1124 by decide), if_pos (nI_le (by omega) (by omega)), hK]
    rfl
  | succ c ih =>
    intro a f m w h ha hf hm
    obtain ⟨f, rfl⟩ : ∃ g, f = g + 1 := ⟨f - 1, by omega⟩
    have h60 := RN_60 h
    obtain ⟨w1, e1, f1⟩ := md_M hn h (show a < A 547 by omega)
    have h1 := RN_fr (frP_mono p210_s f1) h
    have step : lX12_muddled_9 n i K (f + 1) (nI m) (nI a) w = if mdS A L F a = true then (if nI m = i then some (nI a, w1) else lX12_muddled_9 n i K f (nI (m + 1)) (nI (a + 1)) w1) else lX12_muddled_9 n i K f (nI m) (nI (a + 1)) w1 := by
      show bX12_muddled_9 n i K (lX12_muddled_9 n i K f) (nI m) (nI a) w = _
      unfold bX12_muddled_9
      rw [RN_A h (show 547 < 1124 by decide), if_neg (nI_ge (by omega) (by omega)), e1]
      dsimp only [bO2, letV]
      rw [nI_1, nI_1]
      cases mdS A L F a
      · rw [if_pos (by decide), if_neg (by decide)]
      · rw [if_neg (by decide), if_pos rfl]
    rw [step]
    unfold adF
    by_cases q : mdS A L F a = true
    · rw [if_pos q, if_pos q]
      by_cases z : nI m = i
      · rw [if_pos z, if_pos z]
        exact ⟨w1, rfl, f1⟩
      · rw [if_neg z, if_neg z]
        obtain ⟨w2, i1, i2⟩ := ih (a + 1) f (m + 1) w1 h1 (by omega) (by omega) (by omega)
        exact ⟨w2, i1, frP_trans f1 i2⟩
    · rw [if_neg q, if_neg q]
      obtain ⟨w2, i1, i2⟩ := ih (a + 1) f m w1 h1 (by omega) (by omega) (by omega)
      exact ⟨w2, i1, frP_trans f1 i2⟩
end ANS
theorem s_muddled : fS_muddled RR := by
  intro w i hw
  obtain ⟨⟨A, L, F, W, h⟩, -⟩ := id hw
  have h60 := RN_60 h
  have hM := rd_M h
  refine ⟨20000, rr_call hw (.inl ⟨adF (mdS A L F) i (A 547) 0 0, ?_, fun w1 f1 => ?_⟩)⟩
  · obtain ⟨w', e1, e2⟩ := mu_X (n := 20000) (by decide) i (fun (z2_11 : Int32) (w_10 : jWd) => if i = (-1 : Int32) then some (z2_11, w_10) else some ((-1 : Int32), w_10)) (fun m w => by split <;> rfl) (A 547) 0 20000 0 w h (by omega) (by omega) (Nat.le_refl _)
    refine ⟨w', ?_, frP_mono p182_s e2⟩
    unfold fX11_muddled fX2_muddledAt
    rw [show (0 : Int32) = nI 0 from rfl, e1]
    rfl
  · obtain ⟨w', e1, e2⟩ := mu_M (n := 20000) (by decide) i (fun (z2_11 : Int32) (w_10 : jWd) => if i = (-1 : Int32) then some (z2_11, w_10) else some ((-1 : Int32), w_10)) (fun m w => by split <;> rfl) (A 547) 0 20000 0 _ (hM w1 f1) (by omega) (by omega) (Nat.le_refl _)
    exact ⟨w', e1, frP_trans (frS_0 w1) (frP_mono p210_s e2)⟩
theorem s_back : fS_back RR := by
  intro w a0 hw
  obtain ⟨⟨A, L, F, W, h⟩, -⟩ := id hw
  have h60 := RN_60 h
  have hM := rd_M h
  refine ⟨20000, rr_call hw ?_⟩
  rcases ix_cs a0 (A 547) with ⟨a, ha, rfl⟩ | hn
  · refine .inl ⟨bI (bkS A L F a), ?_, fun w1 f1 => ?_⟩
    · obtain ⟨w', e1, e2⟩ := bk_X (n := 20000) (by decide) h ha
      refine ⟨w', ?_, frP_mono p182_s e2⟩
      unfold fX11_back
      rw [ha_yes ha (by omega) (RN_an h).1, if_neg (by decide), e1]
      dsimp only [bO2]
      cases bkS A L F a <;> rfl
    · obtain ⟨w', e1, e2⟩ := bk_M (n := 20000) (by decide) (hM w1 f1) ha
      refine ⟨w', ?_, frP_trans (frS_0 w1) (frP_mono p210_s e2)⟩
      unfold fX12_back letV
      dsimp only
      rw [it_yes (hM w1 f1) ha]
      dsimp only [bO]
      rw [if_neg (by decide), e1]
      dsimp only [bO2]
      cases bkS A L F a <;> rfl
  · refine .inr ⟨-2, 2, by decide, by decide, ⟨w, ?_, frP_refl _ _⟩, fun w1 f1 => ⟨sI w1 205 0 (0 : Int32), ?_, frS_0 w1⟩⟩
    · unfold fX11_back
      rw [ha_no hn (by omega) (RN_an h).1, if_pos (by decide), rx_id2]
    · unfold fX12_back letV
      dsimp only
      rw [it_no (hM w1 f1) hn]
      dsimp only [bO]
      rw [if_pos (by decide), no_id2]
theorem s_backOdds : fS_backOdds RR := by
  intro w a0 a1 hw
  obtain ⟨⟨A, L, F, W, h⟩, -⟩ := id hw
  have h60 := RN_60 h
  have hM := rd_M h
  refine ⟨20000, rr_call hw ?_⟩
  rcases ix_cs a0 (A 547) with ⟨a, ha, rfl⟩ | hn
  · rcases hf_cs a1 with hh | ⟨k, hk, rfl, hk1, hk2⟩
    · refine .inr ⟨-2, 2, by decide, by decide, ⟨w, ?_, frP_refl _ _⟩, fun w1 f1 => ⟨sI w1 205 0 (0 : Int32), ?_, frS_0 w1⟩⟩
      · unfold fX11_backOdds letV
        dsimp only
        rw [ha_yes ha (by omega) (RN_an h).1, if_neg (by decide), if_pos hh.1, rx_id2]
      · unfold fX12_backOdds letV
        dsimp only
        rw [it_yes (hM w1 f1) ha]
        dsimp only [bO]
        rw [if_neg (by decide), if_pos hh.2, no_id2]
    · left
      obtain ⟨s0, s1⟩ := RN_an h
      obtain ⟨x1, x2, x3, x4, x5, x6⟩ := s1 a ha
      have hl := RN_al h ha
      have d1 := RN_9 h 161
      have d2 := RN_9 h (608 + a)
      have d3 := RN_9 h (668 + a)
      have l47 : ln 47 = 60 := rfl
      have l43 : ln 43 = 60 := rfl
      have l44 : ln 44 = 60 := rfl
      have l7 : ln 207 = 3372 := rfl
      have l8 : ln 208 = 2352 := rfl
      have n8 := nrS_le (L := L) (F := F) h.1.1 (k := 8) (t := 0) (l := L (724 + a))
      have n6 := nrS_le (L := L) (F := F) h.1.1 (k := 6) (t := 0) (l := L (724 + a))
      have m8 : (nrS A L F 8 0 (L (724 + a))).1 * (A (668 + a) + 1) ≤ 100 * 10000 := Nat.mul_le_mul n8.1 (by omega)
      by_cases q : L (724 + a) ≠ 0 ∧ A 161 < A (608 + a)
      · refine ⟨(lN (frN ((nrS A L F 8 0 (L (724 + a))).1 * (A (668 + a) + 1)) ((nrS A L F 6 0 (L (724 + a))).1 * 10) k)).toInt32, ?_, fun w1 f1 => ?_⟩
        · obtain ⟨w2, e1, g1⟩ := nr8_X (n := 20000) (by decide) h hl
          have h1 := RN_fr (frP_mono p182_s g1) h
          obtain ⟨w3, e2, g2⟩ := nr6_X (n := 20000) (by decide) h1 hl
          refine ⟨w3, ?_, frP_mono p182_s (frP_trans g1 g2)⟩
          unfold fX11_backOdds letV
          dsimp only
          rw [ha_yes ha (by omega) s0, if_neg (by decide), hk1, if_neg (by decide), l47, l43, l44, grd_N (by omega) (by decide), nI_clamp (by omega), x6, if_neg (fun z => q.1 ((l0_iff _).mp z)), grd_N (by omega) (by decide), RN_pd h, x2, if_pos (nI_lt q.2 (by omega)), e1]
          dsimp only [bO2]
          rw [grd_N (by omega) (by decide), ((RN_an h1).2 a ha).2.2.1, nI_1, ev_mul, e2]
          dsimp only [bO2]
          rw [show (10 : Int32) = nI 10 from rfl, ev_mul, nI_l (by omega), nI_l (by omega), fr_X (by decide) (by omega) (by omega) hk]
          rfl
        · have h1 := hM w1 f1
          obtain ⟨w2, v2, e1, m1, g1⟩ := mp_M (n := 20000) (by decide) h1 (L (724 + a)) 0
          have h2 := RN_fr (frP_mono p210_s g1) h1
          obtain ⟨w3, v3, e2, m2, g2⟩ := ms6_M (n := 20000) (by decide) h2 (L (724 + a))
          have h3 := RN_fr (frP_mono p210_s g2) h2
          refine ⟨w3, ?_, frP_trans (frS_0 w1) (frP_mono p210_s (frP_trans g1 g2))⟩
          unfold fX12_backOdds
          rw [ev_letV, it_yes h1 ha]
          dsimp only [bO]
          rw [ev_letV, if_neg (by decide), if_neg hk2, bh_M h1 ha]
          dsimp only
          rw [ev_bI, if_pos q, show (724 : Int32) + nI a = nI (724 + a) from nI_add 724 a, l8, grd_N (by omega) (by decide), nI_clamp (by omega), RN_L h1 (by omega), e1]
          dsimp only [bO2]
          rw [grd_N (by omega) (by decide), RN_L h2 (by omega), e2]
          dsimp only [bO2]
          have z1 : ∀ J : Int32 → Option (Int32 × jWd), (if 0 ≤ v2 then J v2 else J (0 : Int32)) = J (nI (nrS A L F 8 0 (L (724 + a))).1) := by
            intro J
            by_cases z : (nrS A L F 8 0 (L (724 + a))).1 = 0
            · rw [z]
              rcases m1.1 z with y | y <;> rw [y] <;> rfl
            · rw [m1.2 z, if_pos (nI_pos' (by omega))]
          have z2 : ∀ J : Int64 → Option (Int32 × jWd), (if 0 ≤ v3 then J ((10 : Int64) * (v3).toInt64) else J (0 : Int64)) = J (lN ((nrS A L F 6 0 (L (724 + a))).1 * 10)) := by
            intro J
            by_cases z : (nrS A L F 6 0 (L (724 + a))).1 = 0
            · rw [z]
              rcases m2.1 z with y | y <;> rw [y] <;> rfl
            · rw [m2.2 z, if_pos (nI_pos' (by omega)), nI_l (by omega), show (10 : Int64) = lN 10 from rfl, mul_N, Nat.mul_comm]
          refine letJ (x := nI (nrS A L F 8 0 (L (724 + a))).1) z1 ?_
          rw [show (668 : Int32) + nI a = nI (668 + a) from nI_add 668 a, l7, grd_N (by omega) (by decide), nI_clamp (by omega), RN_A h3 (show 668 + a < 1124 by omega)]
          refine letJ (x := lN ((nrS A L F 6 0 (L (724 + a))).1 * 10)) z2 ?_
          rw [nI_l (by omega), nI_l (by omega), show lN (A (668 + a)) + (1 : Int64) = lN (A (668 + a) + 1) from (Int64.ofNat_add _ 1).symm, mul_N, fr_M (by decide) (by omega) (by omega) hk]
      · refine ⟨nI k, ⟨w, ?_, frP_refl _ _⟩, fun w1 f1 => ⟨sI w1 205 0 (0 : Int32), ?_, frS_0 w1⟩⟩
        · have fin : bO (fX2_fraction 20000 (0 : Int64) (1 : Int64) (nI k)) (fun (r_10 : Int64) => some (((r_10).toInt32), w)) = some (nI k, w) := by
            rw [show (0 : Int64) = lN 0 from rfl, show (1 : Int64) = lN 1 from rfl, fr_X (by decide) (by decide) (by decide) hk]
            rcases (show k = 0 ∨ k = 1 by omega) with e | e <;> subst e <;> rfl
          unfold fX11_backOdds letV
          dsimp only
          rw [ha_yes ha (by omega) s0, if_neg (by decide), hk1, if_neg (by decide), l47, l43, grd_N (by omega) (by decide), nI_clamp (by omega), x6, fin, grd_N (by omega) (by decide), RN_pd h, x2]
          by_cases z : L (724 + a) = 0
          · rw [if_pos ((l0_iff _).mpr z)]
          · rw [if_neg (fun y => z ((l0_iff _).mp y)), if_neg (nI_nlt (by
              rcases Nat.lt_or_ge (A 161) (A (608 + a)) with y | y
              · exact absurd ⟨z, y⟩ q
              · exact y) (by omega))]
        · have h1 := hM w1 f1
          unfold fX12_backOdds letV
          dsimp only
          rw [it_yes h1 ha]
          dsimp only [bO]
          rw [if_neg (by decide), if_neg hk2, bh_M h1 ha]
          dsimp only
          rw [ev_bI, if_neg q]
  · refine .inr ⟨-2, 2, by decide, by decide, ⟨w, ?_, frP_refl _ _⟩, fun w1 f1 => ⟨sI w1 205 0 (0 : Int32), ?_, frS_0 w1⟩⟩
    · unfold fX11_backOdds letV
      dsimp only
      rw [ha_no hn (by omega) (RN_an h).1, if_pos (by decide), rx_id2]
    · unfold fX12_backOdds letV
      dsimp only
      rw [it_no (hM w1 f1) hn]
      dsimp only [bO]
      rw [if_pos (by decide), no_id2]
