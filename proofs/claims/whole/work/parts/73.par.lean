/-! parted, glen -/
def fo (g : Nat → Int32 → Int32) : Nat → Nat → Int32 → Int32
  | 0, _, x => x
  | c + 1, a, x => fo g c (a + 1) (g a x)
section PAR
variable {A : Nat → Nat} {L : Nat → Int64} {F W : Nat → Nat} {w : jWd}
def qB (q : Nat) : Nat := if q = 0 then 728 else 788
def paG (A : Nat → Nat) (L : Nat → Int64) (F : Nat → Nat) (q s a : Nat) (x : Int32) : Int32 := if A (qB q + a) = s ∧ bkS A L F a = false then x + ((10 : Int32) - nI (A (668 + a))) else x
theorem pa_X2 {n : Nat} (hn : 70 < n) {q s : Nat} (hq : q ≤ 1) (hs : s ≤ 1) : ∀ c a f x (w : jWd), RN A L F W w → a + c = A 547 → c < f → ∃ w', lX2_partedBy_5 n (nI q) (nI s) f x (nI a) w = some (fo (paG A L F q s) c a x, w') ∧ frP P182 w w' := by
  intro c
  induction c with
  | zero =>
    intro a f x w h ha hf
    obtain ⟨f, rfl⟩ : ∃ g, f = g + 1 := ⟨f - 1, by omega⟩
    have h60 := RN_60 h
    refine ⟨w, ?_, frP_refl _ _⟩
    show bX2_partedBy_5 n (nI q) (nI s) _ x (nI a) w = _
    unfold bX2_partedBy_5
    rw [(RN_an h).1, if_pos (nI_le (by omega) (by omega))]
    rfl
  | succ c ih =>
    intro a f x w h ha hf
    obtain ⟨f, rfl⟩ : ∃ g, f = g + 1 := ⟨f - 1, by omega⟩
    have h60 := RN_60 h
    obtain ⟨s0, s1⟩ := RN_an h
    obtain ⟨x1, x2, x3, x4, x5, x6⟩ := s1 a (by omega)
    have l44 : ln 44 = 60 := rfl
    have hh : fX0_heard 41 (nI a) (nI q) w = some (nI (A (qB q + a))) := by
      have l4 : ln (41 + 4) = 60 := rfl
      have l5 : ln (41 + 5) = 60 := rfl
      unfold fX0_heard
      rw [ha_yes (show a < A 547 by omega) (by omega) s0, if_neg (by decide), l4, l5, grd_N (by omega) (by decide), nI_clamp (by omega)]
      rcases (show q = 0 ∨ q = 1 by omega) with e | e <;> subst e
      · rw [if_pos (by decide)]
        exact congrArg some x4
      · rw [if_neg (by decide), grd_N (by omega) (by decide)]
        exact congrArg some x5
    have hv := RN_9 h (qB q + a)
    by_cases e : A (qB q + a) = s
    · obtain ⟨w1, e1, f1⟩ := bk_X hn h (show a < A 547 by omega)
      have h1 := RN_fr (frP_mono p182_s f1) h
      obtain ⟨w2, i1, i2⟩ := ih (a + 1) f (paG A L F q s a x) w1 h1 (by omega) (by omega)
      refine ⟨w2, Eq.trans ?_ i1, frP_trans f1 i2⟩
      show bX2_partedBy_5 n (nI q) (nI s) (lX2_partedBy_5 n (nI q) (nI s) f) x (nI a) w = _
      unfold bX2_partedBy_5
      rw [s0, if_neg (nI_ge (by omega) (by omega)), hh]
      dsimp only [bO]
      rw [if_pos (by rw [e]), e1]
      dsimp only [bO2, letV]
      rw [l44, grd_N (by omega) (by decide), nI_clamp (by omega), ((RN_an h1).2 a (by omega)).2.2.1, nI_1]
      unfold paG
      cases bkS A L F a
      · rw [if_pos (by decide), if_pos ⟨e, rfl⟩]
      · rw [if_neg (by decide), if_neg (fun z => by cases z.2)]
    · obtain ⟨w2, i1, i2⟩ := ih (a + 1) f (paG A L F q s a x) w h (by omega) (by omega)
      refine ⟨w2, Eq.trans ?_ i1, i2⟩
      show bX2_partedBy_5 n (nI q) (nI s) (lX2_partedBy_5 n (nI q) (nI s) f) x (nI a) w = _
      unfold bX2_partedBy_5
      rw [s0, if_neg (nI_ge (by omega) (by omega)), hh]
      dsimp only [bO, letV]
      rw [if_neg (fun z => e ((nI_eq (by omega) (by omega)).mp z)), nI_1]
      unfold paG
      rw [if_neg (fun z => e z.1)]
theorem pa_M2 {n : Nat} (hn : 70 < n) {q : Nat} (hq : q ≤ 1) (y : Int32) {s : Nat} (hs : s = if y = 0 then 0 else 1) : ∀ c a f x (w : jWd), RN A L F W w → a + c = A 547 → c < f → ∃ w', lX12_parted_27 n (nI q) y f x (nI a) w = some (fo (paG A L F q s) c a x, w') ∧ frP P210 w w' := by
  have l7 : ln 207 = 3372 := rfl
  intro c
  induction c with
  | zero =>
    intro a f x w h ha hf
    obtain ⟨f, rfl⟩ : ∃ g, f = g + 1 := ⟨f - 1, by omega⟩
    have h60 := RN_60 h
    refine ⟨w, ?_, frP_refl _ _⟩
    show bX12_parted_27 n (nI q) y _ x (nI a) w = _
    unfold bX12_parted_27
    rw [RN_A h (show 547 < 1124 by decide), if_pos (nI_le (by omega) (by omega))]
    rfl
  | succ c ih =>
    intro a f x w h ha hf
    obtain ⟨f, rfl⟩ : ∃ g, f = g + 1 := ⟨f - 1, by omega⟩
    have h60 := RN_60 h
    have hqb : qB q ≤ 788 := by unfold qB; split <;> omega
    have hv := RN_9 h (qB q + a)
    have hs1 : s ≤ 1 := by rw [hs]; split <;> omega
    obtain ⟨w1, e1, f1⟩ := bk_M hn h (show a < A 547 by omega)
    have h1 := RN_fr (frP_mono p210_s f1) h
    have step : lX12_parted_27 n (nI q) y (f + 1) x (nI a) w = if A (qB q + a) = s then lX12_parted_27 n (nI q) y f (paG A L F q s a x) (nI (a + 1)) w1 else lX12_parted_27 n (nI q) y f x (nI (a + 1)) w := by
      show bX12_parted_27 n (nI q) y (lX12_parted_27 n (nI q) y f) x (nI a) w = _
      unfold bX12_parted_27
      rw [RN_A h (show 547 < 1124 by decide), if_neg (nI_ge (by omega) (by omega))]
      refine letJ (x := nI (qB q)) (fun J => ?_) ?_
      · rcases (show q = 0 ∨ q = 1 by omega) with e | e <;> subst e <;> rfl
      · rw [nI_add, l7, grd_N (by omega) (by decide), nI_clamp (by omega), RN_A h (show qB q + a < 1124 by omega), ev_letV]
        refine letJ (x := nI s) (fun J => ?_) ?_
        · rw [hs]
          by_cases z : y = 0
          · rw [if_pos z, if_pos z]; rfl
          · rw [if_neg z, if_neg z]; rfl
        · by_cases e : A (qB q + a) = s
          · rw [if_pos (by rw [e]), if_pos e, e1]
            dsimp only [bO2, letV]
            rw [show (668 : Int32) + nI a = nI (668 + a) from nI_add 668 a, grd_N (by omega) (by decide), nI_clamp (by omega), RN_A h1 (show 668 + a < 1124 by omega), nI_1]
            unfold paG
            cases bkS A L F a
            · rw [if_pos (by decide), if_pos ⟨e, rfl⟩]
            · rw [if_neg (by decide), if_neg (fun z => by cases z.2)]
          · rw [if_neg (fun z => e ((nI_eq (by omega) (by omega)).mp z)), if_neg e]
            dsimp only [letV]
            rw [nI_1]
    rw [step]
    by_cases e : A (qB q + a) = s
    · rw [if_pos e]
      obtain ⟨w2, i1, i2⟩ := ih (a + 1) f (paG A L F q s a x) w1 h1 (by omega) (by omega)
      exact ⟨w2, i1, frP_trans f1 i2⟩
    · rw [if_neg e]
      obtain ⟨w2, i1, i2⟩ := ih (a + 1) f (paG A L F q s a x) w h (by omega) (by omega)
      have ex : paG A L F q s a x = x := if_neg (fun z => e z.1)
      refine ⟨w2, Eq.trans ?_ i1, i2⟩
      rw [ex]
def ctS (A : Nat → Nat) (L : Nat → Int64) (F : Nat → Nat) (k a : Nat) : Bool := if k = 0 then true else if k = 1 then decide (A (728 + a) = 1) else if k = 2 then decide (A (788 + a) = 1) else bkS A L F a
def glG (A : Nat → Nat) (L : Nat → Int64) (F : Nat → Nat) (g k a : Nat) (x : Int32) : Int32 := if A (548 + a) = g ∧ ctS A L F k a = true then x + 1 else x
theorem ct_X {n : Nat} (hn : 70 < n) {k : Nat} (hk : k ≤ 3) (h : RN A L F W w) {a : Nat} (ha : a < A 547) : ∃ w', fX2_isCounted n (nI a) (nI k) w = some (bI (ctS A L F k a), w') ∧ frP P182 w w' := by
  have h60 := RN_60 h
  obtain ⟨s0, s1⟩ := RN_an h
  obtain ⟨x1, x2, x3, x4, x5, x6⟩ := s1 a ha
  have v1 := RN_9 h (728 + a)
  have v2 := RN_9 h (788 + a)
  have l4 : ln (41 + 4) = 60 := rfl
  have l5 : ln (41 + 5) = 60 := rfl
  have h0 : fX0_heard 41 (nI a) (0 : Int32) w = some (nI (A (728 + a))) := by
    unfold fX0_heard
    rw [ha_yes ha (by omega) s0, if_neg (by decide), if_pos rfl, l4, grd_N (by omega) (by decide), nI_clamp (by omega)]
    exact congrArg some x4
  have h1 : fX0_heard 41 (nI a) (1 : Int32) w = some (nI (A (788 + a))) := by
    unfold fX0_heard
    rw [ha_yes ha (by omega) s0, if_neg (by decide), if_neg (by decide), l5, grd_N (by omega) (by decide), nI_clamp (by omega)]
    exact congrArg some x5
  rcases (show k = 0 ∨ k = 1 ∨ k = 2 ∨ k = 3 by omega) with e | e | e | e <;> subst e
  · exact ⟨w, rfl, frP_refl _ _⟩
  · refine ⟨w, ?_, frP_refl _ _⟩
    refine Eq.trans (show _ = bO (fX0_heard 41 (nI a) (0 : Int32) w) (fun (r_4 : Int32) => if r_4 = (1 : Int32) then some ((1 : Int32), w) else some ((0 : Int32), w)) from rfl) ?_
    rw [h0]
    dsimp only [bO]
    show _ = some (bI (decide (A (728 + a) = 1)), w)
    by_cases e : A (728 + a) = 1
    · rw [if_pos (show nI (A (728 + a)) = (1 : Int32) by rw [e]; rfl), decide_eq_true e]; rfl
    · rw [if_neg (show ¬ nI (A (728 + a)) = (1 : Int32) from fun z => e ((nI_eq (b := 1) (by omega) (by decide)).mp z)), decide_eq_false e]; rfl
  · refine ⟨w, ?_, frP_refl _ _⟩
    refine Eq.trans (show _ = bO (fX0_heard 41 (nI a) (1 : Int32) w) (fun (r_4 : Int32) => if r_4 = (1 : Int32) then some ((1 : Int32), w) else some ((0 : Int32), w)) from rfl) ?_
    rw [h1]
    dsimp only [bO]
    show _ = some (bI (decide (A (788 + a) = 1)), w)
    by_cases e : A (788 + a) = 1
    · rw [if_pos (show nI (A (788 + a)) = (1 : Int32) by rw [e]; rfl), decide_eq_true e]; rfl
    · rw [if_neg (show ¬ nI (A (788 + a)) = (1 : Int32) from fun z => e ((nI_eq (b := 1) (by omega) (by decide)).mp z)), decide_eq_false e]; rfl
  · obtain ⟨w1, e1, f1⟩ := bk_X hn h ha
    refine ⟨w1, ?_, f1⟩
    refine Eq.trans (show _ = bO2 (fX2_isBack n (nI a) w) (fun (r_10 : Int32) (w_9 : jWd) => some ((r_10 &&& 1), w_9)) from rfl) ?_
    rw [e1]
    dsimp only [bO2]
    rw [bI_and]
    rfl
theorem gl_X {n : Nat} (hn : 70 < n) {g k : Nat} (hg : g ≤ 15) (hk : k ≤ 3) : ∀ c a f x (w : jWd), RN A L F W w → a + c = A 547 → c < f → ∃ w', lX11_glen_36 n (nI g) (nI k) f x (nI a) w = some (fo (glG A L F g k) c a x, w') ∧ frP P182 w w' := by
  have l42 : ln 42 = 60 := rfl
  intro c
  induction c with
  | zero =>
    intro a f x w h ha hf
    obtain ⟨f, rfl⟩ : ∃ g, f = g + 1 := ⟨f - 1, by omega⟩
    have h60 := RN_60 h
    refine ⟨w, ?_, frP_refl _ _⟩
    show bX11_glen_36 n (nI g) (nI k) _ x (nI a) w = _
    unfold bX11_glen_36
    rw [(RN_an h).1, if_pos (nI_le (by omega) (by omega))]
    rfl
  | succ c ih =>
    intro a f x w h ha hf
    obtain ⟨f, rfl⟩ : ∃ g, f = g + 1 := ⟨f - 1, by omega⟩
    have h60 := RN_60 h
    obtain ⟨s0, s1⟩ := RN_an h
    obtain ⟨x1, -⟩ := s1 a (by omega)
    have hv := RN_9 h (548 + a)
    obtain ⟨w1, e1, f1⟩ := ct_X hn hk h (show a < A 547 by omega)
    have h1 := RN_fr (frP_mono p182_s f1) h
    have step : lX11_glen_36 n (nI g) (nI k) (f + 1) x (nI a) w = if A (548 + a) = g then lX11_glen_36 n (nI g) (nI k) f (glG A L F g k a x) (nI (a + 1)) w1 else lX11_glen_36 n (nI g) (nI k) f x (nI (a + 1)) w := by
      show bX11_glen_36 n (nI g) (nI k) (lX11_glen_36 n (nI g) (nI k) f) x (nI a) w = _
      unfold bX11_glen_36 letV
      rw [s0, if_neg (nI_ge (by omega) (by omega)), l42, grd_N (by omega) (by decide), nI_clamp (by omega), x1, nI_1]
      by_cases e : A (548 + a) = g
      · rw [if_pos (by rw [e]), if_pos e, e1]
        dsimp only [bO2]
        unfold glG
        cases ctS A L F k a
        · rw [if_pos (by decide), if_neg (fun z => by cases z.2)]
        · rw [if_neg (by decide), if_pos ⟨e, rfl⟩]
      · rw [if_neg (fun z => e ((nI_eq (by omega) (by omega)).mp z)), if_neg e]
    rw [step]
    by_cases e : A (548 + a) = g
    · rw [if_pos e]
      obtain ⟨w2, i1, i2⟩ := ih (a + 1) f (glG A L F g k a x) w1 h1 (by omega) (by omega)
      exact ⟨w2, i1, frP_trans f1 i2⟩
    · rw [if_neg e]
      obtain ⟨w2, i1, i2⟩ := ih (a + 1) f (glG A L F g k a x) w h (by omega) (by omega)
      have ex : glG A L F g k a x = x := if_neg (fun z => e z.1)
      refine ⟨w2, Eq.trans ?_ i1, i2⟩
      rw [ex]
theorem gl_M {n : Nat} (hn : 70 < n) {g k : Nat} (hg : g ≤ 15) (hk : k ≤ 3) : ∀ c a f x (w : jWd), RN A L F W w → a + c = A 547 → c < f → ∃ w', lX12_glen_41 n (nI g) (nI k) f x (nI a) w = some (fo (glG A L F g k) c a x, w') ∧ frP P210 w w' := by
  have l7 : ln 207 = 3372 := rfl
  intro c
  induction c with
  | zero =>
    intro a f x w h ha hf
    obtain ⟨f, rfl⟩ : ∃ g, f = g + 1 := ⟨f - 1, by omega⟩
    have h60 := RN_60 h
    refine ⟨w, ?_, frP_refl _ _⟩
    show bX12_glen_41 n (nI g) (nI k) _ x (nI a) w = _
    unfold bX12_glen_41
    rw [RN_A h (show 547 < 1124 by decide), if_pos (nI_le (by omega) (by omega))]
    rfl
  | succ c ih =>
    intro a f x w h ha hf
    obtain ⟨f, rfl⟩ : ∃ g, f = g + 1 := ⟨f - 1, by omega⟩
    have h60 := RN_60 h
    have hv := RN_9 h (548 + a)
    have v1 := RN_9 h (728 + a)
    have v2 := RN_9 h (788 + a)
    obtain ⟨w1, e1, f1⟩ := bk_M hn h (show a < A 547 by omega)
    have h1 := RN_fr (frP_mono p210_s f1) h
    have step : ∃ w2, lX12_glen_41 n (nI g) (nI k) (f + 1) x (nI a) w = lX12_glen_41 n (nI g) (nI k) f (glG A L F g k a x) (nI (a + 1)) w2 ∧ frP P210 w w2 := by
      have fin : ∀ b w3, RN A L F W w3 → b = ctS A L F k a → (grd ((548 : Int32) + nI a) (ln 207) (if (wI w3 207 (((548 : Int32) + nI a)).toNatClampNeg) = nI g then if bI b = 0 then letV ((x + (0 : Int32))) (fun (x3_15 : Int32) => letV (nI a + (1 : Int32)) (fun (x4_17 : Int32) => lX12_glen_41 n (nI g) (nI k) f x3_15 x4_17 w3)) else letV ((x + (1 : Int32))) (fun (x3_19 : Int32) => letV (nI a + (1 : Int32)) (fun (x4_21 : Int32) => lX12_glen_41 n (nI g) (nI k) f x3_19 x4_21 w3)) else letV ((x + (0 : Int32))) (fun (x3_11 : Int32) => letV (nI a + (1 : Int32)) (fun (x4_13 : Int32) => lX12_glen_41 n (nI g) (nI k) f x3_11 x4_13 w3)))) = lX12_glen_41 n (nI g) (nI k) f (glG A L F g k a x) (nI (a + 1)) w3 := by
        intro b w3 h3 hb
        subst hb
        rw [show (548 : Int32) + nI a = nI (548 + a) from nI_add 548 a, l7, grd_N (by omega) (by decide), nI_clamp (by omega), RN_A h3 (show 548 + a < 1124 by omega)]
        dsimp only [letV]
        rw [nI_1, Int32.add_zero]
        unfold glG
        by_cases e : A (548 + a) = g
        · rw [if_pos (by rw [e])]
          cases ctS A L F k a
          · rw [if_pos (by decide), if_neg (fun z => by cases z.2)]
          · rw [if_neg (by decide), if_pos ⟨e, rfl⟩]
        · rw [if_neg (fun z => e ((nI_eq (by omega) (by omega)).mp z)), if_neg (fun z => e z.1)]
      have hu : lX12_glen_41 n (nI g) (nI k) (f + 1) x (nI a) w = bX12_glen_41 n (nI g) (nI k) (lX12_glen_41 n (nI g) (nI k) f) x (nI a) w := rfl
      rw [hu]
      unfold bX12_glen_41
      rw [RN_A h (show 547 < 1124 by decide), if_neg (nI_ge (by omega) (by omega))]
      rcases (show k = 0 ∨ k = 1 ∨ k = 2 ∨ k = 3 by omega) with e | e | e | e <;> subst e
      · exact ⟨w, fin true w h rfl, frP_refl _ _⟩
      · refine ⟨w, ?_, frP_refl _ _⟩
        rw [ev_letV, ev_letV, if_neg (by decide), ev_letV, if_pos (by decide), show (728 : Int32) + nI a = nI (728 + a) from nI_add 728 a, l7, grd_N (by omega) (by decide), nI_clamp (by omega), RN_A h (show 728 + a < 1124 by omega)]
        by_cases e : A (728 + a) = 1
        · rw [if_pos (show nI (A (728 + a)) = (1 : Int32) by rw [e]; rfl)]
          exact fin true w h (decide_eq_true e).symm
        · rw [if_neg (show ¬ nI (A (728 + a)) = (1 : Int32) from fun z => e ((nI_eq (b := 1) (by omega) (by decide)).mp z))]
          exact fin false w h (decide_eq_false e).symm
      · refine ⟨w, ?_, frP_refl _ _⟩
        rw [ev_letV, ev_letV, if_neg (by decide), ev_letV, if_neg (by decide), ev_letV, if_pos (by decide), show (788 : Int32) + nI a = nI (788 + a) from nI_add 788 a, l7, grd_N (by omega) (by decide), nI_clamp (by omega), RN_A h (show 788 + a < 1124 by omega)]
        by_cases e : A (788 + a) = 1
        · rw [if_pos (show nI (A (788 + a)) = (1 : Int32) by rw [e]; rfl)]
          exact fin true w h (decide_eq_true e).symm
        · rw [if_neg (show ¬ nI (A (788 + a)) = (1 : Int32) from fun z => e ((nI_eq (b := 1) (by omega) (by decide)).mp z))]
          exact fin false w h (decide_eq_false e).symm
      · refine ⟨w1, ?_, f1⟩
        rw [ev_letV, ev_letV, if_neg (by decide), ev_letV, if_neg (by decide), ev_letV, if_neg (by decide), ev_letV, if_pos (by decide), e1]
        dsimp only [bO2]
        cases hb : bkS A L F a
        · rw [if_pos (show bI false = 0 by decide)]
          exact fin false w1 h1 hb.symm
        · rw [if_neg (show ¬ bI true = 0 by decide)]
          exact fin true w1 h1 hb.symm
    obtain ⟨w2, s1, s2⟩ := step
    obtain ⟨w3, i1, i2⟩ := ih (a + 1) f (glG A L F g k a x) w2 (RN_fr (frP_mono p210_s s2) h) (by omega) (by omega)
    exact ⟨w3, s1.trans i1, frP_trans s2 i2⟩
end PAR
theorem s_parted : fS_parted RR := by
  intro w a0 a1 hw
  obtain ⟨⟨A, L, F, W, h⟩, -⟩ := id hw
  have h60 := RN_60 h
  have hM := rd_M h
  refine ⟨20000, rr_call hw ?_⟩
  rcases hf_cs a0 with hh | ⟨q, hq, rfl, hq1, hq2⟩
  · refine .inr ⟨-2, 2, by decide, by decide, ⟨w, ?_, frP_refl _ _⟩, fun w1 f1 => ⟨sI w1 205 0 (0 : Int32), ?_, frS_0 w1⟩⟩
    · unfold fX11_parted
      rw [if_pos hh.1, rx_id2]
    · unfold fX12_parted letV
      dsimp only
      rw [if_pos hh.2, no_id2]
  · refine .inl ⟨fo (paG A L F q (if a1 = 0 then 0 else 1)) (A 547) 0 0, ?_, fun w1 f1 => ?_⟩
    · obtain ⟨w', e1, e2⟩ := pa_X2 (n := 20000) (by decide) hq (s := if a1 = 0 then 0 else 1) (by split <;> decide) (A 547) 0 20000 0 w h (by omega) (by omega)
      refine ⟨w', ?_, frP_mono p182_s e2⟩
      unfold fX11_parted
      rw [hq1, if_neg (by decide)]
      refine letJ (x := nI (if a1 = 0 then 0 else 1)) (fun J => by split <;> rfl) ?_
      unfold fX2_partedBy
      rw [show (0 : Int32) = nI 0 from rfl] at e1 ⊢
      rw [e1]
      rfl
    · obtain ⟨w', e1, e2⟩ := pa_M2 (n := 20000) (by decide) hq a1 rfl (A 547) 0 20000 0 _ (hM w1 f1) (by omega) (by omega)
      refine ⟨w', ?_, frP_trans (frS_0 w1) (frP_mono p210_s e2)⟩
      unfold fX12_parted letV
      dsimp only
      rw [if_neg hq2]
      exact e1
theorem s_glen : fS_glen RR := by
  intro w a0 a1 hw
  obtain ⟨⟨A, L, F, W, h⟩, -⟩ := id hw
  have h60 := RN_60 h
  have hM := rd_M h
  refine ⟨20000, rr_call hw ?_⟩
  rcases wi_cs a0 0 15 (a := 0) (b := 15) rfl rfl (by decide) (by decide) with ⟨h1, h2⟩ | ⟨g, _, hg, rfl, h1, h2⟩
  · refine .inr ⟨-2, 2, by decide, by decide, ⟨w, ?_, frP_refl _ _⟩, fun w1 f1 => ⟨sI w1 205 0 (0 : Int32), ?_, frS_0 w1⟩⟩
    · unfold fX11_glen letV
      dsimp only
      rw [rx_id2, if_pos h1]
    · unfold fX12_glen letV
      dsimp only
      rw [no_id2, if_pos h2]
  rcases wi_cs a1 0 3 (a := 0) (b := 3) rfl rfl (by decide) (by decide) with ⟨h3, h4⟩ | ⟨k, _, hk, rfl, h3, h4⟩
  · refine .inr ⟨-2, 2, by decide, by decide, ⟨w, ?_, frP_refl _ _⟩, fun w1 f1 => ⟨sI w1 205 0 (0 : Int32), ?_, frS_0 w1⟩⟩
    · unfold fX11_glen letV
      dsimp only
      rw [rx_id2, if_neg h1, if_pos h3]
    · unfold fX12_glen letV
      dsimp only
      rw [no_id2, if_neg h2, if_pos h4]
  · refine .inl ⟨fo (glG A L F g k) (A 547) 0 0, ?_, fun w1 f1 => ?_⟩
    · obtain ⟨w', e1, e2⟩ := gl_X (n := 20000) (by decide) hg hk (A 547) 0 20000 0 w h (by omega) (by omega)
      refine ⟨w', ?_, frP_mono p182_s e2⟩
      unfold fX11_glen letV
      dsimp only
      rw [if_neg h1, if_neg h3]
      exact e1
    · obtain ⟨w', e1, e2⟩ := gl_M (n := 20000) (by decide) hg hk (A 547) 0 20000 0 _ (hM w1 f1) (by omega) (by omega)
      refine ⟨w', ?_, frP_trans (frS_0 w1) (frP_mono p210_s e2)⟩
      unfold fX12_glen letV
      dsimp only
      rw [if_neg h2, if_neg h4]
      exact e1
