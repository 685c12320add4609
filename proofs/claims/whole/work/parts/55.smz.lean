/-! SMOOTHING in the reference: tests, places, a rule done, again and again -/
/-- a join point that comes to a value -/
theorem letJ {α β : Type} {J : α → β} {f : (α → β) → β} {x : α} {r : β} (h : ∀ J : α → β, f J = J x) (h2 : J x = r) : letV J f = r := (h J).trans h2
theorem hm_loop {n : Nat} (hn : 8 < n) {F : Nat → Nat} {t r g : Nat} {x : Int64} (hx : isC x) (ht : t < 2147483648) (hr : r < 12) (h200 : F (133 + r) ≤ 200) (k : Int32 → jWd → Option (Int32 × jWd)) : ∀ c i f (w : jWd) st, i + c = F (133 + r) → F (121 + r) ≤ i → c < f → FM F w → WD x w → plM w st → st.length ≤ 60 → htF F c i st.length = some g → ∃ w', lX12_holds_13 n (nI r) (nI t) k f (nI st.length) (nI i) w = k (nI (evF F t x c i st).length) w' ∧ plM w' (evF F t x c i st) ∧ frP P216 w w' := by
  intro c
  induction c with
  | zero =>
    intro i f w st hi h1 hf hM hW hp hs _
    obtain ⟨f, rfl⟩ : ∃ g, f = g + 1 := ⟨f - 1, by omega⟩
    refine ⟨w, ?_, hp, frP_refl _ _⟩
    show bX12_holds_13 n (nI r) (nI t) k _ (nI st.length) (nI i) w = _
    have l1 : ln 211 = 2580 := rfl
    have e133 : (133 : Int32) + nI r = nI (133 + r) := nI_add 133 r
    unfold bX12_holds_13
    rw [e133, l1, grd_N (by omega) (by decide), nI_clamp (by omega), hM _ (by omega), if_pos (nI_le (by omega) (by omega))]
    rfl
  | succ c ih =>
    intro i f w st hi h1 hf hM hW hp hs hh
    obtain ⟨f, rfl⟩ : ∃ g, f = g + 1 := ⟨f - 1, by omega⟩
    obtain ⟨q1, q2⟩ := ht_step t x hh
    obtain ⟨w1, e1, p1, f1⟩ := hm_step hn hx (t := t) ht hr (by omega) (show i < F (133 + r) by omega) h200 hM hW hp q1 k (lX12_holds_13 n (nI r) (nI t) k f) hs
    have hs1 : (tkF F t x i st).length ≤ 60 := by
      unfold tkF
      rcases q1 with ⟨h2, b, s, rfl⟩ | ⟨h3, b, c, s, rfl⟩ | ⟨h5, h7, hv1, hv0, hl⟩
      · rw [if_pos h2]; exact hs
      · simp only [List.length_cons] at hs
        rcases h3 with h3 | h3
        · rw [if_neg (by omega), if_pos h3]; simp only [anL, List.length_cons]; omega
        · rw [if_neg (by omega), if_neg (by omega), if_pos h3]; simp only [orL, List.length_cons]; omega
      · rw [if_neg (by omega), if_neg (by omega), if_neg (by omega), List.length_cons]; omega
    obtain ⟨w2, e2, p2, f2⟩ := ih (i + 1) f w1 _ (by omega) (by omega) (by omega) (FM_fr hM (frP_mono p216_sm f1)) (WD_fr hW f1) p1 hs1 q2
    exact ⟨w2, e1.trans e2, p2, frP_trans f1 f2⟩
theorem hd_M {n : Nat} (hn : 201 < n) {F : Nat → Nat} (hF : InF F) {t r : Nat} {x : Int64} (hx : isC x) (ht : t < 2147483648) (hr : r < F 0) {w : jWd} (hM : FM F w) (hW : WD x w) : ∃ w', fX12_holds n (nI r) (nI t) w = some (bI (hdF F r t x), w') ∧ frP P216 w w' := by
  obtain ⟨-, -, -, -, h5, h6, h7⟩ := hF.2 r hr
  have h12 := hF.1
  have l1 : ln 211 = 2580 := rfl
  have e121 : (121 : Int32) + nI r = nI (121 + r) := nI_add 121 r
  unfold fX12_holds hdF
  rw [e121, l1, grd_N (by omega) (by decide), nI_clamp (by omega), hM _ (by omega)]
  dsimp only [letV]
  by_cases h : F (133 + r) ≤ F (121 + r)
  · rw [if_pos h]
    refine ⟨w, ?_, frP_refl _ _⟩
    have hst : ∀ (K : Int32 → jWd → Option (Int32 × jWd)) m, lX12_holds_13 n (nI r) (nI t) K (m + 1) (0 : Int32) (nI (F (121 + r))) w = bX12_holds_13 n (nI r) (nI t) K (lX12_holds_13 n (nI r) (nI t) K m) (0 : Int32) (nI (F (121 + r))) w := fun _ _ => rfl
    obtain ⟨m, hm⟩ : ∃ g, n = g + 1 := ⟨n - 1, by omega⟩
    refine (congrArg (fun z => lX12_holds_13 n (nI r) (nI t) _ z (0 : Int32) (nI (F (121 + r))) w) hm).trans ((hst _ m).trans ?_)
    have e133 : (133 : Int32) + nI r = nI (133 + r) := nI_add 133 r
    unfold bX12_holds_13
    rw [e133, l1, grd_N (by omega) (by decide), nI_clamp (by omega), hM _ (by omega), if_pos (nI_le h (by omega))]
    rfl
  · rw [if_neg h]
    have hh := h7 (by omega)
    obtain ⟨w', e, hp, hf⟩ := hm_loop (n := n) (by omega) hx ht (by omega) h6 (fun z3_47 w_46 => if z3_47 = 0 then some ((1 : Int32), w_46) else if (wI w_46 216 0) = 0 then some ((0 : Int32), w_46) else some ((1 : Int32), w_46)) (F (133 + r) - F (121 + r)) (F (121 + r)) n w [] (by omega) (by omega) (by omega) hM hW (fun k hk => absurd hk (Nat.not_lt_zero k)) (by decide) hh
    refine ⟨w', e.trans ?_, hf⟩
    have hlen := ev_len t x _ _ ([] : List Bool) _ hh
    match hE : evF F t x (F (133 + r) - F (121 + r)) (F (121 + r)) [], hlen, hp with
    | [v], _, hp =>
      have h0 : wI w' 216 0 = bI v := hp 0 (by show 0 < 1; decide)
      rw [if_neg (show ¬ nI ([v] : List Bool).length = 0 by show ¬ nI 1 = 0; decide), h0]
      cases v
      · rw [if_pos (by decide)]; rfl
      · rw [if_neg (by decide)]; rfl
theorem st_Mi {n : Nat} {F : Nat → Nat} {r p : Nat} {x : Int64} {w : jWd} (hM : FM F w) (hW : WD x w) (hr : r < 12) (h4 : F (97 + r) ≤ 4) (hb : ∀ k, k < F (97 + r) → F (1 + 4 * r + k) ≤ 255) (hp : p + F (97 + r) ≤ lnB x) (k : Int32 → Option Int32) : ∀ c i f, i + c = F (97 + r) → c < f → lX12_stands_25 n (nI r) (nI p) k w f (bI false) (nI i) = k (bI false) ∧ ∃ b : Bool, lX12_stands_25 n (nI r) (nI p) k w f (bI true) (nI i) = k (bI b) ∧ (b = true ↔ ∀ j, i ≤ j → j < F (97 + r) → bt x (p + j) = F (1 + 4 * r + j)) := by
  have hL := lnB_le x
  have l1 : ln 211 = 2580 := rfl
  have l4 : ln 214 = 8 := rfl
  have e97 : (97 : Int32) + nI r = nI (97 + r) := nI_add 97 r
  intro c
  induction c with
  | zero =>
    intro i f hi hf
    obtain ⟨f, rfl⟩ : ∃ g, f = g + 1 := ⟨f - 1, by omega⟩
    have e : ∀ b : Bool, bX12_stands_25 n (nI r) (nI p) k w (lX12_stands_25 n (nI r) (nI p) k w f) (bI b) (nI i) = k (bI b) := by
      intro b
      unfold bX12_stands_25
      rw [e97, l1, grd_N (by omega) (by decide), nI_clamp (by omega), hM _ (by omega), if_pos (nI_le (by omega) (by omega))]
    refine ⟨e false, true, e true, ?_⟩
    constructor
    · intro _ j h1 h2
      omega
    · intro _
      rfl
  | succ c ih =>
    intro i f hi hf
    obtain ⟨f, rfl⟩ : ∃ g, f = g + 1 := ⟨f - 1, by omega⟩
    obtain ⟨i1, b, i2, i3⟩ := ih (i + 1) f (by omega) (by omega)
    refine ⟨?_, ?_⟩
    · show bX12_stands_25 n (nI r) (nI p) k w (lX12_stands_25 n (nI r) (nI p) k w f) (bI false) (nI i) = _
      unfold bX12_stands_25 letV
      rw [e97, l1, grd_N (by omega) (by decide), nI_clamp (by omega), hM _ (by omega), if_neg (nI_ge (by omega) (by omega)), if_pos (by decide), nI_1]
      exact i1
    · have e1 : (1 : Int32) + (4 : Int32) * nI r + nI i = nI (1 + 4 * r + i) := by
        rw [show (4 : Int32) = nI 4 from rfl, ev_mul, show (1 : Int32) = nI 1 from rfl, nI_add, nI_add]
      have hbi := hb i (by omega)
      have hbt := bt_lt x (p + i)
      by_cases e : bt x (p + i) = F (1 + 4 * r + i)
      · refine ⟨b, ?_, ?_⟩
        · show bX12_stands_25 n (nI r) (nI p) k w (lX12_stands_25 n (nI r) (nI p) k w f) (bI true) (nI i) = _
          unfold bX12_stands_25 letV
          rw [e97, l1, grd_N (by omega) (by decide), nI_clamp (by omega), hM _ (by omega), if_neg (nI_ge (by omega) (by omega)), if_neg (by decide), nI_add, l4, grd_N (by omega) (by decide), e1, grd_N (by omega) (by decide), nI_clamp (by omega), nI_clamp (by omega), hW.2 _ (by omega), hM _ (by omega), if_pos (by rw [e]), nI_1]
          exact i2
        · rw [i3]
          constructor
          · intro h j h1 h2
            rcases Nat.lt_or_ge i j with q | q
            · exact h j q h2
            · rw [show j = i by omega]; exact e
          · intro h j h1 h2
            exact h j (by omega) h2
      · have hno : (false = true ↔ ∀ j, i ≤ j → j < F (97 + r) → bt x (p + j) = F (1 + 4 * r + j)) := by
          constructor
          · intro q; cases q
          · intro q; exact absurd (q i (by omega) (by omega)) e
        refine ⟨false, ?_, hno⟩
        show bX12_stands_25 n (nI r) (nI p) k w (lX12_stands_25 n (nI r) (nI p) k w f) (bI true) (nI i) = _
        unfold bX12_stands_25 letV
        rw [e97, l1, grd_N (by omega) (by decide), nI_clamp (by omega), hM _ (by omega), if_neg (nI_ge (by omega) (by omega)), if_neg (by decide), nI_add, l4, grd_N (by omega) (by decide), e1, grd_N (by omega) (by decide), nI_clamp (by omega), nI_clamp (by omega), hW.2 _ (by omega), hM _ (by omega), if_neg (fun q => e ((nI_eq (by omega) (by omega)).mp q)), nI_1]
        exact i1
def oI (o : Option Nat) : Int32 := match o with
  | none => -1
  | some p => nI p
theorem st_M {n : Nat} (hn : 20 < n) {F : Nat → Nat} (hF : InF F) {r : Nat} (hr : r < F 0) {x : Int64} {w : jWd} (hM : FM F w) (hW : WD x w) : ∀ c p f, p + c = 9 → c < f → lX12_stands_2 n (nI r) w f (nI p) = some (oI (stF F r x c p)) := by
  have hL := lnB_le x
  have h12 := hF.1
  obtain ⟨h1, -, h3, -⟩ := hF.2 r hr
  have l1 : ln 211 = 2580 := rfl
  have e97 : (97 : Int32) + nI r = nI (97 + r) := nI_add 97 r
  intro c
  induction c with
  | zero =>
    intro p f hp hf
    obtain ⟨f, rfl⟩ : ∃ g, f = g + 1 := ⟨f - 1, by omega⟩
    show bX12_stands_2 n (nI r) w _ (nI p) = some (-1 : Int32)
    unfold bX12_stands_2
    rw [e97, l1, grd_N (by omega) (by decide), nI_clamp (by omega), hM _ (by omega), hW.1, nI_add, if_pos (nI_lt (by omega) (by omega))]
  | succ c ih =>
    intro p f hp hf
    obtain ⟨f, rfl⟩ : ∃ g, f = g + 1 := ⟨f - 1, by omega⟩
    show bX12_stands_2 n (nI r) w (lX12_stands_2 n (nI r) w f) (nI p) = _
    unfold bX12_stands_2 stF
    rw [e97, l1, grd_N (by omega) (by decide), nI_clamp (by omega), hM _ (by omega), hW.1, nI_add]
    by_cases q : lnB x < p + F (97 + r)
    · rw [if_pos (nI_lt q (by omega)), if_pos q]
      rfl
    · rw [if_neg (nI_nlt (by omega) (by omega)), if_neg q]
      obtain ⟨-, b, e1, e2⟩ := st_Mi (n := n) (p := p) hM hW (by omega) h1.2 (fun k hk => (h3 k hk).2) (by omega) (fun z3_11 => if z3_11 = 0 then letV (nI p + (1 : Int32)) (fun x2_12 => lX12_stands_2 n (nI r) w f x2_12) else some (nI p)) (F (97 + r)) 0 n (by omega) (by omega)
      refine e1.trans ?_
      dsimp only [letV]
      cases b
      · rw [if_pos (by decide), if_neg (fun z => absurd (e2.mpr (fun j _ h => z j h)) (by decide)), nI_1]
        exact ih (p + 1) f (by omega) (by omega)
      · rw [if_neg (by decide), if_pos (fun j h => e2.mp rfl j (Nat.zero_le _) h)]
        rfl
def P215 (c _k : Nat) : Prop := c = 215
theorem ma_M {n : Nat} {F : Nat → Nat} (hF : InF F) {r p : Nat} (hr : r < F 0) {x : Int64} (hx : isC x) (hp : p + F (97 + r) ≤ lnB x) (h8 : nwF F r x ≤ 8) (k : Int32 → jWd → Option (Int32 × jWd)) : ∀ c i f (w : jWd) (b : Bool), i + c = nwF F r x → c < f → FM F w → WD x w → (∀ j, j < i → wI w 215 j = nI (mdF F r x p j)) → (b = true ↔ (nwF F r x ≠ lnB x ∨ ∃ j, j < i ∧ mdF F r x p j ≠ bt x j)) → ∃ w' b', lX12_does_86 n (nI r) (nI p) (nI (F (97 + r))) (nI (F (109 + r))) (nI (nwF F r x)) k f (bI b) (nI i) w = k (bI b') w' ∧ (∀ j, j < nwF F r x → wI w' 215 j = nI (mdF F r x p j)) ∧ (b' = true ↔ (nwF F r x ≠ lnB x ∨ ∃ j, j < nwF F r x ∧ mdF F r x p j ≠ bt x j)) ∧ frP P215 w w' := by
  have hL := lnB_le x
  have h12 := hF.1
  obtain ⟨h1, h2, h3, h4, -⟩ := hF.2 r hr
  have l1 : ln 211 = 2580 := rfl
  have l4 : ln 214 = 8 := rfl
  have l5 : ln 215 = 12 := rfl
  have hmd := md_b hF hr hp
  intro c
  induction c with
  | zero =>
    intro i f w b hi hf hM hW hm hb
    obtain ⟨f, rfl⟩ : ∃ g, f = g + 1 := ⟨f - 1, by omega⟩
    refine ⟨w, b, ?_, fun j hj => hm j (by omega), by rw [hb, show i = nwF F r x by omega], frP_refl _ _⟩
    show bX12_does_86 n (nI r) (nI p) (nI (F (97 + r))) (nI (F (109 + r))) (nI (nwF F r x)) k _ (bI b) (nI i) w = _
    unfold bX12_does_86
    rw [if_pos (nI_le (by omega) (by omega))]
  | succ c ih =>
    intro i f w b hi hf hM hW hm hb
    obtain ⟨f, rfl⟩ : ∃ g, f = g + 1 := ⟨f - 1, by omega⟩
    have hmi := hmd i (by omega)
    have hM1 : FM F (sI w 215 i (nI (mdF F r x p i))) := FM_fr hM (frP_sI _ _ (.inr (.inr (.inl rfl))))
    have hW1 : WD x (sI w 215 i (nI (mdF F r x p i))) := ⟨by rw [wI_sI, if_neg (by omega), hW.1], fun j hj => by rw [wI_sI, if_neg (by omega), hW.2 j hj]⟩
    have hm1 : ∀ j, j < i + 1 → wI (sI w 215 i (nI (mdF F r x p i))) 215 j = nI (mdF F r x p j) := by
      intro j hj
      rw [wI_sI]
      by_cases e : j = i
      · subst e; rw [if_pos ⟨rfl, rfl⟩]
      · rw [if_neg (fun q => e q.2), hm j (by omega)]
    have main : ∀ b1 : Bool, (b1 = true ↔ (nwF F r x ≠ lnB x ∨ ∃ j, j < i + 1 ∧ mdF F r x p j ≠ bt x j)) → bX12_does_86 n (nI r) (nI p) (nI (F (97 + r))) (nI (F (109 + r))) (nI (nwF F r x)) k (lX12_does_86 n (nI r) (nI p) (nI (F (97 + r))) (nI (F (109 + r))) (nI (nwF F r x)) k f) (bI b) (nI i) w = lX12_does_86 n (nI r) (nI p) (nI (F (97 + r))) (nI (F (109 + r))) (nI (nwF F r x)) k f (bI b1) (nI (i + 1)) (sI w 215 i (nI (mdF F r x p i))) → ∃ w' b', bX12_does_86 n (nI r) (nI p) (nI (F (97 + r))) (nI (F (109 + r))) (nI (nwF F r x)) k (lX12_does_86 n (nI r) (nI p) (nI (F (97 + r))) (nI (F (109 + r))) (nI (nwF F r x)) k f) (bI b) (nI i) w = k (bI b') w' ∧ (∀ j, j < nwF F r x → wI w' 215 j = nI (mdF F r x p j)) ∧ (b' = true ↔ (nwF F r x ≠ lnB x ∨ ∃ j, j < nwF F r x ∧ mdF F r x p j ≠ bt x j)) ∧ frP P215 w w' := by
      intro b1 hb1 he
      obtain ⟨w', b', e1, e2, e3, e4⟩ := ih (i + 1) f _ b1 (by omega) (by omega) hM1 hW1 hm1 hb1
      exact ⟨w', b', he.trans e1, e2, e3, frP_trans (frP_sI w _ rfl) e4⟩
    show ∃ w' b', bX12_does_86 n (nI r) (nI p) (nI (F (97 + r))) (nI (F (109 + r))) (nI (nwF F r x)) k (lX12_does_86 n (nI r) (nI p) (nI (F (97 + r))) (nI (F (109 + r))) (nI (nwF F r x)) k f) (bI b) (nI i) w = _ ∧ _
    -- the value put
    have hv : ∀ J : Int32 → Option (Int32 × jWd), (if nI p ≤ nI i then if (nI p + nI (F (109 + r))) ≤ nI i then grd ((nI i - nI (F (109 + r))) + nI (F (97 + r))) (ln 214) (J (wI w 214 (((nI i - nI (F (109 + r))) + nI (F (97 + r)))).toNatClampNeg)) else grd ((((49 : Int32) + ((4 : Int32) * nI r)) + nI i) - nI p) (ln 211) (J (wI w 211 (((((49 : Int32) + ((4 : Int32) * nI r)) + nI i) - nI p)).toNatClampNeg)) else grd (nI i) (ln 214) (J (wI w 214 (nI i).toNatClampNeg))) = J (nI (mdF F r x p i)) := by
      intro J
      have hn8 : nwF F r x = lnB x - F (97 + r) + F (109 + r) := rfl
      unfold mdF
      by_cases q1 : i < p
      · rw [if_neg (nI_ge q1 (by omega)), if_pos q1, l4, grd_N (by omega) (by decide), nI_clamp (by omega), hW.2 i (by omega)]
      · rw [if_pos (nI_le (by omega) (by omega)), if_neg q1, nI_add]
        by_cases q2 : i < p + F (109 + r)
        · have e49 : (49 : Int32) + (4 : Int32) * nI r + nI i - nI p = nI (49 + 4 * r + (i - p)) := by
            rw [show (4 : Int32) = nI 4 from rfl, ev_mul, show (49 : Int32) = nI 49 from rfl, nI_add, nI_add, ev_sub (by omega), show 49 + 4 * r + i - p = 49 + 4 * r + (i - p) by omega]
          rw [if_neg (nI_ge q2 (by omega)), if_pos q2, e49, l1, grd_N (by omega) (by decide), nI_clamp (by omega), hM _ (by omega)]
        · rw [if_pos (nI_le (by omega) (by omega)), if_neg q2, ev_sub (by omega), nI_add, l4, grd_N (by omega) (by decide), nI_clamp (by omega), hW.2 _ (by omega)]
    have hbody : ∀ b1 : Bool, (∀ w1, w1 = sI w 215 i (nI (mdF F r x p i)) → (if bI b = 0 then grd (nI i) (ln 215) (grd (nI i) (ln 214) (if (wI w1 215 (nI i).toNatClampNeg) = (wI w1 214 (nI i).toNatClampNeg) then lX12_does_86 n (nI r) (nI p) (nI (F (97 + r))) (nI (F (109 + r))) (nI (nwF F r x)) k f (0 : Int32) (nI i + (1 : Int32)) w1 else lX12_does_86 n (nI r) (nI p) (nI (F (97 + r))) (nI (F (109 + r))) (nI (nwF F r x)) k f (1 : Int32) (nI i + (1 : Int32)) w1)) else lX12_does_86 n (nI r) (nI p) (nI (F (97 + r))) (nI (F (109 + r))) (nI (nwF F r x)) k f (1 : Int32) (nI i + (1 : Int32)) w1) = lX12_does_86 n (nI r) (nI p) (nI (F (97 + r))) (nI (F (109 + r))) (nI (nwF F r x)) k f (bI b1) (nI (i + 1)) w1) → bX12_does_86 n (nI r) (nI p) (nI (F (97 + r))) (nI (F (109 + r))) (nI (nwF F r x)) k (lX12_does_86 n (nI r) (nI p) (nI (F (97 + r))) (nI (F (109 + r))) (nI (nwF F r x)) k f) (bI b) (nI i) w = lX12_does_86 n (nI r) (nI p) (nI (F (97 + r))) (nI (F (109 + r))) (nI (nwF F r x)) k f (bI b1) (nI (i + 1)) (sI w 215 i (nI (mdF F r x p i))) := by
      intro b1 hw1
      unfold bX12_does_86
      rw [if_neg (nI_ge (by omega) (by omega))]
      refine letJ (x := nI (mdF F r x p i)) hv ?_
      dsimp only [letV]
      rw [l5, grd_N (by omega) (by decide), nI_clamp (by omega)]
      have := hw1 _ rfl
      rw [l5, nI_clamp (by omega)] at this
      exact this
    by_cases hb0 : b = true
    · refine main true ⟨fun _ => ?_, fun _ => rfl⟩ (hbody true (fun w1 _ => ?_))
      · rcases hb.mp hb0 with q | ⟨j, h1, h2⟩
        · exact .inl q
        · exact .inr ⟨j, by omega, h2⟩
      · rw [hb0, if_neg (by decide), nI_1]
        rfl
    · have hb0 : b = false := by cases b <;> simp_all
      have hno : ¬ (nwF F r x ≠ lnB x ∨ ∃ j, j < i ∧ mdF F r x p j ≠ bt x j) := fun q => by
        have := hb.mpr q
        rw [hb0] at this
        cases this
      have heq : nwF F r x = lnB x := Classical.not_not.mp (fun q => hno (.inl q))
      have hbt := bt_lt x i
      by_cases e : mdF F r x p i = bt x i
      · have hno2 : (false = true ↔ (nwF F r x ≠ lnB x ∨ ∃ j, j < i + 1 ∧ mdF F r x p j ≠ bt x j)) := by
          constructor
          · intro q; cases q
          · rintro (q | ⟨j, h1, h2⟩)
            · exact absurd heq q
            · by_cases z : j = i
              · subst z; exact absurd e h2
              · exact absurd (.inr ⟨j, by omega, h2⟩) hno
        refine main false hno2 (hbody false (fun w1 hw1 => ?_))
        · subst hw1
          rw [hb0, if_pos (by decide), l5, l4, grd_N (by omega) (by decide), grd_N (by omega) (by decide), nI_clamp (by omega), hm1 i (by omega), hW1.2 i (by omega), if_pos (by rw [e]), nI_1]
          rfl
      · refine main true ⟨fun _ => .inr ⟨i, by omega, e⟩, fun _ => rfl⟩ (hbody true (fun w1 hw1 => ?_))
        subst hw1
        rw [hb0, if_pos (by decide), l5, l4, grd_N (by omega) (by decide), grd_N (by omega) (by decide), nI_clamp (by omega), hm1 i (by omega), hW1.2 i (by omega), if_neg (fun q => e ((nI_eq (by omega) (by omega)).mp q)), nI_1]
        rfl
