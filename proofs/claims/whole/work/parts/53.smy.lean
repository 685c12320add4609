/-! SMOOTHING in the class: a rule done, the first that can be, again and again -/
theorem rp_cmp0 : ∀ a : Nat, a < 9 → ∀ b : Nat, b < 9 → ∀ c : Nat, c < 9 → ((nI a - nI b) + nI c ≤ (8 : Int32) ↔ a + c ≤ 8 + b) := by decide +kernel
theorem rp_cmp (a b c : Nat) (ha : a < 9) (hb : b < 9) (hc : c < 9) : (nI a - nI b) + nI c ≤ (8 : Int32) ↔ a + c ≤ 8 + b := rp_cmp0 a ha b hb c hc
theorem rl_X {n : Nat} {F : Nat → Nat} {r : Nat} {x : Int64} {w : jWd} (hX : FX F 32 w) (hF : InF F) (hr : r < F 0) (p5 : Int32) (k : Int32 → Option Int64) : ∀ c p f, p + c = 9 → c < f → lX1_replaced_46 n 32 (nI r) x (nI (F (97 + r))) p5 (nI (lnB x)) k w f (nI p) = (match stF F r x c p with
    | none => some x
    | some q => k (nI q)) := by
  have h12 := hF.1
  obtain ⟨h1, h2, h3, h4, -⟩ := hF.2 r hr
  have hL := lnB_le x
  have xl := (hX.2 r hr).1
  have l1 : ln (32 + 1) = 12 := rfl
  intro c
  induction c with
  | zero =>
    intro p f hp hf
    obtain ⟨f, rfl⟩ : ∃ g, f = g + 1 := ⟨f - 1, by omega⟩
    show bX1_replaced_46 n 32 (nI r) x (nI (F (97 + r))) p5 (nI (lnB x)) k w _ (nI p) = some x
    unfold bX1_replaced_46
    rw [nI_add, if_pos (nI_lt (by omega) (by omega))]
  | succ c ih =>
    intro p f hp hf
    obtain ⟨f, rfl⟩ : ∃ g, f = g + 1 := ⟨f - 1, by omega⟩
    show bX1_replaced_46 n 32 (nI r) x (nI (F (97 + r))) p5 (nI (lnB x)) k w _ (nI p) = _
    unfold bX1_replaced_46 stF
    rw [nI_add, l1, grd_N (by omega) (by decide), nI_clamp (by omega), xl]
    by_cases q : lnB x < p + F (97 + r)
    · rw [if_pos (nI_lt q (by omega)), if_pos q]
    · rw [if_neg (nI_nlt (by omega) (by omega)), if_neg q]
      have hl : ∀ i, i < 8 → bt (fX4_head (fX4_without x (nI p)) (nI (F (97 + r)))) i = if i < F (97 + r) then bt x (p + i) else 0 := by
        intro i hi
        rw [bt_head _ (by omega) hi, bt_without x (by omega) hi]
        by_cases z : i < F (97 + r)
        · rw [if_pos z, if_pos z, if_pos (by omega), Nat.add_comm]
        · rw [if_neg z, if_neg z]
      have hw : ∀ i, i < 8 → bt (pkW (fun k => F (1 + 4 * r + k)) (F (97 + r))) i = if i < F (97 + r) then F (1 + 4 * r + i) else 0 := fun i hi => bt_pkW _ _ (by omega) (fun k hk => by have := h3 k hk; omega) i hi
      have iff : (fX4_head (fX4_without x (nI p)) (nI (F (97 + r))) = pkW (fun k => F (1 + 4 * r + k)) (F (97 + r))) ↔ ∀ k, k < F (97 + r) → bt x (p + k) = F (1 + 4 * r + k) := by
        constructor
        · intro e k hk
          have e1 := hl k (by omega)
          rw [e, hw k (by omega), if_pos hk, if_pos hk] at e1
          exact e1.symm
        · intro e
          refine bt_ext (fun i hi => ?_)
          rw [hl i hi, hw i hi]
          by_cases z : i < F (97 + r)
          · rw [if_pos z, if_pos z, e i z]
          · rw [if_neg z, if_neg z]
      by_cases e : ∀ k, k < F (97 + r) → bt x (p + k) = F (1 + 4 * r + k)
      · rw [if_pos ((lg_cmp_eq _ _).mpr (iff.mpr e)), if_pos e]
      · rw [if_neg (fun q => e (iff.mp ((lg_cmp_eq _ _).mp q))), if_neg e]
        dsimp only [letV]
        rw [nI_1]
        exact ih (p + 1) f (by omega) (by omega)
theorem rp_X {n : Nat} (hn : 12 < n) {F : Nat → Nat} {r : Nat} {x : Int64} {w : jWd} (hX : FX F 32 w) (hF : InF F) (hr : r < F 0) (hx : isC x) : fX1_replaced n 32 (nI r) x w = some (rpF F r x) := by
  have h12 := hF.1
  obtain ⟨h1, h2, h3, h4, -⟩ := hF.2 r hr
  have hL := lnB_le x
  obtain ⟨xl, xr, -⟩ := hX.2 r hr
  have l1 : ln (32 + 1) = 12 := rfl
  have l2 : ln (32 + 2) = 12 := rfl
  unfold fX1_replaced rpF
  rw [l1, l2, grd_N (by omega) (by decide), nI_clamp (by omega), xl, xr, len_X (by omega), lnB_pkW (by omega) (fun k hk => ⟨(h3 k hk).1, by have := (h3 k hk).2; omega⟩)]
  dsimp only [bO, letV]
  rw [grd_N (by omega) (by decide), len_X (by omega), lnB_pkW (by omega) (fun k hk => ⟨(h4 k hk).1, by have := (h4 k hk).2; omega⟩)]
  dsimp only [bO]
  rw [len_X (by omega)]
  dsimp only [bO]
  have hc := rp_cmp (lnB x) (F (97 + r)) (F (109 + r)) (by omega) (by omega) (by omega)
  by_cases q : lnB x + F (109 + r) ≤ 8 + F (97 + r)
  · rw [if_pos (hc.mpr q)]
    refine (rl_X hX hF hr (nI (F (109 + r))) _ 9 0 n rfl (by omega)).trans ?_
    cases hs : stF F r x 9 0 with
    | none => rfl
    | some p =>
      have hp := (stF_some _ _ _ hs).1
      dsimp only
      rw [if_neg (show ¬ 8 < nwF F r x by unfold nwF; omega), grd_N (by omega) (by decide)]
      congr 1
      refine bt_ext (fun i hi => ?_)
      rw [bt_pkW _ _ (by unfold nwF; omega) (fun k hk => (md_b hF hr hp k hk).2) i hi, bt_or, bt_or, bt_head x (by omega) hi, bt_behind _ (by omega) hi, nI_add, nI_add, bt_behind _ (by omega) hi, bt_without x (by omega) (by omega)]
      unfold mdF nwF
      by_cases z1 : i < p
      · rw [if_pos z1, if_pos z1, if_pos (by omega), if_pos (by omega), if_pos z1, Nat.or_zero, Nat.or_zero]
      · rw [if_neg z1, if_neg z1, if_neg z1, bt_pkW _ _ (by omega) (fun k hk => by have := h4 k hk; omega) (i - p) (by omega), Nat.zero_or]
        by_cases z2 : i < p + F (109 + r)
        · rw [if_pos (by omega), if_pos z2, if_pos z2, if_pos (by omega), Nat.or_zero]
        · rw [if_neg (by omega), if_neg z2, if_neg z2, Nat.zero_or, show i - (p + F (109 + r)) + (p + F (97 + r)) = i - F (109 + r) + F (97 + r) by omega]
          by_cases z3 : i < lnB x - F (97 + r) + F (109 + r)
          · rw [if_pos z3, if_pos (by omega)]
          · rw [if_neg z3]
            split
            · exact bt_hi hx (by omega) (by omega)
            · rfl
  · rw [if_neg (fun z => q (hc.mp z))]
    cases hs : stF F r x 9 0 with
    | none => rfl
    | some p =>
      have hp := (stF_some _ _ _ hs).1
      dsimp only
      rw [if_pos (show 8 < nwF F r x by unfold nwF; omega)]
theorem sp_X {n : Nat} (hn : 201 < n) {F : Nat → Nat} {t : Nat} {x : Int64} {w : jWd} (ht : t < 2147483648) (hX : FX F 32 w) (hF : InF F) (hx : isC x) : ∀ c r f, r + c = F 0 → c < f → lX1_step_3 n 32 x (nI t) w f (nI r) = some (spF F t x c r) := by
  have h12 := hF.1
  intro c
  induction c with
  | zero =>
    intro r f hr hf
    obtain ⟨f, rfl⟩ : ∃ g, f = g + 1 := ⟨f - 1, by omega⟩
    show bX1_step_3 n 32 x (nI t) w _ (nI r) = _
    unfold bX1_step_3
    rw [hX.1, if_pos (nI_le (by omega) (by omega))]
    rfl
  | succ c ih =>
    intro r f hr hf
    obtain ⟨f, rfl⟩ : ∃ g, f = g + 1 := ⟨f - 1, by omega⟩
    show bX1_step_3 n 32 x (nI t) w _ (nI r) = _
    unfold bX1_step_3 spF
    rw [hX.1, if_neg (nI_ge (by omega) (by omega)), if_neg (show ¬ (12 : Int32) ≤ nI r from nI_ge (b := 12) (by omega) (by decide)), hd_X hn ht hX hF (by omega), rp_X (by omega) hX hF (by omega) hx]
    dsimp only [bO, letV]
    rw [nI_1]
    have hi := ih (r + 1) f (by omega) (by omega)
    by_cases h1 : hdF F r t x = true
    · rw [if_pos h1, if_neg (show ¬ (1 : Int32) = 0 by decide)]
      by_cases h2 : rpF F r x = x
      · rw [if_pos ((lg_cmp_eq _ _).mpr h2), if_neg (fun q => q.2 h2)]
        exact hi
      · rw [if_neg (fun q => h2 ((lg_cmp_eq _ _).mp q)), if_pos ⟨h1, h2⟩]
    · rw [if_neg h1, if_pos rfl, if_neg (fun q => h1 q.1)]
      exact hi
theorem sm_Xl {n : Nat} (hn : 201 < n) {F : Nat → Nat} {t : Nat} {w : jWd} (ht : t < 2147483648) (hX : FX F 32 w) (hF : InF F) : ∀ c i f x, i + c = 12 → c < f → isC x → lX1_smooth_6 n 32 (nI t) w f x (nI i) = some (smF F t c x) := by
  intro c
  induction c with
  | zero =>
    intro i f x hi hf hx
    obtain ⟨f, rfl⟩ : ∃ g, f = g + 1 := ⟨f - 1, by omega⟩
    show bX1_smooth_6 n 32 (nI t) w _ x (nI i) = _
    unfold bX1_smooth_6
    rw [if_pos (show (12 : Int32) ≤ nI i from nI_le (a := 12) (by omega) (by omega))]
    rfl
  | succ c ih =>
    intro i f x hi hf hx
    obtain ⟨f, rfl⟩ : ∃ g, f = g + 1 := ⟨f - 1, by omega⟩
    show bX1_smooth_6 n 32 (nI t) w _ x (nI i) = _
    have h12 := hF.1
    have hs : fX1_step n 32 x (nI t) w = some (spF F t x (F 0) 0) := sp_X hn ht hX hF hx (F 0) 0 n (by omega) (by omega)
    unfold bX1_smooth_6 smF
    rw [if_neg (show ¬ (12 : Int32) ≤ nI i from nI_ge (b := 12) (by omega) (by decide)), hs]
    dsimp only [bO, letV]
    rw [nI_1]
    by_cases h : spF F t x (F 0) 0 = x
    · rw [if_pos ((lg_cmp_eq _ _).mpr h), if_pos h]
    · rw [if_neg (fun q => h ((lg_cmp_eq _ _).mp q)), if_neg h]
      exact ih (i + 1) f _ (by omega) (by omega) (sp_C hF t hx (F 0) 0 (by omega)).1
theorem sm_X {n : Nat} (hn : 201 < n) {F : Nat → Nat} {t : Nat} {x : Int64} {w : jWd} (ht : t < 2147483648) (hX : FX F 32 w) (hF : InF F) (hx : isC x) : fX1_smooth n 32 x (nI t) w = some (smS F t x) := sm_Xl hn ht hX hF 12 0 n x rfl (by omega) hx
