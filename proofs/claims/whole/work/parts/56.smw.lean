/-! SMOOTHING in the reference: a rule done; the whole -/
def dsK (n : Nat) (a0 : Int32) (w_2 : jWd) (s_4 : Int32) : Option (Int32 × jWd) := grd ((97 : Int32) + a0) (ln 211) (letV ((wI w_2 211 (((97 : Int32) + a0)).toNatClampNeg)) (fun (x4_7 : Int32) => grd ((109 : Int32) + a0) (ln 211) (letV ((wI w_2 211 (((109 : Int32) + a0)).toNatClampNeg)) (fun (x5_10 : Int32) => letV ((((wI w_2 205 23) - x4_7) + x5_10)) (fun (x6_12 : Int32) => if s_4 = (-1 : Int32) then some ((0 : Int32), w_2) else if x6_12 ≤ (8 : Int32) then letV (fun (s_14 : Int32) => lX12_does_86 n a0 s_4 x4_7 x5_10 x6_12 (fun (z7_33 : Int32) (w_32 : jWd) => if z7_33 = 0 then some ((0 : Int32), w_32) else letV (sI w_32 205 23 x6_12) (fun (w_34 : jWd) => lX12_does_208 n x6_12 n (0 : Int32) w_34)) n s_14 (0 : Int32) w_2) (fun (j81_15 : Int32 → Option (Int32 × jWd)) => if x6_12 = (wI w_2 205 23) then j81_15 (0 : Int32) else j81_15 (1 : Int32)) else some ((0 : Int32), w_2))))))
theorem ds_eq (n : Nat) (a0 a1 : Int32) (w : jWd) : fX12_does n a0 a1 w = bO2 (fX12_holds n a0 a1 w) (fun (r_3 : Int32) (w_2 : jWd) => if r_3 = 0 then dsK n a0 w_2 (-1 : Int32) else bO (fX12_stands n a0 w_2) (fun (r_43 : Int32) => dsK n a0 w_2 r_43)) := rfl
theorem co_M {n : Nat} {x y : Int64} : ∀ c i f (w : jWd), i + c = lnB y → c < f → (∀ j, j < lnB y → wI w 215 j = nI (bt y j)) → (∀ j, j < i → wI w 214 j = nI (bt y j)) → wI w 205 23 = nI (lnB y) → ∃ w', lX12_does_208 n (nI (lnB y)) f (nI i) w = some ((1 : Int32), w') ∧ WD y w' ∧ frP Psm w w' := by
  have hL := lnB_le y
  have l4 : ln 214 = 8 := rfl
  have l5 : ln 215 = 12 := rfl
  intro c
  induction c with
  | zero =>
    intro i f w hi hf h1 h2 h3
    obtain ⟨f, rfl⟩ : ∃ g, f = g + 1 := ⟨f - 1, by omega⟩
    refine ⟨w, ?_, ⟨h3, fun k hk => h2 k (by omega)⟩, frP_refl _ _⟩
    show bX12_does_208 n (nI (lnB y)) _ (nI i) w = _
    unfold bX12_does_208
    rw [if_pos (nI_le (by omega) (by omega))]
  | succ c ih =>
    intro i f w hi hf h1 h2 h3
    obtain ⟨f, rfl⟩ : ∃ g, f = g + 1 := ⟨f - 1, by omega⟩
    obtain ⟨w', e1, e2, e3⟩ := ih (i + 1) f (sI w 214 i (nI (bt y i))) (by omega) (by omega) (fun j hj => by rw [wI_sI, if_neg (by omega), h1 j hj]) (fun j hj => by
      rw [wI_sI]
      by_cases e : j = i
      · subst e; rw [if_pos ⟨rfl, rfl⟩]
      · rw [if_neg (fun q => e q.2), h2 j (by omega)]) (by rw [wI_sI, if_neg (by omega), h3])
    refine ⟨w', ?_, e2, frP_trans (frP_sI w _ (.inr (.inl rfl))) e3⟩
    show bX12_does_208 n (nI (lnB y)) (lX12_does_208 n (nI (lnB y)) f) (nI i) w = _
    unfold bX12_does_208 letV
    rw [if_neg (nI_ge (by omega) (by omega)), l4, l5, grd_N (by omega) (by decide), grd_N (by omega) (by decide), nI_clamp (by omega), h1 i (by omega), nI_1]
    exact e1
theorem p215_sm : ∀ c k, P215 c k → Psm c k := fun _ _ h => .inr (.inr (.inl h))
theorem dsK_M {n : Nat} (hn : 20 < n) {F : Nat → Nat} (hF : InF F) {r : Nat} (hr : r < F 0) {x : Int64} (hx : isC x) {w : jWd} (hM : FM F w) (hW : WD x w) : ∃ w', dsK n (nI r) w (oI (stF F r x 9 0)) = some (bI (decide (rpF F r x ≠ x)), w') ∧ WD (rpF F r x) w' ∧ frP Psm w w' := by
  have hL := lnB_le x
  have h12 := hF.1
  obtain ⟨h1, h2, h3, h4, -⟩ := hF.2 r hr
  have l1 : ln 211 = 2580 := rfl
  have e97 : (97 : Int32) + nI r = nI (97 + r) := nI_add 97 r
  have e109 : (109 : Int32) + nI r = nI (109 + r) := nI_add 109 r
  have d0 : ∀ {y : Int64}, y = x → some ((0 : Int32), w) = some (bI (decide (y ≠ x)), w) := fun e => by rw [decide_eq_false (fun q => q e)]; rfl
  unfold dsK
  rw [e97, e109, l1, grd_N (by omega) (by decide), nI_clamp (by omega), hM _ (by omega)]
  dsimp only [letV]
  rw [grd_N (by omega) (by decide), nI_clamp (by omega), hM _ (by omega), hW.1]
  cases hs : stF F r x 9 0 with
  | none =>
    have e : rpF F r x = x := by unfold rpF; rw [hs]
    rw [if_pos (show oI none = (-1 : Int32) from rfl), e]
    exact ⟨w, d0 rfl, hW, frP_refl _ _⟩
  | some p =>
    have hp := (stF_some _ _ _ hs).1
    have e6 : nI (lnB x) - nI (F (97 + r)) + nI (F (109 + r)) = nI (nwF F r x) := by rw [ev_sub (by omega), nI_add]; rfl
    have hp8 : p ≤ 8 := by omega
    have hp1 : ¬ nI p = (-1 : Int32) := fun q => by
      have := ev_eqm (a := p) (by omega)
      rw [← this]
      exact q
    rw [if_neg (show ¬ oI (some p) = (-1 : Int32) from hp1), e6]
    by_cases q : 8 < nwF F r x
    · have e : rpF F r x = x := by unfold rpF; rw [hs]; exact if_pos q
      rw [if_neg (show ¬ nI (nwF F r x) ≤ (8 : Int32) from nI_ge (a := 8) q (by unfold nwF; omega)), e]
      exact ⟨w, d0 rfl, hW, frP_refl _ _⟩
    · have e : rpF F r x = pkW (mdF F r x p) (nwF F r x) := by unfold rpF; rw [hs]; exact if_neg q
      have hmd := md_b hF hr hp
      have hln : lnB (rpF F r x) = nwF F r x := by rw [e]; exact lnB_pkW (by omega) hmd
      have hbt : ∀ j, j < nwF F r x → bt (rpF F r x) j = mdF F r x p j := fun j hj => by
        rw [e, bt_pkW _ _ (by omega) (fun k hk => (hmd k hk).2) j (by omega), if_pos hj]
      have hne : (nwF F r x ≠ lnB x ∨ ∃ j, j < nwF F r x ∧ mdF F r x p j ≠ bt x j) ↔ rpF F r x ≠ x := by
        constructor
        · rintro (z | ⟨j, j1, j2⟩) y
          · exact z (by rw [← hln, y])
          · exact j2 (by rw [← hbt j j1, y])
        · intro z
          refine Classical.byContradiction (fun y => z ?_)
          have y1 : nwF F r x = lnB x := Classical.not_not.mp (fun u => y (.inl u))
          have y2 : ∀ j, j < nwF F r x → mdF F r x p j = bt x j := fun j hj => Classical.not_not.mp (fun u => y (.inr ⟨j, hj, u⟩))
          rw [e, y1]
          exact pkW_of hx (fun k hk => y2 k (by omega))
      rw [if_pos (show nI (nwF F r x) ≤ (8 : Int32) from nI_le (b := 8) (by omega) (by decide))]
      obtain ⟨w1, b', m1, m2, m3, m4⟩ := ma_M (n := n) hF hr hx hp (by omega) (fun (z7_33 : Int32) (w_32 : jWd) => if z7_33 = 0 then some ((0 : Int32), w_32) else (fun (w_34 : jWd) => lX12_does_208 n (nI (nwF F r x)) n (0 : Int32) w_34) (sI w_32 205 23 (nI (nwF F r x)))) (nwF F r x) 0 n w (decide (nwF F r x ≠ lnB x)) (by omega) (by omega) hM hW (fun j hj => absurd hj (Nat.not_lt_zero j)) (by
        rw [decide_eq_true_iff]
        constructor
        · intro z; exact .inl z
        · rintro (z | ⟨j, j1, -⟩)
          · exact z
          · omega)
      have hgo : (if nI (nwF F r x) = nI (lnB x) then (fun (s_14 : Int32) => lX12_does_86 n (nI r) (nI p) (nI (F (97 + r))) (nI (F (109 + r))) (nI (nwF F r x)) (fun (z7_33 : Int32) (w_32 : jWd) => if z7_33 = 0 then some ((0 : Int32), w_32) else (fun (w_34 : jWd) => lX12_does_208 n (nI (nwF F r x)) n (0 : Int32) w_34) (sI w_32 205 23 (nI (nwF F r x)))) n s_14 (0 : Int32) w) (0 : Int32) else (fun (s_14 : Int32) => lX12_does_86 n (nI r) (nI p) (nI (F (97 + r))) (nI (F (109 + r))) (nI (nwF F r x)) (fun (z7_33 : Int32) (w_32 : jWd) => if z7_33 = 0 then some ((0 : Int32), w_32) else (fun (w_34 : jWd) => lX12_does_208 n (nI (nwF F r x)) n (0 : Int32) w_34) (sI w_32 205 23 (nI (nwF F r x)))) n s_14 (0 : Int32) w) (1 : Int32)) = (if bI b' = 0 then some ((0 : Int32), w1) else (fun (w_34 : jWd) => lX12_does_208 n (nI (nwF F r x)) n (0 : Int32) w_34) (sI w1 205 23 (nI (nwF F r x)))) := by
        rw [← m1]
        by_cases z : nwF F r x = lnB x
        · rw [if_pos (by rw [z]), decide_eq_false (fun y => y z)]
          rfl
        · rw [if_neg (fun y => z ((nI_eq (by omega) (by omega)).mp y)), decide_eq_true z]
          rfl
      suffices h : ∃ w', (if bI b' = 0 then some ((0 : Int32), w1) else lX12_does_208 n (nI (nwF F r x)) n (0 : Int32) (sI w1 205 23 (nI (nwF F r x)))) = some (bI (decide (rpF F r x ≠ x)), w') ∧ WD (rpF F r x) w' ∧ frP Psm w w' by
        obtain ⟨w', q1, q2⟩ := h
        exact ⟨w', hgo.trans q1, q2⟩
      have f1 : frP Psm w w1 := frP_mono p215_sm m4
      cases b' with
      | false =>
        have hx2 : rpF F r x = x := Classical.not_not.mp (fun z => absurd (m3.mpr (hne.mpr z)) (by decide))
        refine ⟨w1, ?_, ?_, f1⟩
        · rw [if_pos (by decide), decide_eq_false (fun z => z hx2)]
          rfl
        · rw [hx2]
          exact ⟨by rw [frP_I m4 (show ¬ P215 205 23 by unfold P215; omega), hW.1], fun k hk => by rw [frP_I m4 (show ¬ P215 214 k by unfold P215; omega), hW.2 k hk]⟩
      | true =>
        have hx2 : rpF F r x ≠ x := hne.mp (m3.mp rfl)
        obtain ⟨w', c1, c2, c3⟩ := co_M (n := n) (x := x) (y := rpF F r x) (nwF F r x) 0 n (sI w1 205 23 (nI (nwF F r x))) (by omega) (by omega) (fun j hj => by rw [wI_sI, if_neg (by omega), m2 j (by omega), hbt j (by omega)]) (fun j hj => absurd hj (Nat.not_lt_zero j)) (by rw [ev_wIs, hln])
        refine ⟨w', ?_, c2, frP_trans f1 (frP_trans (frP_sI w1 _ (.inl ⟨rfl, rfl⟩)) c3)⟩
        rw [if_neg (by decide), decide_eq_true hx2]
        rw [hln] at c1
        exact c1
theorem ds_M {n : Nat} (hn : 201 < n) {F : Nat → Nat} (hF : InF F) {r t : Nat} (ht : t < 2147483648) (hr : r < F 0) {x : Int64} (hx : isC x) {w : jWd} (hM : FM F w) (hW : WD x w) : ∃ w', fX12_does n (nI r) (nI t) w = some (bI (decide (hdF F r t x = true ∧ rpF F r x ≠ x)), w') ∧ WD (if hdF F r t x = true ∧ rpF F r x ≠ x then rpF F r x else x) w' ∧ frP Psm w w' := by
  obtain ⟨w1, e1, f1⟩ := hd_M hn hF hx ht hr hM hW
  have hM1 := FM_fr hM (frP_mono p216_sm f1)
  have hW1 := WD_fr hW f1
  rw [ds_eq, e1]
  dsimp only [bO2]
  cases h : hdF F r t x with
  | false =>
    rw [if_pos (by decide)]
    refine ⟨w1, ?_, ?_, frP_mono p216_sm f1⟩
    · have h12 := hF.1
      have l1 : ln 211 = 2580 := rfl
      have e97 : (97 : Int32) + nI r = nI (97 + r) := nI_add 97 r
      have e109 : (109 : Int32) + nI r = nI (109 + r) := nI_add 109 r
      unfold dsK letV
      rw [e97, e109, l1, grd_N (by omega) (by decide)]
      dsimp only
      rw [grd_N (by omega) (by decide), if_pos rfl]
      rfl
    · rw [if_neg (fun z => by cases z.1)]
      exact hW1
  | true =>
    rw [if_neg (by decide)]
    unfold fX12_stands
    rw [show (0 : Int32) = nI 0 from rfl, st_M (by omega) hF hr hM1 hW1 9 0 n (by omega) (by omega)]
    dsimp only [bO]
    obtain ⟨w', e2, e3, e4⟩ := dsK_M (n := n) (by omega) hF hr hx hM1 hW1
    refine ⟨w', ?_, ?_, frP_trans (frP_mono p216_sm f1) e4⟩
    · rw [e2]
      congr 3
      rw [Bool.eq_iff_iff, decide_eq_true_iff, decide_eq_true_iff]
      exact ⟨fun z => ⟨rfl, z⟩, fun z => z.2⟩
    · by_cases z : rpF F r x = x
      · rw [if_neg (fun y => y.2 z)]
        rw [z] at e3
        exact e3
      · rw [if_pos ⟨rfl, z⟩]
        exact e3
theorem sp_M {n : Nat} (hn : 201 < n) {F : Nat → Nat} (hF : InF F) {t : Nat} (ht : t < 2147483648) {x : Int64} (hx : isC x) (p5 : Int32) (k : Int32 → jWd → Option (Int64 × jWd)) : ∀ c r f (w : jWd), r + c = F 0 → c + 1 < f → FM F w → WD x w → ∃ w', lX12_smooth_63 n (nI t) p5 k f (bI false) (nI r) w = k (bI (decide (spF F t x c r ≠ x))) w' ∧ WD (spF F t x c r) w' ∧ frP Psm w w' := by
  have h12 := hF.1
  intro c
  induction c with
  | zero =>
    intro r f w hr hf hM hW
    obtain ⟨f, rfl⟩ : ∃ g, f = g + 1 := ⟨f - 1, by omega⟩
    refine ⟨w, ?_, hW, frP_refl _ _⟩
    show bX12_smooth_63 n (nI t) p5 k _ (bI false) (nI r) w = _
    unfold bX12_smooth_63
    rw [hM 0 (by omega), if_pos (nI_le (by omega) (by omega))]
    congr 1
    rw [decide_eq_false (fun z => z rfl)]
  | succ c ih =>
    intro r f w hr hf hM hW
    obtain ⟨f, rfl⟩ : ∃ g, f = g + 1 := ⟨f - 1, by omega⟩
    obtain ⟨w1, e1, e2, e3⟩ := ds_M hn hF ht (show r < F 0 by omega) hx hM hW
    have hM1 := FM_fr hM e3
    have hstep : lX12_smooth_63 n (nI t) p5 k (f + 1) (bI false) (nI r) w = lX12_smooth_63 n (nI t) p5 k f (bI (decide (hdF F r t x = true ∧ rpF F r x ≠ x))) (nI (r + 1)) w1 := by
      show bX12_smooth_63 n (nI t) p5 k (lX12_smooth_63 n (nI t) p5 k f) (bI false) (nI r) w = _
      unfold bX12_smooth_63
      rw [hM 0 (by omega), if_neg (nI_ge (by omega) (by omega)), if_pos (by decide), e1]
      dsimp only [bO2, letV]
      rw [nI_1]
    rw [hstep]
    unfold spF
    by_cases q : hdF F r t x = true ∧ rpF F r x ≠ x
    · rw [if_pos q] at e2
      rw [decide_eq_true q, if_pos q]
      refine ⟨w1, ?_, e2, e3⟩
      obtain ⟨f, rfl⟩ : ∃ g, f = g + 1 := ⟨f - 1, by omega⟩
      show bX12_smooth_63 n (nI t) p5 k _ (bI true) (nI (r + 1)) w1 = _
      unfold bX12_smooth_63
      rw [decide_eq_true q.2, if_neg (show ¬ bI true = 0 by decide)]
      split <;> rfl
    · rw [if_neg q] at e2
      rw [decide_eq_false q, if_neg q]
      obtain ⟨w', i1, i2, i3⟩ := ih (r + 1) f w1 (by omega) (by omega) hM1 e2
      exact ⟨w', i1, i2, frP_trans e3 i3⟩
theorem sm_Ml {n : Nat} (hn : 201 < n) {F : Nat → Nat} (hF : InF F) {t : Nat} (ht : t < 2147483648) (k : jWd → Option (Int64 × jWd)) : ∀ c i f x (w : jWd), i + c = 12 → c + 1 < f → isC x → FM F w → WD x w → ∃ w', lX12_smooth_45 n (nI t) k f (bI true) (nI i) w = k w' ∧ WD (smF F t c x) w' ∧ frP Psm w w' := by
  have h12 := hF.1
  intro c
  induction c with
  | zero =>
    intro i f x w hi hf hx hM hW
    obtain ⟨f, rfl⟩ : ∃ g, f = g + 1 := ⟨f - 1, by omega⟩
    refine ⟨w, ?_, hW, frP_refl _ _⟩
    show bX12_smooth_45 n (nI t) k _ (bI true) (nI i) w = _
    unfold bX12_smooth_45
    rw [if_pos (show (12 : Int32) ≤ nI i from nI_le (a := 12) (by omega) (by omega))]
  | succ c ih =>
    intro i f x w hi hf hx hM hW
    obtain ⟨f, rfl⟩ : ∃ g, f = g + 1 := ⟨f - 1, by omega⟩
    obtain ⟨w1, e1, e2, e3⟩ := sp_M (n := n) hn hF ht hx (nI i) (fun (z4_17 : Int32) (w_16 : jWd) => letV (nI i + (1 : Int32)) (fun (x5_18 : Int32) => lX12_smooth_45 n (nI t) k f z4_17 x5_18 w_16)) (F 0) 0 n w (by omega) (by omega) hM hW
    have hM1 := FM_fr hM e3
    have hstep : lX12_smooth_45 n (nI t) k (f + 1) (bI true) (nI i) w = lX12_smooth_45 n (nI t) k f (bI (decide (spF F t x (F 0) 0 ≠ x))) (nI (i + 1)) w1 := by
      show bX12_smooth_45 n (nI t) k (lX12_smooth_45 n (nI t) k f) (bI true) (nI i) w = _
      unfold bX12_smooth_45
      rw [if_neg (show ¬ (12 : Int32) ≤ nI i from nI_ge (b := 12) (by omega) (by decide)), if_neg (by decide)]
      refine e1.trans ?_
      dsimp only [letV]
      rw [nI_1]
    rw [hstep]
    unfold smF
    by_cases q : spF F t x (F 0) 0 = x
    · rw [q] at e2
      rw [if_pos q, decide_eq_false (fun z => z q)]
      refine ⟨w1, ?_, e2, e3⟩
      obtain ⟨f, rfl⟩ : ∃ g, f = g + 1 := ⟨f - 1, by omega⟩
      show bX12_smooth_45 n (nI t) k _ (bI false) (nI (i + 1)) w1 = _
      unfold bX12_smooth_45
      rw [if_pos (show bI false = 0 by decide)]
      split <;> rfl
    · rw [if_neg q, decide_eq_true q]
      obtain ⟨w', i1, i2, i3⟩ := ih (i + 1) f _ w1 (by omega) (by omega) (sp_C hF t hx (F 0) 0 (by omega)).1 hM1 e2
      exact ⟨w', i1, i2, frP_trans e3 i3⟩
theorem pk_M {n : Nat} {x : Int64} {w : jWd} (hW : WD x w) : ∀ c i f, i + c = lnB x → c < f → lX12_smooth_106 n w f (pkW (bt x) i) (nI i) = some (pkW (bt x) (lnB x), w) := by
  have hL := lnB_le x
  have l4 : ln 214 = 8 := rfl
  intro c
  induction c with
  | zero =>
    intro i f hi hf
    obtain ⟨f, rfl⟩ : ∃ g, f = g + 1 := ⟨f - 1, by omega⟩
    show bX12_smooth_106 n w _ (pkW (bt x) i) (nI i) = _
    unfold bX12_smooth_106
    rw [hW.1, if_pos (nI_le (by omega) (by omega)), show i = lnB x by omega]
  | succ c ih =>
    intro i f hi hf
    obtain ⟨f, rfl⟩ : ∃ g, f = g + 1 := ⟨f - 1, by omega⟩
    show bX12_smooth_106 n w (lX12_smooth_106 n w f) (pkW (bt x) i) (nI i) = _
    unfold bX12_smooth_106 letV
    rw [hW.1, if_neg (nI_ge (by omega) (by omega)), l4, grd_N (by omega) (by decide), nI_clamp (by omega), hW.2 i (by omega), ix_8 (show i ≤ 7 by omega), nI_1]
    exact ih (i + 1) f (by omega) (by omega)
theorem wd_M {n : Nat} {l : Int64} (p3 : Int32) (k : jWd → Option (Int64 × jWd)) : ∀ c i f (w : jWd), i + c = lnB l → c < f → wI w 205 23 = nI (lnB l) → (∀ j, j < i → wI w 214 j = nI (bt l j)) → ∃ w', lX12_smooth_11 n l p3 k f (nI i) w = k w' ∧ wI w' 205 23 = nI (lnB l) ∧ (∀ j, j < lnB l → wI w' 214 j = nI (bt l j)) ∧ frP Psm w w' := by
  have hL := lnB_le l
  have l4 : ln 214 = 8 := rfl
  intro c
  induction c with
  | zero =>
    intro i f w hi hf h1 h2
    obtain ⟨f, rfl⟩ : ∃ g, f = g + 1 := ⟨f - 1, by omega⟩
    refine ⟨w, ?_, h1, fun j hj => h2 j (by omega), frP_refl _ _⟩
    show bX12_smooth_11 n l p3 k _ (nI i) w = _
    unfold bX12_smooth_11
    rw [h1, if_pos (nI_le (by omega) (by omega))]
  | succ c ih =>
    intro i f w hi hf h1 h2
    obtain ⟨f, rfl⟩ : ∃ g, f = g + 1 := ⟨f - 1, by omega⟩
    obtain ⟨w', e1, e2, e3, e4⟩ := ih (i + 1) f (sI w 214 i (nI (bt l i))) (by omega) (by omega) (by rw [wI_sI, if_neg (by omega), h1]) (fun j hj => by
      rw [wI_sI]
      by_cases e : j = i
      · subst e; rw [if_pos ⟨rfl, rfl⟩]
      · rw [if_neg (fun q => e q.2), h2 j (by omega)])
    refine ⟨w', ?_, e2, e3, frP_trans (frP_sI w _ (.inr (.inl rfl))) e4⟩
    show bX12_smooth_11 n l p3 k (lX12_smooth_11 n l p3 k f) (nI i) w = _
    unfold bX12_smooth_11 letV
    rw [h1, if_neg (nI_ge (by omega) (by omega)), l4, grd_N (by omega) (by decide), nI_clamp (by omega), word_M l (by omega), nI_1]
    exact e1
theorem sm_M {n : Nat} (hn : 201 < n) {F : Nat → Nat} (hF : InF F) {t : Nat} (ht : t < 2147483648) (l : Int64) {w : jWd} (hM : FM F w) : ∃ w', fX12_smooth n l (nI t) w = some (smS F t (cln l), w') ∧ frP Psm w w' := by
  have hL := lnB_le l
  have hC := isC_cln l
  unfold fX12_smooth
  rw [len_M (by omega)]
  dsimp only [bO, letV]
  obtain ⟨w1, a1, a2, a3, a4⟩ := wd_M (n := n) (l := l) (nI t) (fun (w_10 : jWd) => lX12_smooth_45 n (nI t) (fun (w_20 : jWd) => lX12_smooth_106 n w_20 n (0 : Int64) (0 : Int32)) n (1 : Int32) (0 : Int32) w_10) (lnB l) 0 n (sI w 205 23 (nI (lnB l))) (by omega) (by omega) (ev_wIs _ _ _ _) (fun j hj => absurd hj (Nat.not_lt_zero j))
  have f1 : frP Psm w w1 := frP_trans (frP_sI w _ (.inl ⟨rfl, rfl⟩)) a4
  have hW1 : WD (cln l) w1 := by
    unfold WD
    rw [lnB_cln]
    exact ⟨a2, fun k hk => by rw [a3 k hk, bt_cln l (by omega), if_pos hk]⟩
  obtain ⟨w2, b1, b2, b3⟩ := sm_Ml (n := n) hn hF ht (fun (w_20 : jWd) => lX12_smooth_106 n w_20 n (0 : Int64) (0 : Int32)) 12 0 n (cln l) w1 rfl (by omega) hC (FM_fr hM f1) hW1
  have hL2 := lnB_le (smF F t 12 (cln l))
  refine ⟨w2, a1.trans (b1.trans ?_), frP_trans f1 b3⟩
  have := pk_M (n := n) b2 (lnB (smF F t 12 (cln l))) 0 n (by omega) (by omega)
  rw [show pkW (bt (smF F t 12 (cln l))) (lnB (smF F t 12 (cln l))) = smF F t 12 (cln l) from pkW_of (smS_C hF t hC) (fun _ _ => rfl)] at this
  exact this
