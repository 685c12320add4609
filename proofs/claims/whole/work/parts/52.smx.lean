/-! SMOOTHING in the class -/
def bsL (z : Int64) (st : List Bool) : Prop := st.length ≤ 60 ∧ ∀ j, z.toBitVec.getLsbD j = st.getD j false
theorem one_l (j : Nat) : (1 : Int64).toBitVec.getLsbD j = decide (j = 0) := by
  show (1#64).getLsbD j = _
  rw [BitVec.getLsbD_one]
  simp
theorem m2_l (j : Nat) : (-2 : Int64).toBitVec.getLsbD j = (decide (j < 64) && !decide (j = 0)) := by
  by_cases h : j < 64
  · have : ∀ j, j < 64 → (-2 : Int64).toBitVec.getLsbD j = (decide (j < 64) && !decide (j = 0)) := by decide +kernel
    exact this j h
  · rw [BitVec.getLsbD_of_ge _ _ (by omega), decide_eq_false h, Bool.false_and]
theorem zi_l (j : Nat) : ((0 : Int32).toInt64).toBitVec.getLsbD j = false := by
  show (0#64).getLsbD j = _
  rw [BitVec.getLsbD_zero]
theorem oi_l (j : Nat) : ((1 : Int32).toInt64).toBitVec.getLsbD j = decide (j = 0) := one_l j
theorem bs_not {z : Int64} {b : Bool} {s : List Bool} (h : bsL z (b :: s)) : bsL (z ^^^ (1 : Int64)) ((!b) :: s) := by
  refine ⟨h.1, fun j => ?_⟩
  rw [Int64.toBitVec_xor, BitVec.getLsbD_xor, h.2 j, one_l j]
  cases j with
  | zero => simp
  | succ j => simp
theorem bs_and {z : Int64} {b c : Bool} {s : List Bool} (h : bsL z (b :: c :: s)) : bsL (l_ushr z (1 : Int32) &&& (z ||| (-2 : Int64))) ((c && b) :: s) := by
  have hl := h.1
  simp only [List.length_cons] at hl
  refine ⟨by simp only [List.length_cons]; omega, fun j => ?_⟩
  rw [Int64.toBitVec_and, BitVec.getLsbD_and, Int64.toBitVec_or, BitVec.getLsbD_or, show (1 : Int32) = nI 1 from rfl, ushr_bv z (by decide), BitVec.getLsbD_ushiftRight, h.2, h.2 j, m2_l]
  cases j with
  | zero => simp
  | succ j =>
    rw [show 1 + (j + 1) = j + 1 + 1 by omega]
    by_cases hj : j + 1 < 64
    · simp [hj]
    · have e : s.getD j false = false := by rw [List.getD_eq_getElem?_getD, List.getElem?_eq_none (by omega)]; rfl
      rw [List.getD_eq_getElem?_getD] at e
      simp [e]
theorem bs_or {z : Int64} {b c : Bool} {s : List Bool} (h : bsL z (b :: c :: s)) : bsL (l_ushr z (1 : Int32) ||| (z &&& (1 : Int64))) ((c || b) :: s) := by
  have hl := h.1
  simp only [List.length_cons] at hl
  refine ⟨by simp only [List.length_cons]; omega, fun j => ?_⟩
  rw [Int64.toBitVec_or, BitVec.getLsbD_or, Int64.toBitVec_and, BitVec.getLsbD_and, show (1 : Int32) = nI 1 from rfl, ushr_bv z (by decide), BitVec.getLsbD_ushiftRight, h.2, h.2 j, one_l]
  cases j with
  | zero => simp
  | succ j =>
    rw [show 1 + (j + 1) = j + 1 + 1 by omega]
    simp
theorem bs_push {z : Int64} {s : List Bool} (h : bsL z s) (hs : s.length < 60) (v : Bool) (u : Int32) (hu : u = if v then (1 : Int32) else (0 : Int32)) : bsL (l_shl z (1 : Int32) ||| u.toInt64) (v :: s) := by
  refine ⟨by simp only [List.length_cons]; omega, fun j => ?_⟩
  have e : (u.toInt64).toBitVec.getLsbD j = (decide (j = 0) && v) := by
    subst hu
    cases v
    · simp [zi_l]
    · simp [oi_l]
  rw [Int64.toBitVec_or, BitVec.getLsbD_or, show (1 : Int32) = nI 1 from rfl, shl_bv z (by decide), BitVec.getLsbD_shiftLeft, h.2, e]
  cases j with
  | zero => simp
  | succ j =>
    by_cases hj : j + 1 < 64
    · simp [hj]
    · have e : s.getD j false = false := by rw [List.getD_eq_getElem?_getD, List.getElem?_eq_none (by omega)]; rfl
      rw [List.getD_eq_getElem?_getD] at e
      simp [e]
/-- what a step of a test finds on the pile -/
def stOK (F : Nat → Nat) (i : Nat) (st : List Bool) : Prop := (F (145 + 2 * i) = 2 ∧ ∃ b s, st = b :: s) ∨ ((F (145 + 2 * i) = 3 ∨ F (145 + 2 * i) = 4) ∧ ∃ b c s, st = b :: c :: s) ∨ (5 ≤ F (145 + 2 * i) ∧ F (145 + 2 * i) ≤ 7 ∧ F (146 + 2 * i) ≤ 255 ∧ (F (145 + 2 * i) = 5 → 1 ≤ F (146 + 2 * i)) ∧ st.length < 60)
theorem ht_step {F : Nat → Nat} (t : Nat) (x : Int64) {c i g : Nat} {st : List Bool} (h : htF F (c + 1) i st.length = some g) : stOK F i st ∧ htF F c (i + 1) (tkF F t x i st).length = some g := by
  unfold htF at h
  unfold stOK tkF
  by_cases h2 : F (145 + 2 * i) = 2
  · rw [if_pos h2] at h
    rw [if_pos h2]
    cases st with
    | nil => simp at h
    | cons b s =>
      rw [if_pos (by simp)] at h
      exact ⟨.inl ⟨h2, b, s, rfl⟩, h⟩
  · rw [if_neg h2] at h
    rw [if_neg h2]
    by_cases h3 : F (145 + 2 * i) = 3 ∨ F (145 + 2 * i) = 4
    · rw [if_pos h3] at h
      match st, h with
      | [], h => simp at h
      | [b], h => simp at h
      | b :: c' :: s, h =>
        rw [if_pos (by simp)] at h
        refine ⟨.inr (.inl ⟨h3, b, c', s, rfl⟩), ?_⟩
        by_cases e : F (145 + 2 * i) = 3
        · rw [if_pos e]; exact h
        · rw [if_neg e, if_pos (h3.resolve_left e)]; exact h
    · rw [if_neg h3] at h
      rw [if_neg (fun q => h3 (.inl q)), if_neg (fun q => h3 (.inr q))]
      split at h
      · rename_i q
        exact ⟨.inr (.inr ⟨q.1, q.2.1, q.2.2.1, q.2.2.2.1, q.2.2.2.2⟩), h⟩
      · cases h
theorem any_bt {y : Int64} {v : Nat} : (List.range 8).any (fun j => decide (bt y j = v)) = true ↔ ∃ j, j < 8 ∧ bt y j = v := by
  simp
theorem tk_X {n : Nat} (hn : 8 < n) {F : Nat → Nat} {t i : Nat} {x z : Int64} {w : jWd} {st : List Bool} (ht : t < 2147483648) (hi : i < 200) (hc : wI w 37 i = nI (cmF (F (145 + 2 * i)))) (hv : wI w 38 i = nI (F (146 + 2 * i))) (hb : bsL z st) (hh : stOK F i st) : ∃ z', fX1_taken n 32 z (nI i) x (nI t) w = some z' ∧ bsL z' (tkF F t x i st) := by
  have l5 : ln (32 + 5) = 200 := rfl
  have l6 : ln (32 + 6) = 200 := rfl
  unfold fX1_taken
  rw [l5, l6]
  simp (disch := omega) only [ev_grd, ev_cl]
  rw [show 32 + 5 = 37 from rfl, show 32 + 6 = 38 from rfl, hc, hv]
  unfold tkF cmF
  rcases hh with ⟨h2, b, s, rfl⟩ | ⟨h3, b, c, s, rfl⟩ | ⟨h5, h7, hv1, hv0, hl⟩
  · rw [h2, if_pos rfl, if_pos rfl]
    exact ⟨_, rfl, bs_not hb⟩
  · rcases h3 with h3 | h3
    · rw [h3, if_neg (show ¬ (3 : Nat) = 2 by decide), if_pos rfl, if_neg (show ¬ (3 : Nat) = 2 by decide), if_pos rfl]
      exact ⟨_, rfl, bs_and hb⟩
    · rw [h3, if_neg (show ¬ (4 : Nat) = 2 by decide), if_neg (show ¬ (4 : Nat) = 3 by decide), if_pos rfl, if_neg (show ¬ (4 : Nat) = 2 by decide), if_neg (show ¬ (4 : Nat) = 3 by decide), if_pos rfl]
      exact ⟨_, rfl, bs_or hb⟩
  · rw [if_neg (show ¬ F (145 + 2 * i) = 2 by omega), if_neg (show ¬ F (145 + 2 * i) = 3 by omega), if_neg (show ¬ F (145 + 2 * i) = 4 by omega), if_neg (show ¬ F (145 + 2 * i) = 2 by omega), if_neg (show ¬ F (145 + 2 * i) = 3 by omega), if_neg (show ¬ F (145 + 2 * i) = 4 by omega)]
    rw [if_neg (show ¬ nI (F (145 + 2 * i) + 6) = (8 : Int32) from fun q => by have := (nI_eq (b := 8) (by omega) (by decide)).mp q; omega), if_neg (show ¬ nI (F (145 + 2 * i) + 6) = (9 : Int32) from fun q => by have := (nI_eq (b := 9) (by omega) (by decide)).mp q; omega), if_neg (show ¬ nI (F (145 + 2 * i) + 6) = (10 : Int32) from fun q => by have := (nI_eq (b := 10) (by omega) (by decide)).mp q; omega)]
    by_cases e5 : F (145 + 2 * i) = 5
    · rw [if_pos (show nI (F (145 + 2 * i) + 6) = (11 : Int32) by rw [e5]; rfl)]
      obtain ⟨M, hM, hP⟩ := pl_X hn x (b := F (146 + 2 * i)) (by omega) (hv0 e5)
      rw [hM]
      dsimp only [bO]
      unfold lfF
      rw [if_pos e5]
      by_cases hm : M = 0
      · rw [if_pos hm]
        refine ⟨_, rfl, bs_push hb hl _ _ ?_⟩
        rw [if_neg]
        intro q
        obtain ⟨j, h1, h2⟩ := any_bt.mp q
        exact (isPl_0 hP).mp hm j h1 h2
      · rw [if_neg hm]
        refine ⟨_, rfl, bs_push hb hl _ _ ?_⟩
        rw [if_pos]
        refine any_bt.mpr (Classical.byContradiction (fun q => hm ((isPl_0 hP).mpr (fun j hj e => q ⟨j, hj, e⟩))))
    · rw [if_neg (show ¬ nI (F (145 + 2 * i) + 6) = (11 : Int32) from fun q => by have := (nI_eq (b := 11) (by omega) (by decide)).mp q; omega)]
      unfold lfF
      rw [if_neg e5]
      have hL := lnB_le x
      by_cases e6 : F (145 + 2 * i) = 6
      · rw [if_pos (show nI (F (145 + 2 * i) + 6) = (12 : Int32) by rw [e6]; rfl), if_pos e6, len_X hn]
        dsimp only [bO]
        by_cases q : F (146 + 2 * i) ≤ lnB x
        · rw [if_neg (nI_nlt q (by omega))]
          exact ⟨_, rfl, bs_push hb hl _ _ (by rw [decide_eq_true q]; rfl)⟩
        · rw [if_pos (nI_lt (by omega) (by omega))]
          exact ⟨_, rfl, bs_push hb hl _ _ (by rw [decide_eq_false q]; rfl)⟩
      · rw [if_neg (show ¬ nI (F (145 + 2 * i) + 6) = (12 : Int32) from fun q => by have := (nI_eq (b := 12) (by omega) (by decide)).mp q; omega), if_neg e6]
        by_cases q : F (146 + 2 * i) = t
        · rw [if_pos (show nI t = nI (F (146 + 2 * i)) by rw [q])]
          exact ⟨_, rfl, bs_push hb hl _ _ (by rw [decide_eq_true q]; rfl)⟩
        · rw [if_neg (show ¬ nI t = nI (F (146 + 2 * i)) from fun z => q ((nI_eq (by omega) (by omega)).mp z).symm)]
          exact ⟨_, rfl, bs_push hb hl _ _ (by rw [decide_eq_false q]; rfl)⟩
theorem hl_X {n : Nat} (hn : 8 < n) {F : Nat → Nat} {t r g : Nat} {x : Int64} {w : jWd} (ht : t < 2147483648) (hr : r < 12) (hX : ∀ i, F (121 + r) ≤ i → i < F (133 + r) → wI w 37 i = nI (cmF (F (145 + 2 * i))) ∧ wI w 38 i = nI (F (146 + 2 * i))) (hT : wI w 36 r = nI (F (133 + r))) (h200 : F (133 + r) ≤ 200) (k : Int64 → Option Int32) : ∀ c i f z st, i + c = F (133 + r) → F (121 + r) ≤ i → c < f → bsL z st → htF F c i st.length = some g → ∃ z', lX1_holds_28 n 32 (nI r) x (nI t) k w f z (nI i) = k z' ∧ bsL z' (evF F t x c i st) := by
  intro c
  induction c with
  | zero =>
    intro i f z st hi h1 hf hb _
    obtain ⟨f, rfl⟩ : ∃ g, f = g + 1 := ⟨f - 1, by omega⟩
    refine ⟨z, ?_, hb⟩
    show bX1_holds_28 n 32 (nI r) x (nI t) k w _ z (nI i) = _
    unfold bX1_holds_28
    have l4 : ln (32 + 4) = 12 := rfl
    rw [l4, grd_N hr (by decide), nI_clamp (by omega), show 32 + 4 = 36 from rfl, hT, if_pos (nI_le (by omega) (by omega))]
  | succ c ih =>
    intro i f z st hi h1 hf hb hh
    obtain ⟨f, rfl⟩ : ∃ g, f = g + 1 := ⟨f - 1, by omega⟩
    obtain ⟨q1, q2⟩ := ht_step t x hh
    obtain ⟨c1, c2⟩ := hX i h1 (by omega)
    obtain ⟨z1, e1, b1⟩ := tk_X hn (t := t) (x := x) ht (by omega) c1 c2 hb q1
    obtain ⟨z', e2, b2⟩ := ih (i + 1) f z1 _ (by omega) (by omega) (by omega) b1 q2
    refine ⟨z', ?_, b2⟩
    show bX1_holds_28 n 32 (nI r) x (nI t) k w (lX1_holds_28 n 32 (nI r) x (nI t) k w f) z (nI i) = _
    unfold bX1_holds_28
    have l4 : ln (32 + 4) = 12 := rfl
    rw [l4, grd_N hr (by decide), nI_clamp (by omega), show 32 + 4 = 36 from rfl, hT, if_neg (nI_ge (by omega) (by omega)), if_neg (show ¬ (200 : Int32) ≤ nI i from nI_ge (b := 200) (by omega) (by decide)), e1]
    dsimp only [bO, letV]
    rw [nI_1]
    exact e2
theorem ev_len {F : Nat → Nat} (t : Nat) (x : Int64) : ∀ c i st g, htF F c i st.length = some g → (evF F t x c i st).length = g := by
  intro c
  induction c with
  | zero => intro i st g h; exact Option.some.inj h
  | succ c ih =>
    intro i st g h
    exact ih _ _ _ (ht_step t x h).2
theorem hd_X {n : Nat} (hn : 201 < n) {F : Nat → Nat} {t r : Nat} {x : Int64} {w : jWd} (ht : t < 2147483648) (hX : FX F 32 w) (hF : InF F) (hr : r < F 0) : fX1_holds n 32 (nI r) x (nI t) w = some (if hdF F r t x = true then (1 : Int32) else (0 : Int32)) := by
  obtain ⟨-, -, -, -, h5, h6, h7⟩ := hF.2 r hr
  have h12 := hF.1
  obtain ⟨-, -, x3, x4, x5⟩ := hX.2 r hr
  have l3 : ln (32 + 3) = 12 := rfl
  have l4 : ln (32 + 4) = 12 := rfl
  unfold fX1_holds hdF
  rw [l3, l4, grd_N (by omega) (by decide), grd_N (by omega) (by decide), grd_N (by omega) (by decide), nI_clamp (by omega), x3, x4]
  by_cases h : F (133 + r) ≤ F (121 + r)
  · rw [if_neg (nI_nlt h (by omega)), if_pos h]
    rfl
  · rw [if_pos (nI_lt (by omega) (by omega)), if_neg h]
    dsimp only [letV]
    have b0 : bsL (0 : Int64) [] := ⟨by decide, fun j => by rw [show (0 : Int64).toBitVec = 0#64 from rfl, BitVec.getLsbD_zero]; rfl⟩
    have hh := h7 (by omega)
    obtain ⟨z, e, hb⟩ := hl_X (show 8 < n by omega) ht (by omega) x5 x4 h6 (fun z5_11 => if lg_cmp (z5_11 &&& (1 : Int64)) (1 : Int64) = 0 then some (1 : Int32) else some (0 : Int32)) (F (133 + r) - F (121 + r)) (F (121 + r)) n 0 [] (by omega) (by omega) (by omega) b0 hh
    rw [e]
    have hlen := ev_len t x _ _ ([] : List Bool) _ hh
    match hE : evF F t x (F (133 + r) - F (121 + r)) (F (121 + r)) [], hlen, hb with
    | [v], _, hb =>
      have e2 : (z &&& (1 : Int64)) = 1 ↔ v = true := by
        have h0 : z.toBitVec.getLsbD 0 = v := hb.2 0
        constructor
        · intro q
          have := congrArg (fun y : Int64 => y.toBitVec.getLsbD 0) q
          simp only [Int64.toBitVec_and, BitVec.getLsbD_and, one_l, h0] at this
          simpa using this
        · intro q
          apply Int64.toBitVec_inj.mp
          apply BitVec.eq_of_getLsbD_eq
          intro j hj
          rw [Int64.toBitVec_and, BitVec.getLsbD_and, one_l]
          cases j with
          | zero => rw [h0, q]; rfl
          | succ j => simp
      by_cases hv : v = true
      · rw [if_pos ((lg_cmp_eq _ _).mpr (e2.mpr hv)), if_pos (show ([v] : List Bool).headD true = true from hv)]
      · rw [if_neg (fun q => hv (e2.mp ((lg_cmp_eq _ _).mp q))), if_neg (show ¬ ([v] : List Bool).headD true = true from hv)]
