/-! SMOOTHING in the reference -/
def WD (x : Int64) (w : jWd) : Prop := wI w 205 23 = nI (lnB x) ∧ ∀ k, k < lnB x → wI w 214 k = nI (bt x k)
def FM (F : Nat → Nat) (w : jWd) : Prop := ∀ k, k < 645 → wI w 211 k = nI (F k)
def Psm (c k : Nat) : Prop := (c = 205 ∧ k = 23) ∨ c = 214 ∨ c = 215 ∨ c = 216
def P216 (c _k : Nat) : Prop := c = 216
theorem p216_sm : ∀ c k, P216 c k → Psm c k := fun _ _ h => .inr (.inr (.inr h))
theorem FM_fr {F : Nat → Nat} {w w' : jWd} (h : FM F w) (hf : frP Psm w w') : FM F w' := fun k hk => by rw [frP_I hf (show ¬ Psm 211 k by unfold Psm; omega), h k hk]
theorem WD_fr {x : Int64} {w w' : jWd} (h : WD x w) (hf : frP P216 w w') : WD x w' := ⟨by rw [frP_I hf (show ¬ P216 205 23 by unfold P216; omega), h.1], fun k hk => by rw [frP_I hf (show ¬ P216 214 k by unfold P216; omega), h.2 k hk]⟩
def bI (b : Bool) : Int32 := if b = true then 1 else 0
theorem bI_z (b : Bool) : bI b = 0 ↔ b = false := by cases b <;> decide
theorem bI_nar (b : Bool) : vp_nar .boolean (bI b) = bI b := by cases b <;> rfl
theorem bI_and (b : Bool) : (bI b &&& (1 : Int32)) = bI b := by cases b <;> decide
theorem bI_1 : (1 : Int32) = bI true := rfl
theorem bI_0 : (0 : Int32) = bI false := rfl
theorem nI_dec (m : Nat) : nI (m + 1) + (-1 : Int32) = nI m := by
  rw [nI_succ, Int32.add_assoc]
  show nI m + 0 = nI m
  rw [Int32.add_zero]
theorem hw_M {n : Nat} {x : Int64} {w : jWd} {v : Nat} (hv : v < 2147483648) (hW : WD x w) : ∀ c i f, i + c = lnB x → c < f → lX12_hasWord_4 n (nI v) w f (bI true) (nI i) = some (bI true) ∧ ∃ b : Bool, lX12_hasWord_4 n (nI v) w f (bI false) (nI i) = some (bI b) ∧ (b = true ↔ ∃ j, i ≤ j ∧ j < lnB x ∧ bt x j = v) := by
  have hL := lnB_le x
  intro c
  induction c with
  | zero =>
    intro i f hi hf
    obtain ⟨f, rfl⟩ : ∃ g, f = g + 1 := ⟨f - 1, by omega⟩
    have e : ∀ b : Bool, bX12_hasWord_4 n (nI v) w (lX12_hasWord_4 n (nI v) w f) (bI b) (nI i) = some (bI b) := by
      intro b
      unfold bX12_hasWord_4
      rw [hW.1, if_pos (nI_le (by omega) (by omega)), bI_and]
    refine ⟨e true, false, e false, ?_⟩
    constructor
    · intro q; cases q
    · rintro ⟨j, h1, h2, -⟩
      omega
  | succ c ih =>
    intro i f hi hf
    obtain ⟨f, rfl⟩ : ∃ g, f = g + 1 := ⟨f - 1, by omega⟩
    obtain ⟨i1, b, i2, i3⟩ := ih (i + 1) f (by omega) (by omega)
    refine ⟨?_, ?_⟩
    · show bX12_hasWord_4 n (nI v) w (lX12_hasWord_4 n (nI v) w f) (bI true) (nI i) = _
      unfold bX12_hasWord_4 letV
      rw [hW.1, if_neg (nI_ge (by omega) (by omega)), if_neg (show ¬ bI true = 0 by decide), nI_1]
      exact i1
    · have l4 : ln 214 = 8 := rfl
      by_cases e : bt x i = v
      · refine ⟨true, ?_, ⟨fun _ => ⟨i, by omega, by omega, e⟩, fun _ => rfl⟩⟩
        show bX12_hasWord_4 n (nI v) w (lX12_hasWord_4 n (nI v) w f) (bI false) (nI i) = _
        unfold bX12_hasWord_4 letV
        rw [hW.1, if_neg (nI_ge (by omega) (by omega)), if_pos (show bI false = 0 by decide), l4, grd_N (by omega) (by decide), nI_clamp (by omega), hW.2 i (by omega), if_pos (by rw [e]), nI_1]
        exact i1
      · refine ⟨b, ?_, ?_⟩
        · show bX12_hasWord_4 n (nI v) w (lX12_hasWord_4 n (nI v) w f) (bI false) (nI i) = _
          unfold bX12_hasWord_4 letV
          have := bt_lt x i
          rw [hW.1, if_neg (nI_ge (by omega) (by omega)), if_pos (show bI false = 0 by decide), l4, grd_N (by omega) (by decide), nI_clamp (by omega), hW.2 i (by omega), if_neg (fun q => e ((nI_eq (by omega) (by omega)).mp q)), nI_1]
          exact i2
        · rw [i3]
          constructor
          · rintro ⟨j, h1, h2, h3⟩
            exact ⟨j, by omega, h2, h3⟩
          · rintro ⟨j, h1, h2, h3⟩
            refine ⟨j, ?_, h2, h3⟩
            rcases Nat.lt_or_ge i j with q | q
            · exact q
            · exact absurd ((show j = i by omega) ▸ h3) e
theorem hasW_M {n : Nat} (hn : 8 < n) {x : Int64} (hx : isC x) {w : jWd} {v : Nat} (h1 : 1 ≤ v) (hv : v < 2147483648) (hW : WD x w) : fX12_hasWord n (nI v) w = some (bI ((List.range 8).any (fun j => decide (bt x j = v)))) := by
  have hL := lnB_le x
  obtain ⟨-, b, e, hb⟩ := hw_M (n := n) hv hW (lnB x) 0 n (by omega) (by omega)
  unfold fX12_hasWord
  refine e.trans ?_
  congr 2
  rw [Bool.eq_iff_iff, hb, any_bt]
  constructor
  · rintro ⟨j, -, h2, h3⟩
    exact ⟨j, by omega, h3⟩
  · rintro ⟨j, h2, h3⟩
    refine ⟨j, by omega, ?_, h3⟩
    rcases Nat.lt_or_ge j (lnB x) with q | q
    · exact q
    · have := bt_hi hx q h2
      omega
/-- the pile of booleans, top first -/
def plM (w : jWd) (st : List Bool) : Prop := ∀ k, k < st.length → wI w 216 k = bI (st.getD (st.length - 1 - k) false)
theorem plM_push {w : jWd} {st : List Bool} (h : plM w st) (v : Bool) : plM (sI w 216 st.length (bI v)) (v :: st) := by
  intro k hk
  simp only [List.length_cons] at hk ⊢
  rw [wI_sI]
  by_cases e : k = st.length
  · subst e
    rw [if_pos ⟨rfl, rfl⟩, show st.length + 1 - 1 - st.length = 0 by omega]
    rfl
  · rw [if_neg (fun q => e q.2), h k (by omega), show st.length + 1 - 1 - k = (st.length - 1 - k) + 1 by omega]
    rfl
theorem plM_tail {w : jWd} {b : Bool} {st : List Bool} (h : plM w (b :: st)) : plM w st ∧ wI w 216 st.length = bI b := by
  refine ⟨fun k hk => ?_, ?_⟩
  · rw [h k (by simp only [List.length_cons]; omega)]
    simp only [List.length_cons]
    rw [show st.length + 1 - 1 - k = (st.length - 1 - k) + 1 by omega]
    rfl
  · rw [h st.length (by simp)]
    simp only [List.length_cons]
    rw [show st.length + 1 - 1 - st.length = 0 by omega]
    rfl
theorem hm_step {n : Nat} (hn : 8 < n) {F : Nat → Nat} {t r i : Nat} {x : Int64} (hx : isC x) {w : jWd} {st : List Bool} (ht : t < 2147483648) (hr : r < 12) (hi : i < 200) (hT : i < F (133 + r)) (h200 : F (133 + r) ≤ 200) (hM : FM F w) (hW : WD x w) (hp : plM w st) (hh : stOK F i st) (k : Int32 → jWd → Option (Int32 × jWd)) (rec : Int32 → Int32 → jWd → Option (Int32 × jWd)) (hs : st.length ≤ 60) : ∃ w', bX12_holds_13 n (nI r) (nI t) k rec (nI st.length) (nI i) w = rec (nI (tkF F t x i st).length) (nI (i + 1)) w' ∧ plM w' (tkF F t x i st) ∧ frP P216 w w' := by
  have l1 : ln 211 = 2580 := rfl
  have l6 : ln 216 = 260 := rfl
  have hL := lnB_le x
  have e133 : (133 : Int32) + nI r = nI (133 + r) := nI_add 133 r
  have e145 : (145 : Int32) + (2 : Int32) * nI i = nI (145 + 2 * i) := by rw [show (2 : Int32) = nI 2 from rfl, ev_mul]; exact nI_add 145 (2 * i)
  have e146 : nI (145 + 2 * i) + (1 : Int32) = nI (146 + 2 * i) := by rw [nI_1, show 145 + 2 * i + 1 = 146 + 2 * i by omega]
  unfold bX12_holds_13
  rw [e133, e145, e146, l1, l6, grd_N (by omega) (by decide), nI_clamp (by omega), hM _ (by omega), if_neg (nI_ge hT (by omega)), grd_N (by omega) (by decide), nI_clamp (by omega), hM _ (by omega)]
  dsimp only [letV]
  rw [grd_N (by omega) (by decide), nI_clamp (by omega), hM _ (by omega), nI_1]
  rcases hh with ⟨h2, b, s, rfl⟩ | ⟨h3, b, c, s, rfl⟩ | ⟨h5, h7, hv1, hv0, hl⟩
  · have etk : tkF F t x i (b :: s) = (!b) :: s := by unfold tkF; rw [if_pos h2]; rfl
    rw [etk]
    simp only [List.length_cons] at hs ⊢
    obtain ⟨p1, p2⟩ := plM_tail hp
    have e : ∀ v : Bool, rec (nI (s.length + 1)) (nI (i + 1)) (sI w 216 s.length (vp_nar .boolean (bI v))) = rec (nI (s.length + 1)) (nI (i + 1)) (sI w 216 s.length (bI v)) := fun v => by rw [bI_nar]
    rw [h2, if_pos (show nI 2 = (2 : Int32) from rfl), show (1 : Int32) = nI 1 from rfl, ev_sub (by omega), Nat.add_sub_cancel, grd_N (by omega) (by decide), nI_clamp (by omega), p2]
    refine ⟨sI w 216 s.length (bI (!b)), ?_, plM_push p1 _, frP_sI _ _ rfl⟩
    rw [grd_N (by omega) (by decide), grd_N (by omega) (by decide)]
    cases b
    · rw [if_pos (by decide)]; exact e true
    · rw [if_neg (by decide)]; exact e false
  · simp only [List.length_cons] at hs ⊢
    obtain ⟨p1, p2⟩ := plM_tail hp
    obtain ⟨p3, p4⟩ := plM_tail p1
    simp only [List.length_cons] at p2
    have e : ∀ v : Bool, rec (nI (s.length + 1)) (nI (i + 1)) (sI w 216 s.length (vp_nar .boolean (bI v))) = rec (nI (s.length + 1)) (nI (i + 1)) (sI w 216 s.length (bI v)) := fun v => by rw [bI_nar]
    have e4 : nI (s.length + 1) - (1 : Int32) = nI s.length := nI_pred _
    rcases h3 with h3 | h3
    · have etk : tkF F t x i (b :: c :: s) = (c && b) :: s := by unfold tkF; rw [if_neg (by omega), if_pos h3]; rfl
      rw [etk, List.length_cons]
      rw [h3, if_neg (show ¬ nI 3 = (2 : Int32) by decide), if_pos (show nI 3 = (3 : Int32) from rfl), if_pos (show nI 3 = (3 : Int32) from rfl), nI_dec, e4, grd_N (by omega) (by decide), nI_clamp (by omega), nI_clamp (by omega), p4, p2]
      refine ⟨sI w 216 s.length (bI (c && b)), ?_, plM_push p3 _, frP_sI _ _ rfl⟩
      rw [grd_N (by omega) (by decide), grd_N (by omega) (by decide), grd_N (by omega) (by decide)]
      cases c
      · rw [if_pos (by decide)]; exact e false
      · rw [if_neg (by decide)]
        cases b
        · rw [if_pos (by decide)]; exact e false
        · rw [if_neg (by decide)]; exact e true
    · have etk : tkF F t x i (b :: c :: s) = (c || b) :: s := by unfold tkF; rw [if_neg (by omega), if_neg (by omega), if_pos h3]; rfl
      rw [etk, List.length_cons]
      rw [h3, if_neg (show ¬ nI 4 = (2 : Int32) by decide), if_neg (show ¬ nI 4 = (3 : Int32) by decide), if_pos (show nI 4 = (4 : Int32) from rfl), if_neg (show ¬ nI 4 = (3 : Int32) by decide), nI_dec, e4, grd_N (by omega) (by decide), nI_clamp (by omega), nI_clamp (by omega), p4, p2]
      refine ⟨sI w 216 s.length (bI (c || b)), ?_, plM_push p3 _, frP_sI _ _ rfl⟩
      rw [grd_N (by omega) (by decide), grd_N (by omega) (by decide), grd_N (by omega) (by decide)]
      cases c
      · rw [if_pos (by decide)]
        cases b
        · rw [if_pos (by decide)]; exact e false
        · rw [if_neg (by decide)]; exact e true
      · rw [if_neg (by decide)]; exact e true
  · have etk : tkF F t x i st = lfF F t x i :: st := by unfold tkF; rw [if_neg (by omega), if_neg (by omega), if_neg (by omega)]
    rw [etk, List.length_cons]
    have e : ∀ v : Bool, rec (nI (st.length + 1)) (nI (i + 1)) (sI w 216 st.length (vp_nar .boolean (bI v))) = rec (nI (st.length + 1)) (nI (i + 1)) (sI w 216 st.length (bI v)) := fun v => by rw [bI_nar]
    rw [if_neg (show ¬ nI (F (145 + 2 * i)) = (2 : Int32) from fun q => by have := (nI_eq (b := 2) (by omega) (by decide)).mp q; omega), if_neg (show ¬ nI (F (145 + 2 * i)) = (3 : Int32) from fun q => by have := (nI_eq (b := 3) (by omega) (by decide)).mp q; omega), if_neg (show ¬ nI (F (145 + 2 * i)) = (4 : Int32) from fun q => by have := (nI_eq (b := 4) (by omega) (by decide)).mp q; omega), nI_1, nI_clamp (show st.length < 2 ^ 31 by omega)]
    refine ⟨sI w 216 st.length (bI (lfF F t x i)), ?_, plM_push hp _, frP_sI _ _ rfl⟩
    rw [grd_N (by omega) (by decide), grd_N (by omega) (by decide)]
    unfold lfF
    by_cases e5 : F (145 + 2 * i) = 5
    · rw [if_pos (show nI (F (145 + 2 * i)) = (5 : Int32) by rw [e5]; rfl), if_pos e5, hasW_M hn hx (hv0 e5) (by omega) hW]
      dsimp only [bO]
      rw [grd_N (by omega) (by decide)]
      exact e _
    · rw [if_neg (show ¬ nI (F (145 + 2 * i)) = (5 : Int32) from fun q => by have := (nI_eq (b := 5) (by omega) (by decide)).mp q; omega), if_neg e5]
      by_cases e6 : F (145 + 2 * i) = 6
      · rw [if_pos (show nI (F (145 + 2 * i)) = (6 : Int32) by rw [e6]; rfl), if_pos e6, hW.1]
        by_cases q : F (146 + 2 * i) ≤ lnB x
        · rw [if_neg (nI_nlt q (by omega)), decide_eq_true q]; exact e true
        · rw [if_pos (nI_lt (by omega) (by omega)), decide_eq_false q]; exact e false
      · rw [if_neg (show ¬ nI (F (145 + 2 * i)) = (6 : Int32) from fun q => by have := (nI_eq (b := 6) (by omega) (by decide)).mp q; omega), if_neg e6]
        by_cases q : F (146 + 2 * i) = t
        · rw [if_pos (by rw [q]), decide_eq_true q]; exact e true
        · rw [if_neg (fun z => q ((nI_eq (by omega) (by omega)).mp z)), decide_eq_false q]; exact e false
