/-! the reference's most of THE PRINT and of songs; late -/
def mxR (b : Nat) (v : Int32) : Prop := (b = 0 → v = -1 ∨ v = nI 0) ∧ (b ≠ 0 → v = nI b)
theorem mx_lt {b : Nat} {v : Int32} (h : mxR b v) {H : Nat} (h1 : 1 ≤ H) (hb : b < 2147483648) (hH : H < 2147483648) : v < nI H ↔ b < H := by
  by_cases z : b = 0
  · refine ⟨fun _ => by omega, fun _ => ?_⟩
    rcases h.1 z with y | y
    · rw [y]; exact Int32.lt_of_lt_of_le (by decide) (nI_pos' (by omega))
    · rw [y]; exact nI_lt (by omega) (by omega)
  · rw [h.2 z]
    exact nI_ltI hb hH
theorem mx_le {b : Nat} {v : Int32} (h : mxR b v) {H : Nat} (h1 : 1 ≤ H) (hb : b < 2147483648) (hH : H < 2147483648) : nI H ≤ v ↔ ¬ b < H := by
  rw [← mx_lt h h1 hb hH]
  exact Int32.not_lt.symm
theorem mx_step {b : Nat} {v : Int32} (h : mxR b v) (hb : b < 2147483648) {x : Nat} (hx : x < 2147483648) : (nI x ≤ v → mxR (if b < x then x else b) v) ∧ (¬ nI x ≤ v → mxR (if b < x then x else b) (nI x)) := by
  by_cases z : b = 0
  · rcases h.1 z with y | y
    · subst y
      refine ⟨fun q => ?_, fun _ => ?_⟩
      · exact absurd (Int32.le_trans (nI_pos' hx) q) (by decide)
      · by_cases u : b < x
        · rw [if_pos u]; exact ⟨fun t => by omega, fun _ => rfl⟩
        · rw [if_neg u]; exact ⟨fun _ => .inr (by rw [show x = 0 by omega]), fun t => absurd z t⟩
    · subst y
      refine ⟨fun q => ?_, fun q => ?_⟩
      · have := (nI_leI hx (by decide)).mp q
        rw [if_neg (by omega)]
        exact h
      · have : ¬ x ≤ 0 := fun t => q ((nI_leI hx (by decide)).mpr t)
        rw [if_pos (by omega)]
        exact ⟨fun t => by omega, fun _ => rfl⟩
  · have e := h.2 z
    subst e
    refine ⟨fun q => ?_, fun q => ?_⟩
    · have := (nI_leI hx hb).mp q
      rw [if_neg (by omega)]
      exact h
    · have : ¬ x ≤ b := fun t => q ((nI_leI hx hb).mpr t)
      rw [if_pos (by omega)]
      exact ⟨fun t => by omega, fun _ => rfl⟩
theorem p210_s : ∀ c k, P210 c k → Scr c k := fun c k h => by unfold P210 at h; unfold Scr; omega
section MOST
variable {A : Nat → Nat} {L : Nat → Int64} {F W : Nat → Nat} {w : jWd}
theorem mp_l {n : Nat} (hn : 20 < n) {l : Int64} : ∀ c i f st v (w : jWd), RN A L F W w → i + c = A 162 → c < f → st.1 ≤ 100 → mxR st.1 v → ∃ w' v', lX12_mostOfPrint_5 n l f v (nI i) w = some (v', w') ∧ mxR (nrL (fun i => alkN l (L (480 + i))) 0 c i st).1 v' ∧ frP P210 w w' := by
  intro c
  induction c with
  | zero =>
    intro i f st v w h hi hf h1 h2
    obtain ⟨f, rfl⟩ : ∃ g, f = g + 1 := ⟨f - 1, by omega⟩
    have h60 := h.1.1.2.2.2.1
    refine ⟨w, v, ?_, h2, frP_refl _ _⟩
    show bX12_mostOfPrint_5 n l _ v (nI i) w = _
    unfold bX12_mostOfPrint_5
    rw [RN_A h (show 162 < 1124 by decide), if_pos (nI_le (by omega) (by omega))]
  | succ c ih =>
    intro i f st v w h hi hf h1 h2
    obtain ⟨f, rfl⟩ : ∃ g, f = g + 1 := ⟨f - 1, by omega⟩
    have h60 := h.1.1.2.2.2.1
    have l8 : ln 208 = 2352 := rfl
    obtain ⟨w1, e1, e2⟩ := alk_M hn l (L (480 + i)) w
    have e2 := frP_of e2
    have ha := alkN_le l (L (480 + i))
    have hst := mx_step h2 (by omega) (show alkN l (L (480 + i)) < 2147483648 by omega)
    have h1' : (if st.1 < alkN l (L (480 + i)) then (alkN l (L (480 + i)), 100 * 0 + i) else st).1 ≤ 100 := by split; exact ha; exact h1
    have eif : (if st.1 < alkN l (L (480 + i)) then (alkN l (L (480 + i)), 100 * 0 + i) else st).1 = if st.1 < alkN l (L (480 + i)) then alkN l (L (480 + i)) else st.1 := by split <;> rfl
    have hgo : ∀ v1, mxR (if st.1 < alkN l (L (480 + i)) then alkN l (L (480 + i)) else st.1) v1 → lX12_mostOfPrint_5 n l (f + 1) v (nI i) w = lX12_mostOfPrint_5 n l f v1 (nI (i + 1)) w1 → ∃ w' v', lX12_mostOfPrint_5 n l (f + 1) v (nI i) w = some (v', w') ∧ mxR (nrL (fun i => alkN l (L (480 + i))) 0 (c + 1) i st).1 v' ∧ frP P210 w w' := by
      intro v1 m1 st1
      obtain ⟨w2, v2, i1, i2, i3⟩ := ih (i + 1) f _ v1 w1 (RN_fr (frP_mono p210_s e2) h) (by omega) (by omega) h1' (by rw [eif]; exact m1)
      exact ⟨w2, v2, st1.trans i1, i2, frP_trans e2 i3⟩
    have stp : lX12_mostOfPrint_5 n l (f + 1) v (nI i) w = if nI (alkN l (L (480 + i))) ≤ v then lX12_mostOfPrint_5 n l f v (nI (i + 1)) w1 else lX12_mostOfPrint_5 n l f (nI (alkN l (L (480 + i)))) (nI (i + 1)) w1 := by
      show bX12_mostOfPrint_5 n l (lX12_mostOfPrint_5 n l f) v (nI i) w = _
      unfold bX12_mostOfPrint_5
      rw [RN_A h (show 162 < 1124 by decide), if_neg (nI_ge (by omega) (by omega)), show (480 : Int32) + nI i = nI (480 + i) from nI_add 480 i, l8, grd_N (by omega) (by decide), nI_clamp (by omega), RN_L h (by omega), e1]
      dsimp only [bO2, letV]
      rw [nI_1]
    by_cases q : nI (alkN l (L (480 + i))) ≤ v
    · rw [if_pos q] at stp
      exact hgo v (hst.1 q) stp
    · rw [if_neg q] at stp
      exact hgo _ (hst.2 q) stp
theorem mp_M {n : Nat} (hn : 70 < n) (h : RN A L F W w) (l : Int64) (t : Nat) : ∃ w' v, fX12_mostOfPrint n l w = some (v, w') ∧ mxR (nrS A L F 8 t l).1 v ∧ frP P210 w w' :=
  mp_l (n := n) (by omega) (A 162) 0 n (0, 0) (-1) w h (by omega) (by have := h.1.1.2.2.2.1; omega) (by decide) ⟨fun _ => .inl rfl, fun z => absurd rfl z⟩
def sK (e : Bool) : Nat := if e = true then 6 else 7
theorem sK_sel (e : Bool) (t g : Nat) : amK A t (sK e) g = (decide (A (81 + g) ≤ A 161) == e) := by
  cases e
  · show (!decide (A (81 + g) ≤ A 161)) = _
    cases decide (A (81 + g) ≤ A 161) <;> rfl
  · show decide (A (81 + g) ≤ A 161) = _
    cases decide (A (81 + g) ≤ A 161) <;> rfl
theorem sK_y (e : Bool) (g i : Nat) : yK A L F (sK e) g i = L (12 * g + i) := by cases e <;> rfl
theorem sK_c (e : Bool) (g : Nat) : cK A (sK e) g = A (121 + g) := by cases e <;> rfl
theorem sK_g (e : Bool) : gK A (sK e) = A 0 := by cases e <;> rfl
theorem bI_eq (a b : Bool) : (bI a = bI b) ↔ (a == b) = true := by cases a <;> cases b <;> decide
theorem ms_i {n : Nat} (hn : 20 < n) {l : Int64} {e : Bool} {g : Nat} (K : Int32 → jWd → Option (Int32 × jWd)) : ∀ c i f st v (w : jWd), RN A L F W w → g < A 0 → (decide (A (81 + g) ≤ A 161) == e) = true → i + c = A (121 + g) → c < f → st.1 ≤ 100 → mxR st.1 v → ∃ w' v', lX12_mostOfSongs_20 n l (bI e) (nI g) K f v (nI i) w = K v' w' ∧ mxR (nrL (fun i => alkN l (L (12 * g + i))) g c i st).1 v' ∧ frP P210 w w' := by
  intro c
  induction c with
  | zero =>
    intro i f st v w h hg he hi hf h1 h2
    obtain ⟨f, rfl⟩ : ∃ g, f = g + 1 := ⟨f - 1, by omega⟩
    have h40 := h.1.1.2.1
    have h9 := RN_9 h (121 + g)
    have l7 : ln 207 = 3372 := rfl
    refine ⟨w, v, ?_, h2, frP_refl _ _⟩
    show bX12_mostOfSongs_20 n l (bI e) (nI g) K _ v (nI i) w = _
    unfold bX12_mostOfSongs_20
    rw [show (121 : Int32) + nI g = nI (121 + g) from nI_add 121 g, l7, grd_N (by omega) (by decide), nI_clamp (by omega), RN_A h (show 121 + g < 1124 by omega), if_pos (nI_le (by omega) (by omega))]
  | succ c ih =>
    intro i f st v w h hg he hi hf h1 h2
    obtain ⟨f, rfl⟩ : ∃ g, f = g + 1 := ⟨f - 1, by omega⟩
    have h40 := h.1.1.2.1
    have h9 := h.1.1.2.2.1 g (by omega)
    have l7 : ln 207 = 3372 := rfl
    have l8 : ln 208 = 2352 := rfl
    obtain ⟨w1, e1, e2⟩ := alk_M hn l (L (12 * g + i)) w
    have e2 := frP_of e2
    have ha := alkN_le l (L (12 * g + i))
    have hst := mx_step h2 (by omega) (show alkN l (L (12 * g + i)) < 2147483648 by omega)
    have h1' : (if st.1 < alkN l (L (12 * g + i)) then (alkN l (L (12 * g + i)), 100 * g + i) else st).1 ≤ 100 := by split; exact ha; exact h1
    have eif : (if st.1 < alkN l (L (12 * g + i)) then (alkN l (L (12 * g + i)), 100 * g + i) else st).1 = if st.1 < alkN l (L (12 * g + i)) then alkN l (L (12 * g + i)) else st.1 := by split <;> rfl
    have hgo : ∀ v1, mxR (if st.1 < alkN l (L (12 * g + i)) then alkN l (L (12 * g + i)) else st.1) v1 → lX12_mostOfSongs_20 n l (bI e) (nI g) K (f + 1) v (nI i) w = lX12_mostOfSongs_20 n l (bI e) (nI g) K f v1 (nI (i + 1)) w1 → ∃ w' v', lX12_mostOfSongs_20 n l (bI e) (nI g) K (f + 1) v (nI i) w = K v' w' ∧ mxR (nrL (fun i => alkN l (L (12 * g + i))) g (c + 1) i st).1 v' ∧ frP P210 w w' := by
      intro v1 m1 st1
      obtain ⟨w2, v2, i1, i2, i3⟩ := ih (i + 1) f _ v1 w1 (RN_fr (frP_mono p210_s e2) h) hg he (by omega) (by omega) h1' (by rw [eif]; exact m1)
      exact ⟨w2, v2, st1.trans i1, i2, frP_trans e2 i3⟩
    have stp : lX12_mostOfSongs_20 n l (bI e) (nI g) K (f + 1) v (nI i) w = if nI (alkN l (L (12 * g + i))) ≤ v then lX12_mostOfSongs_20 n l (bI e) (nI g) K f v (nI (i + 1)) w1 else lX12_mostOfSongs_20 n l (bI e) (nI g) K f (nI (alkN l (L (12 * g + i)))) (nI (i + 1)) w1 := by
      show bX12_mostOfSongs_20 n l (bI e) (nI g) K (lX12_mostOfSongs_20 n l (bI e) (nI g) K f) v (nI i) w = _
      unfold bX12_mostOfSongs_20
      rw [show (121 : Int32) + nI g = nI (121 + g) from nI_add 121 g, l7, grd_N (by omega) (by decide), nI_clamp (by omega), RN_A h (show 121 + g < 1124 by omega), if_neg (nI_ge (by omega) (by omega)), early_M h (by omega)]
      dsimp only [bO]
      rw [if_pos ((bI_eq _ _).mpr he), show (12 : Int32) * nI g + nI i = nI (12 * g + i) by rw [show (12 : Int32) = nI 12 from rfl, ev_mul, nI_add], l8, grd_N (by omega) (by decide), nI_clamp (by omega), RN_L h (by omega), e1]
      dsimp only [bO2, letV]
      rw [nI_1]
    by_cases q : nI (alkN l (L (12 * g + i))) ≤ v
    · rw [if_pos q] at stp
      exact hgo v (hst.1 q) stp
    · rw [if_neg q] at stp
      exact hgo _ (hst.2 q) stp
theorem ms_l {n : Nat} (hn : 70 < n) {l : Int64} {e : Bool} {t : Nat} : ∀ c g f st v (w : jWd), RN A L F W w → g + c = A 0 → c < f → st.1 ≤ 100 → mxR st.1 v → ∃ w' v', lX12_mostOfSongs_6 n l (bI e) f v (nI g) w = some (v', w') ∧ mxR (nrG (amK A t (sK e)) (cK A (sK e)) (fun g i => alkN l (yK A L F (sK e) g i)) c g st).1 v' ∧ frP P210 w w' := by
  intro c
  induction c with
  | zero =>
    intro g f st v w h hg hf h1 h2
    obtain ⟨f, rfl⟩ : ∃ g, f = g + 1 := ⟨f - 1, by omega⟩
    have h40 := h.1.1.2.1
    refine ⟨w, v, ?_, h2, frP_refl _ _⟩
    show bX12_mostOfSongs_6 n l (bI e) _ v (nI g) w = _
    unfold bX12_mostOfSongs_6
    rw [RN_A h (show 0 < 1124 by decide), if_pos (nI_le (by omega) (by omega))]
  | succ c ih =>
    intro g f st v w h hg hf h1 h2
    obtain ⟨f, rfl⟩ : ∃ g, f = g + 1 := ⟨f - 1, by omega⟩
    have h40 := h.1.1.2.1
    have h9 := h.1.1.2.2.1 g (by omega)
    have l7 : ln 207 = 3372 := rfl
    have step : lX12_mostOfSongs_6 n l (bI e) (f + 1) v (nI g) w = lX12_mostOfSongs_20 n l (bI e) (nI g) (fun (z4_13 : Int32) (w_12 : jWd) => lX12_mostOfSongs_6 n l (bI e) f z4_13 (nI (g + 1)) w_12) n v (nI 0) w := by
      show bX12_mostOfSongs_6 n l (bI e) (lX12_mostOfSongs_6 n l (bI e) f) v (nI g) w = _
      unfold bX12_mostOfSongs_6
      rw [RN_A h (show 0 < 1124 by decide), if_neg (nI_ge (by omega) (by omega))]
      dsimp only [letV]
      rw [nI_1]
      rfl
    rw [step]
    unfold nrG
    rw [sK_sel, sK_c]
    by_cases q : (decide (A (81 + g) ≤ A 161) == e) = true
    · obtain ⟨w1, v1, e1, e2, e3⟩ := ms_i (n := n) (by omega) (l := l) (e := e) (g := g) (fun (z4_13 : Int32) (w_12 : jWd) => lX12_mostOfSongs_6 n l (bI e) f z4_13 (nI (g + 1)) w_12) (A (121 + g)) 0 n st v w h (by omega) q (by omega) (by omega) h1 h2
      have hb : nrL (fun i => alkN l (yK A L F (sK e) g i)) g (A (121 + g)) 0 st = nrL (fun i => alkN l (L (12 * g + i))) g (A (121 + g)) 0 st := by
        congr 1
        funext i
        rw [sK_y]
      obtain ⟨w2, v2, i1, i2, i3⟩ := ih (g + 1) f _ v1 w1 (RN_fr (frP_mono p210_s e3) h) (by omega) (by omega) (nrL_1 (fun i => alkN_le _ _) _ _ _ h1) e2
      rw [if_pos q, hb]
      exact ⟨w2, v2, e1.trans i1, i2, frP_trans e3 i3⟩
    · rw [if_neg q]
      obtain ⟨w2, v2, i1, i2, i3⟩ := ih (g + 1) f st v w h (by omega) (by omega) h1 h2
      refine ⟨w2, v2, Eq.trans ?_ i1, i2, i3⟩
      obtain ⟨m, hm⟩ : ∃ g, n = g + 1 := ⟨n - 1, by omega⟩
      have hst : ∀ (K : Int32 → jWd → Option (Int32 × jWd)) m, lX12_mostOfSongs_20 n l (bI e) (nI g) K (m + 1) v (nI 0) w = bX12_mostOfSongs_20 n l (bI e) (nI g) K (lX12_mostOfSongs_20 n l (bI e) (nI g) K m) v (nI 0) w := fun _ _ => rfl
      refine (congrArg (fun z => lX12_mostOfSongs_20 n l (bI e) (nI g) _ z v (nI 0) w) hm).trans ((hst _ m).trans ?_)
      unfold bX12_mostOfSongs_20
      rw [show (121 : Int32) + nI g = nI (121 + g) from nI_add 121 g, l7, grd_N (by omega) (by decide), nI_clamp (by omega), RN_A h (show 121 + g < 1124 by omega), early_M h (by omega)]
      dsimp only [bO]
      rw [if_neg (fun z => q ((bI_eq _ _).mp z))]
      split <;> rfl
theorem ms_M {n : Nat} (hn : 70 < n) (h : RN A L F W w) (l : Int64) (e : Bool) (t : Nat) : ∃ w' v, fX12_mostOfSongs n l (bI e) w = some (v, w') ∧ mxR (nrS A L F (sK e) t l).1 v ∧ frP P210 w w' := by
  obtain ⟨w', v, e1, e2, e3⟩ := ms_l (n := n) hn (l := l) (e := e) (t := t) (A 0) 0 n (0, 0) (-1) w h (by omega) (by have := h.1.1.2.1; omega) (by decide) ⟨fun _ => .inl rfl, fun z => absurd rfl z⟩
  refine ⟨w', v, e1, ?_, e3⟩
  unfold nrS
  rw [sK_g]
  exact e2
end MOST
theorem rx_id5 (u : jWd) : bO2 (fX11_refuse (-5 : Int32) u) (fun (r : Int32) (v : jWd) => some (r, v)) = some ((-5 : Int32), rfX u 5) := by rw [rf_X5]; rfl
theorem no_id5 (u : jWd) : bO2 (fX12_no (-5 : Int32) u) (fun (r : Int32) (v : jWd) => some (r, v)) = some ((-5 : Int32), rfM u 5) := by rw [rf_M5]; rfl
theorem s_late : fS_late RR := by
  intro w a0 a1 hw
  obtain ⟨⟨A, L, F, W, h⟩, -⟩ := id hw
  have h40 := h.1.1.2.1
  have l7 : ln 207 = 3372 := rfl
  have l8 : ln 208 = 2352 := rfl
  obtain ⟨b1, b2, b3⟩ := h.1.1.2.2.2.2.2.2.1
  refine ⟨20000, rr_call hw ?_⟩
  -- no such line
  have bad : fX5_has_ 2 a0 a1 w = some (bI false) → (∀ w1, RN A L F W w1 → fX12_isLine (0 : Int32) a0 a1 w1 = some 0) → noX (fX11_late 20000 a0 a1 w) w (-2) 2 ∧ ∀ w1, frS2 w w1 → noM (fX12_late 20000 a0 a1 w1) w1 (-2) 2 := by
    intro q1 q2
    refine ⟨⟨w, ?_, frP_refl _ _⟩, fun w1 f1 => ⟨sI w1 205 0 (0 : Int32), ?_, frS_0 w1⟩⟩
    · unfold fX11_late
      rw [q1]
      dsimp only [bO]
      rw [if_pos (by decide), rx_id2]
    · have h1 := RN_fr2 (frP_trans f1 (frS_2 (frS_0 w1))) h
      unfold fX12_late letV
      dsimp only
      rw [q2 _ h1]
      dsimp only [bO]
      rw [if_pos rfl, no_id2]
  rcases ix_cs a0 (A 0) with ⟨s, hs, rfl⟩ | hn
  · have h12 := h.1.1.2.2.1 s (by omega)
    have hl : ∀ w1, RN A L F W w1 → fX12_isLine (0 : Int32) (nI s) a1 w1 = (if (fX12_within ((a1).toInt64) (0 : Int64) ((nI (A (121 + s)) - (1 : Int32)).toInt64)) = 0 then some (0 : Int32) else some (1 : Int32)) := by
      intro w1 h1
      unfold fX12_isLine
      rw [if_pos rfl, RN_A h1 (show 0 < 1124 by decide), if_neg (wi_yes hs (by omega)), show (121 : Int32) + nI s = nI (121 + s) from nI_add 121 s, l7, grd_N (by omega) (by decide), nI_clamp (by omega), RN_A h1 (show 121 + s < 1124 by omega)]
    rcases ix_cs a1 (A (121 + s)) with ⟨k, hk, rfl⟩ | hn
    · have hhas : fX5_has_ 2 (nI s) (nI k) w = some (bI true) := by
        have e := hasi_X (k := 0) (g := s) h (by decide) hs (i := k) (by omega)
        rw [show decide (k < cK A 0 s) = true from decide_eq_true hk] at e
        exact e
      have hat : fX5_at 2 (nI s) (nI k) w = some (L (12 * s + k)) := at_X (k := 0) (g := s) h (by decide) (by decide) hs hk
      have hl1 : ∀ w1, RN A L F W w1 → fX12_isLine (0 : Int32) (nI s) (nI k) w1 = some 1 := fun w1 h1 => by rw [hl w1 h1, if_neg (wi_yes hk (by omega))]
      have hC := (h.1.2.2.1.1 s k hs hk).1
      by_cases he : A (81 + s) ≤ A 161
      · refine .inr ⟨-5, 5, by decide, by decide, ⟨w, ?_, frP_refl _ _⟩, fun w1 f1 => ⟨sI w1 205 0 (0 : Int32), ?_, frS_0 w1⟩⟩
        · unfold fX11_late
          rw [hhas]
          dsimp only [bO]
          rw [if_neg (by decide), early_X h hs]
          dsimp only [bO]
          rw [ev_bI, if_pos he, rx_id5]
        · have h1 := RN_fr2 (frP_trans f1 (frS_2 (frS_0 w1))) h
          unfold fX12_late letV
          dsimp only
          rw [hl1 _ h1]
          dsimp only [bO]
          rw [if_neg (by decide), early_M h1 (by omega)]
          dsimp only [bO]
          rw [ev_bI, if_pos he, no_id5]
      · left
        have n6 := nrS_le (L := L) (F := F) h.1.1 (k := 6) (t := 0) (l := L (12 * s + k))
        have n8 := nrS_le (L := L) (F := F) h.1.1 (k := 8) (t := 0) (l := L (12 * s + k))
        refine ⟨if (nrS A L F 6 0 (L (12 * s + k))).1 < A 248 then (if (nrS A L F 8 0 (L (12 * s + k))).1 < A 248 then 0 else 2) else 1, ?_, fun w1 f1 => ?_⟩
        · obtain ⟨w2, e1, e2, e3⟩ := nr_X (n := 20000) (by decide) h (k := 6) (t := 0) (by decide) (by decide) hC (tale := -1) (fun q => absurd q (by decide))
          have h2 := RN_fr (frP_mono p182_s e3) h
          obtain ⟨w3, g1, g2, g3⟩ := nr_X (n := 20000) (by decide) h2 (k := 8) (t := 0) (by decide) (by decide) hC (tale := -1) (fun q => absurd q (by decide))
          have h3 := RN_fr (frP_mono p182_s g3) h2
          have x2 : wI w2 1 11 = nI (A 248) := h2.2.1.2.2.2.2.2.2.2.2.2.2.1
          have x3 : wI w3 1 11 = nI (A 248) := h3.2.1.2.2.2.2.2.2.2.2.2.2.1
          have e1 : fX2_nearest 20000 (6 : Int32) (L (12 * s + k)) (-1 : Int32) w = _ := e1
          have g1 : fX2_nearest 20000 (8 : Int32) (L (12 * s + k)) (-1 : Int32) w2 = _ := g1
          have main : fX11_late 20000 (nI s) (nI k) w = if (nrS A L F 6 0 (L (12 * s + k))).1 < A 248 then (if (nrS A L F 8 0 (L (12 * s + k))).1 < A 248 then some ((0 : Int32), w3) else some ((2 : Int32), w3)) else some ((1 : Int32), w2) := by
            unfold fX11_late
            rw [hhas]
            dsimp only [bO]
            rw [if_neg (by decide), early_X h hs]
            dsimp only [bO]
            rw [ev_bI, if_neg he, hat]
            dsimp only [bO]
            rw [e1]
            dsimp only [bO2]
            rw [x2, g1]
            dsimp only [bO2]
            rw [x3]
            simp (disch := omega) only [ev_lt]
          by_cases q6 : (nrS A L F 6 0 (L (12 * s + k))).1 < A 248
          · by_cases q8 : (nrS A L F 8 0 (L (12 * s + k))).1 < A 248
            · rw [if_pos q6, if_pos q8] at main
              exact ⟨w3, by rw [main, if_pos q6, if_pos q8], frP_mono p182_s (frP_trans e3 g3)⟩
            · rw [if_pos q6, if_neg q8] at main
              exact ⟨w3, by rw [main, if_pos q6, if_neg q8], frP_mono p182_s (frP_trans e3 g3)⟩
          · rw [if_neg q6] at main
            exact ⟨w2, by rw [main, if_neg q6], frP_mono p182_s e3⟩
        · have f2 := frP_trans f1 (frS_2 (frS_0 w1))
          have h1 := RN_fr2 f2 h
          obtain ⟨w2, v2, e1, e2, e3⟩ := ms_M (n := 20000) (by decide) h1 (L (12 * s + k)) true 0
          have h2 := RN_fr (frP_mono p210_s e3) h1
          obtain ⟨w3, v3, g1, g2, g3⟩ := mp_M (n := 20000) (by decide) h2 (L (12 * s + k)) 0
          have h3 := RN_fr (frP_mono p210_s g3) h2
          have e1 : fX12_mostOfSongs 20000 (L (12 * s + k)) (1 : Int32) _ = _ := e1
          have e12 : (12 : Int32) * nI s + nI k = nI (12 * s + k) := by rw [show (12 : Int32) = nI 12 from rfl, ev_mul, nI_add]
          have main : fX12_late 20000 (nI s) (nI k) w1 = if v2 < nI (A 248) then (if v3 < nI (A 248) then some ((0 : Int32), w3) else some ((2 : Int32), w3)) else some ((1 : Int32), w2) := by
            unfold fX12_late letV
            dsimp only
            rw [hl1 _ h1]
            dsimp only [bO]
            rw [if_neg (by decide), early_M h1 (by omega)]
            dsimp only [bO]
            rw [ev_bI, if_neg he, e12, l8, grd_N (by omega) (by decide), nI_clamp (by omega), RN_L h1 (by omega), e1]
            dsimp only [bO2]
            rw [RN_A h2 (show 248 < 1124 by decide), g1]
            dsimp only [bO2]
            rw [RN_A h3 (show 248 < 1124 by decide)]
          have l2 : v2 < nI (A 248) ↔ (nrS A L F 6 0 (L (12 * s + k))).1 < A 248 := mx_lt e2 (by omega) (by have : (nrS A L F (sK true) 0 (L (12 * s + k))).1 ≤ 100 := n6.1; omega) (by omega)
          have l3 : v3 < nI (A 248) ↔ (nrS A L F 8 0 (L (12 * s + k))).1 < A 248 := mx_lt g2 (by omega) (by omega) (by omega)
          have fa : frS w1 w2 := frP_trans (frS_0 w1) (frP_mono p210_s e3)
          have fb : frS w1 w3 := frP_trans fa (frP_mono p210_s g3)
          by_cases q6 : (nrS A L F 6 0 (L (12 * s + k))).1 < A 248
          · by_cases q8 : (nrS A L F 8 0 (L (12 * s + k))).1 < A 248
            · rw [if_pos (l2.mpr q6), if_pos (l3.mpr q8)] at main
              exact ⟨w3, by rw [main, if_pos q6, if_pos q8], fb⟩
            · rw [if_pos (l2.mpr q6), if_neg (fun z => q8 (l3.mp z))] at main
              exact ⟨w3, by rw [main, if_pos q6, if_neg q8], fb⟩
          · rw [if_neg (fun z => q6 (l2.mp z))] at main
            exact ⟨w2, by rw [main, if_neg q6], fa⟩
    · refine .inr ⟨-2, 2, by decide, by decide, bad (hasi_no (k := 0) (g := s) h (by decide) hs hn) (fun w1 h1 => ?_)⟩
      rw [hl w1 h1, if_pos (wi_no hn (by omega))]
  · refine .inr ⟨-2, 2, by decide, by decide, bad ?_ (fun w1 h1 => ?_)⟩
    · unfold fX5_has_
      rw [has_no hn (by omega) h.2.1.1.1]
      rfl
    · unfold fX12_isLine
      rw [if_pos rfl, RN_A h1 (show 0 < 1124 by decide), if_pos (wi_no hn (by omega))]
