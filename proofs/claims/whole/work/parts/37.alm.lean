/-! ALIKE in the reference: the table of common runs -/
theorem grd_N {α : Type} {k n : Nat} {x : Option α} (h : k < n) (hn : n < 2 ^ 31) : grd (nI k) n x = x := if_neg (nI_in h hn)
/-- a world that differs in int cells only, where P allows it -/
def frI (P : Nat → Nat → Prop) (w w' : jWd) : Prop := (∀ c k, ¬ P c k → wI w' c k = wI w c k) ∧ ∀ c k, wJ w' c k = wJ w c k
theorem frI_refl (P : Nat → Nat → Prop) (w : jWd) : frI P w w := ⟨fun _ _ _ => rfl, fun _ _ => rfl⟩
theorem frI_trans {P : Nat → Nat → Prop} {w w1 w2 : jWd} (h : frI P w w1) (h2 : frI P w1 w2) : frI P w w2 :=
  ⟨fun c k q => (h2.1 c k q).trans (h.1 c k q), fun c k => (h2.2 c k).trans (h.2 c k)⟩
theorem frI_sI {P : Nat → Nat → Prop} (w : jWd) {c k : Nat} (v : Int32) (h : P c k) : frI P w (sI w c k v) :=
  ⟨fun a b q => by
    rw [wI_sI, if_neg]
    intro e
    obtain ⟨rfl, rfl⟩ := e
    exact q h, fun _ _ => rfl⟩
def P210 (c _ : Nat) : Prop := c = 210
/-- the table as far as it is filled: rows below i, and of row i the columns below j -/
def tbO (a b : Nat → Nat) (m : Nat) (w : jWd) (i j : Nat) : Prop := ∀ p q, q ≤ m → (p < i ∨ (p = i ∧ q < j)) → wI w 210 (9 * p + q) = nI (lcT a b p q)
set_option maxHeartbeats 2000000 in
theorem bl_37 (n : Nat) (x y : Int64) (p5 : Int32) {m : Nat} (hm : m ≤ 8) (k : jWd → Option (Int32 × jWd)) (rec : Int32 → jWd → Option (Int32 × jWd)) {i j : Nat} (hi : i ≤ 8) (hj : j ≤ m) {w : jWd} (h : tbO (bt x) (bt y) m w i j) : bX12_likeOf_37 n x y p5 (nI m) (nI i) k rec (nI j) w = rec (nI (j + 1)) (sI w 210 (9 * i + j) (nI (lcT (bt x) (bt y) i j))) := by
  have e81 : ln 210 = 81 := rfl
  have eM : ∀ p : Nat, (9 : Int32) * nI p = nI (9 * p) := fun p => pk_mul 9 p
  unfold bX12_likeOf_37 letV
  rw [if_neg (nI_nlt hj (by omega))]
  dsimp only
  rw [e81, eM, nI_add, nI_1, nI_clamp (show 9 * i + j < 2 ^ 31 by omega)]
  simp only [grd_N (show 9 * i + j < 81 by omega) (show 81 < 2 ^ 31 by decide)]
  cases i with
  | zero =>
    rw [if_pos (show nI 0 ≤ (0 : Int32) by decide), lcT_00]
    rfl
  | succ i =>
    rw [if_neg (show ¬ nI (i + 1) ≤ (0 : Int32) from nI_nle (by omega) (by omega))]
    cases j with
    | zero =>
      rw [if_pos (show nI 0 ≤ (0 : Int32) by decide), lcT_0]
      rfl
    | succ j =>
      have h1 := h i (j + 1) (by omega) (.inl (by omega))
      have h2 := h (i + 1) j (by omega) (.inr ⟨rfl, by omega⟩)
      have h3 := h i j (by omega) (.inl (by omega))
      have l1 := lcT_le (bt x) (bt y) i (j + 1)
      have l2 := lcT_le (bt x) (bt y) (i + 1) j
      have l3 := lcT_le (bt x) (bt y) i j
      have i1 : nI (9 * (i + 1)) - (9 : Int32) + nI (j + 1) = nI (9 * i + (j + 1)) := by
        rw [show (9 : Int32) = nI 9 from rfl, pk_sub (by omega), nI_add]
        exact congrArg nI (by omega)
      have i2 : nI (9 * (i + 1) + (j + 1)) - (1 : Int32) = nI (9 * (i + 1) + j) := nI_pred (9 * (i + 1) + j)
      have i3 : nI (9 * i + (j + 1)) - (1 : Int32) = nI (9 * i + j) := nI_pred (9 * i + j)
      rw [if_neg (show ¬ nI (j + 1) ≤ (0 : Int32) from nI_nle (by omega) (by omega))]
      rw [i1, i2, i3, nI_pred i, nI_pred j, word_M x (by omega), word_M y (by omega), grd_N (by omega) (by decide), grd_N (by omega) (by decide), nI_clamp (show 9 * i + (j + 1) < 2 ^ 31 by omega), nI_clamp (show 9 * (i + 1) + j < 2 ^ 31 by omega), nI_clamp (show 9 * i + j < 2 ^ 31 by omega), h1, h2, h3, nI_1]
      simp only [grd_N (show 9 * (i + 1) + j < 81 by omega) (show 81 < 2 ^ 31 by decide), grd_N (show 9 * i + (j + 1) < 81 by omega) (show 81 < 2 ^ 31 by decide), grd_N (show 9 * i + j < 81 by omega) (show 81 < 2 ^ 31 by decide)]
      have hx := bt_lt x i
      have hy := bt_lt y j
      rw [lcT_ss]
      generalize lcT (bt x) (bt y) i (j + 1) = up at *
      generalize lcT (bt x) (bt y) (i + 1) j = lf at *
      generalize lcT (bt x) (bt y) i j = dg at *
      have fin : ∀ s, s = max up lf → (if nI (bt x i) = nI (bt y j) then if nI (dg + 1) ≤ nI s then rec (nI (j + 1 + 1)) (sI w 210 (9 * (i + 1) + (j + 1)) (nI s)) else rec (nI (j + 1 + 1)) (sI w 210 (9 * (i + 1) + (j + 1)) (nI (dg + 1))) else rec (nI (j + 1 + 1)) (sI w 210 (9 * (i + 1) + (j + 1)) (nI s))) = rec (nI (j + 1 + 1)) (sI w 210 (9 * (i + 1) + (j + 1)) (nI (max (max up lf) (if bt x i = bt y j then dg + 1 else 0)))) := by
        intro s hs
        by_cases e : bt x i = bt y j
        · rw [if_pos (show nI (bt x i) = nI (bt y j) by rw [e]), if_pos e]
          by_cases q : dg + 1 ≤ s
          · rw [if_pos (nI_le q (by omega)), show max (max up lf) (dg + 1) = s by omega]
          · rw [if_neg (nI_ge (by omega) (by omega)), show max (max up lf) (dg + 1) = dg + 1 by omega]
        · rw [if_neg (show ¬ nI (bt x i) = nI (bt y j) from fun q => e ((nI_eq (by omega) (by omega)).mp q)), if_neg e, show max (max up lf) 0 = s by omega]
      by_cases q : up ≤ lf
      · rw [if_pos (nI_le q (by omega))]
        exact fin lf (by omega)
      · rw [if_neg (nI_ge (by omega) (by omega))]
        exact fin up (by omega)
