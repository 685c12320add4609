/-! ALIKE in the reference: rows, table, hundredths -/
theorem tbO_step {a b : Nat → Nat} {m i j : Nat} {w : jWd} (h : tbO a b m w i j) (hm : m ≤ 8) (hj : j ≤ m) : tbO a b m (sI w 210 (9 * i + j) (nI (lcT a b i j))) i (j + 1) := by
  intro p q hq hc
  rw [wI_sI]
  by_cases e : p = i ∧ q = j
  · obtain ⟨rfl, rfl⟩ := e
    rw [if_pos ⟨rfl, rfl⟩]
  · rw [if_neg (by omega)]
    exact h p q hq (by omega)
theorem bl_row (n : Nat) (x y : Int64) (p5 : Int32) {m : Nat} (hm : m ≤ 8) (k : jWd → Option (Int32 × jWd)) {i : Nat} (hi : i ≤ 8) : ∀ c j f (w : jWd), j + c = m + 1 → c < f → tbO (bt x) (bt y) m w i j → ∃ w', lX12_likeOf_37 n x y p5 (nI m) (nI i) k f (nI j) w = k w' ∧ tbO (bt x) (bt y) m w' (i + 1) 0 ∧ frI P210 w w' := by
  intro c
  induction c with
  | zero =>
    intro j f w h hf ht
    obtain ⟨f, rfl⟩ : ∃ g, f = g + 1 := ⟨f - 1, by omega⟩
    refine ⟨w, ?_, ?_, frI_refl _ _⟩
    · unfold lX12_likeOf_37 bX12_likeOf_37
      rw [if_pos (nI_lt (by omega) (by omega))]
    · intro p q hq hc
      exact ht p q hq (by omega)
  | succ c ih =>
    intro j f w h hf ht
    obtain ⟨f, rfl⟩ : ∃ g, f = g + 1 := ⟨f - 1, by omega⟩
    obtain ⟨w', h1, h2, h3⟩ := ih (j + 1) f _ (by omega) (by omega) (tbO_step ht hm (by omega))
    refine ⟨w', ?_, h2, frI_trans (frI_sI w _ rfl) h3⟩
    show bX12_likeOf_37 n x y p5 (nI m) (nI i) k (lX12_likeOf_37 n x y p5 (nI m) (nI i) k f) (nI j) w = _
    rw [bl_37 n x y p5 hm k _ hi (by omega) ht]
    exact h1
theorem bl_tab (n : Nat) (hn : 20 < n) (x y : Int64) {m l : Nat} (hm : m ≤ 8) (hl : l ≤ 8) (k : jWd → Option (Int32 × jWd)) : ∀ c i f (w : jWd), i + c = l + 1 → c < f → tbO (bt x) (bt y) m w i 0 → ∃ w', lX12_likeOf_27 n x y (nI l) (nI m) k f (nI i) w = k w' ∧ tbO (bt x) (bt y) m w' (l + 1) 0 ∧ frI P210 w w' := by
  intro c
  induction c with
  | zero =>
    intro i f w h hf ht
    obtain ⟨f, rfl⟩ : ∃ g, f = g + 1 := ⟨f - 1, by omega⟩
    have e : i = l + 1 := by omega
    subst e
    refine ⟨w, ?_, ht, frI_refl _ _⟩
    unfold lX12_likeOf_27 bX12_likeOf_27
    rw [if_pos (nI_lt (by omega) (by omega))]
  | succ c ih =>
    intro i f w h hf ht
    obtain ⟨f, rfl⟩ : ∃ g, f = g + 1 := ⟨f - 1, by omega⟩
    obtain ⟨w1, a1, a2, a3⟩ := bl_row n x y (nI l) hm (fun (w_22 : jWd) => letV (nI i + (1 : Int32)) (fun (x7_23 : Int32) => lX12_likeOf_27 n x y (nI l) (nI m) k f x7_23 w_22)) (show i ≤ 8 by omega) (m + 1) 0 n w (by omega) (by omega) ht
    obtain ⟨w', h1, h2, h3⟩ := ih (i + 1) f w1 (by omega) (by omega) a2
    refine ⟨w', ?_, h2, frI_trans a3 h3⟩
    unfold lX12_likeOf_27 bX12_likeOf_27
    rw [if_neg (nI_nlt (by omega) (by omega))]
    refine Eq.trans a1 ?_
    unfold letV
    rw [nI_1]
    exact h1
theorem lcN_z {x y : Int64} (h : lnB x = 0 ∨ lnB y = 0) : alkN x y = 0 := by
  have : lcN x y = 0 := by
    rcases h with h | h
    · unfold lcN; rw [h]; rfl
    · unfold lcN; rw [h, lcT_0]
  unfold alkN
  rw [this, Nat.mul_zero, Nat.zero_div]
theorem alk_M {n : Nat} (hn : 20 < n) (x y : Int64) (w : jWd) : ∃ w', fX12_likeOf n x y w = some (nI (alkN x y), w') ∧ frI P210 w w' := by
  have hlx := lnB_le x
  have hly := lnB_le y
  unfold fX12_likeOf
  rw [len_M (by omega), len_M (by omega)]
  by_cases h1 : lnB x = 0
  · refine ⟨w, ?_, frI_refl _ _⟩
    rw [lcN_z (.inl h1), h1]
    rfl
  by_cases h2 : lnB y = 0
  · refine ⟨w, ?_, frI_refl _ _⟩
    rw [lcN_z (.inr h2)]
    show (if nI (lnB x) = 0 then _ else if nI (lnB y) = 0 then _ else _) = _
    rw [if_neg (fun q => h1 ((nI_z (by omega)).mp q)), h2, if_pos nI_0, nI_0]
  obtain ⟨w', a1, a2, a3⟩ := bl_tab n hn x y hly hlx (fun (w_25 : jWd) => grd (((9 : Int32) * nI (lnB x)) + nI (lnB y)) (ln 210) (letV (fun (s_27 : Int32) => grzi s_27 (some ((((100 : Int32) * (wI w_25 210 ((((9 : Int32) * nI (lnB x)) + nI (lnB y))).toNatClampNeg)) / s_27), w_25))) (fun (j250_28 : Int32 → Option (Int32 × jWd)) => if nI (lnB x) ≤ nI (lnB y) then j250_28 (nI (lnB y)) else j250_28 (nI (lnB x))))) (lnB x + 1) 0 n w (by omega) (by omega) (fun p q _ h => by omega)
  refine ⟨w', ?_, a3⟩
  show (if nI (lnB x) = 0 then _ else if nI (lnB y) = 0 then _ else _) = _
  rw [if_neg (fun q => h1 ((nI_z (by omega)).mp q)), if_neg (fun q => h2 ((nI_z (by omega)).mp q))]
  refine Eq.trans a1 ?_
  have e := a2 (lnB x) (lnB y) (Nat.le_refl _) (.inl (by omega))
  have hc := lcN_le x y
  have hs : ∀ s : Nat, s = max (lnB x) (lnB y) → grzi (nI s) (some ((((100 : Int32) * (nI (lcN x y))) / nI s), w')) = some (nI (alkN x y), w') := by
    intro s hs
    unfold grzi
    rw [if_neg (fun q => by have := (nI_z (show s < 2 ^ 31 by omega)).mp q; omega), show (100 : Int32) = nI 100 from rfl, pk_mul, pk_div (by omega) (by omega) (by omega), hs]
    rfl
  unfold letV
  dsimp only
  rw [show (9 : Int32) * nI (lnB x) = nI (9 * lnB x) from pk_mul 9 _, nI_add, nI_clamp (by omega), e, show ln 210 = 81 from rfl, grd_N (show 9 * lnB x + lnB y < 81 by omega) (by decide)]
  show (if nI (lnB x) ≤ nI (lnB y) then grzi (nI (lnB y)) (some ((((100 : Int32) * (nI (lcN x y))) / nI (lnB y)), w')) else grzi (nI (lnB x)) (some ((((100 : Int32) * (nI (lcN x y))) / nI (lnB x)), w'))) = _
  by_cases q : lnB x ≤ lnB y
  · rw [if_pos (nI_le q (by omega))]
    exact hs _ (by omega)
  · rw [if_neg (nI_ge (by omega) (by omega))]
    exact hs _ (by omega)
