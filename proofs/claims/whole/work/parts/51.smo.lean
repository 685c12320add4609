/-! SMOOTHING: words laid into a line; what a fashion does, over numbers -/
def pkW (f : Nat → Nat) : Nat → Int64
  | 0 => 0
  | n + 1 => pkW f n ||| l_shl (nI (f n)).toInt64 (nI (56 - 8 * n))
theorem bt_pkW (f : Nat → Nat) : ∀ n, n ≤ 8 → (∀ k, k < n → f k < 256) → ∀ i, i < 8 → bt (pkW f n) i = if i < n then f i else 0 := by
  intro n
  induction n with
  | zero => intro _ _ i _; rw [if_neg (by omega)]; exact bt_0 i
  | succ n ih =>
    intro hn hf i hi
    show bt (pkW f n ||| _) i = _
    rw [bt_or, ih (by omega) (fun k hk => hf k (by omega)) i hi, bt_at (hf n (by omega)) (by omega) hi]
    by_cases h : i < n
    · rw [if_pos h, if_neg (by omega), if_pos (by omega), Nat.or_zero]
    · rw [if_neg h]
      by_cases e : i = n
      · subst e; rw [if_pos rfl, if_pos (by omega), Nat.zero_or]
      · rw [if_neg e, if_neg (by omega), Nat.zero_or]
theorem lnB_pkW {f : Nat → Nat} {n : Nat} (hn : n ≤ 8) (hf : ∀ k, k < n → 1 ≤ f k ∧ f k < 256) : lnB (pkW f n) = n := by
  refine lnB_of hn (fun j hj => ?_) (fun h => ?_)
  · rw [bt_pkW f n hn (fun k hk => (hf k hk).2) j (by omega), if_pos hj]
    have := (hf j hj).1
    omega
  · rw [bt_pkW f n hn (fun k hk => (hf k hk).2) n h, if_neg (by omega)]
theorem isC_pkW {f : Nat → Nat} {n : Nat} (hn : n ≤ 8) (hf : ∀ k, k < n → 1 ≤ f k ∧ f k < 256) : isC (pkW f n) := by
  intro i hi h
  rw [lnB_pkW hn hf] at h
  rw [bt_pkW f n hn (fun k hk => (hf k hk).2) i hi, if_neg (by omega)]
theorem bt_hi {x : Int64} (h : isC x) {i : Nat} (hi : lnB x ≤ i) (h8 : i < 8) : bt x i = 0 := h i h8 hi
theorem pkW_of {f : Nat → Nat} {x : Int64} (hx : isC x) (hf : ∀ k, k < lnB x → f k = bt x k) : pkW f (lnB x) = x := by
  refine bt_ext (fun i hi => ?_)
  rw [bt_pkW f _ (lnB_le x) (fun k hk => by rw [hf k hk]; exact bt_lt x k) i hi]
  by_cases h : i < lnB x
  · rw [if_pos h, hf i h]
  · rw [if_neg h, bt_hi hx (by omega) hi]
section FASH
variable (F : Nat → Nat) (r t : Nat) (x : Int64)
/-- where the words of rule r stand first, from place p on -/
def stF : Nat → Nat → Option Nat
  | 0, _ => none
  | c + 1, p => if lnB x < p + F (97 + r) then none else if ∀ k, k < F (97 + r) → bt x (p + k) = F (1 + 4 * r + k) then some p else stF c (p + 1)
def mdF (p k : Nat) : Nat := if k < p then bt x k else if k < p + F (109 + r) then F (49 + 4 * r + (k - p)) else bt x (k - F (109 + r) + F (97 + r))
def nwF : Nat := lnB x - F (97 + r) + F (109 + r)
def rpF : Int64 := match stF F r x 9 0 with
  | none => x
  | some p => if 8 < nwF F r x then x else pkW (mdF F r x p) (nwF F r x)
/-- a step of a test: the pile, top first -/
def lfF (i : Nat) : Bool := if F (145 + 2 * i) = 5 then (List.range 8).any (fun j => decide (bt x j = F (146 + 2 * i))) else if F (145 + 2 * i) = 6 then decide (F (146 + 2 * i) ≤ lnB x) else decide (F (146 + 2 * i) = t)
def ntL (st : List Bool) : List Bool := match st with
  | b :: s => (!b) :: s
  | [] => []
def anL (st : List Bool) : List Bool := match st with
  | b :: c :: s => (c && b) :: s
  | s => s
def orL (st : List Bool) : List Bool := match st with
  | b :: c :: s => (c || b) :: s
  | s => s
def tkF (i : Nat) (st : List Bool) : List Bool := if F (145 + 2 * i) = 2 then ntL st else if F (145 + 2 * i) = 3 then anL st else if F (145 + 2 * i) = 4 then orL st else lfF F t x i :: st
def evF : Nat → Nat → List Bool → List Bool
  | 0, _, st => st
  | c + 1, i, st => evF c (i + 1) (tkF F t x i st)
def hdF : Bool := if F (133 + r) ≤ F (121 + r) then true else (evF F t x (F (133 + r) - F (121 + r)) (F (121 + r)) []).headD true
/-- the heights of the pile: c steps from step i on at height h -/
def htF : Nat → Nat → Nat → Option Nat
  | 0, _, h => some h
  | c + 1, i, h => if F (145 + 2 * i) = 2 then (if 1 ≤ h then htF c (i + 1) h else none) else if F (145 + 2 * i) = 3 ∨ F (145 + 2 * i) = 4 then (if 2 ≤ h then htF c (i + 1) (h - 1) else none) else if (5 ≤ F (145 + 2 * i) ∧ F (145 + 2 * i) ≤ 7 ∧ F (146 + 2 * i) ≤ 255 ∧ (F (145 + 2 * i) = 5 → 1 ≤ F (146 + 2 * i)) ∧ h < 60) then htF c (i + 1) (h + 1) else none
end FASH
def spF (F : Nat → Nat) (t : Nat) (x : Int64) : Nat → Nat → Int64
  | 0, _ => x
  | c + 1, r => if hdF F r t x = true ∧ rpF F r x ≠ x then rpF F r x else spF F t x c (r + 1)
def smF (F : Nat → Nat) (t : Nat) : Nat → Int64 → Int64
  | 0, x => x
  | c + 1, x => if spF F t x (F 0) 0 = x then x else smF F t c (spF F t x (F 0) 0)
def smS (F : Nat → Nat) (t : Nat) (x : Int64) : Int64 := smF F t 12 x
/-- a fashion as both readers make it -/
def InF (F : Nat → Nat) : Prop := F 0 ≤ 12 ∧ ∀ r, r < F 0 → (1 ≤ F (97 + r) ∧ F (97 + r) ≤ 4) ∧ (1 ≤ F (109 + r) ∧ F (109 + r) ≤ 4) ∧ (∀ k, k < F (97 + r) → 1 ≤ F (1 + 4 * r + k) ∧ F (1 + 4 * r + k) ≤ 255) ∧ (∀ k, k < F (109 + r) → 1 ≤ F (49 + 4 * r + k) ∧ F (49 + 4 * r + k) ≤ 255) ∧ F (121 + r) ≤ F (133 + r) ∧ F (133 + r) ≤ 200 ∧ (F (121 + r) < F (133 + r) → htF F (F (133 + r) - F (121 + r)) (F (121 + r)) 0 = some 1)
/-- the reference's step, in the class's numbers -/
def cmF (k : Nat) : Nat := if k = 2 then 10 else if k = 3 then 9 else if k = 4 then 8 else k + 6
/-- the class's cells from f on hold fashion F -/
def FX (F : Nat → Nat) (f : Nat) (w : jWd) : Prop := wI w f 0 = nI (F 0) ∧ ∀ r, r < F 0 → wJ w (f + 1) r = pkW (fun k => F (1 + 4 * r + k)) (F (97 + r)) ∧ wJ w (f + 2) r = pkW (fun k => F (49 + 4 * r + k)) (F (109 + r)) ∧ wI w (f + 3) r = nI (F (121 + r)) ∧ wI w (f + 4) r = nI (F (133 + r)) ∧ ∀ i, F (121 + r) ≤ i → i < F (133 + r) → wI w (f + 5) i = nI (cmF (F (145 + 2 * i))) ∧ wI w (f + 6) i = nI (F (146 + 2 * i))
theorem stF_some {F : Nat → Nat} {r : Nat} {x : Int64} : ∀ c p q, stF F r x c p = some q → q + F (97 + r) ≤ lnB x ∧ ∀ k, k < F (97 + r) → bt x (q + k) = F (1 + 4 * r + k) := by
  intro c
  induction c with
  | zero => intro p q h; cases h
  | succ c ih =>
    intro p q h
    unfold stF at h
    by_cases h1 : lnB x < p + F (97 + r)
    · rw [if_pos h1] at h; cases h
    · rw [if_neg h1] at h
      by_cases h2 : ∀ k, k < F (97 + r) → bt x (p + k) = F (1 + 4 * r + k)
      · rw [if_pos h2] at h
        cases h
        exact ⟨by omega, h2⟩
      · rw [if_neg h2] at h
        exact ih _ _ h
theorem md_b {F : Nat → Nat} (hF : InF F) {r : Nat} (hr : r < F 0) {x : Int64} {p : Nat} (hp : p + F (97 + r) ≤ lnB x) : ∀ k, k < nwF F r x → 1 ≤ mdF F r x p k ∧ mdF F r x p k < 256 := by
  intro k hk
  obtain ⟨h1, h2, h3, h4, -⟩ := hF.2 r hr
  have nz : ∀ j, j < lnB x → 1 ≤ bt x j ∧ bt x j < 256 := fun j hj => ⟨Nat.one_le_iff_ne_zero.mpr (lnB_nz x hj), bt_lt x j⟩
  unfold nwF at hk
  unfold mdF
  split
  · exact nz _ (by omega)
  · split
    · have := h4 (k - p) (by omega)
      omega
    · exact nz _ (by omega)
theorem rp_C {F : Nat → Nat} (hF : InF F) {r : Nat} (hr : r < F 0) {x : Int64} (hx : isC x) : isC (rpF F r x) ∧ (x ≠ 0 → rpF F r x ≠ 0) := by
  unfold rpF
  split
  · exact ⟨hx, id⟩
  · rename_i p hp
    have hp := (stF_some _ _ _ hp).1
    have h2 := (hF.2 r hr).2.1
    split
    · exact ⟨hx, id⟩
    · refine ⟨isC_pkW (by omega) (md_b hF hr hp), fun _ e => ?_⟩
      have e2 := lnB_pkW (f := mdF F r x p) (n := nwF F r x) (by omega) (md_b hF hr hp)
      rw [e, lnB_0] at e2
      unfold nwF at e2
      omega
theorem sp_C {F : Nat → Nat} (hF : InF F) (t : Nat) {x : Int64} (hx : isC x) : ∀ c r, r + c ≤ F 0 → isC (spF F t x c r) ∧ (x ≠ 0 → spF F t x c r ≠ 0) := by
  intro c
  induction c with
  | zero => intro r _; exact ⟨hx, id⟩
  | succ c ih =>
    intro r h
    unfold spF
    split
    · exact rp_C hF (by omega) hx
    · exact ih (r + 1) (by omega)
theorem sm_C {F : Nat → Nat} (hF : InF F) (t : Nat) : ∀ c x, isC x → isC (smF F t c x) ∧ (x ≠ 0 → smF F t c x ≠ 0) := by
  intro c
  induction c with
  | zero => intro x hx; exact ⟨hx, id⟩
  | succ c ih =>
    intro x hx
    unfold smF
    have h := sp_C hF t hx (F 0) 0 (by omega)
    split
    · exact ⟨hx, id⟩
    · exact ⟨(ih _ h.1).1, fun q => (ih _ h.1).2 (h.2 q)⟩
theorem smS_C {F : Nat → Nat} (hF : InF F) (t : Nat) {x : Int64} (hx : isC x) : isC (smS F t x) := (sm_C hF t 12 x hx).1
theorem smS_nz {F : Nat → Nat} (hF : InF F) (t : Nat) {x : Int64} (hx : isC x) (h : x ≠ 0) : smS F t x ≠ 0 := (sm_C hF t 12 x hx).2 h
