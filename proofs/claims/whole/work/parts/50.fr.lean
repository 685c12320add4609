/-! FRAMES over ints and longs; rules by which straight code is evaluated over small numbers -/
def frP (P : Nat → Nat → Prop) (w w' : jWd) : Prop := ∀ c k, ¬ P c k → wI w' c k = wI w c k ∧ wJ w' c k = wJ w c k
section FRP
variable {P Q : Nat → Nat → Prop} {w w1 w2 : jWd} {c k : Nat}
theorem frP_refl (P : Nat → Nat → Prop) (w : jWd) : frP P w w := fun _ _ _ => ⟨rfl, rfl⟩
theorem frP_trans (h : frP P w w1) (h2 : frP P w1 w2) : frP P w w2 := fun c k hp => ⟨(h2 c k hp).1.trans (h c k hp).1, (h2 c k hp).2.trans (h c k hp).2⟩
theorem frP_mono (hq : ∀ c k, P c k → Q c k) (h : frP P w w1) : frP Q w w1 := fun c k hp => h c k (fun q => hp (hq c k q))
theorem frP_of (h : frI P w w1) : frP P w w1 := fun c k hp => ⟨h.1 c k hp, h.2 c k⟩
theorem frP_sI (w : jWd) (v : Int32) (h : P c k) : frP P w (sI w c k v) := fun a b hp => ⟨by
  rw [wI_sI, if_neg (fun q : a = c ∧ b = k => hp (by rw [q.1, q.2]; exact h))], wJ_sI _ _ _ _ _ _⟩
theorem frP_sJ (w : jWd) (v : Int64) (h : P c k) : frP P w (sJ w c k v) := fun a b hp => ⟨wI_sJ _ _ _ _ _ _, by
  rw [wJ_sJ, if_neg (fun q : a = c ∧ b = k => hp (by rw [q.1, q.2]; exact h))]⟩
theorem frP_I (h : frP P w w1) (hp : ¬ P c k) : wI w1 c k = wI w c k := (h c k hp).1
theorem frP_J (h : frP P w w1) (hp : ¬ P c k) : wJ w1 c k = wJ w c k := (h c k hp).2
end FRP
/-- what no call of either system looks at before it has written it -/
def Scr (c k : Nat) : Prop := (58 ≤ c ∧ c ≤ 60) ∨ (182 ≤ c ∧ c ≤ 184) ∨ (190 ≤ c ∧ c ≤ 201) ∨ (c = 189 ∧ 4 ≤ k) ∨ c = 203 ∨ (c = 205 ∧ k ≠ 9 ∧ k ≠ 19 ∧ k ≠ 20) ∨ c = 210 ∨ (214 ≤ c ∧ c ≤ 220) ∨ (c = 211 ∧ 1935 ≤ k) ∨ (c = 212 ∧ 87 ≤ k)
abbrev frS (w w' : jWd) : Prop := frP Scr w w'
section EV
variable {a b k n c i : Nat} {w : jWd}
theorem ev_letV {α β : Type} (a : α) (f : α → β) : letV a f = f a := rfl
theorem ev_bO {α β : Type} (a : α) (f : α → Option β) : bO (some a) f = f a := rfl
theorem ev_bO2 {α β : Type} (a : α) (w : jWd) (f : α → jWd → Option β) : bO2 (some (a, w)) f = f a w := rfl
theorem ev_lit (n : Nat) : (OfNat.ofNat n : Int32) = nI (OfNat.ofNat n) := rfl
theorem ev_litl (n : Nat) : (OfNat.ofNat n : Int64) = lN (OfNat.ofNat n) := rfl
theorem ev_mul (a b : Nat) : nI a * nI b = nI (a * b) := (Int32.ofNat_mul a b).symm
theorem ev_sub (h : b ≤ a) : nI a - nI b = nI (a - b) := by
  obtain ⟨d, rfl⟩ := Nat.le.dest h
  rw [Nat.add_sub_cancel_left, ← nI_add, Int32.add_comm, Int32.add_sub_cancel]
theorem ev_lt (ha : a < 2147483648) (hb : b < 2147483648) : (nI a < nI b) = (a < b) := propext (nI_ltI ha hb)
theorem ev_le (ha : a < 2147483648) (hb : b < 2147483648) : (nI a ≤ nI b) = (a ≤ b) := propext (nI_leI ha hb)
theorem ev_eq (ha : a < 2147483648) (hb : b < 2147483648) : (nI a = nI b) = (a = b) := propext (nI_eq ha hb)
theorem ev_cl (h : n < 2147483648) : (nI n).toNatClampNeg = n := nI_clamp h
theorem ev_m1 : (-1 : Int32) < 0 := by decide
theorem ev_eqm (ha : a < 2147483648) : (nI a = -nI 1) = False := eq_false (fun h => by
  have e : nI a < 0 := by rw [h]; decide
  exact nI_pos ha e)
theorem ev_ltm (ha : a < 2147483648) : (nI a < -nI 1) = False := eq_false (fun h => by
  have e : nI a < 0 := Int32.lt_trans h (by decide)
  exact nI_pos ha e)
theorem ev_lem (ha : a < 2147483648) : (nI a ≤ -nI 1) = False := eq_false (fun h => by
  have e : nI a < 0 := Int32.lt_of_le_of_lt h (by decide)
  exact nI_pos ha e)
theorem ev_mlt (ha : a < 2147483648) : (-nI 1 < nI a) = True := eq_true (Int32.lt_of_lt_of_le (show -nI 1 < 0 by decide) (nI_pos' ha))
theorem ev_mle (ha : a < 2147483648) : (-nI 1 ≤ nI a) = True := eq_true (Int32.le_of_lt (Int32.lt_of_lt_of_le (show -nI 1 < 0 by decide) (nI_pos' ha)))
theorem ev_grd {α : Type} {x : Option α} (h : k < n) (hn : n < 2147483648) : grd (nI k) n x = x := grd_N h hn
theorem ev_wIs (w : jWd) (c k : Nat) (v : Int32) : wI (sI w c k v) c k = v := by rw [wI_sI, if_pos ⟨rfl, rfl⟩]
theorem ev_wIn {a b : Nat} (v : Int32) (h : a ≠ c ∨ b ≠ k) : wI (sI w c k v) a b = wI w a b := by rw [wI_sI, if_neg (by omega)]
theorem ev_wJs (w : jWd) (c k : Nat) (v : Int64) : wJ (sJ w c k v) c k = v := by rw [wJ_sJ, if_pos ⟨rfl, rfl⟩]
theorem ev_wJn {a b : Nat} (v : Int64) (h : a ≠ c ∨ b ≠ k) : wJ (sJ w c k v) a b = wJ w a b := by rw [wJ_sJ, if_neg (by omega)]
theorem ev_imax (ha : a < 2147483648) (hb : b < 2147483648) : imax (nI a) (nI b) = nI (max a b) := imax_N ha hb
theorem ev_l64 (h : n < 2147483648) : (nI n).toInt64 = lN n := nI_l h
theorem ev_i32 (x : Int32) : x < 0 ∨ ∃ k : Nat, k < 2147483648 ∧ x = nI k := by
  by_cases h : x < 0
  · exact .inl h
  · exact .inr (nI_of h)
/-- within, of a small number and of one below 0 -/
theorem ev_in {k lo hi : Nat} (hk : k < 2147483648) (hl : lo < 2147483648) (hh : hi < 2147483648) : (fX11_within (lN k) (lN lo) (lN hi) = nI 0) = ¬ (lo ≤ k ∧ k ≤ hi) := by
  refine propext ((wi_X _ _ _).trans (not_congr (and_congr ?_ ?_)))
  · exact pk_lLE (by omega) (by omega)
  · exact pk_lLE (by omega) (by omega)
theorem ev_inM {k lo hi : Nat} (hk : k < 2147483648) (hl : lo < 2147483648) (hh : hi < 2147483648) : (fX12_within (lN k) (lN lo) (lN hi) = nI 0) = ¬ (lo ≤ k ∧ k ≤ hi) := ev_in hk hl hh
theorem ev_neg {x : Int32} {lo : Nat} (h : x < 0) (hl : lo < 2147483648) (y : Int64) : (fX11_within x.toInt64 (lN lo) y = nI 0) = True := by
  refine eq_true ((wi_X _ _ _).mpr (fun q => ?_))
  have q := Int64.le_iff_toInt_le.mp q.1
  have h := Int32.lt_iff_toInt_lt.mp h
  rw [Int32.toInt_toInt64, pk_lT (by omega)] at q
  have e : (0 : Int32).toInt = 0 := by decide
  omega
theorem ev_negM {x : Int32} {lo : Nat} (h : x < 0) (hl : lo < 2147483648) (y : Int64) : (fX12_within x.toInt64 (lN lo) y = nI 0) = True := ev_neg h hl y
end EV
