/-! BASICS of the pure part: within, refusals -/
theorem wi_X (x a b : Int64) : fX11_within x a b = 0 ↔ ¬ (a ≤ x ∧ x ≤ b) := by
  unfold fX11_within
  by_cases h1 : x < a
  · rw [if_pos ((lg_cmp_lt _ _).mpr h1)]
    exact ⟨fun _ q => absurd h1 (Int64.not_lt.mpr q.1), fun _ => rfl⟩
  · rw [if_neg (fun q => h1 ((lg_cmp_lt _ _).mp q))]
    by_cases h2 : b < x
    · rw [if_pos ((lg_cmp_gt _ _).mpr h2)]
      exact ⟨fun _ q => absurd h2 (Int64.not_lt.mpr q.2), fun _ => rfl⟩
    · rw [if_neg (fun q => h2 ((lg_cmp_gt _ _).mp q))]
      exact ⟨fun q => absurd q (by decide), fun q => absurd ⟨Int64.not_lt.mp h1, Int64.not_lt.mp h2⟩ q⟩
theorem wi_XM (x a b : Int64) : fX12_within x a b = fX11_within x a b := rfl
theorem wi_in {x : Int32} {lo hi : Nat} (hh : hi < 2 ^ 31) (h : lN lo ≤ x.toInt64 ∧ x.toInt64 ≤ lN hi) (hl : lo ≤ hi + 1) : ∃ k : Nat, lo ≤ k ∧ k ≤ hi ∧ x = nI k := by
  have h1 := Int64.le_iff_toInt_le.mp h.1
  have h2 := Int64.le_iff_toInt_le.mp h.2
  rw [Int32.toInt_toInt64, pk_lT (by omega)] at h1 h2
  have h0 : ¬ x < 0 := by
    intro q
    have q := Int32.lt_iff_toInt_lt.mp q
    have e : (0 : Int32).toInt = 0 := by decide
    omega
  obtain ⟨j, hj, rfl⟩ := nI_of h0
  rw [nI_toInt hj] at h1 h2
  exact ⟨j, by omega, by omega, rfl⟩
theorem wi_of {k lo hi : Nat} (h1 : lo ≤ k) (h2 : k ≤ hi) (hh : hi < 2 ^ 31) : lN lo ≤ (nI k).toInt64 ∧ (nI k).toInt64 ≤ lN hi := by
  rw [nI_l (by omega)]
  exact ⟨(pk_lLE (by omega) (by omega)).mpr h1, (pk_lLE (by omega) (by omega)).mpr h2⟩
/-- both within: no, or yes with a number -/
theorem wi_cs (x : Int32) (lo hi : Nat) {a b : Int64} (ha : a = lN lo) (hb : b = lN hi) (hh : hi < 2 ^ 31) (hl : lo ≤ hi + 1) : (fX11_within x.toInt64 a b = 0 ∧ fX12_within x.toInt64 a b = 0) ∨ ∃ k : Nat, lo ≤ k ∧ k ≤ hi ∧ x = nI k ∧ ¬ fX11_within (nI k).toInt64 a b = 0 ∧ ¬ fX12_within (nI k).toInt64 a b = 0 := by
  subst ha hb
  by_cases h : fX11_within x.toInt64 (lN lo) (lN hi) = 0
  · exact .inl ⟨h, by rw [wi_XM]; exact h⟩
  · refine .inr ?_
    have h' := Classical.not_not.mp (fun q => h ((wi_X _ _ _).mpr q))
    obtain ⟨k, h1, h2, rfl⟩ := wi_in hh h' hl
    exact ⟨k, h1, h2, rfl, h, by rw [wi_XM]; exact h⟩
/-- a refusal is counted, each on its own side -/
def rfX (w : jWd) (k : Nat) : jWd := sI w 204 k (wI w 204 k + 1)
def rfM (w : jWd) (k : Nat) : jWd := sI w 206 k (wI w 206 k + 1)
theorem rf_X1 (w : jWd) : fX11_refuse (-1 : Int32) w = some ((-1 : Int32), rfX w 1) := by
  unfold fX11_refuse letV
  refine Eq.trans (if_pos (by decide)) ?_
  refine Eq.trans (if_neg (by decide)) ?_
  refine Eq.trans (if_neg (by decide)) ?_
  unfold grd
  refine Eq.trans (if_neg (by decide +kernel)) ?_
  refine Eq.trans (if_neg (by decide +kernel)) ?_
  rfl
theorem rf_M1 (w : jWd) : fX12_no (-1 : Int32) w = some ((-1 : Int32), rfM w 1) := by
  unfold fX12_no letV grd
  refine Eq.trans (if_neg (by decide +kernel)) ?_
  refine Eq.trans (if_neg (by decide +kernel)) ?_
  rfl
theorem rf_X2 (w : jWd) : fX11_refuse (-2 : Int32) w = some ((-2 : Int32), rfX w 2) := by
  unfold fX11_refuse letV
  refine Eq.trans (if_pos (by decide)) ?_
  refine Eq.trans (if_neg (by decide)) ?_
  refine Eq.trans (if_neg (by decide)) ?_
  unfold grd
  refine Eq.trans (if_neg (by decide +kernel)) ?_
  refine Eq.trans (if_neg (by decide +kernel)) ?_
  rfl
theorem rf_M2 (w : jWd) : fX12_no (-2 : Int32) w = some ((-2 : Int32), rfM w 2) := by
  unfold fX12_no letV grd
  refine Eq.trans (if_neg (by decide +kernel)) ?_
  refine Eq.trans (if_neg (by decide +kernel)) ?_
  rfl
theorem rf_X3 (w : jWd) : fX11_refuse (-3 : Int32) w = some ((-3 : Int32), rfX w 3) := by
  unfold fX11_refuse letV
  refine Eq.trans (if_pos (by decide)) ?_
  refine Eq.trans (if_neg (by decide)) ?_
  refine Eq.trans (if_neg (by decide)) ?_
  unfold grd
  refine Eq.trans (if_neg (by decide +kernel)) ?_
  refine Eq.trans (if_neg (by decide +kernel)) ?_
  rfl
theorem rf_M3 (w : jWd) : fX12_no (-3 : Int32) w = some ((-3 : Int32), rfM w 3) := by
  unfold fX12_no letV grd
  refine Eq.trans (if_neg (by decide +kernel)) ?_
  refine Eq.trans (if_neg (by decide +kernel)) ?_
  rfl
theorem rf_X4 (w : jWd) : fX11_refuse (-4 : Int32) w = some ((-4 : Int32), rfX w 4) := by
  unfold fX11_refuse letV
  refine Eq.trans (if_pos (by decide)) ?_
  refine Eq.trans (if_neg (by decide)) ?_
  refine Eq.trans (if_neg (by decide)) ?_
  unfold grd
  refine Eq.trans (if_neg (by decide +kernel)) ?_
  refine Eq.trans (if_neg (by decide +kernel)) ?_
  rfl
theorem rf_M4 (w : jWd) : fX12_no (-4 : Int32) w = some ((-4 : Int32), rfM w 4) := by
  unfold fX12_no letV grd
  refine Eq.trans (if_neg (by decide +kernel)) ?_
  refine Eq.trans (if_neg (by decide +kernel)) ?_
  rfl
theorem rf_X5 (w : jWd) : fX11_refuse (-5 : Int32) w = some ((-5 : Int32), rfX w 5) := by
  unfold fX11_refuse letV
  refine Eq.trans (if_pos (by decide)) ?_
  refine Eq.trans (if_neg (by decide)) ?_
  refine Eq.trans (if_neg (by decide)) ?_
  unfold grd
  refine Eq.trans (if_neg (by decide +kernel)) ?_
  refine Eq.trans (if_neg (by decide +kernel)) ?_
  rfl
theorem rf_M5 (w : jWd) : fX12_no (-5 : Int32) w = some ((-5 : Int32), rfM w 5) := by
  unfold fX12_no letV grd
  refine Eq.trans (if_neg (by decide +kernel)) ?_
  refine Eq.trans (if_neg (by decide +kernel)) ?_
  rfl
theorem rf_X6 (w : jWd) : fX11_refuse (-6 : Int32) w = some ((-6 : Int32), rfX w 6) := by
  unfold fX11_refuse letV
  refine Eq.trans (if_pos (by decide)) ?_
  refine Eq.trans (if_neg (by decide)) ?_
  refine Eq.trans (if_neg (by decide)) ?_
  unfold grd
  refine Eq.trans (if_neg (by decide +kernel)) ?_
  refine Eq.trans (if_neg (by decide +kernel)) ?_
  rfl
theorem rf_M6 (w : jWd) : fX12_no (-6 : Int32) w = some ((-6 : Int32), rfM w 6) := by
  unfold fX12_no letV grd
  refine Eq.trans (if_neg (by decide +kernel)) ?_
  refine Eq.trans (if_neg (by decide +kernel)) ?_
  rfl
theorem rf_X7 (w : jWd) : fX11_refuse (-7 : Int32) w = some ((-7 : Int32), rfX w 7) := by
  unfold fX11_refuse letV
  refine Eq.trans (if_pos (by decide)) ?_
  refine Eq.trans (if_neg (by decide)) ?_
  refine Eq.trans (if_neg (by decide)) ?_
  unfold grd
  refine Eq.trans (if_neg (by decide +kernel)) ?_
  refine Eq.trans (if_neg (by decide +kernel)) ?_
  rfl
theorem rf_M7 (w : jWd) : fX12_no (-7 : Int32) w = some ((-7 : Int32), rfM w 7) := by
  unfold fX12_no letV grd
  refine Eq.trans (if_neg (by decide +kernel)) ?_
  refine Eq.trans (if_neg (by decide +kernel)) ?_
  rfl
