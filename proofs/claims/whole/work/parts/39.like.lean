/-! the call like -/
theorem lcT_cg {a a' b b' : Nat → Nat} : ∀ i, (∀ p, p < i → a p = a' p) → ∀ j, (∀ q, q < j → b q = b' q) → lcT a b i j = lcT a' b' i j := by
  intro i
  induction i with
  | zero => intro _ j _; rfl
  | succ i ih =>
    intro ha j
    induction j with
    | zero => intro _; rw [lcT_0, lcT_0]
    | succ j jh =>
      intro hb
      have ha' : ∀ p, p < i → a p = a' p := fun p hp => ha p (by omega)
      have hb' : ∀ q, q < j → b q = b' q := fun q hq => hb q (by omega)
      rw [lcT_ss, lcT_ss, ih ha' (j + 1) hb, jh hb', ih ha' j hb', ha i (by omega), hb j (by omega)]
theorem alkN_cln (x y : Int64) : alkN (cln x) (cln y) = alkN x y := by
  have h1 := lnB_le x
  have h2 := lnB_le y
  unfold alkN lcN
  rw [lnB_cln, lnB_cln, lcT_cg (lnB x) (fun p hp => by rw [bt_cln x (by omega), if_pos hp]) (lnB y) (fun q hq => by rw [bt_cln y (by omega), if_pos hq])]
/-- what every relation of ours bears: a refusal counted on both sides; changes of the reference's scratch -/
def jRef (R : jWd → Prop) : Prop := ∀ w k, R w → 1 ≤ k → k ≤ 7 → R (rfM (sI (rfX w k) 205 0 0) k)
def jScr (P : Nat → Nat → Prop) (R : jWd → Prop) : Prop := ∀ w w', frI P w w' → R w → R w'
theorem s_like {R : jWd → Prop} {P : Nat → Nat → Prop} (hR : jRef R) (hS : jScr P R) (hp : ∀ k, P 210 k) (hp0 : P 205 0) : fS_like R := by
  intro w a0 a1 hw
  refine ⟨20000, ?_⟩
  unfold fX11_like fX12_like
  rw [cln_X (by decide), cln_X (by decide)]
  have hl0 := lnB_le a0
  have hl1 := lnB_le a1
  have e0 : lg_cmp (cln a0) (0 : Int64) = 0 ↔ lnB a0 = 0 := (l0_iff _).trans cln_0
  have e1 : lg_cmp (cln a1) (0 : Int64) = 0 ↔ lnB a1 = 0 := (l0_iff _).trans cln_0
  have ref : ∃ (v : Int32) (w1 w2 : jWd), some ((-3 : Int32), rfX w 3) = some (v, w1) ∧ fX12_no (-3 : Int32) (sI w1 205 0 0) = some (v, w2) ∧ R w2 := ⟨_, _, _, rfl, rf_M3 _, hR w 3 hw (by decide) (by decide)⟩
  have m0 : ∀ u : jWd, bO2 (fX12_no (-3 : Int32) u) (fun (r_8 : Int32) (w_7 : jWd) => some (r_8, w_7)) = fX12_no (-3 : Int32) u := fun u => by rw [rf_M3]; rfl
  unfold letV
  dsimp only [bO]
  rw [rf_X3]
  dsimp only [bO2]
  by_cases h0 : lnB a0 = 0
  · rw [if_pos (e0.mpr h0)]
    obtain ⟨v, w1, w2, q1, q2, q3⟩ := ref
    refine ⟨v, w1, w2, q1, ?_, q3⟩
    rw [len_M (by decide), h0]
    exact (m0 _).trans q2
  by_cases h1 : lnB a1 = 0
  · rw [if_neg (fun q => h0 (e0.mp q)), if_pos (e1.mpr h1)]
    obtain ⟨v, w1, w2, q1, q2, q3⟩ := ref
    refine ⟨v, w1, w2, q1, ?_, q3⟩
    rw [len_M (by decide)]
    dsimp only
    rw [if_neg (fun q => h0 ((nI_z (by omega)).mp q)), len_M (by decide), h1]
    exact (m0 _).trans q2
  · rw [if_neg (fun q => h0 (e0.mp q)), if_neg (fun q => h1 (e1.mp q)), alk_X (by decide) (isC_cln a0) (isC_cln a1) (fun q => h0 (cln_0.mp q.1)), alkN_cln]
    obtain ⟨w', q1, q2⟩ := alk_M (n := 20000) (by decide) a0 a1 (sI w 205 0 0)
    refine ⟨_, w, w', rfl, ?_, ?_⟩
    · rw [len_M (by decide)]
      dsimp only
      rw [if_neg (fun q => h0 ((nI_z (by omega)).mp q)), len_M (by decide)]
      dsimp only
      rw [if_neg (fun q => h1 ((nI_z (by omega)).mp q)), q1]
    · refine hS w w' ?_ hw
      refine frI_trans (frI_sI w _ hp0) ⟨fun c k h => q2.1 c k (fun e => ?_), q2.2⟩
      exact h ((show c = 210 from e) ▸ hp k)
