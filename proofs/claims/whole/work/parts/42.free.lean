/-! the call free: class and reference look at the two numbers in another order -/
def apX_free (w : jWd) (k a b : Nat) : jWd := sI (sI (sI w 53 k (nI a)) 54 k (nI b)) 48 2 (nI (k + 1))
def apM_free (w : jWd) (k a b : Nat) : jWd := sI (sI (sI w 207 (971 + k) (nI a)) 207 (979 + k) (nI b)) 207 970 (nI (k + 1))
theorem px_free {w : jWd} {k : Nat} (a b : Nat) (hk : wI w 48 2 = nI k) (h : k < 8) : fX9_leave 48 (nI a) (nI b) w = some (nI (k + 1), apX_free w k a b) := by
  have e1 : ln (48 + 5) = 8 := rfl
  have e2 : ln (48 + 6) = 8 := rfl
  have e3 : wI (sI w (48 + 5) k (nI a)) 48 2 = nI k := by rw [wI_sI, if_neg (by omega)]; exact hk
  have e6 : wI (sI (sI w (48 + 5) k (nI a)) (48 + 6) k (nI b)) 48 2 = nI k := by rw [wI_sI, if_neg (by omega)]; exact e3
  unfold fX9_leave letV
  dsimp only
  rw [hk, if_neg (show ¬ (8 : Int32) ≤ nI k from nI_ge (b := 8) h (by decide)), nI_clamp (by omega), e1, e3, e2, grd_N h (by decide), grd_N h (by decide), nI_clamp (by omega), e6, nI_1, wI_sI, if_pos ⟨rfl, rfl⟩]
  rfl
theorem w0_of {k lo hi : Nat} (h1 : lo ≤ k) (h2 : k ≤ hi) (hh : hi < 2 ^ 31) : ¬ fX11_within (nI k).toInt64 (lN lo) (lN hi) = 0 := fun q => (wi_X _ _ _).mp q (wi_of h1 h2 hh)
theorem s_free {R : jWd → Prop} (hR : jRef R) (hget : ∀ w, R w → ∃ k : Nat, k ≤ 8 ∧ wI w 48 2 = nI k ∧ wI w 207 970 = nI k) (hset : ∀ w k a b, R w → wI w 48 2 = nI k → k < 8 → a ≤ b → b ≤ 9999 → R (apM_free (sI (apX_free w k a b) 205 0 0) k a b)) : fS_free R := by
  intro w a0 a1 hw
  obtain ⟨k, hk0, hk, hm⟩ := hget w hw
  unfold fX11_free fX12_free letV
  dsimp only
  simp only [rx_id3, no_id3, rx_id4, no_id4]
  have refuse : (fX12_within a0.toInt64 0 9999 = 0 ∨ fX12_within a1.toInt64 a0.toInt64 9999 = 0) → ∀ X : jWd → Option (Int32 × jWd), ∃ (v : Int32) (w1 w2 : jWd), some ((-3 : Int32), rfX w 3) = some (v, w1) ∧ (if fX12_within a0.toInt64 0 9999 = 0 then some ((-3 : Int32), rfM (sI w1 205 0 0) 3) else if fX12_within a1.toInt64 a0.toInt64 9999 = 0 then some ((-3 : Int32), rfM (sI w1 205 0 0) 3) else X w1) = some (v, w2) ∧ R w2 := by
    intro h X
    refine ⟨_, _, _, rfl, ?_, hR w 3 hw (by decide) (by decide)⟩
    by_cases h1 : fX12_within a0.toInt64 0 9999 = 0
    · rw [if_pos h1]
    · rw [if_neg h1, if_pos (h.resolve_left h1)]
  rcases wi_cs a1 0 9999 (a := 0) (b := 9999) rfl rfl (by decide) (by decide) with ⟨h1, h2⟩ | ⟨b, _, hb2, rfl, h1, h2⟩
  · simp only [h1, if_true]
    refine refuse ?_ (fun _ => _)
    by_cases q : fX12_within a0.toInt64 0 9999 = 0
    · exact .inl q
    · right
      rcases wi_cs a0 0 9999 (a := 0) (b := 9999) rfl rfl (by decide) (by decide) with ⟨_, z⟩ | ⟨a, _, ha2, rfl, _, _⟩
      · exact absurd z q
      · rcases wi_cs a1 a 9999 (a := (nI a).toInt64) (b := 9999) (nI_l (by omega)) rfl (by decide) (by omega) with ⟨_, z⟩ | ⟨b, hb1, hb2, rfl, _, _⟩
        · exact z
        · exact absurd h1 (w0_of (lo := 0) (hi := 9999) (by omega) hb2 (by decide))
  · simp only [h1, if_false]
    rcases wi_cs a0 0 b (a := 0) (b := (nI b).toInt64) rfl (nI_l (by omega)) (by omega) (by omega) with ⟨h3, h4⟩ | ⟨a, _, hab, rfl, h3, h4⟩
    · simp only [h3, if_true]
      refine refuse ?_ (fun _ => _)
      by_cases q : fX12_within a0.toInt64 0 9999 = 0
      · exact .inl q
      · right
        rcases wi_cs a0 0 9999 (a := 0) (b := 9999) rfl rfl (by decide) (by decide) with ⟨_, z⟩ | ⟨a, _, ha2, rfl, _, _⟩
        · exact absurd z q
        · rcases wi_cs (nI b) a 9999 (a := (nI a).toInt64) (b := 9999) (nI_l (by omega)) rfl (by decide) (by omega) with ⟨_, z⟩ | ⟨c, hc1, hc2, e, _, _⟩
          · exact z
          · have e' := (nI_eq (by omega) (by omega)).mp e
            rw [show (nI b).toInt64 = lN b from nI_l (by omega)] at h3
            exact absurd h3 (w0_of (lo := 0) (hi := b) (by omega) (by omega) (by omega))
    · have h5 : ¬ fX12_within (nI a).toInt64 0 9999 = 0 := w0_of (lo := 0) (hi := 9999) (by omega) (by omega) (by decide)
      have h6 : ¬ fX12_within (nI b).toInt64 (nI a).toInt64 9999 = 0 := by
        rw [show (nI a).toInt64 = lN a from nI_l (by omega)]
        exact w0_of (lo := a) (hi := 9999) hab hb2 (by decide)
      simp only [h3, h5, h6, if_false]
      rw [hk]
      by_cases h : k < 8
      · rw [if_pos (show nI k < (8 : Int32) from nI_lt (b := 8) h (by decide)), px_free a b hk h]
        refine ⟨_, _, _, rfl, ?_, hset w k a b hw hk h hab hb2⟩
        have eC : ∀ u : Int32, wI (sI (apX_free w k a b) 205 0 u) 207 970 = nI k := by
          intro u
          unfold apX_free
          rw [wI_sI, if_neg (by omega), wI_sI, if_neg (by omega), wI_sI, if_neg (by omega), wI_sI, if_neg (by omega)]
          exact hm
        have eA : (971 : Int32) + nI k = nI (971 + k) := nI_add 971 k
        have eB : (979 : Int32) + nI k = nI (979 + k) := nI_add 979 k
        have e207 : ln 207 = 3372 := rfl
        have e3 : wI (sI (sI (apX_free w k a b) 205 0 0) 207 (971 + k) (nI a)) 207 970 = nI k := by rw [wI_sI, if_neg (by omega)]; exact eC 0
        have e6 : wI (sI (sI (sI (apX_free w k a b) 205 0 0) 207 (971 + k) (nI a)) 207 (979 + k) (nI b)) 207 970 = nI k := by rw [wI_sI, if_neg (by omega)]; exact e3
        rw [eC, if_neg (show ¬ nI k = (8 : Int32) from fun q => by have := (nI_eq (b := 8) (show k < 2 ^ 31 by omega) (by decide)).mp q; omega), eA, e207, nI_clamp (by omega), e3, eB, nI_clamp (by omega), grd_N (by omega) (by decide), grd_N (by omega) (by decide), e6, nI_1, wI_sI, if_pos ⟨rfl, rfl⟩]
        rfl
      · have e : k = 8 := by omega
        rw [if_neg (show ¬ nI k < (8 : Int32) from nI_nlt (b := 8) (by omega) (by omega))]
        refine ⟨_, _, _, rfl, ?_, hR w 4 hw (by decide) (by decide)⟩
        have eC : wI (sI (rfX w 4) 205 0 0) 207 970 = nI k := by
          unfold rfX
          rw [wI_sI, if_neg (by omega), wI_sI, if_neg (by omega)]
          exact hm
        rw [eC, if_pos (show nI k = (8 : Int32) by rw [e]; rfl)]
