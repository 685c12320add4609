/-! calls that lay two numbers on a heap: paid, pages, out of premises on R -/
def apX_paid (w : jWd) (k a b : Nat) : jWd := sI (sI (sI w 49 k (nI a)) 50 k (nI b)) 48 0 (nI (k + 1))
def apM_paid (w : jWd) (k a b : Nat) : jWd := sI (sI (sI w 207 (849 + k) (nI a)) 207 (869 + k) (nI b)) 207 848 (nI (k + 1))
theorem px_paid {w : jWd} {k : Nat} (a b : Nat) (hk : wI w 48 0 = nI k) (h : k < 20) : fX9_pay 48 (nI a) (nI b) w = some (nI (k + 1), apX_paid w k a b) := by
  have e1 : ln (48 + 1) = 20 := rfl
  have e2 : ln (48 + 2) = 20 := rfl
  have e3 : wI (sI w (48 + 1) k (nI a)) 48 0 = nI k := by rw [wI_sI, if_neg (by omega)]; exact hk
  have e6 : wI (sI (sI w (48 + 1) k (nI a)) (48 + 2) k (nI b)) 48 0 = nI k := by rw [wI_sI, if_neg (by omega)]; exact e3
  unfold fX9_pay letV
  dsimp only
  rw [hk, if_neg (show ¬ (20 : Int32) ≤ nI k from nI_ge (b := 20) h (by decide)), nI_clamp (by omega), e1, e3, e2, grd_N h (by decide), grd_N h (by decide), nI_clamp (by omega), e6, nI_1, wI_sI, if_pos ⟨rfl, rfl⟩]
  rfl
theorem s_paid {R : jWd → Prop} (hR : jRef R) (hget : ∀ w, R w → ∃ k : Nat, k ≤ 20 ∧ wI w 48 0 = nI k ∧ wI w 207 848 = nI k) (hset : ∀ w k a b, R w → wI w 48 0 = nI k → k < 20 → a ≤ 9999 → 1 ≤ b → b ≤ 999 → R (apM_paid (sI (apX_paid w k a b) 205 0 0) k a b)) : fS_paid R := by
  intro w a0 a1 hw
  obtain ⟨k, hk0, hk, hm⟩ := hget w hw
  unfold fX11_paid fX12_paid letV
  dsimp only
  simp only [rx_id3, no_id3, rx_id4, no_id4]
  rcases wi_cs a0 0 9999 (a := 0) (b := 9999) rfl rfl (by decide) (by decide) with ⟨h1, h2⟩ | ⟨a, _, ha2, rfl, h1, h2⟩
  · simp only [h1, h2, if_true]
    exact ⟨_, _, _, rfl, rfl, hR w 3 hw (by decide) (by decide)⟩
  · simp only [h1, h2, if_false]
    rcases wi_cs a1 1 999 (a := 1) (b := 999) rfl rfl (by decide) (by omega) with ⟨h3, h4⟩ | ⟨b, hb1, hb2, rfl, h3, h4⟩
    · simp only [h3, h4, if_true]
      exact ⟨_, _, _, rfl, rfl, hR w 3 hw (by decide) (by decide)⟩
    · simp only [h3, h4, if_false]
      rw [hk]
      by_cases h : k < 20
      · rw [if_pos (show nI k < (20 : Int32) from nI_lt (b := 20) h (by decide)), px_paid a b hk h]
        refine ⟨_, _, _, rfl, ?_, hset w k a b hw hk h ha2 hb1 hb2⟩
        have eC : ∀ u : Int32, wI (sI (apX_paid w k a b) 205 0 u) 207 848 = nI k := by
          intro u
          unfold apX_paid
          rw [wI_sI, if_neg (by omega), wI_sI, if_neg (by omega), wI_sI, if_neg (by omega), wI_sI, if_neg (by omega)]
          exact hm
        have eA : (849 : Int32) + nI k = nI (849 + k) := nI_add 849 k
        have eB : (869 : Int32) + nI k = nI (869 + k) := nI_add 869 k
        have e207 : ln 207 = 3372 := rfl
        have e3 : wI (sI (sI (apX_paid w k a b) 205 0 0) 207 (849 + k) (nI a)) 207 848 = nI k := by rw [wI_sI, if_neg (by omega)]; exact eC 0
        have e6 : wI (sI (sI (sI (apX_paid w k a b) 205 0 0) 207 (849 + k) (nI a)) 207 (869 + k) (nI b)) 207 848 = nI k := by rw [wI_sI, if_neg (by omega)]; exact e3
        rw [eC, if_neg (show ¬ nI k = (20 : Int32) from fun q => by have := (nI_eq (b := 20) (show k < 2 ^ 31 by omega) (by decide)).mp q; omega), eA, e207, nI_clamp (by omega), e3, eB, nI_clamp (by omega), grd_N (by omega) (by decide), grd_N (by omega) (by decide), e6, nI_1, wI_sI, if_pos ⟨rfl, rfl⟩]
        rfl
      · have e : k = 20 := by omega
        rw [if_neg (show ¬ nI k < (20 : Int32) from nI_nlt (b := 20) (by omega) (by omega))]
        refine ⟨_, _, _, rfl, ?_, hR w 4 hw (by decide) (by decide)⟩
        have eC : wI (sI (rfX w 4) 205 0 0) 207 848 = nI k := by
          unfold rfX
          rw [wI_sI, if_neg (by omega), wI_sI, if_neg (by omega)]
          exact hm
        rw [eC, if_pos (show nI k = (20 : Int32) by rw [e]; rfl)]
def apX_pages (w : jWd) (k a b : Nat) : jWd := sI (sI (sI w 51 k (nI a)) 52 k (nI b)) 48 1 (nI (k + 1))
def apM_pages (w : jWd) (k a b : Nat) : jWd := sI (sI (sI w 207 (890 + k) (nI a)) 207 (930 + k) (nI b)) 207 889 (nI (k + 1))
theorem px_pages {w : jWd} {k : Nat} (a b : Nat) (hk : wI w 48 1 = nI k) (h : k < 40) : fX9_fill 48 (nI a) (nI b) w = some (nI (k + 1), apX_pages w k a b) := by
  have e1 : ln (48 + 3) = 40 := rfl
  have e2 : ln (48 + 4) = 40 := rfl
  have e3 : wI (sI w (48 + 3) k (nI a)) 48 1 = nI k := by rw [wI_sI, if_neg (by omega)]; exact hk
  have e6 : wI (sI (sI w (48 + 3) k (nI a)) (48 + 4) k (nI b)) 48 1 = nI k := by rw [wI_sI, if_neg (by omega)]; exact e3
  unfold fX9_fill letV
  dsimp only
  rw [hk, if_neg (show ¬ (40 : Int32) ≤ nI k from nI_ge (b := 40) h (by decide)), nI_clamp (by omega), e1, e3, e2, grd_N h (by decide), grd_N h (by decide), nI_clamp (by omega), e6, nI_1, wI_sI, if_pos ⟨rfl, rfl⟩]
  rfl
theorem s_pages {R : jWd → Prop} (hR : jRef R) (hget : ∀ w, R w → ∃ k : Nat, k ≤ 40 ∧ wI w 48 1 = nI k ∧ wI w 207 889 = nI k) (hset : ∀ w k a b, R w → wI w 48 1 = nI k → k < 40 → a ≤ 9999 → 1 ≤ b → b ≤ 99 → R (apM_pages (sI (apX_pages w k a b) 205 0 0) k a b)) : fS_pages R := by
  intro w a0 a1 hw
  obtain ⟨k, hk0, hk, hm⟩ := hget w hw
  unfold fX11_pages fX12_pages letV
  dsimp only
  simp only [rx_id3, no_id3, rx_id4, no_id4]
  rcases wi_cs a0 0 9999 (a := 0) (b := 9999) rfl rfl (by decide) (by decide) with ⟨h1, h2⟩ | ⟨a, _, ha2, rfl, h1, h2⟩
  · simp only [h1, h2, if_true]
    exact ⟨_, _, _, rfl, rfl, hR w 3 hw (by decide) (by decide)⟩
  · simp only [h1, h2, if_false]
    rcases wi_cs a1 1 99 (a := 1) (b := 99) rfl rfl (by decide) (by omega) with ⟨h3, h4⟩ | ⟨b, hb1, hb2, rfl, h3, h4⟩
    · simp only [h3, h4, if_true]
      exact ⟨_, _, _, rfl, rfl, hR w 3 hw (by decide) (by decide)⟩
    · simp only [h3, h4, if_false]
      rw [hk]
      by_cases h : k < 40
      · rw [if_pos (show nI k < (40 : Int32) from nI_lt (b := 40) h (by decide)), px_pages a b hk h]
        refine ⟨_, _, _, rfl, ?_, hset w k a b hw hk h ha2 hb1 hb2⟩
        have eC : ∀ u : Int32, wI (sI (apX_pages w k a b) 205 0 u) 207 889 = nI k := by
          intro u
          unfold apX_pages
          rw [wI_sI, if_neg (by omega), wI_sI, if_neg (by omega), wI_sI, if_neg (by omega), wI_sI, if_neg (by omega)]
          exact hm
        have eA : (890 : Int32) + nI k = nI (890 + k) := nI_add 890 k
        have eB : (930 : Int32) + nI k = nI (930 + k) := nI_add 930 k
        have e207 : ln 207 = 3372 := rfl
        have e3 : wI (sI (sI (apX_pages w k a b) 205 0 0) 207 (890 + k) (nI a)) 207 889 = nI k := by rw [wI_sI, if_neg (by omega)]; exact eC 0
        have e6 : wI (sI (sI (sI (apX_pages w k a b) 205 0 0) 207 (890 + k) (nI a)) 207 (930 + k) (nI b)) 207 889 = nI k := by rw [wI_sI, if_neg (by omega)]; exact e3
        rw [eC, if_neg (show ¬ nI k = (40 : Int32) from fun q => by have := (nI_eq (b := 40) (show k < 2 ^ 31 by omega) (by decide)).mp q; omega), eA, e207, nI_clamp (by omega), e3, eB, nI_clamp (by omega), grd_N (by omega) (by decide), grd_N (by omega) (by decide), e6, nI_1, wI_sI, if_pos ⟨rfl, rfl⟩]
        rfl
      · have e : k = 40 := by omega
        rw [if_neg (show ¬ nI k < (40 : Int32) from nI_nlt (b := 40) (by omega) (by omega))]
        refine ⟨_, _, _, rfl, ?_, hR w 4 hw (by decide) (by decide)⟩
        have eC : wI (sI (rfX w 4) 205 0 0) 207 889 = nI k := by
          unfold rfX
          rw [wI_sI, if_neg (by omega), wI_sI, if_neg (by omega)]
          exact hm
        rw [eC, if_pos (show nI k = (40 : Int32) by rw [e]; rfl)]
