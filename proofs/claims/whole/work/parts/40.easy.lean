/-! calls that get and set a cell on both sides: what they ask of R is a premise here -/
theorem no_id3 (u : jWd) : bO2 (fX12_no (-3 : Int32) u) (fun (r : Int32) (v : jWd) => some (r, v)) = some ((-3 : Int32), rfM u 3) := by rw [rf_M3]; rfl
theorem no_id2 (u : jWd) : bO2 (fX12_no (-2 : Int32) u) (fun (r : Int32) (v : jWd) => some (r, v)) = some ((-2 : Int32), rfM u 2) := by rw [rf_M2]; rfl
theorem no_id4 (u : jWd) : bO2 (fX12_no (-4 : Int32) u) (fun (r : Int32) (v : jWd) => some (r, v)) = some ((-4 : Int32), rfM u 4) := by rw [rf_M4]; rfl
theorem rx_id3 (u : jWd) : bO2 (fX11_refuse (-3 : Int32) u) (fun (r : Int32) (v : jWd) => some (r, v)) = some ((-3 : Int32), rfX u 3) := by rw [rf_X3]; rfl
theorem rx_id2 (u : jWd) : bO2 (fX11_refuse (-2 : Int32) u) (fun (r : Int32) (v : jWd) => some (r, v)) = some ((-2 : Int32), rfX u 2) := by rw [rf_X2]; rfl
theorem rx_id4 (u : jWd) : bO2 (fX11_refuse (-4 : Int32) u) (fun (r : Int32) (v : jWd) => some (r, v)) = some ((-4 : Int32), rfX u 4) := by rw [rf_X4]; rfl
theorem s_bounds {R : jWd → Prop} (hR : jRef R) (hset : ∀ w a b, R w → 1 ≤ b → b ≤ a → a ≤ 100 → R (sI (sI (sI (sI (sI w 1 11 (nI a)) 1 12 (nI b)) 205 0 0) 207 248 (nI a)) 207 249 (nI b))) : fS_bounds R := by
  intro w a0 a1 hw
  unfold fX11_bounds fX12_bounds letV
  dsimp only
  simp only [rx_id3, no_id3]
  rcases wi_cs a0 1 100 (a := 1) (b := 100) rfl rfl (by decide) (by decide) with ⟨h1, h2⟩ | ⟨a, ha1, ha2, rfl, h1, h2⟩
  · simp only [h1, h2, if_true]
    exact ⟨_, _, _, rfl, rfl, hR w 3 hw (by decide) (by decide)⟩
  · simp only [h1, h2, if_false]
    rcases wi_cs a1 1 a (a := 1) (b := (nI a).toInt64) rfl (nI_l (by omega)) (by omega) (by omega) with ⟨h3, h4⟩ | ⟨b, hb1, hb2, rfl, h3, h4⟩
    · simp only [h3, h4, if_true]
      exact ⟨_, _, _, rfl, rfl, hR w 3 hw (by decide) (by decide)⟩
    · simp only [h3, h4, if_false]
      exact ⟨_, _, _, rfl, rfl, hset w a b hw hb1 hb2 ha2⟩
theorem s_print {R : jWd → Prop} (hR : jRef R) (hget : ∀ w, R w → wI w 19 0 = wI w 207 161) (hset : ∀ w k, R w → k ≤ 9999 → R (sI (sI (sI w 19 0 (nI k)) 205 0 0) 207 161 (nI k))) : fS_print R := by
  intro w a0 hw
  unfold fX11_print fX12_print letV
  dsimp only
  simp only [rx_id3, no_id3]
  rcases wi_cs a0 0 9999 (a := 0) (b := 9999) rfl rfl (by decide) (by decide) with ⟨h1, h2⟩ | ⟨a, _, ha2, rfl, h1, h2⟩
  · simp only [h1, h2, if_true]
    exact ⟨_, _, _, rfl, rfl, hR w 3 hw (by decide) (by decide)⟩
  · simp only [h1, h2, if_false]
    refine ⟨_, _, _, rfl, ?_, hset w a hw ha2⟩
    rw [hget w hw]
    rfl
theorem s_year {R : jWd → Prop} (hR : jRef R) (hget : ∀ w k, R w → 1 ≤ k → k ≤ 255 → wI w 31 k = wI w 207 (250 + k)) (hset : ∀ w k v, R w → 1 ≤ k → k ≤ 255 → v ≤ 9999 → R (sI (sI (sI w 31 k (nI v)) 205 0 0) 207 (250 + k) (nI v))) : fS_year R := by
  intro w a0 a1 hw
  unfold fX11_year fX12_year letV
  dsimp only
  simp only [rx_id3, no_id3, rx_id2, no_id2]
  rcases wi_cs a0 1 255 (a := 1) (b := 255) rfl rfl (by decide) (by decide) with ⟨h1, h2⟩ | ⟨k, hk1, hk2, rfl, h1, h2⟩
  · simp only [h1, h2, if_true]
    exact ⟨_, _, _, rfl, rfl, hR w 2 hw (by decide) (by decide)⟩
  · simp only [h1, h2, if_false]
    rcases wi_cs a1 0 9999 (a := 0) (b := 9999) rfl rfl (by decide) (by decide) with ⟨h3, h4⟩ | ⟨v, _, hv2, rfl, h3, h4⟩
    · simp only [h3, h4, if_true]
      exact ⟨_, _, _, rfl, rfl, hR w 3 hw (by decide) (by decide)⟩
    · simp only [h3, h4, if_false]
      have e31 : ln 31 = 256 := rfl
      have e207 : ln 207 = 3372 := rfl
      have e250 : (250 : Int32) + nI k = nI (250 + k) := nI_add 250 k
      rw [e31, e207, e250]
      simp only [grd_N (show k < 256 by omega) (show 256 < 2 ^ 31 by decide), grd_N (show 250 + k < 3372 by omega) (show 3372 < 2 ^ 31 by decide)]
      rw [nI_clamp (show k < 2 ^ 31 by omega), nI_clamp (show 250 + k < 2 ^ 31 by omega)]
      refine ⟨_, _, _, rfl, ?_, hset w k v hw hk1 hk2 hv2⟩
      have e : wI (sI (sI w 31 k (nI v)) 205 0 0) 207 (250 + k) = wI w 207 (250 + k) := by
        rw [wI_sI, if_neg (by omega), wI_sI, if_neg (by omega)]
      rw [e, hget w k hw hk1 hk2]
theorem s_fault {R : jWd → Prop} {P : Nat → Nat → Prop} (hS : jScr P R) (hp0 : P 205 0) (hget : ∀ w, R w → wI w 189 2 = wI w 205 19 ∧ wI w 205 20 = if wI w 189 2 = 0 then (-1 : Int32) else wI w 189 3) : fS_fault R := by
  intro w a0 hw
  obtain ⟨g1, g2⟩ := hget w hw
  refine ⟨_, w, sI w 205 0 0, ⟨rfl, rfl⟩, ?_, hS _ _ (frI_sI w 0 hp0) hw⟩
  unfold fX11_fault fX12_fault letV
  dsimp only
  have e19 : wI (sI w 205 0 0) 205 19 = wI w 189 2 := by rw [wI_sI, if_neg (by omega), g1]
  have e20 : wI (sI w 205 0 0) 205 20 = if wI w 189 2 = 0 then (-1 : Int32) else wI w 189 3 := by rw [wI_sI, if_neg (by omega), g2]
  rw [e19, e20]
  by_cases h0 : a0 = 0
  · rw [if_pos h0, if_pos h0]
  · rw [if_neg h0, if_neg h0]
    by_cases h1 : a0 = 1
    · rw [if_pos h1, if_pos h1]
    · rw [if_neg h1, if_neg h1]
