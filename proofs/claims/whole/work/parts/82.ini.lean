/-! the world behind the constructors: both systems alike -/
def iA (k : Nat) : Nat := if k = 161 then 5000 else if k = 248 then 80 else if k = 249 then 50 else 0
theorem iA_0 {k : Nat} (h : k ≠ 161 ∧ k ≠ 248 ∧ k ≠ 249) : iA k = 0 := by
  unfold iA
  rw [if_neg h.1, if_neg h.2.1, if_neg h.2.2]
def jP (c k : Nat) : Prop := ((c = 2 ∨ c = 9 ∨ c = 16 ∨ c = 23 ∨ c = 62 ∨ c = 69 ∨ c = 76 ∨ c = 83 ∨ c = 122 ∨ c = 129 ∨ c = 136 ∨ c = 143) ∧ k ≤ 2) ∨ ((c = 1 ∨ c = 61 ∨ c = 121) ∧ (k = 11 ∨ k = 12)) ∨ (((17 ≤ c ∧ c ≤ 20) ∨ (77 ≤ c ∧ c ≤ 80) ∨ (137 ≤ c ∧ c ≤ 140)) ∧ k = 0) ∨ (c = 186 ∧ k < 4) ∨ (c = 221 ∧ k < 4) ∨ (c = 205 ∧ k = 20) ∨ (c = 207 ∧ (k = 161 ∨ k = 248 ∨ k = 249))
theorem jwF_I {c k : Nat} (h : ¬ jP c k) : wI jwF c k = 0 := by
  unfold jP at h
  refine Eq.trans (b := wI jw0 c k) ?_ rfl
  unfold jwF wCX12_init_205 wCX11_init_0 wCX7_init_185 wCJ7_fill_53178_186 wCX8_init_121 wCX8_init_61 wCX8_init_1 wCX5_start_136 wCX5_start_76 wCX5_start_16 wCX5_init_143 wCX5_init_136 wCX5_init_129 wCX5_init_122 wCX5_init_83 wCX5_init_76 wCX5_init_69 wCX5_init_62 wCX5_init_23 wCX5_init_16 wCX5_init_9 wCX5_init_2
  simp (disch := omega) only [ev_wIn]
theorem jwF_J (c k : Nat) : wJ jwF c k = 0 := rfl
theorem no_i {n i : Nat} (e : n = 0) (h : i < n) : False := by omega
theorem In_ini : In iA (fun _ => 0) (fun _ => 0) (fun _ => 0) := by
  refine ⟨⟨fun k => ?_, by decide, fun i hi => by rw [iA_0 (by omega)]; omega, by decide, by decide, fun i hi => by rw [iA_0 (by omega)]; omega, by decide, by decide, by decide, by decide, by decide, by decide, by decide⟩, ⟨fun i hi => (no_i (by decide) hi).elim, fun i g hi _ => (no_i (by decide) hi).elim, fun i hi => (no_i (by decide) hi).elim, fun i hi => (no_i (by decide) hi).elim, by decide⟩, ⟨fun i k hi _ => (no_i (by decide) hi).elim, fun i k hi _ => (no_i (by decide) hi).elim, fun p hp => (no_i (by decide) hp).elim, fun v hv => (no_i (by decide) hv).elim, fun i hi => (no_i (by decide) hi).elim⟩, ⟨by decide, fun r hr => (no_i rfl hr).elim⟩, ⟨by decide, by decide, by decide, by decide, by decide, fun i hi => (no_i rfl hi).elim⟩⟩
  unfold iA
  repeat' split
  all_goals omega
theorem RX_ini : RX iA (fun _ => 0) (fun _ => 0) (fun _ => 0) 1 jwF := by
  refine ⟨⟨by decide +kernel, fun i hi => (no_i (by decide) hi).elim⟩, ⟨by decide +kernel, fun i hi => (no_i (by decide) hi).elim⟩, ⟨by decide +kernel, by decide +kernel, fun i hi => (no_i (by decide) hi).elim⟩, ⟨by decide +kernel, fun i hi => (no_i (by decide) hi).elim⟩, fun k hk => ?_, ⟨by decide +kernel, fun r hr => (no_i rfl hr).elim⟩, ⟨by decide +kernel, by decide +kernel, by decide +kernel, by decide +kernel, by decide +kernel, fun v h1 h2 => ?_⟩, ⟨by decide +kernel, fun i hi => (no_i (by decide) hi).elim⟩, ⟨by decide +kernel, by decide +kernel, by decide +kernel, fun i hi => (no_i (by decide) hi).elim, fun i hi => (no_i (by decide) hi).elim, fun i hi => (no_i (by decide) hi).elim⟩, ⟨by decide +kernel, fun i hi => (no_i (by decide) hi).elim, fun i hi h8 g hg => ?_⟩, ⟨by decide +kernel, by decide +kernel⟩⟩
  · rw [jwF_I (by unfold jP; omega), iA_0 (by omega)]
    rfl
  · rw [jwF_I (by unfold jP; omega)]
    rfl
  · rw [jwF_I (by unfold jP; omega)]
    rfl
theorem RM_ini : RM iA (fun _ => 0) (fun _ => 0) (fun _ => 0) 0 jwF := by
  refine ⟨fun k hk => ?_, fun k hk => rfl, fun k hk => ?_, fun k hk => ?_⟩
  · rw [show 1124 * 0 + k = k by omega]
    by_cases e1 : k = 161
    · subst e1; decide +kernel
    by_cases e2 : k = 248
    · subst e2; decide +kernel
    by_cases e3 : k = 249
    · subst e3; decide +kernel
    rw [jwF_I (by unfold jP; omega), iA_0 ⟨e1, e2, e3⟩]
    rfl
  · rw [jwF_I (by unfold jP; omega)]
    rfl
  · rw [jwF_I (by unfold jP; omega)]
    rfl
theorem RC_ini : RCon 1 jwF ∧ RCon 61 jwF ∧ RCon 121 jwF :=
  ⟨⟨by decide +kernel, by decide +kernel, by decide +kernel, by decide +kernel, by decide +kernel, by decide +kernel, by decide +kernel, by decide +kernel, by decide +kernel⟩, ⟨by decide +kernel, by decide +kernel, by decide +kernel, by decide +kernel, by decide +kernel, by decide +kernel, by decide +kernel, by decide +kernel, by decide +kernel⟩, ⟨by decide +kernel, by decide +kernel, by decide +kernel, by decide +kernel, by decide +kernel, by decide +kernel, by decide +kernel, by decide +kernel, by decide +kernel⟩⟩
theorem RR_jwF : RR jwF := by
  refine ⟨⟨iA, fun _ => 0, fun _ => 0, fun _ => 0, In_ini, RX_ini, RC_ini.1, RM_ini⟩, .inl ⟨by decide +kernel, by decide +kernel⟩, .inl ⟨by decide +kernel, by decide +kernel⟩, RC_ini.2.1, RC_ini.2.2, fun k h1 h2 => ?_, ⟨0, Nat.zero_le _, by decide +kernel, by decide +kernel, fun k hk => absurd hk (Nat.not_lt_zero k)⟩, ⟨by decide +kernel, by decide +kernel⟩, fun r hr => ?_⟩
  · rw [jwF_I (by unfold jP; omega), jwF_I (by unfold jP; omega)]
  · have e : r = 0 ∨ r = 1 ∨ r = 2 ∨ r = 3 := by omega
    rcases e with rfl | rfl | rfl | rfl
    · exact .inl ⟨by decide +kernel, by decide +kernel⟩
    · exact .inl ⟨by decide +kernel, by decide +kernel⟩
    · exact .inl ⟨by decide +kernel, by decide +kernel⟩
    · exact .inl ⟨by decide +kernel, by decide +kernel⟩
