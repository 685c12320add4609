/-! CONSTRUCTORS, each at its place (by program: wip/whole/gen/genctor.py) -/
theorem wOI : Cond.instanceMethod Lib.objectInit ∈ jT ∧ Cond.code Lib.objectInit ⟨#[0xb1]⟩ 1 none ∈ jT := ⟨jT_t1 (i := 28) (by decide +kernel) (by decide +kernel), jT_t1 (i := 29) (by decide +kernel) (by decide +kernel)⟩
theorem wAC_int : Cond.arrayClass .int ∈ jT := jT_t1 (i := 88) (by decide +kernel) (by decide +kernel)
theorem wAC_long : Cond.arrayClass .long ∈ jT := jT_t1 (i := 89) (by decide +kernel) (by decide +kernel)
theorem wAC_byte : Cond.arrayClass .byte ∈ jT := jT_t2 (i := 207) (by decide +kernel) (by decide +kernel)
theorem wAC_boolean : Cond.arrayClass .boolean ∈ jT := jT_t2 (i := 110) (by decide +kernel) (by decide +kernel)
abbrev MX0_init : jMM := (RX0, cX0_init, 1, none)
theorem wCD_X0_init : Cond.code yX0_init cX0_init 1 none ∈ jT := jT_t1 (i := 155) rfl rfl
theorem wIM_X0_init : Cond.instanceMethod yX0_init ∈ jT := jT_t1 (i := 154) (by decide +kernel) (by decide +kernel)
theorem jLn_X0_init : jLn yX0_init MX0_init 0 := ⟨jT_t1 (i := 7) (by decide +kernel) (by decide +kernel), wCD_X0_init, by decide +kernel, by decide +kernel, by decide +kernel, by decide +kernel⟩
abbrev MX1_init : jMM := (RX1, cX1_init, 1, none)
theorem wCD_X1_init : Cond.code yX1_init cX1_init 1 none ∈ jT := jT_t1 (i := 94) rfl rfl
theorem wIM_X1_init : Cond.instanceMethod yX1_init ∈ jT := jT_t1 (i := 93) (by decide +kernel) (by decide +kernel)
theorem jLn_X1_init : jLn yX1_init MX1_init 0 := ⟨jT_t1 (i := 5) (by decide +kernel) (by decide +kernel), wCD_X1_init, by decide +kernel, by decide +kernel, by decide +kernel, by decide +kernel⟩
abbrev MX2_init : jMM := (RX2, cX2_init, 2, none)
theorem wCD_X2_init : Cond.code yX2_init cX2_init 2 none ∈ jT := jT_t2 (i := 86) rfl rfl
theorem wIM_X2_init : Cond.instanceMethod yX2_init ∈ jT := jT_t2 (i := 85) (by decide +kernel) (by decide +kernel)
theorem jLn_X2_init : jLn yX2_init MX2_init 1 := ⟨jT_t1 (i := 10) (by decide +kernel) (by decide +kernel), wCD_X2_init, by decide +kernel, by decide +kernel, by decide +kernel, by decide +kernel⟩
abbrev MX3_init : jMM := (RX3, cX3_init, 1, none)
theorem wCD_X3_init : Cond.code yX3_init cX3_init 1 none ∈ jT := jT_t1 (i := 128) rfl rfl
theorem wIM_X3_init : Cond.instanceMethod yX3_init ∈ jT := jT_t1 (i := 127) (by decide +kernel) (by decide +kernel)
theorem jLn_X3_init : jLn yX3_init MX3_init 0 := ⟨jT_t1 (i := 6) (by decide +kernel) (by decide +kernel), wCD_X3_init, by decide +kernel, by decide +kernel, by decide +kernel, by decide +kernel⟩
abbrev MX5_init : jMM := (RX5, cX5_init, 3, none)
theorem wCD_X5_init : Cond.code yX5_init cX5_init 3 none ∈ jT := jT_t1 (i := 40) rfl rfl
theorem wIM_X5_init : Cond.instanceMethod yX5_init ∈ jT := jT_t1 (i := 39) (by decide +kernel) (by decide +kernel)
theorem jLn_X5_init : jLn yX5_init MX5_init 2 := ⟨jT_t1 (i := 3) (by decide +kernel) (by decide +kernel), wCD_X5_init, by decide +kernel, by decide +kernel, by decide +kernel, by decide +kernel⟩
abbrev MX6_init : jMM := (RX6, cX6_init, 1, none)
theorem wCD_X6_init : Cond.code yX6_init cX6_init 1 none ∈ jT := jT_t2 (i := 135) rfl rfl
theorem wIM_X6_init : Cond.instanceMethod yX6_init ∈ jT := jT_t2 (i := 134) (by decide +kernel) (by decide +kernel)
theorem jLn_X6_init : jLn yX6_init MX6_init 0 := ⟨jT_t1 (i := 13) (by decide +kernel) (by decide +kernel), wCD_X6_init, by decide +kernel, by decide +kernel, by decide +kernel, by decide +kernel⟩
abbrev MX7_init : jMM := (RX7, cX7_init, 1, none)
theorem wCD_X7_init : Cond.code yX7_init cX7_init 1 none ∈ jT := jT_t2 (i := 115) rfl rfl
theorem wIM_X7_init : Cond.instanceMethod yX7_init ∈ jT := jT_t2 (i := 114) (by decide +kernel) (by decide +kernel)
theorem jLn_X7_init : jLn yX7_init MX7_init 0 := ⟨jT_t1 (i := 11) (by decide +kernel) (by decide +kernel), wCD_X7_init, by decide +kernel, by decide +kernel, by decide +kernel, by decide +kernel⟩
abbrev MX8_init : jMM := (RX8, cX8_init, 1, none)
theorem wCD_X8_init : Cond.code yX8_init cX8_init 1 none ∈ jT := jT_t1 (i := 34) rfl rfl
theorem wIM_X8_init : Cond.instanceMethod yX8_init ∈ jT := jT_t1 (i := 33) (by decide +kernel) (by decide +kernel)
theorem jLn_X8_init : jLn yX8_init MX8_init 0 := ⟨jT_t1 (i := 2) (by decide +kernel) (by decide +kernel), wCD_X8_init, by decide +kernel, by decide +kernel, by decide +kernel, by decide +kernel⟩
abbrev MX9_init : jMM := (RX9, cX9_init, 1, none)
theorem wCD_X9_init : Cond.code yX9_init cX9_init 1 none ∈ jT := jT_t1 (i := 193) rfl rfl
theorem wIM_X9_init : Cond.instanceMethod yX9_init ∈ jT := jT_t1 (i := 192) (by decide +kernel) (by decide +kernel)
theorem jLn_X9_init : jLn yX9_init MX9_init 0 := ⟨jT_t1 (i := 8) (by decide +kernel) (by decide +kernel), wCD_X9_init, by decide +kernel, by decide +kernel, by decide +kernel, by decide +kernel⟩
abbrev MX10_init : jMM := (RX10, cX10_init, 1, none)
theorem wCD_X10_init : Cond.code yX10_init cX10_init 1 none ∈ jT := jT_t1 (i := 230) rfl rfl
theorem wIM_X10_init : Cond.instanceMethod yX10_init ∈ jT := jT_t1 (i := 229) (by decide +kernel) (by decide +kernel)
theorem jLn_X10_init : jLn yX10_init MX10_init 0 := ⟨jT_t1 (i := 9) (by decide +kernel) (by decide +kernel), wCD_X10_init, by decide +kernel, by decide +kernel, by decide +kernel, by decide +kernel⟩
abbrev MX11_init : jMM := (RX11, cX11_init, 1, none)
theorem wCD_X11_init : Cond.code yX11_init cX11_init 1 none ∈ jT := jT_t1 (i := 26) rfl rfl
theorem wIM_X11_init : Cond.instanceMethod yX11_init ∈ jT := jT_t1 (i := 25) (by decide +kernel) (by decide +kernel)
theorem jLn_X11_init : jLn yX11_init MX11_init 0 := ⟨jT_t1 (i := 1) (by decide +kernel) (by decide +kernel), wCD_X11_init, by decide +kernel, by decide +kernel, by decide +kernel, by decide +kernel⟩
abbrev MX12_init : jMM := (RX12, cX12_init, 1, none)
theorem wCD_X12_init : Cond.code yX12_init cX12_init 1 none ∈ jT := jT_t6 (i := 34) rfl rfl
theorem wIM_X12_init : Cond.instanceMethod yX12_init ∈ jT := jT_t6 (i := 33) (by decide +kernel) (by decide +kernel)
theorem jLn_X12_init : jLn yX12_init MX12_init 0 := ⟨jT_t1 (i := 14) (by decide +kernel) (by decide +kernel), wCD_X12_init, by decide +kernel, by decide +kernel, by decide +kernel, by decide +kernel⟩
theorem jLn_X5_start : jLn yX5_start MX5_start 3 := ⟨jT_t1 (i := 3) (by decide +kernel) (by decide +kernel), wCD_X5_start, by decide +kernel, by decide +kernel, by decide +kernel, by decide +kernel⟩
theorem jLn_X5_isFull : jLn yX5_isFull MX5_isFull 0 := ⟨jT_t1 (i := 3) (by decide +kernel) (by decide +kernel), wCD_X5_isFull, by decide +kernel, by decide +kernel, by decide +kernel, by decide +kernel⟩
theorem jLn_J7_fill_53178 : jLn yJ7_fill_53178 MJ7_fill_53178 2 := ⟨jT_t1 (i := 12) (by decide +kernel) (by decide +kernel), wCD_J7_fill_53178, by decide +kernel, by decide +kernel, by decide +kernel, by decide +kernel⟩
theorem nz_0 {n : Nat} (u : jWd) (m' : Nat → Nat → Bool) (ρ : Nat → Nat) (h1 : ∀ k, wI u n k = 0) (h2 : ∀ k, m' n k = false) : ∀ j, j < 7 → defaultValue (tyX0 j) = vp_V (jflm ρ u n m' 0) j := by
  have e : jflm ρ u n m' 0 = [.int 0, .null, .null, .null, .null, .null, .null] := by simp [jflm, jfT, jfm, h1, h2, List.mapIdx_cons]
  rw [e]
  intro j hj
  rcases (show j = 0 ∨ j = 1 ∨ j = 2 ∨ j = 3 ∨ j = 4 ∨ j = 5 ∨ j = 6 by omega) with rfl | rfl | rfl | rfl | rfl | rfl | rfl <;> rfl
theorem nz_1 {n : Nat} (u : jWd) (m' : Nat → Nat → Bool) (ρ : Nat → Nat) (h1 : ∀ k, wI u n k = 0) (h2 : ∀ k, m' n k = false) : ∀ j, j < 8 → defaultValue (tyX1 j) = vp_V (jflm ρ u n m' 1) j := by
  have e : jflm ρ u n m' 1 = [.int 0, .int 0, .null, .null, .null, .null, .null, .null] := by simp [jflm, jfT, jfm, h1, h2, List.mapIdx_cons]
  rw [e]
  intro j hj
  rcases (show j = 0 ∨ j = 1 ∨ j = 2 ∨ j = 3 ∨ j = 4 ∨ j = 5 ∨ j = 6 ∨ j = 7 by omega) with rfl | rfl | rfl | rfl | rfl | rfl | rfl | rfl <;> rfl
theorem nz_2 {n : Nat} (u : jWd) (m' : Nat → Nat → Bool) (ρ : Nat → Nat) (h1 : ∀ k, wI u n k = 0) (h2 : ∀ k, m' n k = false) : ∀ j, j < 6 → defaultValue (tyX2 j) = vp_V (jflm ρ u n m' 2) j := by
  have e : jflm ρ u n m' 2 = [.null, .null, .null, .int 0, .int 0, .int 0] := by simp [jflm, jfT, jfm, h1, h2, List.mapIdx_cons]
  rw [e]
  intro j hj
  rcases (show j = 0 ∨ j = 1 ∨ j = 2 ∨ j = 3 ∨ j = 4 ∨ j = 5 by omega) with rfl | rfl | rfl | rfl | rfl | rfl <;> rfl
theorem nz_3 {n : Nat} (u : jWd) (m' : Nat → Nat → Bool) (ρ : Nat → Nat) (h1 : ∀ k, wI u n k = 0) (h2 : ∀ k, m' n k = false) : ∀ j, j < 5 → defaultValue (tyX3 j) = vp_V (jflm ρ u n m' 3) j := by
  have e : jflm ρ u n m' 3 = [.int 0, .int 0, .int 0, .int 0, .null] := by simp [jflm, jfT, jfm, h1, h2, List.mapIdx_cons]
  rw [e]
  intro j hj
  rcases (show j = 0 ∨ j = 1 ∨ j = 2 ∨ j = 3 ∨ j = 4 by omega) with rfl | rfl | rfl | rfl | rfl <;> rfl
theorem nz_4 {n : Nat} (u : jWd) (m' : Nat → Nat → Bool) (ρ : Nat → Nat) (h1 : ∀ k, wI u n k = 0) (h2 : ∀ k, m' n k = false) : ∀ j, j < 9 → defaultValue (tyX5 j) = vp_V (jflm ρ u n m' 4) j := by
  have e : jflm ρ u n m' 4 = [.int 0, .int 0, .int 0, .null, .null, .null, .null, .null, .null] := by simp [jflm, jfT, jfm, h1, h2, List.mapIdx_cons]
  rw [e]
  intro j hj
  rcases (show j = 0 ∨ j = 1 ∨ j = 2 ∨ j = 3 ∨ j = 4 ∨ j = 5 ∨ j = 6 ∨ j = 7 ∨ j = 8 by omega) with rfl | rfl | rfl | rfl | rfl | rfl | rfl | rfl | rfl <;> rfl
theorem nz_5 {n : Nat} (u : jWd) (m' : Nat → Nat → Bool) (ρ : Nat → Nat) (h1 : ∀ k, wI u n k = 0) (h2 : ∀ k, m' n k = false) : ∀ j, j < 9 → defaultValue (tyX6 j) = vp_V (jflm ρ u n m' 5) j := by
  have e : jflm ρ u n m' 5 = [.null, .null, .int 0, .int 0, .int 0, .int 0, .null, .null, .null] := by simp [jflm, jfT, jfm, h1, h2, List.mapIdx_cons]
  rw [e]
  intro j hj
  rcases (show j = 0 ∨ j = 1 ∨ j = 2 ∨ j = 3 ∨ j = 4 ∨ j = 5 ∨ j = 6 ∨ j = 7 ∨ j = 8 by omega) with rfl | rfl | rfl | rfl | rfl | rfl | rfl | rfl | rfl <;> rfl
theorem nz_6 {n : Nat} (u : jWd) (m' : Nat → Nat → Bool) (ρ : Nat → Nat) (h1 : ∀ k, wI u n k = 0) (h2 : ∀ k, m' n k = false) : ∀ j, j < 3 → defaultValue (tyX7 j) = vp_V (jflm ρ u n m' 6) j := by
  have e : jflm ρ u n m' 6 = [.null, .null, .null] := by simp [jflm, jfT, jfm, h1, h2, List.mapIdx_cons]
  rw [e]
  intro j hj
  rcases (show j = 0 ∨ j = 1 ∨ j = 2 by omega) with rfl | rfl | rfl <;> rfl
theorem nz_7 {n : Nat} (u : jWd) (m' : Nat → Nat → Bool) (ρ : Nat → Nat) (h1 : ∀ k, wI u n k = 0) (h2 : ∀ k, m' n k = false) : ∀ j, j < 13 → defaultValue (tyX8 j) = vp_V (jflm ρ u n m' 7) j := by
  have e : jflm ρ u n m' 7 = [.null, .null, .null, .null, .null, .null, .null, .null, .null, .null, .null, .int 0, .int 0] := by simp [jflm, jfT, jfm, h1, h2, List.mapIdx_cons]
  rw [e]
  intro j hj
  rcases (show j = 0 ∨ j = 1 ∨ j = 2 ∨ j = 3 ∨ j = 4 ∨ j = 5 ∨ j = 6 ∨ j = 7 ∨ j = 8 ∨ j = 9 ∨ j = 10 ∨ j = 11 ∨ j = 12 by omega) with rfl | rfl | rfl | rfl | rfl | rfl | rfl | rfl | rfl | rfl | rfl | rfl | rfl <;> rfl
theorem nz_8 {n : Nat} (u : jWd) (m' : Nat → Nat → Bool) (ρ : Nat → Nat) (h1 : ∀ k, wI u n k = 0) (h2 : ∀ k, m' n k = false) : ∀ j, j < 9 → defaultValue (tyX9 j) = vp_V (jflm ρ u n m' 8) j := by
  have e : jflm ρ u n m' 8 = [.int 0, .int 0, .int 0, .null, .null, .null, .null, .null, .null] := by simp [jflm, jfT, jfm, h1, h2, List.mapIdx_cons]
  rw [e]
  intro j hj
  rcases (show j = 0 ∨ j = 1 ∨ j = 2 ∨ j = 3 ∨ j = 4 ∨ j = 5 ∨ j = 6 ∨ j = 7 ∨ j = 8 by omega) with rfl | rfl | rfl | rfl | rfl | rfl | rfl | rfl | rfl <;> rfl
theorem nz_9 {n : Nat} (u : jWd) (m' : Nat → Nat → Bool) (ρ : Nat → Nat) (h1 : ∀ k, wI u n k = 0) (h2 : ∀ k, m' n k = false) : ∀ j, j < 6 → defaultValue (tyX10 j) = vp_V (jflm ρ u n m' 9) j := by
  have e : jflm ρ u n m' 9 = [.int 0, .null, .null, .null, .null, .null] := by simp [jflm, jfT, jfm, h1, h2, List.mapIdx_cons]
  rw [e]
  intro j hj
  rcases (show j = 0 ∨ j = 1 ∨ j = 2 ∨ j = 3 ∨ j = 4 ∨ j = 5 by omega) with rfl | rfl | rfl | rfl | rfl | rfl <;> rfl
theorem nz_10 {n : Nat} (u : jWd) (m' : Nat → Nat → Bool) (ρ : Nat → Nat) (h1 : ∀ k, wI u n k = 0) (h2 : ∀ k, m' n k = false) : ∀ j, j < 11 → defaultValue (tyX11 j) = vp_V (jflm ρ u n m' 10) j := by
  have e : jflm ρ u n m' 10 = [.null, .null, .null, .null, .null, .null, .null, .null, .int 0, .null, .null] := by simp [jflm, jfT, jfm, h1, h2, List.mapIdx_cons]
  rw [e]
  intro j hj
  rcases (show j = 0 ∨ j = 1 ∨ j = 2 ∨ j = 3 ∨ j = 4 ∨ j = 5 ∨ j = 6 ∨ j = 7 ∨ j = 8 ∨ j = 9 ∨ j = 10 by omega) with rfl | rfl | rfl | rfl | rfl | rfl | rfl | rfl | rfl | rfl | rfl <;> rfl
theorem nz_11 {n : Nat} (u : jWd) (m' : Nat → Nat → Bool) (ρ : Nat → Nat) (h1 : ∀ k, wI u n k = 0) (h2 : ∀ k, m' n k = false) : ∀ j, j < 38 → defaultValue (tyX12 j) = vp_V (jflm ρ u n m' 11) j := by
  have e : jflm ρ u n m' 11 = [.int 0, .null, .null, .null, .null, .null, .null, .null, .null, .int 0, .int 0, .int 0, .int 0, .int 0, .int 0, .int 0, .int 0, .int 0, .int 0, .int 0, .int 0, .null, .null, .int 0, .null, .int 0, .null, .null, .int 0, .int 0, .int 0, .null, .int 0, .int 0, .null, .null, .null, .null] := by simp [jflm, jfT, jfm, h1, h2, List.mapIdx_cons]
  rw [e]
  intro j hj
  rcases (show j = 0 ∨ j = 1 ∨ j = 2 ∨ j = 3 ∨ j = 4 ∨ j = 5 ∨ j = 6 ∨ j = 7 ∨ j = 8 ∨ j = 9 ∨ j = 10 ∨ j = 11 ∨ j = 12 ∨ j = 13 ∨ j = 14 ∨ j = 15 ∨ j = 16 ∨ j = 17 ∨ j = 18 ∨ j = 19 ∨ j = 20 ∨ j = 21 ∨ j = 22 ∨ j = 23 ∨ j = 24 ∨ j = 25 ∨ j = 26 ∨ j = 27 ∨ j = 28 ∨ j = 29 ∨ j = 30 ∨ j = 31 ∨ j = 32 ∨ j = 33 ∨ j = 34 ∨ j = 35 ∨ j = 36 ∨ j = 37 by omega) with rfl | rfl | rfl | rfl | rfl | rfl | rfl | rfl | rfl | rfl | rfl | rfl | rfl | rfl | rfl | rfl | rfl | rfl | rfl | rfl | rfl | rfl | rfl | rfl | rfl | rfl | rfl | rfl | rfl | rfl | rfl | rfl | rfl | rfl | rfl | rfl | rfl | rfl <;> rfl
theorem xML_X11_1 : Cond.methodLink RX11 1 Lib.objectInit ∈ jT := jT_t1 (i := 27) (by decide +kernel) (by decide +kernel)
theorem xCL_X11_7 : Cond.classLink RX11 7 RX8 ∈ jT := jT_t1 (i := 30) (by decide +kernel) (by decide +kernel)
theorem xIN_X8 : Cond.instantiable RX8 13 ∈ jT := jT_t1 (i := 31) (by decide +kernel) (by decide +kernel)
theorem xIN_X8I : Cond.initialized RX8 ∈ jT := jT_t1 (i := 2) (by decide +kernel) (by decide +kernel)
theorem xML_X8_3 : Cond.methodLink RX8 3 Lib.objectInit ∈ jT := jT_t1 (i := 35) (by decide +kernel) (by decide +kernel)
theorem xCL_X8_9 : Cond.classLink RX8 9 RX5 ∈ jT := jT_t1 (i := 36) (by decide +kernel) (by decide +kernel)
theorem xIN_X5 : Cond.instantiable RX5 9 ∈ jT := jT_t1 (i := 37) (by decide +kernel) (by decide +kernel)
theorem xIN_X5I : Cond.initialized RX5 ∈ jT := jT_t1 (i := 3) (by decide +kernel) (by decide +kernel)
theorem xML_X5_3 : Cond.methodLink RX5 3 Lib.objectInit ∈ jT := jT_t1 (i := 41) (by decide +kernel) (by decide +kernel)
theorem xML_X5_9 : Cond.methodLink RX5 9 Lib.Math.max.name ∈ jT := jT_t1 (i := 42) (by decide +kernel) (by decide +kernel)
theorem xFL_X5_15 : Cond.fieldLink RX5 15 RX5 (TX5 0).2.1 (TX5 0).2.2.1 ∈ jT := jT_t1 (i := 45) (by decide +kernel) (by decide +kernel)
theorem xFL_X5_21 : Cond.fieldLink RX5 21 RX5 (TX5 1).2.1 (TX5 1).2.2.1 ∈ jT := jT_t1 (i := 46) (by decide +kernel) (by decide +kernel)
theorem xFL_X5_24 : Cond.fieldLink RX5 24 RX5 (TX5 3).2.1 (TX5 3).2.2.1 ∈ jT := jT_t1 (i := 52) (by decide +kernel) (by decide +kernel)
theorem xFL_X5_28 : Cond.fieldLink RX5 28 RX5 (TX5 4).2.1 (TX5 4).2.2.1 ∈ jT := jT_t1 (i := 56) (by decide +kernel) (by decide +kernel)
theorem xFL_X5_31 : Cond.fieldLink RX5 31 RX5 (TX5 5).2.1 (TX5 5).2.2.1 ∈ jT := jT_t1 (i := 57) (by decide +kernel) (by decide +kernel)
theorem xFL_X5_34 : Cond.fieldLink RX5 34 RX5 (TX5 6).2.1 (TX5 6).2.2.1 ∈ jT := jT_t1 (i := 61) (by decide +kernel) (by decide +kernel)
theorem xFL_X5_37 : Cond.fieldLink RX5 37 RX5 (TX5 7).2.1 (TX5 7).2.2.1 ∈ jT := jT_t1 (i := 65) (by decide +kernel) (by decide +kernel)
theorem xFL_X5_40 : Cond.fieldLink RX5 40 RX5 (TX5 8).2.1 (TX5 8).2.2.1 ∈ jT := jT_t1 (i := 67) (by decide +kernel) (by decide +kernel)
def wCX5_init_2 (w : jWd) : jWd := (sI (sI w 2 0 (40 : Int32)) 2 1 (12 : Int32))
def mCX5_init_2 (mk : Nat → Nat → Bool) : Nat → Nat → Bool := (mkS (mkS (mkS (mkS (mkS (mkS mk 2 3) 2 4) 2 5) 2 6) 2 7) 2 8)
set_option maxRecDepth 100000 in
set_option maxHeartbeats 4000000 in
theorem cX5_init_2 {w : jWd} {mk : Nat → Nat → Bool} : JNM yX5_init MX5_init 1 6 1120 [.ref 2, .int (40 : Int32), .int (12 : Int32)] w 3 mk none (wCX5_init_2 w) 9 (mCX5_init_2 mk) := by
  refine jnm_of (by decide +kernel) rfl (Nat.le_of_ble_eq_true rfl) ?_
  show JN MX5_init 1 6 1120 (none, (wCX5_init_2 w), 9, (mCX5_init_2 mk), 3, "<init>") w 3 mk 0 0 0 [(0, .ref 2), (1, .int (40 : Int32)), (2, .int (12 : Int32))] []
  refine jn_aload_n dX5_init_0 rfl 0 rfl ?_
  refine jn_obj xML_X5_3 wOI.1 wOI.2 (by decide) (Nat.le_of_ble_eq_true rfl) dX5_init_1 ?_
  refine jn_aload_n dX5_init_4 rfl 0 rfl ?_
  refine jn_iconst (v := (0 : Int32)) dX5_init_5 (by decide) ?_
  refine jn_iload_n dX5_init_6 rfl 1 rfl ?_
  refine jn_imax xML_X5_9 (by decide) (by decide) (by decide +kernel) (Nat.le_of_ble_eq_true rfl) dX5_init_7 ?_
  rw [show imax (0 : Int32) (40 : Int32) = (40 : Int32) from by decide]
  refine jn_putF (q := 4) (k := 0) (T := TX5) (ty0 := tyX5) (N := 9) (by decide) rfl rfl (by decide +kernel) (by decide) rfl (by decide) in_X5 tyX5_ok nmX5 rfl rfl rfl xFL_X5_15 rfl dX5_init_10 ?_
  refine jn_aload_n dX5_init_13 rfl 0 rfl ?_
  refine jn_iconst (v := (0 : Int32)) dX5_init_14 (by decide) ?_
  refine jn_iload_n dX5_init_15 rfl 2 rfl ?_
  refine jn_imax xML_X5_9 (by decide) (by decide) (by decide +kernel) (Nat.le_of_ble_eq_true rfl) dX5_init_16 ?_
  rw [show imax (0 : Int32) (12 : Int32) = (12 : Int32) from by decide]
  refine jn_putF (q := 4) (k := 1) (T := TX5) (ty0 := tyX5) (N := 9) (by decide) rfl rfl (by decide +kernel) (by decide) rfl (by decide) in_X5 tyX5_ok nmX5 rfl rfl rfl xFL_X5_21 rfl dX5_init_19 ?_
  refine jn_aload_n dX5_init_22 rfl 0 rfl ?_
  refine jn_aload_n dX5_init_23 rfl 0 rfl ?_
  refine jn_get (q := 4) (k := 0) (T := TX5) (N := 9) (v := .int (40 : Int32)) (by decide) (by decide +kernel) (by decide) rfl (by decide) in_X5 rfl xFL_X5_15 (fun ρ => by rw [jfl_nth (f := none) rfl]; simp [jfm, wI_sI, jv]) dX5_init_24 ?_
  refine jn_newa (k := 1) (ty := .int) rfl (by decide +kernel) (by decide) (fun _ => rfl) rfl rfl (by decide) wAC_int (by decide) (by decide +kernel) (by decide +kernel) (by decide) (by decide +kernel) (jrl_of rfl) (jrl_of rfl) dX5_init_27 ?_
  rw [show ln 3 = 40 from by decide +kernel]
  refine jn_putR (q := 4) (k := 3) (T := TX5) (ty0 := tyX5) (N := 9) (off := 1) (by decide) rfl rfl (by decide +kernel) (by decide) rfl (by decide) in_X5 tyX5_ok nmX5 rfl rfl xFL_X5_24 rfl rfl (by decide) (fun _ => rfl) (fun _ => rfl) dX5_init_29 ?_
  refine jn_aload_n dX5_init_32 rfl 0 rfl ?_
  refine jn_aload_n dX5_init_33 rfl 0 rfl ?_
  refine jn_get (q := 4) (k := 0) (T := TX5) (N := 9) (v := .int (40 : Int32)) (by decide) (by decide +kernel) (by decide) rfl (by decide) in_X5 rfl xFL_X5_15 (fun ρ => by rw [jfl_nth (f := none) rfl]; simp [jfm, wI_sI, jv]) dX5_init_34 ?_
  refine jn_newa (k := 1) (ty := .int) rfl (by decide +kernel) (by decide) (fun _ => rfl) rfl rfl (by decide) wAC_int (by decide) (by decide +kernel) (by decide +kernel) (by decide) (by decide +kernel) (jrl_of rfl) (jrl_of rfl) dX5_init_37 ?_
  rw [show ln 4 = 40 from by decide +kernel]
  refine jn_putR (q := 4) (k := 4) (T := TX5) (ty0 := tyX5) (N := 9) (off := 2) (by decide) rfl rfl (by decide +kernel) (by decide) rfl (by decide) in_X5 tyX5_ok nmX5 rfl rfl xFL_X5_28 rfl rfl (by decide) (fun _ => rfl) (fun _ => rfl) dX5_init_39 ?_
  refine jn_aload_n dX5_init_42 rfl 0 rfl ?_
  refine jn_aload_n dX5_init_43 rfl 0 rfl ?_
  refine jn_get (q := 4) (k := 0) (T := TX5) (N := 9) (v := .int (40 : Int32)) (by decide) (by decide +kernel) (by decide) rfl (by decide) in_X5 rfl xFL_X5_15 (fun ρ => by rw [jfl_nth (f := none) rfl]; simp [jfm, wI_sI, jv]) dX5_init_44 ?_
  refine jn_newa (k := 1) (ty := .int) rfl (by decide +kernel) (by decide) (fun _ => rfl) rfl rfl (by decide) wAC_int (by decide) (by decide +kernel) (by decide +kernel) (by decide) (by decide +kernel) (jrl_of rfl) (jrl_of rfl) dX5_init_47 ?_
  rw [show ln 5 = 40 from by decide +kernel]
  refine jn_putR (q := 4) (k := 5) (T := TX5) (ty0 := tyX5) (N := 9) (off := 3) (by decide) rfl rfl (by decide +kernel) (by decide) rfl (by decide) in_X5 tyX5_ok nmX5 rfl rfl xFL_X5_31 rfl rfl (by decide) (fun _ => rfl) (fun _ => rfl) dX5_init_49 ?_
  refine jn_aload_n dX5_init_52 rfl 0 rfl ?_
  refine jn_aload_n dX5_init_53 rfl 0 rfl ?_
  refine jn_get (q := 4) (k := 0) (T := TX5) (N := 9) (v := .int (40 : Int32)) (by decide) (by decide +kernel) (by decide) rfl (by decide) in_X5 rfl xFL_X5_15 (fun ρ => by rw [jfl_nth (f := none) rfl]; simp [jfm, wI_sI, jv]) dX5_init_54 ?_
  refine jn_newa (k := 1) (ty := .int) rfl (by decide +kernel) (by decide) (fun _ => rfl) rfl rfl (by decide) wAC_int (by decide) (by decide +kernel) (by decide +kernel) (by decide) (by decide +kernel) (jrl_of rfl) (jrl_of rfl) dX5_init_57 ?_
  rw [show ln 6 = 40 from by decide +kernel]
  refine jn_putR (q := 4) (k := 6) (T := TX5) (ty0 := tyX5) (N := 9) (off := 4) (by decide) rfl rfl (by decide +kernel) (by decide) rfl (by decide) in_X5 tyX5_ok nmX5 rfl rfl xFL_X5_34 rfl rfl (by decide) (fun _ => rfl) (fun _ => rfl) dX5_init_59 ?_
  refine jn_aload_n dX5_init_62 rfl 0 rfl ?_
  refine jn_aload_n dX5_init_63 rfl 0 rfl ?_
  refine jn_get (q := 4) (k := 0) (T := TX5) (N := 9) (v := .int (40 : Int32)) (by decide) (by decide +kernel) (by decide) rfl (by decide) in_X5 rfl xFL_X5_15 (fun ρ => by rw [jfl_nth (f := none) rfl]; simp [jfm, wI_sI, jv]) dX5_init_64 ?_
  refine jn_aload_n dX5_init_67 rfl 0 rfl ?_
  refine jn_get (q := 4) (k := 1) (T := TX5) (N := 9) (v := .int (12 : Int32)) (by decide) (by decide +kernel) (by decide) rfl (by decide) in_X5 rfl xFL_X5_21 (fun ρ => by rw [jfl_nth (f := none) rfl]; simp [jfm, wI_sI, jv]) dX5_init_68 ?_
  refine jn_imul dX5_init_71 ?_
  rw [show (40 : Int32) * (12 : Int32) = (480 : Int32) from by decide]
  refine jn_newa (k := 1) (ty := .int) rfl (by decide +kernel) (by decide) (fun _ => rfl) rfl rfl (by decide) wAC_int (by decide) (by decide +kernel) (by decide +kernel) (by decide) (by decide +kernel) (jrl_of rfl) (jrl_of rfl) dX5_init_72 ?_
  rw [show ln 7 = 480 from by decide +kernel]
  refine jn_putR (q := 4) (k := 7) (T := TX5) (ty0 := tyX5) (N := 9) (off := 5) (by decide) rfl rfl (by decide +kernel) (by decide) rfl (by decide) in_X5 tyX5_ok nmX5 rfl rfl xFL_X5_37 rfl rfl (by decide) (fun _ => rfl) (fun _ => rfl) dX5_init_74 ?_
  refine jn_aload_n dX5_init_77 rfl 0 rfl ?_
  refine jn_aload_n dX5_init_78 rfl 0 rfl ?_
  refine jn_get (q := 4) (k := 0) (T := TX5) (N := 9) (v := .int (40 : Int32)) (by decide) (by decide +kernel) (by decide) rfl (by decide) in_X5 rfl xFL_X5_15 (fun ρ => by rw [jfl_nth (f := none) rfl]; simp [jfm, wI_sI, jv]) dX5_init_79 ?_
  refine jn_aload_n dX5_init_82 rfl 0 rfl ?_
  refine jn_get (q := 4) (k := 1) (T := TX5) (N := 9) (v := .int (12 : Int32)) (by decide) (by decide +kernel) (by decide) rfl (by decide) in_X5 rfl xFL_X5_21 (fun ρ => by rw [jfl_nth (f := none) rfl]; simp [jfm, wI_sI, jv]) dX5_init_83 ?_
  refine jn_imul dX5_init_86 ?_
  rw [show (40 : Int32) * (12 : Int32) = (480 : Int32) from by decide]
  refine jn_newl (by decide +kernel) wAC_long (by decide) (by decide +kernel) (by decide +kernel) (by decide) (by decide +kernel) (jrl_of rfl) (jrl_of rfl) dX5_init_87 ?_
  rw [show ln 8 = 480 from by decide +kernel]
  refine jn_putR (q := 4) (k := 8) (T := TX5) (ty0 := tyX5) (N := 9) (off := 6) (by decide) rfl rfl (by decide +kernel) (by decide) rfl (by decide) in_X5 tyX5_ok nmX5 rfl rfl xFL_X5_40 rfl rfl (by decide) (fun _ => rfl) (fun _ => rfl) dX5_init_89 ?_
  exact jn_vret rfl dX5_init_92
theorem xML_X8_13 : Cond.methodLink RX8 13 yX5_init ∈ jT := jT_t1 (i := 38) (by decide +kernel) (by decide +kernel)
theorem xFL_X8_16 : Cond.fieldLink RX8 16 RX8 (TX8 0).2.1 (TX8 0).2.2.1 ∈ jT := jT_t2 (i := 22) (by decide +kernel) (by decide +kernel)
def wCX5_init_9 (w : jWd) : jWd := (sI (sI w 9 0 (12 : Int32)) 9 1 (12 : Int32))
def mCX5_init_9 (mk : Nat → Nat → Bool) : Nat → Nat → Bool := (mkS (mkS (mkS (mkS (mkS (mkS mk 9 3) 9 4) 9 5) 9 6) 9 7) 9 8)
set_option maxRecDepth 100000 in
set_option maxHeartbeats 4000000 in
theorem cX5_init_9 {w : jWd} {mk : Nat → Nat → Bool} : JNM yX5_init MX5_init 1 6 336 [.ref 9, .int (12 : Int32), .int (12 : Int32)] w 10 mk none (wCX5_init_9 w) 16 (mCX5_init_9 mk) := by
  refine jnm_of (by decide +kernel) rfl (Nat.le_of_ble_eq_true rfl) ?_
  show JN MX5_init 1 6 336 (none, (wCX5_init_9 w), 16, (mCX5_init_9 mk), 10, "<init>") w 10 mk 0 0 0 [(0, .ref 9), (1, .int (12 : Int32)), (2, .int (12 : Int32))] []
  refine jn_aload_n dX5_init_0 rfl 0 rfl ?_
  refine jn_obj xML_X5_3 wOI.1 wOI.2 (by decide) (Nat.le_of_ble_eq_true rfl) dX5_init_1 ?_
  refine jn_aload_n dX5_init_4 rfl 0 rfl ?_
  refine jn_iconst (v := (0 : Int32)) dX5_init_5 (by decide) ?_
  refine jn_iload_n dX5_init_6 rfl 1 rfl ?_
  refine jn_imax xML_X5_9 (by decide) (by decide) (by decide +kernel) (Nat.le_of_ble_eq_true rfl) dX5_init_7 ?_
  rw [show imax (0 : Int32) (12 : Int32) = (12 : Int32) from by decide]
  refine jn_putF (q := 4) (k := 0) (T := TX5) (ty0 := tyX5) (N := 9) (by decide) rfl rfl (by decide +kernel) (by decide) rfl (by decide) in_X5 tyX5_ok nmX5 rfl rfl rfl xFL_X5_15 rfl dX5_init_10 ?_
  refine jn_aload_n dX5_init_13 rfl 0 rfl ?_
  refine jn_iconst (v := (0 : Int32)) dX5_init_14 (by decide) ?_
  refine jn_iload_n dX5_init_15 rfl 2 rfl ?_
  refine jn_imax xML_X5_9 (by decide) (by decide) (by decide +kernel) (Nat.le_of_ble_eq_true rfl) dX5_init_16 ?_
  rw [show imax (0 : Int32) (12 : Int32) = (12 : Int32) from by decide]
  refine jn_putF (q := 4) (k := 1) (T := TX5) (ty0 := tyX5) (N := 9) (by decide) rfl rfl (by decide +kernel) (by decide) rfl (by decide) in_X5 tyX5_ok nmX5 rfl rfl rfl xFL_X5_21 rfl dX5_init_19 ?_
  refine jn_aload_n dX5_init_22 rfl 0 rfl ?_
  refine jn_aload_n dX5_init_23 rfl 0 rfl ?_
  refine jn_get (q := 4) (k := 0) (T := TX5) (N := 9) (v := .int (12 : Int32)) (by decide) (by decide +kernel) (by decide) rfl (by decide) in_X5 rfl xFL_X5_15 (fun ρ => by rw [jfl_nth (f := none) rfl]; simp [jfm, wI_sI, jv, wCX5_init_2]) dX5_init_24 ?_
  refine jn_newa (k := 1) (ty := .int) rfl (by decide +kernel) (by decide) (fun _ => rfl) rfl rfl (by decide) wAC_int (by decide) (by decide +kernel) (by decide +kernel) (by decide) (by decide +kernel) (jrl_of rfl) (jrl_of rfl) dX5_init_27 ?_
  rw [show ln 10 = 12 from by decide +kernel]
  refine jn_putR (q := 4) (k := 3) (T := TX5) (ty0 := tyX5) (N := 9) (off := 1) (by decide) rfl rfl (by decide +kernel) (by decide) rfl (by decide) in_X5 tyX5_ok nmX5 rfl rfl xFL_X5_24 rfl rfl (by decide) (fun _ => rfl) (fun _ => rfl) dX5_init_29 ?_
  refine jn_aload_n dX5_init_32 rfl 0 rfl ?_
  refine jn_aload_n dX5_init_33 rfl 0 rfl ?_
  refine jn_get (q := 4) (k := 0) (T := TX5) (N := 9) (v := .int (12 : Int32)) (by decide) (by decide +kernel) (by decide) rfl (by decide) in_X5 rfl xFL_X5_15 (fun ρ => by rw [jfl_nth (f := none) rfl]; simp [jfm, wI_sI, jv, wCX5_init_2]) dX5_init_34 ?_
  refine jn_newa (k := 1) (ty := .int) rfl (by decide +kernel) (by decide) (fun _ => rfl) rfl rfl (by decide) wAC_int (by decide) (by decide +kernel) (by decide +kernel) (by decide) (by decide +kernel) (jrl_of rfl) (jrl_of rfl) dX5_init_37 ?_
  rw [show ln 11 = 12 from by decide +kernel]
  refine jn_putR (q := 4) (k := 4) (T := TX5) (ty0 := tyX5) (N := 9) (off := 2) (by decide) rfl rfl (by decide +kernel) (by decide) rfl (by decide) in_X5 tyX5_ok nmX5 rfl rfl xFL_X5_28 rfl rfl (by decide) (fun _ => rfl) (fun _ => rfl) dX5_init_39 ?_
  refine jn_aload_n dX5_init_42 rfl 0 rfl ?_
  refine jn_aload_n dX5_init_43 rfl 0 rfl ?_
  refine jn_get (q := 4) (k := 0) (T := TX5) (N := 9) (v := .int (12 : Int32)) (by decide) (by decide +kernel) (by decide) rfl (by decide) in_X5 rfl xFL_X5_15 (fun ρ => by rw [jfl_nth (f := none) rfl]; simp [jfm, wI_sI, jv, wCX5_init_2]) dX5_init_44 ?_
  refine jn_newa (k := 1) (ty := .int) rfl (by decide +kernel) (by decide) (fun _ => rfl) rfl rfl (by decide) wAC_int (by decide) (by decide +kernel) (by decide +kernel) (by decide) (by decide +kernel) (jrl_of rfl) (jrl_of rfl) dX5_init_47 ?_
  rw [show ln 12 = 12 from by decide +kernel]
  refine jn_putR (q := 4) (k := 5) (T := TX5) (ty0 := tyX5) (N := 9) (off := 3) (by decide) rfl rfl (by decide +kernel) (by decide) rfl (by decide) in_X5 tyX5_ok nmX5 rfl rfl xFL_X5_31 rfl rfl (by decide) (fun _ => rfl) (fun _ => rfl) dX5_init_49 ?_
  refine jn_aload_n dX5_init_52 rfl 0 rfl ?_
  refine jn_aload_n dX5_init_53 rfl 0 rfl ?_
  refine jn_get (q := 4) (k := 0) (T := TX5) (N := 9) (v := .int (12 : Int32)) (by decide) (by decide +kernel) (by decide) rfl (by decide) in_X5 rfl xFL_X5_15 (fun ρ => by rw [jfl_nth (f := none) rfl]; simp [jfm, wI_sI, jv, wCX5_init_2]) dX5_init_54 ?_
  refine jn_newa (k := 1) (ty := .int) rfl (by decide +kernel) (by decide) (fun _ => rfl) rfl rfl (by decide) wAC_int (by decide) (by decide +kernel) (by decide +kernel) (by decide) (by decide +kernel) (jrl_of rfl) (jrl_of rfl) dX5_init_57 ?_
  rw [show ln 13 = 12 from by decide +kernel]
  refine jn_putR (q := 4) (k := 6) (T := TX5) (ty0 := tyX5) (N := 9) (off := 4) (by decide) rfl rfl (by decide +kernel) (by decide) rfl (by decide) in_X5 tyX5_ok nmX5 rfl rfl xFL_X5_34 rfl rfl (by decide) (fun _ => rfl) (fun _ => rfl) dX5_init_59 ?_
  refine jn_aload_n dX5_init_62 rfl 0 rfl ?_
  refine jn_aload_n dX5_init_63 rfl 0 rfl ?_
  refine jn_get (q := 4) (k := 0) (T := TX5) (N := 9) (v := .int (12 : Int32)) (by decide) (by decide +kernel) (by decide) rfl (by decide) in_X5 rfl xFL_X5_15 (fun ρ => by rw [jfl_nth (f := none) rfl]; simp [jfm, wI_sI, jv, wCX5_init_2]) dX5_init_64 ?_
  refine jn_aload_n dX5_init_67 rfl 0 rfl ?_
  refine jn_get (q := 4) (k := 1) (T := TX5) (N := 9) (v := .int (12 : Int32)) (by decide) (by decide +kernel) (by decide) rfl (by decide) in_X5 rfl xFL_X5_21 (fun ρ => by rw [jfl_nth (f := none) rfl]; simp [jfm, wI_sI, jv, wCX5_init_2]) dX5_init_68 ?_
  refine jn_imul dX5_init_71 ?_
  rw [show (12 : Int32) * (12 : Int32) = (144 : Int32) from by decide]
  refine jn_newa (k := 1) (ty := .int) rfl (by decide +kernel) (by decide) (fun _ => rfl) rfl rfl (by decide) wAC_int (by decide) (by decide +kernel) (by decide +kernel) (by decide) (by decide +kernel) (jrl_of rfl) (jrl_of rfl) dX5_init_72 ?_
  rw [show ln 14 = 144 from by decide +kernel]
  refine jn_putR (q := 4) (k := 7) (T := TX5) (ty0 := tyX5) (N := 9) (off := 5) (by decide) rfl rfl (by decide +kernel) (by decide) rfl (by decide) in_X5 tyX5_ok nmX5 rfl rfl xFL_X5_37 rfl rfl (by decide) (fun _ => rfl) (fun _ => rfl) dX5_init_74 ?_
  refine jn_aload_n dX5_init_77 rfl 0 rfl ?_
  refine jn_aload_n dX5_init_78 rfl 0 rfl ?_
  refine jn_get (q := 4) (k := 0) (T := TX5) (N := 9) (v := .int (12 : Int32)) (by decide) (by decide +kernel) (by decide) rfl (by decide) in_X5 rfl xFL_X5_15 (fun ρ => by rw [jfl_nth (f := none) rfl]; simp [jfm, wI_sI, jv, wCX5_init_2]) dX5_init_79 ?_
  refine jn_aload_n dX5_init_82 rfl 0 rfl ?_
  refine jn_get (q := 4) (k := 1) (T := TX5) (N := 9) (v := .int (12 : Int32)) (by decide) (by decide +kernel) (by decide) rfl (by decide) in_X5 rfl xFL_X5_21 (fun ρ => by rw [jfl_nth (f := none) rfl]; simp [jfm, wI_sI, jv, wCX5_init_2]) dX5_init_83 ?_
  refine jn_imul dX5_init_86 ?_
  rw [show (12 : Int32) * (12 : Int32) = (144 : Int32) from by decide]
  refine jn_newl (by decide +kernel) wAC_long (by decide) (by decide +kernel) (by decide +kernel) (by decide) (by decide +kernel) (jrl_of rfl) (jrl_of rfl) dX5_init_87 ?_
  rw [show ln 15 = 144 from by decide +kernel]
  refine jn_putR (q := 4) (k := 8) (T := TX5) (ty0 := tyX5) (N := 9) (off := 6) (by decide) rfl rfl (by decide +kernel) (by decide) rfl (by decide) in_X5 tyX5_ok nmX5 rfl rfl xFL_X5_40 rfl rfl (by decide) (fun _ => rfl) (fun _ => rfl) dX5_init_89 ?_
  exact jn_vret rfl dX5_init_92
theorem xFL_X8_20 : Cond.fieldLink RX8 20 RX8 (TX8 1).2.1 (TX8 1).2.2.1 ∈ jT := jT_t2 (i := 25) (by decide +kernel) (by decide +kernel)
def wCX5_init_16 (w : jWd) : jWd := (sI (sI w 16 0 (1 : Int32)) 16 1 (60 : Int32))
def mCX5_init_16 (mk : Nat → Nat → Bool) : Nat → Nat → Bool := (mkS (mkS (mkS (mkS (mkS (mkS mk 16 3) 16 4) 16 5) 16 6) 16 7) 16 8)
set_option maxRecDepth 100000 in
set_option maxHeartbeats 4000000 in
theorem cX5_init_16 {w : jWd} {mk : Nat → Nat → Bool} : JNM yX5_init MX5_init 1 6 124 [.ref 16, .int (1 : Int32), .int (60 : Int32)] w 17 mk none (wCX5_init_16 w) 23 (mCX5_init_16 mk) := by
  refine jnm_of (by decide +kernel) rfl (Nat.le_of_ble_eq_true rfl) ?_
  show JN MX5_init 1 6 124 (none, (wCX5_init_16 w), 23, (mCX5_init_16 mk), 17, "<init>") w 17 mk 0 0 0 [(0, .ref 16), (1, .int (1 : Int32)), (2, .int (60 : Int32))] []
  refine jn_aload_n dX5_init_0 rfl 0 rfl ?_
  refine jn_obj xML_X5_3 wOI.1 wOI.2 (by decide) (Nat.le_of_ble_eq_true rfl) dX5_init_1 ?_
  refine jn_aload_n dX5_init_4 rfl 0 rfl ?_
  refine jn_iconst (v := (0 : Int32)) dX5_init_5 (by decide) ?_
  refine jn_iload_n dX5_init_6 rfl 1 rfl ?_
  refine jn_imax xML_X5_9 (by decide) (by decide) (by decide +kernel) (Nat.le_of_ble_eq_true rfl) dX5_init_7 ?_
  rw [show imax (0 : Int32) (1 : Int32) = (1 : Int32) from by decide]
  refine jn_putF (q := 4) (k := 0) (T := TX5) (ty0 := tyX5) (N := 9) (by decide) rfl rfl (by decide +kernel) (by decide) rfl (by decide) in_X5 tyX5_ok nmX5 rfl rfl rfl xFL_X5_15 rfl dX5_init_10 ?_
  refine jn_aload_n dX5_init_13 rfl 0 rfl ?_
  refine jn_iconst (v := (0 : Int32)) dX5_init_14 (by decide) ?_
  refine jn_iload_n dX5_init_15 rfl 2 rfl ?_
  refine jn_imax xML_X5_9 (by decide) (by decide) (by decide +kernel) (Nat.le_of_ble_eq_true rfl) dX5_init_16 ?_
  rw [show imax (0 : Int32) (60 : Int32) = (60 : Int32) from by decide]
  refine jn_putF (q := 4) (k := 1) (T := TX5) (ty0 := tyX5) (N := 9) (by decide) rfl rfl (by decide +kernel) (by decide) rfl (by decide) in_X5 tyX5_ok nmX5 rfl rfl rfl xFL_X5_21 rfl dX5_init_19 ?_
  refine jn_aload_n dX5_init_22 rfl 0 rfl ?_
  refine jn_aload_n dX5_init_23 rfl 0 rfl ?_
  refine jn_get (q := 4) (k := 0) (T := TX5) (N := 9) (v := .int (1 : Int32)) (by decide) (by decide +kernel) (by decide) rfl (by decide) in_X5 rfl xFL_X5_15 (fun ρ => by rw [jfl_nth (f := none) rfl]; simp [jfm, wI_sI, jv, wCX5_init_2, wCX5_init_9]) dX5_init_24 ?_
  refine jn_newa (k := 1) (ty := .int) rfl (by decide +kernel) (by decide) (fun _ => rfl) rfl rfl (by decide) wAC_int (by decide) (by decide +kernel) (by decide +kernel) (by decide) (by decide +kernel) (jrl_of rfl) (jrl_of rfl) dX5_init_27 ?_
  rw [show ln 17 = 1 from by decide +kernel]
  refine jn_putR (q := 4) (k := 3) (T := TX5) (ty0 := tyX5) (N := 9) (off := 1) (by decide) rfl rfl (by decide +kernel) (by decide) rfl (by decide) in_X5 tyX5_ok nmX5 rfl rfl xFL_X5_24 rfl rfl (by decide) (fun _ => rfl) (fun _ => rfl) dX5_init_29 ?_
  refine jn_aload_n dX5_init_32 rfl 0 rfl ?_
  refine jn_aload_n dX5_init_33 rfl 0 rfl ?_
  refine jn_get (q := 4) (k := 0) (T := TX5) (N := 9) (v := .int (1 : Int32)) (by decide) (by decide +kernel) (by decide) rfl (by decide) in_X5 rfl xFL_X5_15 (fun ρ => by rw [jfl_nth (f := none) rfl]; simp [jfm, wI_sI, jv, wCX5_init_2, wCX5_init_9]) dX5_init_34 ?_
  refine jn_newa (k := 1) (ty := .int) rfl (by decide +kernel) (by decide) (fun _ => rfl) rfl rfl (by decide) wAC_int (by decide) (by decide +kernel) (by decide +kernel) (by decide) (by decide +kernel) (jrl_of rfl) (jrl_of rfl) dX5_init_37 ?_
  rw [show ln 18 = 1 from by decide +kernel]
  refine jn_putR (q := 4) (k := 4) (T := TX5) (ty0 := tyX5) (N := 9) (off := 2) (by decide) rfl rfl (by decide +kernel) (by decide) rfl (by decide) in_X5 tyX5_ok nmX5 rfl rfl xFL_X5_28 rfl rfl (by decide) (fun _ => rfl) (fun _ => rfl) dX5_init_39 ?_
  refine jn_aload_n dX5_init_42 rfl 0 rfl ?_
  refine jn_aload_n dX5_init_43 rfl 0 rfl ?_
  refine jn_get (q := 4) (k := 0) (T := TX5) (N := 9) (v := .int (1 : Int32)) (by decide) (by decide +kernel) (by decide) rfl (by decide) in_X5 rfl xFL_X5_15 (fun ρ => by rw [jfl_nth (f := none) rfl]; simp [jfm, wI_sI, jv, wCX5_init_2, wCX5_init_9]) dX5_init_44 ?_
  refine jn_newa (k := 1) (ty := .int) rfl (by decide +kernel) (by decide) (fun _ => rfl) rfl rfl (by decide) wAC_int (by decide) (by decide +kernel) (by decide +kernel) (by decide) (by decide +kernel) (jrl_of rfl) (jrl_of rfl) dX5_init_47 ?_
  rw [show ln 19 = 1 from by decide +kernel]
  refine jn_putR (q := 4) (k := 5) (T := TX5) (ty0 := tyX5) (N := 9) (off := 3) (by decide) rfl rfl (by decide +kernel) (by decide) rfl (by decide) in_X5 tyX5_ok nmX5 rfl rfl xFL_X5_31 rfl rfl (by decide) (fun _ => rfl) (fun _ => rfl) dX5_init_49 ?_
  refine jn_aload_n dX5_init_52 rfl 0 rfl ?_
  refine jn_aload_n dX5_init_53 rfl 0 rfl ?_
  refine jn_get (q := 4) (k := 0) (T := TX5) (N := 9) (v := .int (1 : Int32)) (by decide) (by decide +kernel) (by decide) rfl (by decide) in_X5 rfl xFL_X5_15 (fun ρ => by rw [jfl_nth (f := none) rfl]; simp [jfm, wI_sI, jv, wCX5_init_2, wCX5_init_9]) dX5_init_54 ?_
  refine jn_newa (k := 1) (ty := .int) rfl (by decide +kernel) (by decide) (fun _ => rfl) rfl rfl (by decide) wAC_int (by decide) (by decide +kernel) (by decide +kernel) (by decide) (by decide +kernel) (jrl_of rfl) (jrl_of rfl) dX5_init_57 ?_
  rw [show ln 20 = 1 from by decide +kernel]
  refine jn_putR (q := 4) (k := 6) (T := TX5) (ty0 := tyX5) (N := 9) (off := 4) (by decide) rfl rfl (by decide +kernel) (by decide) rfl (by decide) in_X5 tyX5_ok nmX5 rfl rfl xFL_X5_34 rfl rfl (by decide) (fun _ => rfl) (fun _ => rfl) dX5_init_59 ?_
  refine jn_aload_n dX5_init_62 rfl 0 rfl ?_
  refine jn_aload_n dX5_init_63 rfl 0 rfl ?_
  refine jn_get (q := 4) (k := 0) (T := TX5) (N := 9) (v := .int (1 : Int32)) (by decide) (by decide +kernel) (by decide) rfl (by decide) in_X5 rfl xFL_X5_15 (fun ρ => by rw [jfl_nth (f := none) rfl]; simp [jfm, wI_sI, jv, wCX5_init_2, wCX5_init_9]) dX5_init_64 ?_
  refine jn_aload_n dX5_init_67 rfl 0 rfl ?_
  refine jn_get (q := 4) (k := 1) (T := TX5) (N := 9) (v := .int (60 : Int32)) (by decide) (by decide +kernel) (by decide) rfl (by decide) in_X5 rfl xFL_X5_21 (fun ρ => by rw [jfl_nth (f := none) rfl]; simp [jfm, wI_sI, jv, wCX5_init_2, wCX5_init_9]) dX5_init_68 ?_
  refine jn_imul dX5_init_71 ?_
  rw [show (1 : Int32) * (60 : Int32) = (60 : Int32) from by decide]
  refine jn_newa (k := 1) (ty := .int) rfl (by decide +kernel) (by decide) (fun _ => rfl) rfl rfl (by decide) wAC_int (by decide) (by decide +kernel) (by decide +kernel) (by decide) (by decide +kernel) (jrl_of rfl) (jrl_of rfl) dX5_init_72 ?_
  rw [show ln 21 = 60 from by decide +kernel]
  refine jn_putR (q := 4) (k := 7) (T := TX5) (ty0 := tyX5) (N := 9) (off := 5) (by decide) rfl rfl (by decide +kernel) (by decide) rfl (by decide) in_X5 tyX5_ok nmX5 rfl rfl xFL_X5_37 rfl rfl (by decide) (fun _ => rfl) (fun _ => rfl) dX5_init_74 ?_
  refine jn_aload_n dX5_init_77 rfl 0 rfl ?_
  refine jn_aload_n dX5_init_78 rfl 0 rfl ?_
  refine jn_get (q := 4) (k := 0) (T := TX5) (N := 9) (v := .int (1 : Int32)) (by decide) (by decide +kernel) (by decide) rfl (by decide) in_X5 rfl xFL_X5_15 (fun ρ => by rw [jfl_nth (f := none) rfl]; simp [jfm, wI_sI, jv, wCX5_init_2, wCX5_init_9]) dX5_init_79 ?_
  refine jn_aload_n dX5_init_82 rfl 0 rfl ?_
  refine jn_get (q := 4) (k := 1) (T := TX5) (N := 9) (v := .int (60 : Int32)) (by decide) (by decide +kernel) (by decide) rfl (by decide) in_X5 rfl xFL_X5_21 (fun ρ => by rw [jfl_nth (f := none) rfl]; simp [jfm, wI_sI, jv, wCX5_init_2, wCX5_init_9]) dX5_init_83 ?_
  refine jn_imul dX5_init_86 ?_
  rw [show (1 : Int32) * (60 : Int32) = (60 : Int32) from by decide]
  refine jn_newl (by decide +kernel) wAC_long (by decide) (by decide +kernel) (by decide +kernel) (by decide) (by decide +kernel) (jrl_of rfl) (jrl_of rfl) dX5_init_87 ?_
  rw [show ln 22 = 60 from by decide +kernel]
  refine jn_putR (q := 4) (k := 8) (T := TX5) (ty0 := tyX5) (N := 9) (off := 6) (by decide) rfl rfl (by decide +kernel) (by decide) rfl (by decide) in_X5 tyX5_ok nmX5 rfl rfl xFL_X5_40 rfl rfl (by decide) (fun _ => rfl) (fun _ => rfl) dX5_init_89 ?_
  exact jn_vret rfl dX5_init_92
theorem xFL_X8_23 : Cond.fieldLink RX8 23 RX8 (TX8 2).2.1 (TX8 2).2.2.1 ∈ jT := jT_t2 (i := 28) (by decide +kernel) (by decide +kernel)
def wCX5_init_23 (w : jWd) : jWd := (sI (sI w 23 0 (20 : Int32)) 23 1 (2 : Int32))
def mCX5_init_23 (mk : Nat → Nat → Bool) : Nat → Nat → Bool := (mkS (mkS (mkS (mkS (mkS (mkS mk 23 3) 23 4) 23 5) 23 6) 23 7) 23 8)
set_option maxRecDepth 100000 in
set_option maxHeartbeats 4000000 in
theorem cX5_init_23 {w : jWd} {mk : Nat → Nat → Bool} : JNM yX5_init MX5_init 1 6 160 [.ref 23, .int (20 : Int32), .int (2 : Int32)] w 24 mk none (wCX5_init_23 w) 30 (mCX5_init_23 mk) := by
  refine jnm_of (by decide +kernel) rfl (Nat.le_of_ble_eq_true rfl) ?_
  show JN MX5_init 1 6 160 (none, (wCX5_init_23 w), 30, (mCX5_init_23 mk), 24, "<init>") w 24 mk 0 0 0 [(0, .ref 23), (1, .int (20 : Int32)), (2, .int (2 : Int32))] []
  refine jn_aload_n dX5_init_0 rfl 0 rfl ?_
  refine jn_obj xML_X5_3 wOI.1 wOI.2 (by decide) (Nat.le_of_ble_eq_true rfl) dX5_init_1 ?_
  refine jn_aload_n dX5_init_4 rfl 0 rfl ?_
  refine jn_iconst (v := (0 : Int32)) dX5_init_5 (by decide) ?_
  refine jn_iload_n dX5_init_6 rfl 1 rfl ?_
  refine jn_imax xML_X5_9 (by decide) (by decide) (by decide +kernel) (Nat.le_of_ble_eq_true rfl) dX5_init_7 ?_
  rw [show imax (0 : Int32) (20 : Int32) = (20 : Int32) from by decide]
  refine jn_putF (q := 4) (k := 0) (T := TX5) (ty0 := tyX5) (N := 9) (by decide) rfl rfl (by decide +kernel) (by decide) rfl (by decide) in_X5 tyX5_ok nmX5 rfl rfl rfl xFL_X5_15 rfl dX5_init_10 ?_
  refine jn_aload_n dX5_init_13 rfl 0 rfl ?_
  refine jn_iconst (v := (0 : Int32)) dX5_init_14 (by decide) ?_
  refine jn_iload_n dX5_init_15 rfl 2 rfl ?_
  refine jn_imax xML_X5_9 (by decide) (by decide) (by decide +kernel) (Nat.le_of_ble_eq_true rfl) dX5_init_16 ?_
  rw [show imax (0 : Int32) (2 : Int32) = (2 : Int32) from by decide]
  refine jn_putF (q := 4) (k := 1) (T := TX5) (ty0 := tyX5) (N := 9) (by decide) rfl rfl (by decide +kernel) (by decide) rfl (by decide) in_X5 tyX5_ok nmX5 rfl rfl rfl xFL_X5_21 rfl dX5_init_19 ?_
  refine jn_aload_n dX5_init_22 rfl 0 rfl ?_
  refine jn_aload_n dX5_init_23 rfl 0 rfl ?_
  refine jn_get (q := 4) (k := 0) (T := TX5) (N := 9) (v := .int (20 : Int32)) (by decide) (by decide +kernel) (by decide) rfl (by decide) in_X5 rfl xFL_X5_15 (fun ρ => by rw [jfl_nth (f := none) rfl]; simp [jfm, wI_sI, jv, wCX5_init_2, wCX5_init_9, wCX5_init_16]) dX5_init_24 ?_
  refine jn_newa (k := 1) (ty := .int) rfl (by decide +kernel) (by decide) (fun _ => rfl) rfl rfl (by decide) wAC_int (by decide) (by decide +kernel) (by decide +kernel) (by decide) (by decide +kernel) (jrl_of rfl) (jrl_of rfl) dX5_init_27 ?_
  rw [show ln 24 = 20 from by decide +kernel]
  refine jn_putR (q := 4) (k := 3) (T := TX5) (ty0 := tyX5) (N := 9) (off := 1) (by decide) rfl rfl (by decide +kernel) (by decide) rfl (by decide) in_X5 tyX5_ok nmX5 rfl rfl xFL_X5_24 rfl rfl (by decide) (fun _ => rfl) (fun _ => rfl) dX5_init_29 ?_
  refine jn_aload_n dX5_init_32 rfl 0 rfl ?_
  refine jn_aload_n dX5_init_33 rfl 0 rfl ?_
  refine jn_get (q := 4) (k := 0) (T := TX5) (N := 9) (v := .int (20 : Int32)) (by decide) (by decide +kernel) (by decide) rfl (by decide) in_X5 rfl xFL_X5_15 (fun ρ => by rw [jfl_nth (f := none) rfl]; simp [jfm, wI_sI, jv, wCX5_init_2, wCX5_init_9, wCX5_init_16]) dX5_init_34 ?_
  refine jn_newa (k := 1) (ty := .int) rfl (by decide +kernel) (by decide) (fun _ => rfl) rfl rfl (by decide) wAC_int (by decide) (by decide +kernel) (by decide +kernel) (by decide) (by decide +kernel) (jrl_of rfl) (jrl_of rfl) dX5_init_37 ?_
  rw [show ln 25 = 20 from by decide +kernel]
  refine jn_putR (q := 4) (k := 4) (T := TX5) (ty0 := tyX5) (N := 9) (off := 2) (by decide) rfl rfl (by decide +kernel) (by decide) rfl (by decide) in_X5 tyX5_ok nmX5 rfl rfl xFL_X5_28 rfl rfl (by decide) (fun _ => rfl) (fun _ => rfl) dX5_init_39 ?_
  refine jn_aload_n dX5_init_42 rfl 0 rfl ?_
  refine jn_aload_n dX5_init_43 rfl 0 rfl ?_
  refine jn_get (q := 4) (k := 0) (T := TX5) (N := 9) (v := .int (20 : Int32)) (by decide) (by decide +kernel) (by decide) rfl (by decide) in_X5 rfl xFL_X5_15 (fun ρ => by rw [jfl_nth (f := none) rfl]; simp [jfm, wI_sI, jv, wCX5_init_2, wCX5_init_9, wCX5_init_16]) dX5_init_44 ?_
  refine jn_newa (k := 1) (ty := .int) rfl (by decide +kernel) (by decide) (fun _ => rfl) rfl rfl (by decide) wAC_int (by decide) (by decide +kernel) (by decide +kernel) (by decide) (by decide +kernel) (jrl_of rfl) (jrl_of rfl) dX5_init_47 ?_
  rw [show ln 26 = 20 from by decide +kernel]
  refine jn_putR (q := 4) (k := 5) (T := TX5) (ty0 := tyX5) (N := 9) (off := 3) (by decide) rfl rfl (by decide +kernel) (by decide) rfl (by decide) in_X5 tyX5_ok nmX5 rfl rfl xFL_X5_31 rfl rfl (by decide) (fun _ => rfl) (fun _ => rfl) dX5_init_49 ?_
  refine jn_aload_n dX5_init_52 rfl 0 rfl ?_
  refine jn_aload_n dX5_init_53 rfl 0 rfl ?_
  refine jn_get (q := 4) (k := 0) (T := TX5) (N := 9) (v := .int (20 : Int32)) (by decide) (by decide +kernel) (by decide) rfl (by decide) in_X5 rfl xFL_X5_15 (fun ρ => by rw [jfl_nth (f := none) rfl]; simp [jfm, wI_sI, jv, wCX5_init_2, wCX5_init_9, wCX5_init_16]) dX5_init_54 ?_
  refine jn_newa (k := 1) (ty := .int) rfl (by decide +kernel) (by decide) (fun _ => rfl) rfl rfl (by decide) wAC_int (by decide) (by decide +kernel) (by decide +kernel) (by decide) (by decide +kernel) (jrl_of rfl) (jrl_of rfl) dX5_init_57 ?_
  rw [show ln 27 = 20 from by decide +kernel]
  refine jn_putR (q := 4) (k := 6) (T := TX5) (ty0 := tyX5) (N := 9) (off := 4) (by decide) rfl rfl (by decide +kernel) (by decide) rfl (by decide) in_X5 tyX5_ok nmX5 rfl rfl xFL_X5_34 rfl rfl (by decide) (fun _ => rfl) (fun _ => rfl) dX5_init_59 ?_
  refine jn_aload_n dX5_init_62 rfl 0 rfl ?_
  refine jn_aload_n dX5_init_63 rfl 0 rfl ?_
  refine jn_get (q := 4) (k := 0) (T := TX5) (N := 9) (v := .int (20 : Int32)) (by decide) (by decide +kernel) (by decide) rfl (by decide) in_X5 rfl xFL_X5_15 (fun ρ => by rw [jfl_nth (f := none) rfl]; simp [jfm, wI_sI, jv, wCX5_init_2, wCX5_init_9, wCX5_init_16]) dX5_init_64 ?_
  refine jn_aload_n dX5_init_67 rfl 0 rfl ?_
  refine jn_get (q := 4) (k := 1) (T := TX5) (N := 9) (v := .int (2 : Int32)) (by decide) (by decide +kernel) (by decide) rfl (by decide) in_X5 rfl xFL_X5_21 (fun ρ => by rw [jfl_nth (f := none) rfl]; simp [jfm, wI_sI, jv, wCX5_init_2, wCX5_init_9, wCX5_init_16]) dX5_init_68 ?_
  refine jn_imul dX5_init_71 ?_
  rw [show (20 : Int32) * (2 : Int32) = (40 : Int32) from by decide]
  refine jn_newa (k := 1) (ty := .int) rfl (by decide +kernel) (by decide) (fun _ => rfl) rfl rfl (by decide) wAC_int (by decide) (by decide +kernel) (by decide +kernel) (by decide) (by decide +kernel) (jrl_of rfl) (jrl_of rfl) dX5_init_72 ?_
  rw [show ln 28 = 40 from by decide +kernel]
  refine jn_putR (q := 4) (k := 7) (T := TX5) (ty0 := tyX5) (N := 9) (off := 5) (by decide) rfl rfl (by decide +kernel) (by decide) rfl (by decide) in_X5 tyX5_ok nmX5 rfl rfl xFL_X5_37 rfl rfl (by decide) (fun _ => rfl) (fun _ => rfl) dX5_init_74 ?_
  refine jn_aload_n dX5_init_77 rfl 0 rfl ?_
  refine jn_aload_n dX5_init_78 rfl 0 rfl ?_
  refine jn_get (q := 4) (k := 0) (T := TX5) (N := 9) (v := .int (20 : Int32)) (by decide) (by decide +kernel) (by decide) rfl (by decide) in_X5 rfl xFL_X5_15 (fun ρ => by rw [jfl_nth (f := none) rfl]; simp [jfm, wI_sI, jv, wCX5_init_2, wCX5_init_9, wCX5_init_16]) dX5_init_79 ?_
  refine jn_aload_n dX5_init_82 rfl 0 rfl ?_
  refine jn_get (q := 4) (k := 1) (T := TX5) (N := 9) (v := .int (2 : Int32)) (by decide) (by decide +kernel) (by decide) rfl (by decide) in_X5 rfl xFL_X5_21 (fun ρ => by rw [jfl_nth (f := none) rfl]; simp [jfm, wI_sI, jv, wCX5_init_2, wCX5_init_9, wCX5_init_16]) dX5_init_83 ?_
  refine jn_imul dX5_init_86 ?_
  rw [show (20 : Int32) * (2 : Int32) = (40 : Int32) from by decide]
  refine jn_newl (by decide +kernel) wAC_long (by decide) (by decide +kernel) (by decide +kernel) (by decide) (by decide +kernel) (jrl_of rfl) (jrl_of rfl) dX5_init_87 ?_
  rw [show ln 29 = 40 from by decide +kernel]
  refine jn_putR (q := 4) (k := 8) (T := TX5) (ty0 := tyX5) (N := 9) (off := 6) (by decide) rfl rfl (by decide +kernel) (by decide) rfl (by decide) in_X5 tyX5_ok nmX5 rfl rfl xFL_X5_40 rfl rfl (by decide) (fun _ => rfl) (fun _ => rfl) dX5_init_89 ?_
  exact jn_vret rfl dX5_init_92
theorem xFL_X8_26 : Cond.fieldLink RX8 26 RX8 (TX8 3).2.1 (TX8 3).2.2.1 ∈ jT := jT_t2 (i := 31) (by decide +kernel) (by decide +kernel)
theorem xFL_X8_29 : Cond.fieldLink RX8 29 RX8 (TX8 4).2.1 (TX8 4).2.2.1 ∈ jT := jT_t2 (i := 33) (by decide +kernel) (by decide +kernel)
theorem xFL_X8_33 : Cond.fieldLink RX8 33 RX8 (TX8 5).2.1 (TX8 5).2.2.1 ∈ jT := jT_t2 (i := 35) (by decide +kernel) (by decide +kernel)
theorem xCL_X8_37 : Cond.classLink RX8 37 RX1 ∈ jT := jT_t1 (i := 90) (by decide +kernel) (by decide +kernel)
theorem xIN_X1 : Cond.instantiable RX1 8 ∈ jT := jT_t1 (i := 91) (by decide +kernel) (by decide +kernel)
theorem xIN_X1I : Cond.initialized RX1 ∈ jT := jT_t1 (i := 5) (by decide +kernel) (by decide +kernel)
theorem xML_X1_3 : Cond.methodLink RX1 3 Lib.objectInit ∈ jT := jT_t1 (i := 95) (by decide +kernel) (by decide +kernel)
theorem xFL_X1_11 : Cond.fieldLink RX1 11 RX1 (TX1 2).2.1 (TX1 2).2.2.1 ∈ jT := jT_t1 (i := 101) (by decide +kernel) (by decide +kernel)
theorem xFL_X1_15 : Cond.fieldLink RX1 15 RX1 (TX1 3).2.1 (TX1 3).2.2.1 ∈ jT := jT_t1 (i := 102) (by decide +kernel) (by decide +kernel)
theorem xFL_X1_18 : Cond.fieldLink RX1 18 RX1 (TX1 4).2.1 (TX1 4).2.2.1 ∈ jT := jT_t1 (i := 103) (by decide +kernel) (by decide +kernel)
theorem xFL_X1_22 : Cond.fieldLink RX1 22 RX1 (TX1 5).2.1 (TX1 5).2.2.1 ∈ jT := jT_t1 (i := 104) (by decide +kernel) (by decide +kernel)
theorem xFL_X1_25 : Cond.fieldLink RX1 25 RX1 (TX1 6).2.1 (TX1 6).2.2.1 ∈ jT := jT_t1 (i := 105) (by decide +kernel) (by decide +kernel)
theorem xFL_X1_28 : Cond.fieldLink RX1 28 RX1 (TX1 7).2.1 (TX1 7).2.2.1 ∈ jT := jT_t1 (i := 106) (by decide +kernel) (by decide +kernel)
def mCX1_init_32 (mk : Nat → Nat → Bool) : Nat → Nat → Bool := (mkS (mkS (mkS (mkS (mkS (mkS mk 32 2) 32 3) 32 4) 32 5) 32 6) 32 7)
set_option maxRecDepth 100000 in
set_option maxHeartbeats 4000000 in
theorem cX1_init_32 {w : jWd} {mk : Nat → Nat → Bool} : JNM yX1_init MX1_init 1 6 448 [.ref 32] w 33 mk none w 39 (mCX1_init_32 mk) := by
  refine jnm_of (by decide +kernel) rfl (Nat.le_of_ble_eq_true rfl) ?_
  show JN MX1_init 1 6 448 (none, w, 39, (mCX1_init_32 mk), 33, "<init>") w 33 mk 0 0 0 [(0, .ref 32)] []
  refine jn_aload_n dX1_init_0 rfl 0 rfl ?_
  refine jn_obj xML_X1_3 wOI.1 wOI.2 (by decide) (Nat.le_of_ble_eq_true rfl) dX1_init_1 ?_
  refine jn_aload_n dX1_init_4 rfl 0 rfl ?_
  refine jn_bipush (v := (12 : Int32)) dX1_init_5 (by decide) ?_
  refine jn_newl (by decide +kernel) wAC_long (by decide) (by decide +kernel) (by decide +kernel) (by decide) (by decide +kernel) (jrl_of rfl) (jrl_of rfl) dX1_init_7 ?_
  rw [show ln 33 = 12 from by decide +kernel]
  refine jn_putR (q := 1) (k := 2) (T := TX1) (ty0 := tyX1) (N := 8) (off := 1) (by decide) rfl rfl (by decide +kernel) (by decide) rfl (by decide) in_X1 tyX1_ok nmX1 rfl rfl xFL_X1_11 rfl rfl (by decide) (fun _ => rfl) (fun _ => rfl) dX1_init_9 ?_
  refine jn_aload_n dX1_init_12 rfl 0 rfl ?_
  refine jn_bipush (v := (12 : Int32)) dX1_init_13 (by decide) ?_
  refine jn_newl (by decide +kernel) wAC_long (by decide) (by decide +kernel) (by decide +kernel) (by decide) (by decide +kernel) (jrl_of rfl) (jrl_of rfl) dX1_init_15 ?_
  rw [show ln 34 = 12 from by decide +kernel]
  refine jn_putR (q := 1) (k := 3) (T := TX1) (ty0 := tyX1) (N := 8) (off := 2) (by decide) rfl rfl (by decide +kernel) (by decide) rfl (by decide) in_X1 tyX1_ok nmX1 rfl rfl xFL_X1_15 rfl rfl (by decide) (fun _ => rfl) (fun _ => rfl) dX1_init_17 ?_
  refine jn_aload_n dX1_init_20 rfl 0 rfl ?_
  refine jn_bipush (v := (12 : Int32)) dX1_init_21 (by decide) ?_
  refine jn_newa (k := 1) (ty := .int) rfl (by decide +kernel) (by decide) (fun _ => rfl) rfl rfl (by decide) wAC_int (by decide) (by decide +kernel) (by decide +kernel) (by decide) (by decide +kernel) (jrl_of rfl) (jrl_of rfl) dX1_init_23 ?_
  rw [show ln 35 = 12 from by decide +kernel]
  refine jn_putR (q := 1) (k := 4) (T := TX1) (ty0 := tyX1) (N := 8) (off := 3) (by decide) rfl rfl (by decide +kernel) (by decide) rfl (by decide) in_X1 tyX1_ok nmX1 rfl rfl xFL_X1_18 rfl rfl (by decide) (fun _ => rfl) (fun _ => rfl) dX1_init_25 ?_
  refine jn_aload_n dX1_init_28 rfl 0 rfl ?_
  refine jn_bipush (v := (12 : Int32)) dX1_init_29 (by decide) ?_
  refine jn_newa (k := 1) (ty := .int) rfl (by decide +kernel) (by decide) (fun _ => rfl) rfl rfl (by decide) wAC_int (by decide) (by decide +kernel) (by decide +kernel) (by decide) (by decide +kernel) (jrl_of rfl) (jrl_of rfl) dX1_init_31 ?_
  rw [show ln 36 = 12 from by decide +kernel]
  refine jn_putR (q := 1) (k := 5) (T := TX1) (ty0 := tyX1) (N := 8) (off := 4) (by decide) rfl rfl (by decide +kernel) (by decide) rfl (by decide) in_X1 tyX1_ok nmX1 rfl rfl xFL_X1_22 rfl rfl (by decide) (fun _ => rfl) (fun _ => rfl) dX1_init_33 ?_
  refine jn_aload_n dX1_init_36 rfl 0 rfl ?_
  refine jn_sipush (v := (200 : Int32)) dX1_init_37 (by decide) ?_
  refine jn_newa (k := 1) (ty := .int) rfl (by decide +kernel) (by decide) (fun _ => rfl) rfl rfl (by decide) wAC_int (by decide) (by decide +kernel) (by decide +kernel) (by decide) (by decide +kernel) (jrl_of rfl) (jrl_of rfl) dX1_init_40 ?_
  rw [show ln 37 = 200 from by decide +kernel]
  refine jn_putR (q := 1) (k := 6) (T := TX1) (ty0 := tyX1) (N := 8) (off := 5) (by decide) rfl rfl (by decide +kernel) (by decide) rfl (by decide) in_X1 tyX1_ok nmX1 rfl rfl xFL_X1_25 rfl rfl (by decide) (fun _ => rfl) (fun _ => rfl) dX1_init_42 ?_
  refine jn_aload_n dX1_init_45 rfl 0 rfl ?_
  refine jn_sipush (v := (200 : Int32)) dX1_init_46 (by decide) ?_
  refine jn_newa (k := 1) (ty := .int) rfl (by decide +kernel) (by decide) (fun _ => rfl) rfl rfl (by decide) wAC_int (by decide) (by decide +kernel) (by decide +kernel) (by decide) (by decide +kernel) (jrl_of rfl) (jrl_of rfl) dX1_init_49 ?_
  rw [show ln 38 = 200 from by decide +kernel]
  refine jn_putR (q := 1) (k := 7) (T := TX1) (ty0 := tyX1) (N := 8) (off := 6) (by decide) rfl rfl (by decide +kernel) (by decide) rfl (by decide) in_X1 tyX1_ok nmX1 rfl rfl xFL_X1_28 rfl rfl (by decide) (fun _ => rfl) (fun _ => rfl) dX1_init_51 ?_
  exact jn_vret rfl dX1_init_54
theorem xFL_X8_40 : Cond.fieldLink RX8 40 RX8 (TX8 6).2.1 (TX8 6).2.2.1 ∈ jT := jT_t2 (i := 37) (by decide +kernel) (by decide +kernel)
theorem xCL_X8_44 : Cond.classLink RX8 44 RX3 ∈ jT := jT_t1 (i := 124) (by decide +kernel) (by decide +kernel)
theorem xIN_X3 : Cond.instantiable RX3 5 ∈ jT := jT_t1 (i := 125) (by decide +kernel) (by decide +kernel)
theorem xIN_X3I : Cond.initialized RX3 ∈ jT := jT_t1 (i := 6) (by decide +kernel) (by decide +kernel)
theorem xML_X3_3 : Cond.methodLink RX3 3 Lib.objectInit ∈ jT := jT_t1 (i := 129) (by decide +kernel) (by decide +kernel)
theorem xFL_X3_9 : Cond.fieldLink RX3 9 RX3 (TX3 4).2.1 (TX3 4).2.2.1 ∈ jT := jT_t1 (i := 139) (by decide +kernel) (by decide +kernel)
def mCX3_init_39 (mk : Nat → Nat → Bool) : Nat → Nat → Bool := (mkS mk 39 4)
set_option maxRecDepth 100000 in
set_option maxHeartbeats 4000000 in
theorem cX3_init_39 {w : jWd} {mk : Nat → Nat → Bool} : JNM yX3_init MX3_init 1 1 256 [.ref 39] w 40 mk none w 41 (mCX3_init_39 mk) := by
  refine jnm_of (by decide +kernel) rfl (Nat.le_of_ble_eq_true rfl) ?_
  show JN MX3_init 1 1 256 (none, w, 41, (mCX3_init_39 mk), 40, "<init>") w 40 mk 0 0 0 [(0, .ref 39)] []
  refine jn_aload_n dX3_init_0 rfl 0 rfl ?_
  refine jn_obj xML_X3_3 wOI.1 wOI.2 (by decide) (Nat.le_of_ble_eq_true rfl) dX3_init_1 ?_
  refine jn_aload_n dX3_init_4 rfl 0 rfl ?_
  refine jn_sipush (v := (256 : Int32)) dX3_init_5 (by decide) ?_
  refine jn_newa (k := 1) (ty := .int) rfl (by decide +kernel) (by decide) (fun _ => rfl) rfl rfl (by decide) wAC_int (by decide) (by decide +kernel) (by decide +kernel) (by decide) (by decide +kernel) (jrl_of rfl) (jrl_of rfl) dX3_init_8 ?_
  rw [show ln 40 = 256 from by decide +kernel]
  refine jn_putR (q := 3) (k := 4) (T := TX3) (ty0 := tyX3) (N := 5) (off := 1) (by decide) rfl rfl (by decide +kernel) (by decide) rfl (by decide) in_X3 tyX3_ok nmX3 rfl rfl xFL_X3_9 rfl rfl (by decide) (fun _ => rfl) (fun _ => rfl) dX3_init_10 ?_
  exact jn_vret rfl dX3_init_13
theorem xFL_X8_47 : Cond.fieldLink RX8 47 RX8 (TX8 7).2.1 (TX8 7).2.2.1 ∈ jT := jT_t2 (i := 40) (by decide +kernel) (by decide +kernel)
theorem xCL_X8_51 : Cond.classLink RX8 51 RX0 ∈ jT := jT_t1 (i := 151) (by decide +kernel) (by decide +kernel)
theorem xIN_X0 : Cond.instantiable RX0 7 ∈ jT := jT_t1 (i := 152) (by decide +kernel) (by decide +kernel)
theorem xIN_X0I : Cond.initialized RX0 ∈ jT := jT_t1 (i := 7) (by decide +kernel) (by decide +kernel)
theorem xML_X0_3 : Cond.methodLink RX0 3 Lib.objectInit ∈ jT := jT_t1 (i := 156) (by decide +kernel) (by decide +kernel)
theorem xFL_X0_11 : Cond.fieldLink RX0 11 RX0 (TX0 1).2.1 (TX0 1).2.2.1 ∈ jT := jT_t1 (i := 160) (by decide +kernel) (by decide +kernel)
theorem xFL_X0_15 : Cond.fieldLink RX0 15 RX0 (TX0 2).2.1 (TX0 2).2.2.1 ∈ jT := jT_t1 (i := 162) (by decide +kernel) (by decide +kernel)
theorem xFL_X0_18 : Cond.fieldLink RX0 18 RX0 (TX0 3).2.1 (TX0 3).2.2.1 ∈ jT := jT_t1 (i := 165) (by decide +kernel) (by decide +kernel)
theorem xFL_X0_21 : Cond.fieldLink RX0 21 RX0 (TX0 4).2.1 (TX0 4).2.2.1 ∈ jT := jT_t1 (i := 168) (by decide +kernel) (by decide +kernel)
theorem xFL_X0_24 : Cond.fieldLink RX0 24 RX0 (TX0 5).2.1 (TX0 5).2.2.1 ∈ jT := jT_t1 (i := 169) (by decide +kernel) (by decide +kernel)
theorem xFL_X0_27 : Cond.fieldLink RX0 27 RX0 (TX0 6).2.1 (TX0 6).2.2.1 ∈ jT := jT_t1 (i := 171) (by decide +kernel) (by decide +kernel)
def mCX0_init_41 (mk : Nat → Nat → Bool) : Nat → Nat → Bool := (mkS (mkS (mkS (mkS (mkS (mkS mk 41 1) 41 2) 41 3) 41 4) 41 5) 41 6)
set_option maxRecDepth 100000 in
set_option maxHeartbeats 4000000 in
theorem cX0_init_41 {w : jWd} {mk : Nat → Nat → Bool} : JNM yX0_init MX0_init 1 6 360 [.ref 41] w 42 mk none w 48 (mCX0_init_41 mk) := by
  refine jnm_of (by decide +kernel) rfl (Nat.le_of_ble_eq_true rfl) ?_
  show JN MX0_init 1 6 360 (none, w, 48, (mCX0_init_41 mk), 42, "<init>") w 42 mk 0 0 0 [(0, .ref 41)] []
  refine jn_aload_n dX0_init_0 rfl 0 rfl ?_
  refine jn_obj xML_X0_3 wOI.1 wOI.2 (by decide) (Nat.le_of_ble_eq_true rfl) dX0_init_1 ?_
  refine jn_aload_n dX0_init_4 rfl 0 rfl ?_
  refine jn_bipush (v := (60 : Int32)) dX0_init_5 (by decide) ?_
  refine jn_newa (k := 1) (ty := .int) rfl (by decide +kernel) (by decide) (fun _ => rfl) rfl rfl (by decide) wAC_int (by decide) (by decide +kernel) (by decide +kernel) (by decide) (by decide +kernel) (jrl_of rfl) (jrl_of rfl) dX0_init_7 ?_
  rw [show ln 42 = 60 from by decide +kernel]
  refine jn_putR (q := 0) (k := 1) (T := TX0) (ty0 := tyX0) (N := 7) (off := 1) (by decide) rfl rfl (by decide +kernel) (by decide) rfl (by decide) in_X0 tyX0_ok nmX0 rfl rfl xFL_X0_11 rfl rfl (by decide) (fun _ => rfl) (fun _ => rfl) dX0_init_9 ?_
  refine jn_aload_n dX0_init_12 rfl 0 rfl ?_
  refine jn_bipush (v := (60 : Int32)) dX0_init_13 (by decide) ?_
  refine jn_newa (k := 1) (ty := .int) rfl (by decide +kernel) (by decide) (fun _ => rfl) rfl rfl (by decide) wAC_int (by decide) (by decide +kernel) (by decide +kernel) (by decide) (by decide +kernel) (jrl_of rfl) (jrl_of rfl) dX0_init_15 ?_
  rw [show ln 43 = 60 from by decide +kernel]
  refine jn_putR (q := 0) (k := 2) (T := TX0) (ty0 := tyX0) (N := 7) (off := 2) (by decide) rfl rfl (by decide +kernel) (by decide) rfl (by decide) in_X0 tyX0_ok nmX0 rfl rfl xFL_X0_15 rfl rfl (by decide) (fun _ => rfl) (fun _ => rfl) dX0_init_17 ?_
  refine jn_aload_n dX0_init_20 rfl 0 rfl ?_
  refine jn_bipush (v := (60 : Int32)) dX0_init_21 (by decide) ?_
  refine jn_newa (k := 1) (ty := .int) rfl (by decide +kernel) (by decide) (fun _ => rfl) rfl rfl (by decide) wAC_int (by decide) (by decide +kernel) (by decide +kernel) (by decide) (by decide +kernel) (jrl_of rfl) (jrl_of rfl) dX0_init_23 ?_
  rw [show ln 44 = 60 from by decide +kernel]
  refine jn_putR (q := 0) (k := 3) (T := TX0) (ty0 := tyX0) (N := 7) (off := 3) (by decide) rfl rfl (by decide +kernel) (by decide) rfl (by decide) in_X0 tyX0_ok nmX0 rfl rfl xFL_X0_18 rfl rfl (by decide) (fun _ => rfl) (fun _ => rfl) dX0_init_25 ?_
  refine jn_aload_n dX0_init_28 rfl 0 rfl ?_
  refine jn_bipush (v := (60 : Int32)) dX0_init_29 (by decide) ?_
  refine jn_newa (k := 1) (ty := .int) rfl (by decide +kernel) (by decide) (fun _ => rfl) rfl rfl (by decide) wAC_int (by decide) (by decide +kernel) (by decide +kernel) (by decide) (by decide +kernel) (jrl_of rfl) (jrl_of rfl) dX0_init_31 ?_
  rw [show ln 45 = 60 from by decide +kernel]
  refine jn_putR (q := 0) (k := 4) (T := TX0) (ty0 := tyX0) (N := 7) (off := 4) (by decide) rfl rfl (by decide +kernel) (by decide) rfl (by decide) in_X0 tyX0_ok nmX0 rfl rfl xFL_X0_21 rfl rfl (by decide) (fun _ => rfl) (fun _ => rfl) dX0_init_33 ?_
  refine jn_aload_n dX0_init_36 rfl 0 rfl ?_
  refine jn_bipush (v := (60 : Int32)) dX0_init_37 (by decide) ?_
  refine jn_newa (k := 1) (ty := .int) rfl (by decide +kernel) (by decide) (fun _ => rfl) rfl rfl (by decide) wAC_int (by decide) (by decide +kernel) (by decide +kernel) (by decide) (by decide +kernel) (jrl_of rfl) (jrl_of rfl) dX0_init_39 ?_
  rw [show ln 46 = 60 from by decide +kernel]
  refine jn_putR (q := 0) (k := 5) (T := TX0) (ty0 := tyX0) (N := 7) (off := 5) (by decide) rfl rfl (by decide +kernel) (by decide) rfl (by decide) in_X0 tyX0_ok nmX0 rfl rfl xFL_X0_24 rfl rfl (by decide) (fun _ => rfl) (fun _ => rfl) dX0_init_41 ?_
  refine jn_aload_n dX0_init_44 rfl 0 rfl ?_
  refine jn_bipush (v := (60 : Int32)) dX0_init_45 (by decide) ?_
  refine jn_newl (by decide +kernel) wAC_long (by decide) (by decide +kernel) (by decide +kernel) (by decide) (by decide +kernel) (jrl_of rfl) (jrl_of rfl) dX0_init_47 ?_
  rw [show ln 47 = 60 from by decide +kernel]
  refine jn_putR (q := 0) (k := 6) (T := TX0) (ty0 := tyX0) (N := 7) (off := 6) (by decide) rfl rfl (by decide +kernel) (by decide) rfl (by decide) in_X0 tyX0_ok nmX0 rfl rfl xFL_X0_27 rfl rfl (by decide) (fun _ => rfl) (fun _ => rfl) dX0_init_49 ?_
  exact jn_vret rfl dX0_init_52
theorem xFL_X8_54 : Cond.fieldLink RX8 54 RX8 (TX8 8).2.1 (TX8 8).2.2.1 ∈ jT := jT_t2 (i := 42) (by decide +kernel) (by decide +kernel)
theorem xCL_X8_58 : Cond.classLink RX8 58 RX9 ∈ jT := jT_t1 (i := 189) (by decide +kernel) (by decide +kernel)
theorem xIN_X9 : Cond.instantiable RX9 9 ∈ jT := jT_t1 (i := 190) (by decide +kernel) (by decide +kernel)
theorem xIN_X9I : Cond.initialized RX9 ∈ jT := jT_t1 (i := 8) (by decide +kernel) (by decide +kernel)
theorem xML_X9_3 : Cond.methodLink RX9 3 Lib.objectInit ∈ jT := jT_t1 (i := 194) (by decide +kernel) (by decide +kernel)
theorem xFL_X9_11 : Cond.fieldLink RX9 11 RX9 (TX9 3).2.1 (TX9 3).2.2.1 ∈ jT := jT_t1 (i := 201) (by decide +kernel) (by decide +kernel)
theorem xFL_X9_15 : Cond.fieldLink RX9 15 RX9 (TX9 4).2.1 (TX9 4).2.2.1 ∈ jT := jT_t1 (i := 202) (by decide +kernel) (by decide +kernel)
theorem xFL_X9_18 : Cond.fieldLink RX9 18 RX9 (TX9 5).2.1 (TX9 5).2.2.1 ∈ jT := jT_t1 (i := 203) (by decide +kernel) (by decide +kernel)
theorem xFL_X9_21 : Cond.fieldLink RX9 21 RX9 (TX9 6).2.1 (TX9 6).2.2.1 ∈ jT := jT_t1 (i := 204) (by decide +kernel) (by decide +kernel)
theorem xFL_X9_24 : Cond.fieldLink RX9 24 RX9 (TX9 7).2.1 (TX9 7).2.2.1 ∈ jT := jT_t1 (i := 205) (by decide +kernel) (by decide +kernel)
theorem xFL_X9_27 : Cond.fieldLink RX9 27 RX9 (TX9 8).2.1 (TX9 8).2.2.1 ∈ jT := jT_t1 (i := 206) (by decide +kernel) (by decide +kernel)
def mCX9_init_48 (mk : Nat → Nat → Bool) : Nat → Nat → Bool := (mkS (mkS (mkS (mkS (mkS (mkS mk 48 3) 48 4) 48 5) 48 6) 48 7) 48 8)
set_option maxRecDepth 100000 in
set_option maxHeartbeats 4000000 in
theorem cX9_init_48 {w : jWd} {mk : Nat → Nat → Bool} : JNM yX9_init MX9_init 1 6 136 [.ref 48] w 49 mk none w 55 (mCX9_init_48 mk) := by
  refine jnm_of (by decide +kernel) rfl (Nat.le_of_ble_eq_true rfl) ?_
  show JN MX9_init 1 6 136 (none, w, 55, (mCX9_init_48 mk), 49, "<init>") w 49 mk 0 0 0 [(0, .ref 48)] []
  refine jn_aload_n dX9_init_0 rfl 0 rfl ?_
  refine jn_obj xML_X9_3 wOI.1 wOI.2 (by decide) (Nat.le_of_ble_eq_true rfl) dX9_init_1 ?_
  refine jn_aload_n dX9_init_4 rfl 0 rfl ?_
  refine jn_bipush (v := (20 : Int32)) dX9_init_5 (by decide) ?_
  refine jn_newa (k := 1) (ty := .int) rfl (by decide +kernel) (by decide) (fun _ => rfl) rfl rfl (by decide) wAC_int (by decide) (by decide +kernel) (by decide +kernel) (by decide) (by decide +kernel) (jrl_of rfl) (jrl_of rfl) dX9_init_7 ?_
  rw [show ln 49 = 20 from by decide +kernel]
  refine jn_putR (q := 8) (k := 3) (T := TX9) (ty0 := tyX9) (N := 9) (off := 1) (by decide) rfl rfl (by decide +kernel) (by decide) rfl (by decide) in_X9 tyX9_ok nmX9 rfl rfl xFL_X9_11 rfl rfl (by decide) (fun _ => rfl) (fun _ => rfl) dX9_init_9 ?_
  refine jn_aload_n dX9_init_12 rfl 0 rfl ?_
  refine jn_bipush (v := (20 : Int32)) dX9_init_13 (by decide) ?_
  refine jn_newa (k := 1) (ty := .int) rfl (by decide +kernel) (by decide) (fun _ => rfl) rfl rfl (by decide) wAC_int (by decide) (by decide +kernel) (by decide +kernel) (by decide) (by decide +kernel) (jrl_of rfl) (jrl_of rfl) dX9_init_15 ?_
  rw [show ln 50 = 20 from by decide +kernel]
  refine jn_putR (q := 8) (k := 4) (T := TX9) (ty0 := tyX9) (N := 9) (off := 2) (by decide) rfl rfl (by decide +kernel) (by decide) rfl (by decide) in_X9 tyX9_ok nmX9 rfl rfl xFL_X9_15 rfl rfl (by decide) (fun _ => rfl) (fun _ => rfl) dX9_init_17 ?_
  refine jn_aload_n dX9_init_20 rfl 0 rfl ?_
  refine jn_bipush (v := (40 : Int32)) dX9_init_21 (by decide) ?_
  refine jn_newa (k := 1) (ty := .int) rfl (by decide +kernel) (by decide) (fun _ => rfl) rfl rfl (by decide) wAC_int (by decide) (by decide +kernel) (by decide +kernel) (by decide) (by decide +kernel) (jrl_of rfl) (jrl_of rfl) dX9_init_23 ?_
  rw [show ln 51 = 40 from by decide +kernel]
  refine jn_putR (q := 8) (k := 5) (T := TX9) (ty0 := tyX9) (N := 9) (off := 3) (by decide) rfl rfl (by decide +kernel) (by decide) rfl (by decide) in_X9 tyX9_ok nmX9 rfl rfl xFL_X9_18 rfl rfl (by decide) (fun _ => rfl) (fun _ => rfl) dX9_init_25 ?_
  refine jn_aload_n dX9_init_28 rfl 0 rfl ?_
  refine jn_bipush (v := (40 : Int32)) dX9_init_29 (by decide) ?_
  refine jn_newa (k := 1) (ty := .int) rfl (by decide +kernel) (by decide) (fun _ => rfl) rfl rfl (by decide) wAC_int (by decide) (by decide +kernel) (by decide +kernel) (by decide) (by decide +kernel) (jrl_of rfl) (jrl_of rfl) dX9_init_31 ?_
  rw [show ln 52 = 40 from by decide +kernel]
  refine jn_putR (q := 8) (k := 6) (T := TX9) (ty0 := tyX9) (N := 9) (off := 4) (by decide) rfl rfl (by decide +kernel) (by decide) rfl (by decide) in_X9 tyX9_ok nmX9 rfl rfl xFL_X9_21 rfl rfl (by decide) (fun _ => rfl) (fun _ => rfl) dX9_init_33 ?_
  refine jn_aload_n dX9_init_36 rfl 0 rfl ?_
  refine jn_bipush (v := (8 : Int32)) dX9_init_37 (by decide) ?_
  refine jn_newa (k := 1) (ty := .int) rfl (by decide +kernel) (by decide) (fun _ => rfl) rfl rfl (by decide) wAC_int (by decide) (by decide +kernel) (by decide +kernel) (by decide) (by decide +kernel) (jrl_of rfl) (jrl_of rfl) dX9_init_39 ?_
  rw [show ln 53 = 8 from by decide +kernel]
  refine jn_putR (q := 8) (k := 7) (T := TX9) (ty0 := tyX9) (N := 9) (off := 5) (by decide) rfl rfl (by decide +kernel) (by decide) rfl (by decide) in_X9 tyX9_ok nmX9 rfl rfl xFL_X9_24 rfl rfl (by decide) (fun _ => rfl) (fun _ => rfl) dX9_init_41 ?_
  refine jn_aload_n dX9_init_44 rfl 0 rfl ?_
  refine jn_bipush (v := (8 : Int32)) dX9_init_45 (by decide) ?_
  refine jn_newa (k := 1) (ty := .int) rfl (by decide +kernel) (by decide) (fun _ => rfl) rfl rfl (by decide) wAC_int (by decide) (by decide +kernel) (by decide +kernel) (by decide) (by decide +kernel) (jrl_of rfl) (jrl_of rfl) dX9_init_47 ?_
  rw [show ln 54 = 8 from by decide +kernel]
  refine jn_putR (q := 8) (k := 8) (T := TX9) (ty0 := tyX9) (N := 9) (off := 6) (by decide) rfl rfl (by decide +kernel) (by decide) rfl (by decide) in_X9 tyX9_ok nmX9 rfl rfl xFL_X9_27 rfl rfl (by decide) (fun _ => rfl) (fun _ => rfl) dX9_init_49 ?_
  exact jn_vret rfl dX9_init_52
theorem xFL_X8_61 : Cond.fieldLink RX8 61 RX8 (TX8 9).2.1 (TX8 9).2.2.1 ∈ jT := jT_t2 (i := 45) (by decide +kernel) (by decide +kernel)
theorem xCL_X8_65 : Cond.classLink RX8 65 RX10 ∈ jT := jT_t1 (i := 226) (by decide +kernel) (by decide +kernel)
theorem xIN_X10 : Cond.instantiable RX10 6 ∈ jT := jT_t1 (i := 227) (by decide +kernel) (by decide +kernel)
theorem xIN_X10I : Cond.initialized RX10 ∈ jT := jT_t1 (i := 9) (by decide +kernel) (by decide +kernel)
theorem xML_X10_5 : Cond.methodLink RX10 5 Lib.objectInit ∈ jT := jT_t1 (i := 231) (by decide +kernel) (by decide +kernel)
theorem xFL_X10_11 : Cond.fieldLink RX10 11 RX10 (TX10 1).2.1 (TX10 1).2.2.1 ∈ jT := jT_t1 (i := 234) (by decide +kernel) (by decide +kernel)
theorem xFL_X10_15 : Cond.fieldLink RX10 15 RX10 (TX10 2).2.1 (TX10 2).2.2.1 ∈ jT := jT_t1 (i := 235) (by decide +kernel) (by decide +kernel)
theorem xFL_X10_18 : Cond.fieldLink RX10 18 RX10 (TX10 3).2.1 (TX10 3).2.2.1 ∈ jT := jT_t1 (i := 236) (by decide +kernel) (by decide +kernel)
theorem xFL_X10_21 : Cond.fieldLink RX10 21 RX10 (TX10 4).2.1 (TX10 4).2.2.1 ∈ jT := jT_t1 (i := 237) (by decide +kernel) (by decide +kernel)
theorem xFL_X10_24 : Cond.fieldLink RX10 24 RX10 (TX10 5).2.1 (TX10 5).2.2.1 ∈ jT := jT_t1 (i := 239) (by decide +kernel) (by decide +kernel)
def mCX10_init_55 (mk : Nat → Nat → Bool) : Nat → Nat → Bool := (mkS (mkS (mkS (mkS (mkS mk 55 1) 55 2) 55 3) 55 4) 55 5)
set_option maxRecDepth 100000 in
set_option maxHeartbeats 4000000 in
theorem cX10_init_55 {w : jWd} {mk : Nat → Nat → Bool} : JNM yX10_init MX10_init 1 5 712 [.ref 55] w 56 mk none w 61 (mCX10_init_55 mk) := by
  refine jnm_of (by decide +kernel) rfl (Nat.le_of_ble_eq_true rfl) ?_
  show JN MX10_init 1 5 712 (none, w, 61, (mCX10_init_55 mk), 56, "<init>") w 56 mk 0 0 0 [(0, .ref 55)] []
  refine jn_aload_n dX10_init_0 rfl 0 rfl ?_
  refine jn_obj xML_X10_5 wOI.1 wOI.2 (by decide) (Nat.le_of_ble_eq_true rfl) dX10_init_1 ?_
  refine jn_aload_n dX10_init_4 rfl 0 rfl ?_
  refine jn_bipush (v := (8 : Int32)) dX10_init_5 (by decide) ?_
  refine jn_newa (k := 1) (ty := .int) rfl (by decide +kernel) (by decide) (fun _ => rfl) rfl rfl (by decide) wAC_int (by decide) (by decide +kernel) (by decide +kernel) (by decide) (by decide +kernel) (jrl_of rfl) (jrl_of rfl) dX10_init_7 ?_
  rw [show ln 56 = 8 from by decide +kernel]
  refine jn_putR (q := 9) (k := 1) (T := TX10) (ty0 := tyX10) (N := 6) (off := 1) (by decide) rfl rfl (by decide +kernel) (by decide) rfl (by decide) in_X10 tyX10_ok nmX10 rfl rfl xFL_X10_11 rfl rfl (by decide) (fun _ => rfl) (fun _ => rfl) dX10_init_9 ?_
  refine jn_aload_n dX10_init_12 rfl 0 rfl ?_
  refine jn_sipush (v := (128 : Int32)) dX10_init_13 (by decide) ?_
  refine jn_newa (k := 1) (ty := .int) rfl (by decide +kernel) (by decide) (fun _ => rfl) rfl rfl (by decide) wAC_int (by decide) (by decide +kernel) (by decide +kernel) (by decide) (by decide +kernel) (jrl_of rfl) (jrl_of rfl) dX10_init_16 ?_
  rw [show ln 57 = 128 from by decide +kernel]
  refine jn_putR (q := 9) (k := 2) (T := TX10) (ty0 := tyX10) (N := 6) (off := 2) (by decide) rfl rfl (by decide +kernel) (by decide) rfl (by decide) in_X10 tyX10_ok nmX10 rfl rfl xFL_X10_15 rfl rfl (by decide) (fun _ => rfl) (fun _ => rfl) dX10_init_18 ?_
  refine jn_aload_n dX10_init_21 rfl 0 rfl ?_
  refine jn_bipush (v := (64 : Int32)) dX10_init_22 (by decide) ?_
  refine jn_newa (k := 1) (ty := .int) rfl (by decide +kernel) (by decide) (fun _ => rfl) rfl rfl (by decide) wAC_int (by decide) (by decide +kernel) (by decide +kernel) (by decide) (by decide +kernel) (jrl_of rfl) (jrl_of rfl) dX10_init_24 ?_
  rw [show ln 58 = 64 from by decide +kernel]
  refine jn_putR (q := 9) (k := 3) (T := TX10) (ty0 := tyX10) (N := 6) (off := 3) (by decide) rfl rfl (by decide +kernel) (by decide) rfl (by decide) in_X10 tyX10_ok nmX10 rfl rfl xFL_X10_18 rfl rfl (by decide) (fun _ => rfl) (fun _ => rfl) dX10_init_26 ?_
  refine jn_aload_n dX10_init_29 rfl 0 rfl ?_
  refine jn_sipush (v := (256 : Int32)) dX10_init_30 (by decide) ?_
  refine jn_newa (k := 1) (ty := .int) rfl (by decide +kernel) (by decide) (fun _ => rfl) rfl rfl (by decide) wAC_int (by decide) (by decide +kernel) (by decide +kernel) (by decide) (by decide +kernel) (jrl_of rfl) (jrl_of rfl) dX10_init_33 ?_
  rw [show ln 59 = 256 from by decide +kernel]
  refine jn_putR (q := 9) (k := 4) (T := TX10) (ty0 := tyX10) (N := 6) (off := 4) (by decide) rfl rfl (by decide +kernel) (by decide) rfl (by decide) in_X10 tyX10_ok nmX10 rfl rfl xFL_X10_21 rfl rfl (by decide) (fun _ => rfl) (fun _ => rfl) dX10_init_35 ?_
  refine jn_aload_n dX10_init_38 rfl 0 rfl ?_
  refine jn_sipush (v := (256 : Int32)) dX10_init_39 (by decide) ?_
  refine jn_newa (k := 1) (ty := .int) rfl (by decide +kernel) (by decide) (fun _ => rfl) rfl rfl (by decide) wAC_int (by decide) (by decide +kernel) (by decide +kernel) (by decide) (by decide +kernel) (jrl_of rfl) (jrl_of rfl) dX10_init_42 ?_
  rw [show ln 60 = 256 from by decide +kernel]
  refine jn_putR (q := 9) (k := 5) (T := TX10) (ty0 := tyX10) (N := 6) (off := 5) (by decide) rfl rfl (by decide +kernel) (by decide) rfl (by decide) in_X10 tyX10_ok nmX10 rfl rfl xFL_X10_24 rfl rfl (by decide) (fun _ => rfl) (fun _ => rfl) dX10_init_44 ?_
  exact jn_vret rfl dX10_init_47
theorem xFL_X8_68 : Cond.fieldLink RX8 68 RX8 (TX8 10).2.1 (TX8 10).2.2.1 ∈ jT := jT_t2 (i := 47) (by decide +kernel) (by decide +kernel)
theorem xFL_X8_72 : Cond.fieldLink RX8 72 RX8 (TX8 11).2.1 (TX8 11).2.2.1 ∈ jT := jT_t2 (i := 49) (by decide +kernel) (by decide +kernel)
theorem xFL_X8_76 : Cond.fieldLink RX8 76 RX8 (TX8 12).2.1 (TX8 12).2.2.1 ∈ jT := jT_t2 (i := 52) (by decide +kernel) (by decide +kernel)
theorem xFL_X5_44 : Cond.fieldLink RX5 44 RX5 (TX5 2).2.1 (TX5 2).2.2.1 ∈ jT := jT_t1 (i := 48) (by decide +kernel) (by decide +kernel)
set_option maxRecDepth 100000 in
set_option maxHeartbeats 4000000 in
theorem cX5_isFull_16 {w : jWd} {mk : Nat → Nat → Bool} (h0 : wI w 16 0 = (1 : Int32)) (h2 : wI w 16 2 = (0 : Int32)) : JNM yX5_isFull MX5_isFull 1 0 0 [.ref 16] w 61 mk (some (.int (0 : Int32))) w 61 mk := by
  refine jnm_of (by decide +kernel) rfl (Nat.le_of_ble_eq_true rfl) ?_
  show JN MX5_isFull 1 0 0 ((some (.int (0 : Int32))), w, 61, mk, 61, "isFull") w 61 mk 0 0 0 [(0, .ref 16)] []
  refine jn_aload_n dX5_isFull_0 rfl 0 rfl ?_
  refine jn_get (q := 4) (k := 2) (T := TX5) (N := 9) (v := .int (0 : Int32)) (by decide) (by decide +kernel) (by decide) rfl (by decide) in_X5 rfl xFL_X5_44 (fun ρ => by rw [jfl_nth (f := none) rfl]; simp [jfm, wI_sI, jv, h0, h2, wCX5_init_2, wCX5_init_9, wCX5_init_16, wCX5_init_23]) dX5_isFull_1 ?_
  refine jn_aload_n dX5_isFull_4 rfl 0 rfl ?_
  refine jn_get (q := 4) (k := 0) (T := TX5) (N := 9) (v := .int (1 : Int32)) (by decide) (by decide +kernel) (by decide) rfl (by decide) in_X5 rfl xFL_X5_15 (fun ρ => by rw [jfl_nth (f := none) rfl]; simp [jfm, wI_sI, jv, h0, h2, wCX5_init_2, wCX5_init_9, wCX5_init_16, wCX5_init_23]) dX5_isFull_5 ?_
  refine jn_icmp_lt (tgt := 15) (nxt := 11) dX5_isFull_8 (by decide) rfl (fun _ => ?_) (fun hc => absurd (by decide) hc)
  refine jn_iconst (v := (0 : Int32)) dX5_isFull_15 (by decide) ?_
  exact jn_zret (ty := .boolean) rfl rfl dX5_isFull_16
theorem xML_X5_51 : Cond.methodLink RX5 51 yX5_isFull ∈ jT := jT_t2 (i := 18) (by decide +kernel) (by decide +kernel)
def wCX5_start_16 (w : jWd) : jWd := (sI (sI (sI (sI (sI w 17 0 (0 : Int32)) 18 0 (0 : Int32)) 19 0 (5000 : Int32)) 20 0 (0 : Int32)) 16 2 (1 : Int32))
set_option maxRecDepth 100000 in
set_option maxHeartbeats 4000000 in
theorem cX5_start_16 {w : jWd} {mk : Nat → Nat → Bool} (h0 : wI w 16 0 = (1 : Int32)) (h2 : wI w 16 2 = (0 : Int32)) (h3 : mk 16 3 = true) (h4 : mk 16 4 = true) (h5 : mk 16 5 = true) (h6 : mk 16 6 = true) : JNM yX5_start MX5_start 2 0 0 [.ref 16, .int (0 : Int32), .int (0 : Int32), .int (5000 : Int32)] w 61 mk (some (.int (0 : Int32))) (wCX5_start_16 w) 61 mk := by
  refine jnm_of (by decide +kernel) rfl (Nat.le_of_ble_eq_true rfl) ?_
  show JN MX5_start 2 0 0 ((some (.int (0 : Int32))), (wCX5_start_16 w), 61, mk, 61, "start") w 61 mk 0 0 0 [(0, .ref 16), (1, .int (0 : Int32)), (2, .int (0 : Int32)), (3, .int (5000 : Int32))] []
  refine jn_aload_n dX5_start_0 rfl 0 rfl ?_
  refine jn_callV xML_X5_51 jLn_X5_isFull wIM_X5_isFull wSE_X5_isFull (q := 4) (by decide) (by decide +kernel) (by decide) rfl (cX5_isFull_16 h0 h2) (fun _ => rfl) (by decide) rfl rfl (Nat.le_of_ble_eq_true rfl) (jrl_of rfl) (jrl_of rfl) (Nat.le_refl _) (by decide) (by decide) dX5_start_1 ?_
  refine jn_if_eq (tgt := 9) (nxt := 7) dX5_start_4 (by decide) rfl (fun _ => ?_) (fun hc => absurd rfl hc)
  refine jn_aload_n dX5_start_9 rfl 0 rfl ?_
  refine jn_get (q := 4) (k := 3) (T := TX5) (N := 9) (v := .ref 17) (by decide) (by decide +kernel) (by decide) rfl (by decide) in_X5 rfl xFL_X5_24 (fun ρ => by rw [jfl_nth (f := some 1) rfl]; simp [jfm, mkS, jtg, jv, h0, h2, h3, h4, h5, h6, mCX5_init_2, mCX5_init_9, mCX5_init_16, mCX5_init_23, mCX1_init_32, mCX3_init_39, mCX0_init_41, mCX9_init_48, mCX10_init_55]) dX5_start_10 ?_
  refine jn_aload_n dX5_start_13 rfl 0 rfl ?_
  refine jn_get (q := 4) (k := 2) (T := TX5) (N := 9) (v := .int (0 : Int32)) (by decide) (by decide +kernel) (by decide) rfl (by decide) in_X5 rfl xFL_X5_44 (fun ρ => by rw [jfl_nth (f := none) rfl]; simp [jfm, wI_sI, jv, h0, h2, h3, h4, h5, h6, wCX5_init_2, wCX5_init_9, wCX5_init_16, wCX5_init_23]) dX5_start_14 ?_
  refine jn_iload_n dX5_start_17 rfl 1 rfl ?_
  refine jn_iastL (k := 0) (by decide) (by decide +kernel) (vp_lit (by decide +kernel) (by decide)) (by decide) dX5_start_18 ?_
  refine jn_aload_n dX5_start_19 rfl 0 rfl ?_
  refine jn_get (q := 4) (k := 4) (T := TX5) (N := 9) (v := .ref 18) (by decide) (by decide +kernel) (by decide) rfl (by decide) in_X5 rfl xFL_X5_28 (fun ρ => by rw [jfl_nth (f := some 2) rfl]; simp [jfm, mkS, jtg, jv, h0, h2, h3, h4, h5, h6, mCX5_init_2, mCX5_init_9, mCX5_init_16, mCX5_init_23, mCX1_init_32, mCX3_init_39, mCX0_init_41, mCX9_init_48, mCX10_init_55]) dX5_start_20 ?_
  refine jn_aload_n dX5_start_23 rfl 0 rfl ?_
  refine jn_get (q := 4) (k := 2) (T := TX5) (N := 9) (v := .int (0 : Int32)) (by decide) (by decide +kernel) (by decide) rfl (by decide) in_X5 rfl xFL_X5_44 (fun ρ => by rw [jfl_nth (f := none) rfl]; simp [jfm, wI_sI, jv, h0, h2, h3, h4, h5, h6, wCX5_init_2, wCX5_init_9, wCX5_init_16, wCX5_init_23]) dX5_start_24 ?_
  refine jn_iload_n dX5_start_27 rfl 2 rfl ?_
  refine jn_iastL (k := 0) (by decide) (by decide +kernel) (vp_lit (by decide +kernel) (by decide)) (by decide) dX5_start_28 ?_
  refine jn_aload_n dX5_start_29 rfl 0 rfl ?_
  refine jn_get (q := 4) (k := 5) (T := TX5) (N := 9) (v := .ref 19) (by decide) (by decide +kernel) (by decide) rfl (by decide) in_X5 rfl xFL_X5_31 (fun ρ => by rw [jfl_nth (f := some 3) rfl]; simp [jfm, mkS, jtg, jv, h0, h2, h3, h4, h5, h6, mCX5_init_2, mCX5_init_9, mCX5_init_16, mCX5_init_23, mCX1_init_32, mCX3_init_39, mCX0_init_41, mCX9_init_48, mCX10_init_55]) dX5_start_30 ?_
  refine jn_aload_n dX5_start_33 rfl 0 rfl ?_
  refine jn_get (q := 4) (k := 2) (T := TX5) (N := 9) (v := .int (0 : Int32)) (by decide) (by decide +kernel) (by decide) rfl (by decide) in_X5 rfl xFL_X5_44 (fun ρ => by rw [jfl_nth (f := none) rfl]; simp [jfm, wI_sI, jv, h0, h2, h3, h4, h5, h6, wCX5_init_2, wCX5_init_9, wCX5_init_16, wCX5_init_23]) dX5_start_34 ?_
  refine jn_iload_n dX5_start_37 rfl 3 rfl ?_
  refine jn_iastL (k := 0) (by decide) (by decide +kernel) (vp_lit (by decide +kernel) (by decide)) (by decide) dX5_start_38 ?_
  refine jn_aload_n dX5_start_39 rfl 0 rfl ?_
  refine jn_get (q := 4) (k := 6) (T := TX5) (N := 9) (v := .ref 20) (by decide) (by decide +kernel) (by decide) rfl (by decide) in_X5 rfl xFL_X5_34 (fun ρ => by rw [jfl_nth (f := some 4) rfl]; simp [jfm, mkS, jtg, jv, h0, h2, h3, h4, h5, h6, mCX5_init_2, mCX5_init_9, mCX5_init_16, mCX5_init_23, mCX1_init_32, mCX3_init_39, mCX0_init_41, mCX9_init_48, mCX10_init_55]) dX5_start_40 ?_
  refine jn_aload_n dX5_start_43 rfl 0 rfl ?_
  refine jn_get (q := 4) (k := 2) (T := TX5) (N := 9) (v := .int (0 : Int32)) (by decide) (by decide +kernel) (by decide) rfl (by decide) in_X5 rfl xFL_X5_44 (fun ρ => by rw [jfl_nth (f := none) rfl]; simp [jfm, wI_sI, jv, h0, h2, h3, h4, h5, h6, wCX5_init_2, wCX5_init_9, wCX5_init_16, wCX5_init_23]) dX5_start_44 ?_
  refine jn_iconst (v := (0 : Int32)) dX5_start_47 (by decide) ?_
  refine jn_iastL (k := 0) (by decide) (by decide +kernel) (vp_lit (by decide +kernel) (by decide)) (by decide) dX5_start_48 ?_
  refine jn_aload_n dX5_start_49 rfl 0 rfl ?_
  refine jn_dup dX5_start_50 rfl ?_
  refine jn_get (q := 4) (k := 2) (T := TX5) (N := 9) (v := .int (0 : Int32)) (by decide) (by decide +kernel) (by decide) rfl (by decide) in_X5 rfl xFL_X5_44 (fun ρ => by rw [jfl_nth (f := none) rfl]; simp [jfm, wI_sI, jv, h0, h2, h3, h4, h5, h6, wCX5_init_2, wCX5_init_9, wCX5_init_16, wCX5_init_23]) dX5_start_51 ?_
  refine jn_dup_x1 dX5_start_54 rfl rfl ?_
  refine jn_iconst (v := (1 : Int32)) dX5_start_55 (by decide) ?_
  refine jn_iadd dX5_start_56 ?_
  rw [show (0 : Int32) + (1 : Int32) = (1 : Int32) from by decide]
  refine jn_put (q := 4) (k := 2) (T := TX5) (ty0 := tyX5) (N := 9) (by decide) (by decide +kernel) (by decide) rfl (by decide) in_X5 tyX5_ok nmX5 rfl rfl rfl xFL_X5_44 rfl dX5_start_57 ?_
  exact jn_iret rfl dX5_start_60
theorem xML_X8_79 : Cond.methodLink RX8 79 yX5_start ∈ jT := jT_t2 (i := 14) (by decide +kernel) (by decide +kernel)
def wCX8_init_1 (w : jWd) : jWd := (wCX5_start_16 (sI (sI (wCX5_init_23 (wCX5_init_16 (wCX5_init_9 (wCX5_init_2 w)))) 1 11 (80 : Int32)) 1 12 (50 : Int32)))
def mCX8_init_1 (mk : Nat → Nat → Bool) : Nat → Nat → Bool := (mkS (mCX10_init_55 (mkS (mCX9_init_48 (mkS (mCX0_init_41 (mkS (mCX3_init_39 (mkS (mCX1_init_32 (mkS (mkS (mkS (mCX5_init_23 (mkS (mCX5_init_16 (mkS (mCX5_init_9 (mkS (mCX5_init_2 mk) 1 0)) 1 1)) 1 2)) 1 3) 1 4) 1 5)) 1 6)) 1 7)) 1 8)) 1 9)) 1 10)
set_option maxRecDepth 100000 in
set_option maxHeartbeats 4000000 in
theorem cX8_init_1 {w : jWd} {mk : Nat → Nat → Bool} (hz : wI w 16 2 = (0 : Int32)) : JNM yX8_init MX8_init 3 59 4459 [.ref 1] w 2 mk none (wCX8_init_1 w) 61 (mCX8_init_1 mk) := by
  refine jnm_of (by decide +kernel) rfl (Nat.le_of_ble_eq_true rfl) ?_
  show JN MX8_init 3 59 4459 (none, (wCX8_init_1 w), 61, (mCX8_init_1 mk), 2, "<init>") w 2 mk 0 0 0 [(0, .ref 1)] []
  refine jn_aload_n dX8_init_0 rfl 0 rfl ?_
  refine jn_obj xML_X8_3 wOI.1 wOI.2 (by decide) (Nat.le_of_ble_eq_true rfl) dX8_init_1 ?_
  refine jn_aload_n dX8_init_4 rfl 0 rfl ?_
  refine jn_new (q := 4) (N := 9) (T := TX5) (ty0 := tyX5) (by decide +kernel) (by decide) rfl in_X5 tyX5_ok xCL_X8_9 xIN_X5 xIN_X5I nz_4 (by decide) (by decide) (jrl_of rfl) (jrl_of rfl) dX8_init_5 ?_
  refine jn_dup dX8_init_8 rfl ?_
  refine jn_bipush (v := (40 : Int32)) dX8_init_9 (by decide) ?_
  refine jn_bipush (v := (12 : Int32)) dX8_init_11 (by decide) ?_
  refine jn_callI xML_X8_13 jLn_X5_init rfl rfl wIM_X5_init cX5_init_2 (by decide) rfl rfl (Nat.le_of_ble_eq_true rfl) (jrl_of rfl) (jrl_of rfl) (by decide) (by decide) (by decide +kernel) dX8_init_13 ?_
  refine jn_putR (q := 7) (k := 0) (T := TX8) (ty0 := tyX8) (N := 13) (off := 1) (by decide) rfl rfl (by decide +kernel) (by decide) rfl (by decide) in_X8 tyX8_ok nmX8 rfl rfl xFL_X8_16 rfl rfl (by decide) (fun _ => rfl) (fun _ => rfl) dX8_init_16 ?_
  refine jn_aload_n dX8_init_19 rfl 0 rfl ?_
  refine jn_new (q := 4) (N := 9) (T := TX5) (ty0 := tyX5) (by decide +kernel) (by decide) rfl in_X5 tyX5_ok xCL_X8_9 xIN_X5 xIN_X5I nz_4 (by decide) (by decide) (jrl_of rfl) (jrl_of rfl) dX8_init_20 ?_
  refine jn_dup dX8_init_23 rfl ?_
  refine jn_bipush (v := (12 : Int32)) dX8_init_24 (by decide) ?_
  refine jn_bipush (v := (12 : Int32)) dX8_init_26 (by decide) ?_
  refine jn_callI xML_X8_13 jLn_X5_init rfl rfl wIM_X5_init cX5_init_9 (by decide) rfl rfl (Nat.le_of_ble_eq_true rfl) (jrl_of rfl) (jrl_of rfl) (by decide) (by decide) (by decide +kernel) dX8_init_28 ?_
  refine jn_putR (q := 7) (k := 1) (T := TX8) (ty0 := tyX8) (N := 13) (off := 8) (by decide) rfl rfl (by decide +kernel) (by decide) rfl (by decide) in_X8 tyX8_ok nmX8 rfl rfl xFL_X8_20 rfl rfl (by decide) (fun _ => rfl) (fun _ => rfl) dX8_init_31 ?_
  refine jn_aload_n dX8_init_34 rfl 0 rfl ?_
  refine jn_new (q := 4) (N := 9) (T := TX5) (ty0 := tyX5) (by decide +kernel) (by decide) rfl in_X5 tyX5_ok xCL_X8_9 xIN_X5 xIN_X5I nz_4 (by decide) (by decide) (jrl_of rfl) (jrl_of rfl) dX8_init_35 ?_
  refine jn_dup dX8_init_38 rfl ?_
  refine jn_iconst (v := (1 : Int32)) dX8_init_39 (by decide) ?_
  refine jn_bipush (v := (60 : Int32)) dX8_init_40 (by decide) ?_
  refine jn_callI xML_X8_13 jLn_X5_init rfl rfl wIM_X5_init cX5_init_16 (by decide) rfl rfl (Nat.le_of_ble_eq_true rfl) (jrl_of rfl) (jrl_of rfl) (by decide) (by decide) (by decide +kernel) dX8_init_42 ?_
  refine jn_putR (q := 7) (k := 2) (T := TX8) (ty0 := tyX8) (N := 13) (off := 15) (by decide) rfl rfl (by decide +kernel) (by decide) rfl (by decide) in_X8 tyX8_ok nmX8 rfl rfl xFL_X8_23 rfl rfl (by decide) (fun _ => rfl) (fun _ => rfl) dX8_init_45 ?_
  refine jn_aload_n dX8_init_48 rfl 0 rfl ?_
  refine jn_new (q := 4) (N := 9) (T := TX5) (ty0 := tyX5) (by decide +kernel) (by decide) rfl in_X5 tyX5_ok xCL_X8_9 xIN_X5 xIN_X5I nz_4 (by decide) (by decide) (jrl_of rfl) (jrl_of rfl) dX8_init_49 ?_
  refine jn_dup dX8_init_52 rfl ?_
  refine jn_bipush (v := (20 : Int32)) dX8_init_53 (by decide) ?_
  refine jn_iconst (v := (2 : Int32)) dX8_init_55 (by decide) ?_
  refine jn_callI xML_X8_13 jLn_X5_init rfl rfl wIM_X5_init cX5_init_23 (by decide) rfl rfl (Nat.le_of_ble_eq_true rfl) (jrl_of rfl) (jrl_of rfl) (by decide) (by decide) (by decide +kernel) dX8_init_56 ?_
  refine jn_putR (q := 7) (k := 3) (T := TX8) (ty0 := tyX8) (N := 13) (off := 22) (by decide) rfl rfl (by decide +kernel) (by decide) rfl (by decide) in_X8 tyX8_ok nmX8 rfl rfl xFL_X8_26 rfl rfl (by decide) (fun _ => rfl) (fun _ => rfl) dX8_init_59 ?_
  refine jn_aload_n dX8_init_62 rfl 0 rfl ?_
  refine jn_sipush (v := (480 : Int32)) dX8_init_63 (by decide) ?_
  refine jn_newl (by decide +kernel) wAC_long (by decide) (by decide +kernel) (by decide +kernel) (by decide) (by decide +kernel) (jrl_of rfl) (jrl_of rfl) dX8_init_66 ?_
  rw [show ln 30 = 480 from by decide +kernel]
  refine jn_putR (q := 7) (k := 4) (T := TX8) (ty0 := tyX8) (N := 13) (off := 29) (by decide) rfl rfl (by decide +kernel) (by decide) rfl (by decide) in_X8 tyX8_ok nmX8 rfl rfl xFL_X8_29 rfl rfl (by decide) (fun _ => rfl) (fun _ => rfl) dX8_init_68 ?_
  refine jn_aload_n dX8_init_71 rfl 0 rfl ?_
  refine jn_sipush (v := (256 : Int32)) dX8_init_72 (by decide) ?_
  refine jn_newa (k := 1) (ty := .int) rfl (by decide +kernel) (by decide) (fun _ => rfl) rfl rfl (by decide) wAC_int (by decide) (by decide +kernel) (by decide +kernel) (by decide) (by decide +kernel) (jrl_of rfl) (jrl_of rfl) dX8_init_75 ?_
  rw [show ln 31 = 256 from by decide +kernel]
  refine jn_putR (q := 7) (k := 5) (T := TX8) (ty0 := tyX8) (N := 13) (off := 30) (by decide) rfl rfl (by decide +kernel) (by decide) rfl (by decide) in_X8 tyX8_ok nmX8 rfl rfl xFL_X8_33 rfl rfl (by decide) (fun _ => rfl) (fun _ => rfl) dX8_init_77 ?_
  refine jn_aload_n dX8_init_80 rfl 0 rfl ?_
  refine jn_new (q := 1) (N := 8) (T := TX1) (ty0 := tyX1) (by decide +kernel) (by decide) rfl in_X1 tyX1_ok xCL_X8_37 xIN_X1 xIN_X1I nz_1 (by decide) (by decide) (jrl_of rfl) (jrl_of rfl) dX8_init_81 ?_
  refine jn_dup dX8_init_84 rfl ?_
  refine jn_callN (host := "NobodysBard") (by decide +kernel) jLn_X1_init rfl rfl wIM_X1_init cX1_init_32 (by decide) rfl rfl (Nat.le_of_ble_eq_true rfl) (jrl_of rfl) (jrl_of rfl) (by decide) (by decide) (by decide +kernel) dX8_init_85 ?_
  refine jn_putR (q := 7) (k := 6) (T := TX8) (ty0 := tyX8) (N := 13) (off := 31) (by decide) rfl rfl (by decide +kernel) (by decide) rfl (by decide) in_X8 tyX8_ok nmX8 rfl rfl xFL_X8_40 rfl rfl (by decide) (fun _ => rfl) (fun _ => rfl) dX8_init_88 ?_
  refine jn_aload_n dX8_init_91 rfl 0 rfl ?_
  refine jn_new (q := 3) (N := 5) (T := TX3) (ty0 := tyX3) (by decide +kernel) (by decide) rfl in_X3 tyX3_ok xCL_X8_44 xIN_X3 xIN_X3I nz_3 (by decide) (by decide) (jrl_of rfl) (jrl_of rfl) dX8_init_92 ?_
  refine jn_dup dX8_init_95 rfl ?_
  refine jn_callN (host := "NobodysBard") (by decide +kernel) jLn_X3_init rfl rfl wIM_X3_init cX3_init_39 (by decide) rfl rfl (Nat.le_of_ble_eq_true rfl) (jrl_of rfl) (jrl_of rfl) (by decide) (by decide) (by decide +kernel) dX8_init_96 ?_
  refine jn_putR (q := 7) (k := 7) (T := TX8) (ty0 := tyX8) (N := 13) (off := 38) (by decide) rfl rfl (by decide +kernel) (by decide) rfl (by decide) in_X8 tyX8_ok nmX8 rfl rfl xFL_X8_47 rfl rfl (by decide) (fun _ => rfl) (fun _ => rfl) dX8_init_99 ?_
  refine jn_aload_n dX8_init_102 rfl 0 rfl ?_
  refine jn_new (q := 0) (N := 7) (T := TX0) (ty0 := tyX0) (by decide +kernel) (by decide) rfl in_X0 tyX0_ok xCL_X8_51 xIN_X0 xIN_X0I nz_0 (by decide) (by decide) (jrl_of rfl) (jrl_of rfl) dX8_init_103 ?_
  refine jn_dup dX8_init_106 rfl ?_
  refine jn_callN (host := "NobodysBard") (by decide +kernel) jLn_X0_init rfl rfl wIM_X0_init cX0_init_41 (by decide) rfl rfl (Nat.le_of_ble_eq_true rfl) (jrl_of rfl) (jrl_of rfl) (by decide) (by decide) (by decide +kernel) dX8_init_107 ?_
  refine jn_putR (q := 7) (k := 8) (T := TX8) (ty0 := tyX8) (N := 13) (off := 40) (by decide) rfl rfl (by decide +kernel) (by decide) rfl (by decide) in_X8 tyX8_ok nmX8 rfl rfl xFL_X8_54 rfl rfl (by decide) (fun _ => rfl) (fun _ => rfl) dX8_init_110 ?_
  refine jn_aload_n dX8_init_113 rfl 0 rfl ?_
  refine jn_new (q := 8) (N := 9) (T := TX9) (ty0 := tyX9) (by decide +kernel) (by decide) rfl in_X9 tyX9_ok xCL_X8_58 xIN_X9 xIN_X9I nz_8 (by decide) (by decide) (jrl_of rfl) (jrl_of rfl) dX8_init_114 ?_
  refine jn_dup dX8_init_117 rfl ?_
  refine jn_callN (host := "NobodysBard") (by decide +kernel) jLn_X9_init rfl rfl wIM_X9_init cX9_init_48 (by decide) rfl rfl (Nat.le_of_ble_eq_true rfl) (jrl_of rfl) (jrl_of rfl) (by decide) (by decide) (by decide +kernel) dX8_init_118 ?_
  refine jn_putR (q := 7) (k := 9) (T := TX8) (ty0 := tyX8) (N := 13) (off := 47) (by decide) rfl rfl (by decide +kernel) (by decide) rfl (by decide) in_X8 tyX8_ok nmX8 rfl rfl xFL_X8_61 rfl rfl (by decide) (fun _ => rfl) (fun _ => rfl) dX8_init_121 ?_
  refine jn_aload_n dX8_init_124 rfl 0 rfl ?_
  refine jn_new (q := 9) (N := 6) (T := TX10) (ty0 := tyX10) (by decide +kernel) (by decide) rfl in_X10 tyX10_ok xCL_X8_65 xIN_X10 xIN_X10I nz_9 (by decide) (by decide) (jrl_of rfl) (jrl_of rfl) dX8_init_125 ?_
  refine jn_dup dX8_init_128 rfl ?_
  refine jn_callN (host := "NobodysBard") (by decide +kernel) jLn_X10_init rfl rfl wIM_X10_init cX10_init_55 (by decide) rfl rfl (Nat.le_of_ble_eq_true rfl) (jrl_of rfl) (jrl_of rfl) (by decide) (by decide) (by decide +kernel) dX8_init_129 ?_
  refine jn_putR (q := 7) (k := 10) (T := TX8) (ty0 := tyX8) (N := 13) (off := 54) (by decide) rfl rfl (by decide +kernel) (by decide) rfl (by decide) in_X8 tyX8_ok nmX8 rfl rfl xFL_X8_68 rfl rfl (by decide) (fun _ => rfl) (fun _ => rfl) dX8_init_132 ?_
  refine jn_aload_n dX8_init_135 rfl 0 rfl ?_
  refine jn_bipush (v := (80 : Int32)) dX8_init_136 (by decide) ?_
  refine jn_put (q := 7) (k := 11) (T := TX8) (ty0 := tyX8) (N := 13) (by decide) (by decide +kernel) (by decide) rfl (by decide) in_X8 tyX8_ok nmX8 rfl rfl rfl xFL_X8_72 rfl dX8_init_138 ?_
  refine jn_aload_n dX8_init_141 rfl 0 rfl ?_
  refine jn_bipush (v := (50 : Int32)) dX8_init_142 (by decide) ?_
  refine jn_put (q := 7) (k := 12) (T := TX8) (ty0 := tyX8) (N := 13) (by decide) (by decide +kernel) (by decide) rfl (by decide) in_X8 tyX8_ok nmX8 rfl rfl rfl xFL_X8_76 rfl dX8_init_144 ?_
  refine jn_aload_n dX8_init_147 rfl 0 rfl ?_
  refine jn_get (q := 7) (k := 2) (T := TX8) (N := 13) (v := .ref 16) (by decide) (by decide +kernel) (by decide) rfl (by decide) in_X8 rfl xFL_X8_23 (fun ρ => by rw [jfl_nth (f := some 15) rfl]; simp [jfm, mkS, jtg, jv, mCX5_init_2, mCX5_init_9, mCX5_init_16, mCX5_init_23, mCX1_init_32, mCX3_init_39, mCX0_init_41, mCX9_init_48, mCX10_init_55]) dX8_init_148 ?_
  refine jn_iconst (v := (0 : Int32)) dX8_init_151 (by decide) ?_
  refine jn_iconst (v := (0 : Int32)) dX8_init_152 (by decide) ?_
  refine jn_sipush (v := (5000 : Int32)) dX8_init_153 (by decide) ?_
  refine jn_callV xML_X8_79 jLn_X5_start wIM_X5_start wSE_X5_start (q := 4) (by decide) (by decide +kernel) (by decide) rfl (cX5_start_16 (by simp [wI_sI, wCX5_init_2, wCX5_init_9, wCX5_init_16, wCX5_init_23]) (by simp [wI_sI, wCX5_init_2, wCX5_init_9, wCX5_init_16, wCX5_init_23, hz]) (by simp [mkS, mCX5_init_2, mCX5_init_9, mCX5_init_16, mCX5_init_23, mCX1_init_32, mCX3_init_39, mCX0_init_41, mCX9_init_48, mCX10_init_55]) (by simp [mkS, mCX5_init_2, mCX5_init_9, mCX5_init_16, mCX5_init_23, mCX1_init_32, mCX3_init_39, mCX0_init_41, mCX9_init_48, mCX10_init_55]) (by simp [mkS, mCX5_init_2, mCX5_init_9, mCX5_init_16, mCX5_init_23, mCX1_init_32, mCX3_init_39, mCX0_init_41, mCX9_init_48, mCX10_init_55]) (by simp [mkS, mCX5_init_2, mCX5_init_9, mCX5_init_16, mCX5_init_23, mCX1_init_32, mCX3_init_39, mCX0_init_41, mCX9_init_48, mCX10_init_55])) (fun _ => rfl) (by decide) rfl rfl (Nat.le_of_ble_eq_true rfl) (jrl_of rfl) (jrl_of rfl) (Nat.le_refl _) (by decide) (by decide) dX8_init_156 ?_
  refine jn_pop dX8_init_159 rfl ?_
  exact jn_vret rfl dX8_init_160
theorem xML_X11_9 : Cond.methodLink RX11 9 yX8_init ∈ jT := jT_t1 (i := 32) (by decide +kernel) (by decide +kernel)
theorem xFL_X11_10 : Cond.fieldLink RX11 10 RX11 (TX11 0).2.1 (TX11 0).2.2.1 ∈ jT := jT_t2 (i := 173) (by decide +kernel) (by decide +kernel)
def wCX5_init_62 (w : jWd) : jWd := (sI (sI w 62 0 (40 : Int32)) 62 1 (12 : Int32))
def mCX5_init_62 (mk : Nat → Nat → Bool) : Nat → Nat → Bool := (mkS (mkS (mkS (mkS (mkS (mkS mk 62 3) 62 4) 62 5) 62 6) 62 7) 62 8)
set_option maxRecDepth 100000 in
set_option maxHeartbeats 4000000 in
theorem cX5_init_62 {w : jWd} {mk : Nat → Nat → Bool} : JNM yX5_init MX5_init 1 6 1120 [.ref 62, .int (40 : Int32), .int (12 : Int32)] w 63 mk none (wCX5_init_62 w) 69 (mCX5_init_62 mk) := by
  refine jnm_of (by decide +kernel) rfl (Nat.le_of_ble_eq_true rfl) ?_
  show JN MX5_init 1 6 1120 (none, (wCX5_init_62 w), 69, (mCX5_init_62 mk), 63, "<init>") w 63 mk 0 0 0 [(0, .ref 62), (1, .int (40 : Int32)), (2, .int (12 : Int32))] []
  refine jn_aload_n dX5_init_0 rfl 0 rfl ?_
  refine jn_obj xML_X5_3 wOI.1 wOI.2 (by decide) (Nat.le_of_ble_eq_true rfl) dX5_init_1 ?_
  refine jn_aload_n dX5_init_4 rfl 0 rfl ?_
  refine jn_iconst (v := (0 : Int32)) dX5_init_5 (by decide) ?_
  refine jn_iload_n dX5_init_6 rfl 1 rfl ?_
  refine jn_imax xML_X5_9 (by decide) (by decide) (by decide +kernel) (Nat.le_of_ble_eq_true rfl) dX5_init_7 ?_
  rw [show imax (0 : Int32) (40 : Int32) = (40 : Int32) from by decide]
  refine jn_putF (q := 4) (k := 0) (T := TX5) (ty0 := tyX5) (N := 9) (by decide) rfl rfl (by decide +kernel) (by decide) rfl (by decide) in_X5 tyX5_ok nmX5 rfl rfl rfl xFL_X5_15 rfl dX5_init_10 ?_
  refine jn_aload_n dX5_init_13 rfl 0 rfl ?_
  refine jn_iconst (v := (0 : Int32)) dX5_init_14 (by decide) ?_
  refine jn_iload_n dX5_init_15 rfl 2 rfl ?_
  refine jn_imax xML_X5_9 (by decide) (by decide) (by decide +kernel) (Nat.le_of_ble_eq_true rfl) dX5_init_16 ?_
  rw [show imax (0 : Int32) (12 : Int32) = (12 : Int32) from by decide]
  refine jn_putF (q := 4) (k := 1) (T := TX5) (ty0 := tyX5) (N := 9) (by decide) rfl rfl (by decide +kernel) (by decide) rfl (by decide) in_X5 tyX5_ok nmX5 rfl rfl rfl xFL_X5_21 rfl dX5_init_19 ?_
  refine jn_aload_n dX5_init_22 rfl 0 rfl ?_
  refine jn_aload_n dX5_init_23 rfl 0 rfl ?_
  refine jn_get (q := 4) (k := 0) (T := TX5) (N := 9) (v := .int (40 : Int32)) (by decide) (by decide +kernel) (by decide) rfl (by decide) in_X5 rfl xFL_X5_15 (fun ρ => by rw [jfl_nth (f := none) rfl]; simp [jfm, wI_sI, jv, wCX5_init_2, wCX5_init_9, wCX5_init_16, wCX5_init_23, wCX5_start_16, wCX8_init_1]) dX5_init_24 ?_
  refine jn_newa (k := 1) (ty := .int) rfl (by decide +kernel) (by decide) (fun _ => rfl) rfl rfl (by decide) wAC_int (by decide) (by decide +kernel) (by decide +kernel) (by decide) (by decide +kernel) (jrl_of rfl) (jrl_of rfl) dX5_init_27 ?_
  rw [show ln 63 = 40 from by decide +kernel]
  refine jn_putR (q := 4) (k := 3) (T := TX5) (ty0 := tyX5) (N := 9) (off := 1) (by decide) rfl rfl (by decide +kernel) (by decide) rfl (by decide) in_X5 tyX5_ok nmX5 rfl rfl xFL_X5_24 rfl rfl (by decide) (fun _ => rfl) (fun _ => rfl) dX5_init_29 ?_
  refine jn_aload_n dX5_init_32 rfl 0 rfl ?_
  refine jn_aload_n dX5_init_33 rfl 0 rfl ?_
  refine jn_get (q := 4) (k := 0) (T := TX5) (N := 9) (v := .int (40 : Int32)) (by decide) (by decide +kernel) (by decide) rfl (by decide) in_X5 rfl xFL_X5_15 (fun ρ => by rw [jfl_nth (f := none) rfl]; simp [jfm, wI_sI, jv, wCX5_init_2, wCX5_init_9, wCX5_init_16, wCX5_init_23, wCX5_start_16, wCX8_init_1]) dX5_init_34 ?_
  refine jn_newa (k := 1) (ty := .int) rfl (by decide +kernel) (by decide) (fun _ => rfl) rfl rfl (by decide) wAC_int (by decide) (by decide +kernel) (by decide +kernel) (by decide) (by decide +kernel) (jrl_of rfl) (jrl_of rfl) dX5_init_37 ?_
  rw [show ln 64 = 40 from by decide +kernel]
  refine jn_putR (q := 4) (k := 4) (T := TX5) (ty0 := tyX5) (N := 9) (off := 2) (by decide) rfl rfl (by decide +kernel) (by decide) rfl (by decide) in_X5 tyX5_ok nmX5 rfl rfl xFL_X5_28 rfl rfl (by decide) (fun _ => rfl) (fun _ => rfl) dX5_init_39 ?_
  refine jn_aload_n dX5_init_42 rfl 0 rfl ?_
  refine jn_aload_n dX5_init_43 rfl 0 rfl ?_
  refine jn_get (q := 4) (k := 0) (T := TX5) (N := 9) (v := .int (40 : Int32)) (by decide) (by decide +kernel) (by decide) rfl (by decide) in_X5 rfl xFL_X5_15 (fun ρ => by rw [jfl_nth (f := none) rfl]; simp [jfm, wI_sI, jv, wCX5_init_2, wCX5_init_9, wCX5_init_16, wCX5_init_23, wCX5_start_16, wCX8_init_1]) dX5_init_44 ?_
  refine jn_newa (k := 1) (ty := .int) rfl (by decide +kernel) (by decide) (fun _ => rfl) rfl rfl (by decide) wAC_int (by decide) (by decide +kernel) (by decide +kernel) (by decide) (by decide +kernel) (jrl_of rfl) (jrl_of rfl) dX5_init_47 ?_
  rw [show ln 65 = 40 from by decide +kernel]
  refine jn_putR (q := 4) (k := 5) (T := TX5) (ty0 := tyX5) (N := 9) (off := 3) (by decide) rfl rfl (by decide +kernel) (by decide) rfl (by decide) in_X5 tyX5_ok nmX5 rfl rfl xFL_X5_31 rfl rfl (by decide) (fun _ => rfl) (fun _ => rfl) dX5_init_49 ?_
  refine jn_aload_n dX5_init_52 rfl 0 rfl ?_
  refine jn_aload_n dX5_init_53 rfl 0 rfl ?_
  refine jn_get (q := 4) (k := 0) (T := TX5) (N := 9) (v := .int (40 : Int32)) (by decide) (by decide +kernel) (by decide) rfl (by decide) in_X5 rfl xFL_X5_15 (fun ρ => by rw [jfl_nth (f := none) rfl]; simp [jfm, wI_sI, jv, wCX5_init_2, wCX5_init_9, wCX5_init_16, wCX5_init_23, wCX5_start_16, wCX8_init_1]) dX5_init_54 ?_
  refine jn_newa (k := 1) (ty := .int) rfl (by decide +kernel) (by decide) (fun _ => rfl) rfl rfl (by decide) wAC_int (by decide) (by decide +kernel) (by decide +kernel) (by decide) (by decide +kernel) (jrl_of rfl) (jrl_of rfl) dX5_init_57 ?_
  rw [show ln 66 = 40 from by decide +kernel]
  refine jn_putR (q := 4) (k := 6) (T := TX5) (ty0 := tyX5) (N := 9) (off := 4) (by decide) rfl rfl (by decide +kernel) (by decide) rfl (by decide) in_X5 tyX5_ok nmX5 rfl rfl xFL_X5_34 rfl rfl (by decide) (fun _ => rfl) (fun _ => rfl) dX5_init_59 ?_
  refine jn_aload_n dX5_init_62 rfl 0 rfl ?_
  refine jn_aload_n dX5_init_63 rfl 0 rfl ?_
  refine jn_get (q := 4) (k := 0) (T := TX5) (N := 9) (v := .int (40 : Int32)) (by decide) (by decide +kernel) (by decide) rfl (by decide) in_X5 rfl xFL_X5_15 (fun ρ => by rw [jfl_nth (f := none) rfl]; simp [jfm, wI_sI, jv, wCX5_init_2, wCX5_init_9, wCX5_init_16, wCX5_init_23, wCX5_start_16, wCX8_init_1]) dX5_init_64 ?_
  refine jn_aload_n dX5_init_67 rfl 0 rfl ?_
  refine jn_get (q := 4) (k := 1) (T := TX5) (N := 9) (v := .int (12 : Int32)) (by decide) (by decide +kernel) (by decide) rfl (by decide) in_X5 rfl xFL_X5_21 (fun ρ => by rw [jfl_nth (f := none) rfl]; simp [jfm, wI_sI, jv, wCX5_init_2, wCX5_init_9, wCX5_init_16, wCX5_init_23, wCX5_start_16, wCX8_init_1]) dX5_init_68 ?_
  refine jn_imul dX5_init_71 ?_
  rw [show (40 : Int32) * (12 : Int32) = (480 : Int32) from by decide]
  refine jn_newa (k := 1) (ty := .int) rfl (by decide +kernel) (by decide) (fun _ => rfl) rfl rfl (by decide) wAC_int (by decide) (by decide +kernel) (by decide +kernel) (by decide) (by decide +kernel) (jrl_of rfl) (jrl_of rfl) dX5_init_72 ?_
  rw [show ln 67 = 480 from by decide +kernel]
  refine jn_putR (q := 4) (k := 7) (T := TX5) (ty0 := tyX5) (N := 9) (off := 5) (by decide) rfl rfl (by decide +kernel) (by decide) rfl (by decide) in_X5 tyX5_ok nmX5 rfl rfl xFL_X5_37 rfl rfl (by decide) (fun _ => rfl) (fun _ => rfl) dX5_init_74 ?_
  refine jn_aload_n dX5_init_77 rfl 0 rfl ?_
  refine jn_aload_n dX5_init_78 rfl 0 rfl ?_
  refine jn_get (q := 4) (k := 0) (T := TX5) (N := 9) (v := .int (40 : Int32)) (by decide) (by decide +kernel) (by decide) rfl (by decide) in_X5 rfl xFL_X5_15 (fun ρ => by rw [jfl_nth (f := none) rfl]; simp [jfm, wI_sI, jv, wCX5_init_2, wCX5_init_9, wCX5_init_16, wCX5_init_23, wCX5_start_16, wCX8_init_1]) dX5_init_79 ?_
  refine jn_aload_n dX5_init_82 rfl 0 rfl ?_
  refine jn_get (q := 4) (k := 1) (T := TX5) (N := 9) (v := .int (12 : Int32)) (by decide) (by decide +kernel) (by decide) rfl (by decide) in_X5 rfl xFL_X5_21 (fun ρ => by rw [jfl_nth (f := none) rfl]; simp [jfm, wI_sI, jv, wCX5_init_2, wCX5_init_9, wCX5_init_16, wCX5_init_23, wCX5_start_16, wCX8_init_1]) dX5_init_83 ?_
  refine jn_imul dX5_init_86 ?_
  rw [show (40 : Int32) * (12 : Int32) = (480 : Int32) from by decide]
  refine jn_newl (by decide +kernel) wAC_long (by decide) (by decide +kernel) (by decide +kernel) (by decide) (by decide +kernel) (jrl_of rfl) (jrl_of rfl) dX5_init_87 ?_
  rw [show ln 68 = 480 from by decide +kernel]
  refine jn_putR (q := 4) (k := 8) (T := TX5) (ty0 := tyX5) (N := 9) (off := 6) (by decide) rfl rfl (by decide +kernel) (by decide) rfl (by decide) in_X5 tyX5_ok nmX5 rfl rfl xFL_X5_40 rfl rfl (by decide) (fun _ => rfl) (fun _ => rfl) dX5_init_89 ?_
  exact jn_vret rfl dX5_init_92
def wCX5_init_69 (w : jWd) : jWd := (sI (sI w 69 0 (12 : Int32)) 69 1 (12 : Int32))
def mCX5_init_69 (mk : Nat → Nat → Bool) : Nat → Nat → Bool := (mkS (mkS (mkS (mkS (mkS (mkS mk 69 3) 69 4) 69 5) 69 6) 69 7) 69 8)
set_option maxRecDepth 100000 in
set_option maxHeartbeats 4000000 in
theorem cX5_init_69 {w : jWd} {mk : Nat → Nat → Bool} : JNM yX5_init MX5_init 1 6 336 [.ref 69, .int (12 : Int32), .int (12 : Int32)] w 70 mk none (wCX5_init_69 w) 76 (mCX5_init_69 mk) := by
  refine jnm_of (by decide +kernel) rfl (Nat.le_of_ble_eq_true rfl) ?_
  show JN MX5_init 1 6 336 (none, (wCX5_init_69 w), 76, (mCX5_init_69 mk), 70, "<init>") w 70 mk 0 0 0 [(0, .ref 69), (1, .int (12 : Int32)), (2, .int (12 : Int32))] []
  refine jn_aload_n dX5_init_0 rfl 0 rfl ?_
  refine jn_obj xML_X5_3 wOI.1 wOI.2 (by decide) (Nat.le_of_ble_eq_true rfl) dX5_init_1 ?_
  refine jn_aload_n dX5_init_4 rfl 0 rfl ?_
  refine jn_iconst (v := (0 : Int32)) dX5_init_5 (by decide) ?_
  refine jn_iload_n dX5_init_6 rfl 1 rfl ?_
  refine jn_imax xML_X5_9 (by decide) (by decide) (by decide +kernel) (Nat.le_of_ble_eq_true rfl) dX5_init_7 ?_
  rw [show imax (0 : Int32) (12 : Int32) = (12 : Int32) from by decide]
  refine jn_putF (q := 4) (k := 0) (T := TX5) (ty0 := tyX5) (N := 9) (by decide) rfl rfl (by decide +kernel) (by decide) rfl (by decide) in_X5 tyX5_ok nmX5 rfl rfl rfl xFL_X5_15 rfl dX5_init_10 ?_
  refine jn_aload_n dX5_init_13 rfl 0 rfl ?_
  refine jn_iconst (v := (0 : Int32)) dX5_init_14 (by decide) ?_
  refine jn_iload_n dX5_init_15 rfl 2 rfl ?_
  refine jn_imax xML_X5_9 (by decide) (by decide) (by decide +kernel) (Nat.le_of_ble_eq_true rfl) dX5_init_16 ?_
  rw [show imax (0 : Int32) (12 : Int32) = (12 : Int32) from by decide]
  refine jn_putF (q := 4) (k := 1) (T := TX5) (ty0 := tyX5) (N := 9) (by decide) rfl rfl (by decide +kernel) (by decide) rfl (by decide) in_X5 tyX5_ok nmX5 rfl rfl rfl xFL_X5_21 rfl dX5_init_19 ?_
  refine jn_aload_n dX5_init_22 rfl 0 rfl ?_
  refine jn_aload_n dX5_init_23 rfl 0 rfl ?_
  refine jn_get (q := 4) (k := 0) (T := TX5) (N := 9) (v := .int (12 : Int32)) (by decide) (by decide +kernel) (by decide) rfl (by decide) in_X5 rfl xFL_X5_15 (fun ρ => by rw [jfl_nth (f := none) rfl]; simp [jfm, wI_sI, jv, wCX5_init_2, wCX5_init_9, wCX5_init_16, wCX5_init_23, wCX5_start_16, wCX8_init_1, wCX5_init_62]) dX5_init_24 ?_
  refine jn_newa (k := 1) (ty := .int) rfl (by decide +kernel) (by decide) (fun _ => rfl) rfl rfl (by decide) wAC_int (by decide) (by decide +kernel) (by decide +kernel) (by decide) (by decide +kernel) (jrl_of rfl) (jrl_of rfl) dX5_init_27 ?_
  rw [show ln 70 = 12 from by decide +kernel]
  refine jn_putR (q := 4) (k := 3) (T := TX5) (ty0 := tyX5) (N := 9) (off := 1) (by decide) rfl rfl (by decide +kernel) (by decide) rfl (by decide) in_X5 tyX5_ok nmX5 rfl rfl xFL_X5_24 rfl rfl (by decide) (fun _ => rfl) (fun _ => rfl) dX5_init_29 ?_
  refine jn_aload_n dX5_init_32 rfl 0 rfl ?_
  refine jn_aload_n dX5_init_33 rfl 0 rfl ?_
  refine jn_get (q := 4) (k := 0) (T := TX5) (N := 9) (v := .int (12 : Int32)) (by decide) (by decide +kernel) (by decide) rfl (by decide) in_X5 rfl xFL_X5_15 (fun ρ => by rw [jfl_nth (f := none) rfl]; simp [jfm, wI_sI, jv, wCX5_init_2, wCX5_init_9, wCX5_init_16, wCX5_init_23, wCX5_start_16, wCX8_init_1, wCX5_init_62]) dX5_init_34 ?_
  refine jn_newa (k := 1) (ty := .int) rfl (by decide +kernel) (by decide) (fun _ => rfl) rfl rfl (by decide) wAC_int (by decide) (by decide +kernel) (by decide +kernel) (by decide) (by decide +kernel) (jrl_of rfl) (jrl_of rfl) dX5_init_37 ?_
  rw [show ln 71 = 12 from by decide +kernel]
  refine jn_putR (q := 4) (k := 4) (T := TX5) (ty0 := tyX5) (N := 9) (off := 2) (by decide) rfl rfl (by decide +kernel) (by decide) rfl (by decide) in_X5 tyX5_ok nmX5 rfl rfl xFL_X5_28 rfl rfl (by decide) (fun _ => rfl) (fun _ => rfl) dX5_init_39 ?_
  refine jn_aload_n dX5_init_42 rfl 0 rfl ?_
  refine jn_aload_n dX5_init_43 rfl 0 rfl ?_
  refine jn_get (q := 4) (k := 0) (T := TX5) (N := 9) (v := .int (12 : Int32)) (by decide) (by decide +kernel) (by decide) rfl (by decide) in_X5 rfl xFL_X5_15 (fun ρ => by rw [jfl_nth (f := none) rfl]; simp [jfm, wI_sI, jv, wCX5_init_2, wCX5_init_9, wCX5_init_16, wCX5_init_23, wCX5_start_16, wCX8_init_1, wCX5_init_62]) dX5_init_44 ?_
  refine jn_newa (k := 1) (ty := .int) rfl (by decide +kernel) (by decide) (fun _ => rfl) rfl rfl (by decide) wAC_int (by decide) (by decide +kernel) (by decide +kernel) (by decide) (by decide +kernel) (jrl_of rfl) (jrl_of rfl) dX5_init_47 ?_
  rw [show ln 72 = 12 from by decide +kernel]
  refine jn_putR (q := 4) (k := 5) (T := TX5) (ty0 := tyX5) (N := 9) (off := 3) (by decide) rfl rfl (by decide +kernel) (by decide) rfl (by decide) in_X5 tyX5_ok nmX5 rfl rfl xFL_X5_31 rfl rfl (by decide) (fun _ => rfl) (fun _ => rfl) dX5_init_49 ?_
  refine jn_aload_n dX5_init_52 rfl 0 rfl ?_
  refine jn_aload_n dX5_init_53 rfl 0 rfl ?_
  refine jn_get (q := 4) (k := 0) (T := TX5) (N := 9) (v := .int (12 : Int32)) (by decide) (by decide +kernel) (by decide) rfl (by decide) in_X5 rfl xFL_X5_15 (fun ρ => by rw [jfl_nth (f := none) rfl]; simp [jfm, wI_sI, jv, wCX5_init_2, wCX5_init_9, wCX5_init_16, wCX5_init_23, wCX5_start_16, wCX8_init_1, wCX5_init_62]) dX5_init_54 ?_
  refine jn_newa (k := 1) (ty := .int) rfl (by decide +kernel) (by decide) (fun _ => rfl) rfl rfl (by decide) wAC_int (by decide) (by decide +kernel) (by decide +kernel) (by decide) (by decide +kernel) (jrl_of rfl) (jrl_of rfl) dX5_init_57 ?_
  rw [show ln 73 = 12 from by decide +kernel]
  refine jn_putR (q := 4) (k := 6) (T := TX5) (ty0 := tyX5) (N := 9) (off := 4) (by decide) rfl rfl (by decide +kernel) (by decide) rfl (by decide) in_X5 tyX5_ok nmX5 rfl rfl xFL_X5_34 rfl rfl (by decide) (fun _ => rfl) (fun _ => rfl) dX5_init_59 ?_
  refine jn_aload_n dX5_init_62 rfl 0 rfl ?_
  refine jn_aload_n dX5_init_63 rfl 0 rfl ?_
  refine jn_get (q := 4) (k := 0) (T := TX5) (N := 9) (v := .int (12 : Int32)) (by decide) (by decide +kernel) (by decide) rfl (by decide) in_X5 rfl xFL_X5_15 (fun ρ => by rw [jfl_nth (f := none) rfl]; simp [jfm, wI_sI, jv, wCX5_init_2, wCX5_init_9, wCX5_init_16, wCX5_init_23, wCX5_start_16, wCX8_init_1, wCX5_init_62]) dX5_init_64 ?_
  refine jn_aload_n dX5_init_67 rfl 0 rfl ?_
  refine jn_get (q := 4) (k := 1) (T := TX5) (N := 9) (v := .int (12 : Int32)) (by decide) (by decide +kernel) (by decide) rfl (by decide) in_X5 rfl xFL_X5_21 (fun ρ => by rw [jfl_nth (f := none) rfl]; simp [jfm, wI_sI, jv, wCX5_init_2, wCX5_init_9, wCX5_init_16, wCX5_init_23, wCX5_start_16, wCX8_init_1, wCX5_init_62]) dX5_init_68 ?_
  refine jn_imul dX5_init_71 ?_
  rw [show (12 : Int32) * (12 : Int32) = (144 : Int32) from by decide]
  refine jn_newa (k := 1) (ty := .int) rfl (by decide +kernel) (by decide) (fun _ => rfl) rfl rfl (by decide) wAC_int (by decide) (by decide +kernel) (by decide +kernel) (by decide) (by decide +kernel) (jrl_of rfl) (jrl_of rfl) dX5_init_72 ?_
  rw [show ln 74 = 144 from by decide +kernel]
  refine jn_putR (q := 4) (k := 7) (T := TX5) (ty0 := tyX5) (N := 9) (off := 5) (by decide) rfl rfl (by decide +kernel) (by decide) rfl (by decide) in_X5 tyX5_ok nmX5 rfl rfl xFL_X5_37 rfl rfl (by decide) (fun _ => rfl) (fun _ => rfl) dX5_init_74 ?_
  refine jn_aload_n dX5_init_77 rfl 0 rfl ?_
  refine jn_aload_n dX5_init_78 rfl 0 rfl ?_
  refine jn_get (q := 4) (k := 0) (T := TX5) (N := 9) (v := .int (12 : Int32)) (by decide) (by decide +kernel) (by decide) rfl (by decide) in_X5 rfl xFL_X5_15 (fun ρ => by rw [jfl_nth (f := none) rfl]; simp [jfm, wI_sI, jv, wCX5_init_2, wCX5_init_9, wCX5_init_16, wCX5_init_23, wCX5_start_16, wCX8_init_1, wCX5_init_62]) dX5_init_79 ?_
  refine jn_aload_n dX5_init_82 rfl 0 rfl ?_
  refine jn_get (q := 4) (k := 1) (T := TX5) (N := 9) (v := .int (12 : Int32)) (by decide) (by decide +kernel) (by decide) rfl (by decide) in_X5 rfl xFL_X5_21 (fun ρ => by rw [jfl_nth (f := none) rfl]; simp [jfm, wI_sI, jv, wCX5_init_2, wCX5_init_9, wCX5_init_16, wCX5_init_23, wCX5_start_16, wCX8_init_1, wCX5_init_62]) dX5_init_83 ?_
  refine jn_imul dX5_init_86 ?_
  rw [show (12 : Int32) * (12 : Int32) = (144 : Int32) from by decide]
  refine jn_newl (by decide +kernel) wAC_long (by decide) (by decide +kernel) (by decide +kernel) (by decide) (by decide +kernel) (jrl_of rfl) (jrl_of rfl) dX5_init_87 ?_
  rw [show ln 75 = 144 from by decide +kernel]
  refine jn_putR (q := 4) (k := 8) (T := TX5) (ty0 := tyX5) (N := 9) (off := 6) (by decide) rfl rfl (by decide +kernel) (by decide) rfl (by decide) in_X5 tyX5_ok nmX5 rfl rfl xFL_X5_40 rfl rfl (by decide) (fun _ => rfl) (fun _ => rfl) dX5_init_89 ?_
  exact jn_vret rfl dX5_init_92
def wCX5_init_76 (w : jWd) : jWd := (sI (sI w 76 0 (1 : Int32)) 76 1 (60 : Int32))
def mCX5_init_76 (mk : Nat → Nat → Bool) : Nat → Nat → Bool := (mkS (mkS (mkS (mkS (mkS (mkS mk 76 3) 76 4) 76 5) 76 6) 76 7) 76 8)
set_option maxRecDepth 100000 in
set_option maxHeartbeats 4000000 in
theorem cX5_init_76 {w : jWd} {mk : Nat → Nat → Bool} : JNM yX5_init MX5_init 1 6 124 [.ref 76, .int (1 : Int32), .int (60 : Int32)] w 77 mk none (wCX5_init_76 w) 83 (mCX5_init_76 mk) := by
  refine jnm_of (by decide +kernel) rfl (Nat.le_of_ble_eq_true rfl) ?_
  show JN MX5_init 1 6 124 (none, (wCX5_init_76 w), 83, (mCX5_init_76 mk), 77, "<init>") w 77 mk 0 0 0 [(0, .ref 76), (1, .int (1 : Int32)), (2, .int (60 : Int32))] []
  refine jn_aload_n dX5_init_0 rfl 0 rfl ?_
  refine jn_obj xML_X5_3 wOI.1 wOI.2 (by decide) (Nat.le_of_ble_eq_true rfl) dX5_init_1 ?_
  refine jn_aload_n dX5_init_4 rfl 0 rfl ?_
  refine jn_iconst (v := (0 : Int32)) dX5_init_5 (by decide) ?_
  refine jn_iload_n dX5_init_6 rfl 1 rfl ?_
  refine jn_imax xML_X5_9 (by decide) (by decide) (by decide +kernel) (Nat.le_of_ble_eq_true rfl) dX5_init_7 ?_
  rw [show imax (0 : Int32) (1 : Int32) = (1 : Int32) from by decide]
  refine jn_putF (q := 4) (k := 0) (T := TX5) (ty0 := tyX5) (N := 9) (by decide) rfl rfl (by decide +kernel) (by decide) rfl (by decide) in_X5 tyX5_ok nmX5 rfl rfl rfl xFL_X5_15 rfl dX5_init_10 ?_
  refine jn_aload_n dX5_init_13 rfl 0 rfl ?_
  refine jn_iconst (v := (0 : Int32)) dX5_init_14 (by decide) ?_
  refine jn_iload_n dX5_init_15 rfl 2 rfl ?_
  refine jn_imax xML_X5_9 (by decide) (by decide) (by decide +kernel) (Nat.le_of_ble_eq_true rfl) dX5_init_16 ?_
  rw [show imax (0 : Int32) (60 : Int32) = (60 : Int32) from by decide]
  refine jn_putF (q := 4) (k := 1) (T := TX5) (ty0 := tyX5) (N := 9) (by decide) rfl rfl (by decide +kernel) (by decide) rfl (by decide) in_X5 tyX5_ok nmX5 rfl rfl rfl xFL_X5_21 rfl dX5_init_19 ?_
  refine jn_aload_n dX5_init_22 rfl 0 rfl ?_
  refine jn_aload_n dX5_init_23 rfl 0 rfl ?_
  refine jn_get (q := 4) (k := 0) (T := TX5) (N := 9) (v := .int (1 : Int32)) (by decide) (by decide +kernel) (by decide) rfl (by decide) in_X5 rfl xFL_X5_15 (fun ρ => by rw [jfl_nth (f := none) rfl]; simp [jfm, wI_sI, jv, wCX5_init_2, wCX5_init_9, wCX5_init_16, wCX5_init_23, wCX5_start_16, wCX8_init_1, wCX5_init_62, wCX5_init_69]) dX5_init_24 ?_
  refine jn_newa (k := 1) (ty := .int) rfl (by decide +kernel) (by decide) (fun _ => rfl) rfl rfl (by decide) wAC_int (by decide) (by decide +kernel) (by decide +kernel) (by decide) (by decide +kernel) (jrl_of rfl) (jrl_of rfl) dX5_init_27 ?_
  rw [show ln 77 = 1 from by decide +kernel]
  refine jn_putR (q := 4) (k := 3) (T := TX5) (ty0 := tyX5) (N := 9) (off := 1) (by decide) rfl rfl (by decide +kernel) (by decide) rfl (by decide) in_X5 tyX5_ok nmX5 rfl rfl xFL_X5_24 rfl rfl (by decide) (fun _ => rfl) (fun _ => rfl) dX5_init_29 ?_
  refine jn_aload_n dX5_init_32 rfl 0 rfl ?_
  refine jn_aload_n dX5_init_33 rfl 0 rfl ?_
  refine jn_get (q := 4) (k := 0) (T := TX5) (N := 9) (v := .int (1 : Int32)) (by decide) (by decide +kernel) (by decide) rfl (by decide) in_X5 rfl xFL_X5_15 (fun ρ => by rw [jfl_nth (f := none) rfl]; simp [jfm, wI_sI, jv, wCX5_init_2, wCX5_init_9, wCX5_init_16, wCX5_init_23, wCX5_start_16, wCX8_init_1, wCX5_init_62, wCX5_init_69]) dX5_init_34 ?_
  refine jn_newa (k := 1) (ty := .int) rfl (by decide +kernel) (by decide) (fun _ => rfl) rfl rfl (by decide) wAC_int (by decide) (by decide +kernel) (by decide +kernel) (by decide) (by decide +kernel) (jrl_of rfl) (jrl_of rfl) dX5_init_37 ?_
  rw [show ln 78 = 1 from by decide +kernel]
  refine jn_putR (q := 4) (k := 4) (T := TX5) (ty0 := tyX5) (N := 9) (off := 2) (by decide) rfl rfl (by decide +kernel) (by decide) rfl (by decide) in_X5 tyX5_ok nmX5 rfl rfl xFL_X5_28 rfl rfl (by decide) (fun _ => rfl) (fun _ => rfl) dX5_init_39 ?_
  refine jn_aload_n dX5_init_42 rfl 0 rfl ?_
  refine jn_aload_n dX5_init_43 rfl 0 rfl ?_
  refine jn_get (q := 4) (k := 0) (T := TX5) (N := 9) (v := .int (1 : Int32)) (by decide) (by decide +kernel) (by decide) rfl (by decide) in_X5 rfl xFL_X5_15 (fun ρ => by rw [jfl_nth (f := none) rfl]; simp [jfm, wI_sI, jv, wCX5_init_2, wCX5_init_9, wCX5_init_16, wCX5_init_23, wCX5_start_16, wCX8_init_1, wCX5_init_62, wCX5_init_69]) dX5_init_44 ?_
  refine jn_newa (k := 1) (ty := .int) rfl (by decide +kernel) (by decide) (fun _ => rfl) rfl rfl (by decide) wAC_int (by decide) (by decide +kernel) (by decide +kernel) (by decide) (by decide +kernel) (jrl_of rfl) (jrl_of rfl) dX5_init_47 ?_
  rw [show ln 79 = 1 from by decide +kernel]
  refine jn_putR (q := 4) (k := 5) (T := TX5) (ty0 := tyX5) (N := 9) (off := 3) (by decide) rfl rfl (by decide +kernel) (by decide) rfl (by decide) in_X5 tyX5_ok nmX5 rfl rfl xFL_X5_31 rfl rfl (by decide) (fun _ => rfl) (fun _ => rfl) dX5_init_49 ?_
  refine jn_aload_n dX5_init_52 rfl 0 rfl ?_
  refine jn_aload_n dX5_init_53 rfl 0 rfl ?_
  refine jn_get (q := 4) (k := 0) (T := TX5) (N := 9) (v := .int (1 : Int32)) (by decide) (by decide +kernel) (by decide) rfl (by decide) in_X5 rfl xFL_X5_15 (fun ρ => by rw [jfl_nth (f := none) rfl]; simp [jfm, wI_sI, jv, wCX5_init_2, wCX5_init_9, wCX5_init_16, wCX5_init_23, wCX5_start_16, wCX8_init_1, wCX5_init_62, wCX5_init_69]) dX5_init_54 ?_
  refine jn_newa (k := 1) (ty := .int) rfl (by decide +kernel) (by decide) (fun _ => rfl) rfl rfl (by decide) wAC_int (by decide) (by decide +kernel) (by decide +kernel) (by decide) (by decide +kernel) (jrl_of rfl) (jrl_of rfl) dX5_init_57 ?_
  rw [show ln 80 = 1 from by decide +kernel]
  refine jn_putR (q := 4) (k := 6) (T := TX5) (ty0 := tyX5) (N := 9) (off := 4) (by decide) rfl rfl (by decide +kernel) (by decide) rfl (by decide) in_X5 tyX5_ok nmX5 rfl rfl xFL_X5_34 rfl rfl (by decide) (fun _ => rfl) (fun _ => rfl) dX5_init_59 ?_
  refine jn_aload_n dX5_init_62 rfl 0 rfl ?_
  refine jn_aload_n dX5_init_63 rfl 0 rfl ?_
  refine jn_get (q := 4) (k := 0) (T := TX5) (N := 9) (v := .int (1 : Int32)) (by decide) (by decide +kernel) (by decide) rfl (by decide) in_X5 rfl xFL_X5_15 (fun ρ => by rw [jfl_nth (f := none) rfl]; simp [jfm, wI_sI, jv, wCX5_init_2, wCX5_init_9, wCX5_init_16, wCX5_init_23, wCX5_start_16, wCX8_init_1, wCX5_init_62, wCX5_init_69]) dX5_init_64 ?_
  refine jn_aload_n dX5_init_67 rfl 0 rfl ?_
  refine jn_get (q := 4) (k := 1) (T := TX5) (N := 9) (v := .int (60 : Int32)) (by decide) (by decide +kernel) (by decide) rfl (by decide) in_X5 rfl xFL_X5_21 (fun ρ => by rw [jfl_nth (f := none) rfl]; simp [jfm, wI_sI, jv, wCX5_init_2, wCX5_init_9, wCX5_init_16, wCX5_init_23, wCX5_start_16, wCX8_init_1, wCX5_init_62, wCX5_init_69]) dX5_init_68 ?_
  refine jn_imul dX5_init_71 ?_
  rw [show (1 : Int32) * (60 : Int32) = (60 : Int32) from by decide]
  refine jn_newa (k := 1) (ty := .int) rfl (by decide +kernel) (by decide) (fun _ => rfl) rfl rfl (by decide) wAC_int (by decide) (by decide +kernel) (by decide +kernel) (by decide) (by decide +kernel) (jrl_of rfl) (jrl_of rfl) dX5_init_72 ?_
  rw [show ln 81 = 60 from by decide +kernel]
  refine jn_putR (q := 4) (k := 7) (T := TX5) (ty0 := tyX5) (N := 9) (off := 5) (by decide) rfl rfl (by decide +kernel) (by decide) rfl (by decide) in_X5 tyX5_ok nmX5 rfl rfl xFL_X5_37 rfl rfl (by decide) (fun _ => rfl) (fun _ => rfl) dX5_init_74 ?_
  refine jn_aload_n dX5_init_77 rfl 0 rfl ?_
  refine jn_aload_n dX5_init_78 rfl 0 rfl ?_
  refine jn_get (q := 4) (k := 0) (T := TX5) (N := 9) (v := .int (1 : Int32)) (by decide) (by decide +kernel) (by decide) rfl (by decide) in_X5 rfl xFL_X5_15 (fun ρ => by rw [jfl_nth (f := none) rfl]; simp [jfm, wI_sI, jv, wCX5_init_2, wCX5_init_9, wCX5_init_16, wCX5_init_23, wCX5_start_16, wCX8_init_1, wCX5_init_62, wCX5_init_69]) dX5_init_79 ?_
  refine jn_aload_n dX5_init_82 rfl 0 rfl ?_
  refine jn_get (q := 4) (k := 1) (T := TX5) (N := 9) (v := .int (60 : Int32)) (by decide) (by decide +kernel) (by decide) rfl (by decide) in_X5 rfl xFL_X5_21 (fun ρ => by rw [jfl_nth (f := none) rfl]; simp [jfm, wI_sI, jv, wCX5_init_2, wCX5_init_9, wCX5_init_16, wCX5_init_23, wCX5_start_16, wCX8_init_1, wCX5_init_62, wCX5_init_69]) dX5_init_83 ?_
  refine jn_imul dX5_init_86 ?_
  rw [show (1 : Int32) * (60 : Int32) = (60 : Int32) from by decide]
  refine jn_newl (by decide +kernel) wAC_long (by decide) (by decide +kernel) (by decide +kernel) (by decide) (by decide +kernel) (jrl_of rfl) (jrl_of rfl) dX5_init_87 ?_
  rw [show ln 82 = 60 from by decide +kernel]
  refine jn_putR (q := 4) (k := 8) (T := TX5) (ty0 := tyX5) (N := 9) (off := 6) (by decide) rfl rfl (by decide +kernel) (by decide) rfl (by decide) in_X5 tyX5_ok nmX5 rfl rfl xFL_X5_40 rfl rfl (by decide) (fun _ => rfl) (fun _ => rfl) dX5_init_89 ?_
  exact jn_vret rfl dX5_init_92
def wCX5_init_83 (w : jWd) : jWd := (sI (sI w 83 0 (20 : Int32)) 83 1 (2 : Int32))
def mCX5_init_83 (mk : Nat → Nat → Bool) : Nat → Nat → Bool := (mkS (mkS (mkS (mkS (mkS (mkS mk 83 3) 83 4) 83 5) 83 6) 83 7) 83 8)
set_option maxRecDepth 100000 in
set_option maxHeartbeats 4000000 in
theorem cX5_init_83 {w : jWd} {mk : Nat → Nat → Bool} : JNM yX5_init MX5_init 1 6 160 [.ref 83, .int (20 : Int32), .int (2 : Int32)] w 84 mk none (wCX5_init_83 w) 90 (mCX5_init_83 mk) := by
  refine jnm_of (by decide +kernel) rfl (Nat.le_of_ble_eq_true rfl) ?_
  show JN MX5_init 1 6 160 (none, (wCX5_init_83 w), 90, (mCX5_init_83 mk), 84, "<init>") w 84 mk 0 0 0 [(0, .ref 83), (1, .int (20 : Int32)), (2, .int (2 : Int32))] []
  refine jn_aload_n dX5_init_0 rfl 0 rfl ?_
  refine jn_obj xML_X5_3 wOI.1 wOI.2 (by decide) (Nat.le_of_ble_eq_true rfl) dX5_init_1 ?_
  refine jn_aload_n dX5_init_4 rfl 0 rfl ?_
  refine jn_iconst (v := (0 : Int32)) dX5_init_5 (by decide) ?_
  refine jn_iload_n dX5_init_6 rfl 1 rfl ?_
  refine jn_imax xML_X5_9 (by decide) (by decide) (by decide +kernel) (Nat.le_of_ble_eq_true rfl) dX5_init_7 ?_
  rw [show imax (0 : Int32) (20 : Int32) = (20 : Int32) from by decide]
  refine jn_putF (q := 4) (k := 0) (T := TX5) (ty0 := tyX5) (N := 9) (by decide) rfl rfl (by decide +kernel) (by decide) rfl (by decide) in_X5 tyX5_ok nmX5 rfl rfl rfl xFL_X5_15 rfl dX5_init_10 ?_
  refine jn_aload_n dX5_init_13 rfl 0 rfl ?_
  refine jn_iconst (v := (0 : Int32)) dX5_init_14 (by decide) ?_
  refine jn_iload_n dX5_init_15 rfl 2 rfl ?_
  refine jn_imax xML_X5_9 (by decide) (by decide) (by decide +kernel) (Nat.le_of_ble_eq_true rfl) dX5_init_16 ?_
  rw [show imax (0 : Int32) (2 : Int32) = (2 : Int32) from by decide]
  refine jn_putF (q := 4) (k := 1) (T := TX5) (ty0 := tyX5) (N := 9) (by decide) rfl rfl (by decide +kernel) (by decide) rfl (by decide) in_X5 tyX5_ok nmX5 rfl rfl rfl xFL_X5_21 rfl dX5_init_19 ?_
  refine jn_aload_n dX5_init_22 rfl 0 rfl ?_
  refine jn_aload_n dX5_init_23 rfl 0 rfl ?_
  refine jn_get (q := 4) (k := 0) (T := TX5) (N := 9) (v := .int (20 : Int32)) (by decide) (by decide +kernel) (by decide) rfl (by decide) in_X5 rfl xFL_X5_15 (fun ρ => by rw [jfl_nth (f := none) rfl]; simp [jfm, wI_sI, jv, wCX5_init_2, wCX5_init_9, wCX5_init_16, wCX5_init_23, wCX5_start_16, wCX8_init_1, wCX5_init_62, wCX5_init_69, wCX5_init_76]) dX5_init_24 ?_
  refine jn_newa (k := 1) (ty := .int) rfl (by decide +kernel) (by decide) (fun _ => rfl) rfl rfl (by decide) wAC_int (by decide) (by decide +kernel) (by decide +kernel) (by decide) (by decide +kernel) (jrl_of rfl) (jrl_of rfl) dX5_init_27 ?_
  rw [show ln 84 = 20 from by decide +kernel]
  refine jn_putR (q := 4) (k := 3) (T := TX5) (ty0 := tyX5) (N := 9) (off := 1) (by decide) rfl rfl (by decide +kernel) (by decide) rfl (by decide) in_X5 tyX5_ok nmX5 rfl rfl xFL_X5_24 rfl rfl (by decide) (fun _ => rfl) (fun _ => rfl) dX5_init_29 ?_
  refine jn_aload_n dX5_init_32 rfl 0 rfl ?_
  refine jn_aload_n dX5_init_33 rfl 0 rfl ?_
  refine jn_get (q := 4) (k := 0) (T := TX5) (N := 9) (v := .int (20 : Int32)) (by decide) (by decide +kernel) (by decide) rfl (by decide) in_X5 rfl xFL_X5_15 (fun ρ => by rw [jfl_nth (f := none) rfl]; simp [jfm, wI_sI, jv, wCX5_init_2, wCX5_init_9, wCX5_init_16, wCX5_init_23, wCX5_start_16, wCX8_init_1, wCX5_init_62, wCX5_init_69, wCX5_init_76]) dX5_init_34 ?_
  refine jn_newa (k := 1) (ty := .int) rfl (by decide +kernel) (by decide) (fun _ => rfl) rfl rfl (by decide) wAC_int (by decide) (by decide +kernel) (by decide +kernel) (by decide) (by decide +kernel) (jrl_of rfl) (jrl_of rfl) dX5_init_37 ?_
  rw [show ln 85 = 20 from by decide +kernel]
  refine jn_putR (q := 4) (k := 4) (T := TX5) (ty0 := tyX5) (N := 9) (off := 2) (by decide) rfl rfl (by decide +kernel) (by decide) rfl (by decide) in_X5 tyX5_ok nmX5 rfl rfl xFL_X5_28 rfl rfl (by decide) (fun _ => rfl) (fun _ => rfl) dX5_init_39 ?_
  refine jn_aload_n dX5_init_42 rfl 0 rfl ?_
  refine jn_aload_n dX5_init_43 rfl 0 rfl ?_
  refine jn_get (q := 4) (k := 0) (T := TX5) (N := 9) (v := .int (20 : Int32)) (by decide) (by decide +kernel) (by decide) rfl (by decide) in_X5 rfl xFL_X5_15 (fun ρ => by rw [jfl_nth (f := none) rfl]; simp [jfm, wI_sI, jv, wCX5_init_2, wCX5_init_9, wCX5_init_16, wCX5_init_23, wCX5_start_16, wCX8_init_1, wCX5_init_62, wCX5_init_69, wCX5_init_76]) dX5_init_44 ?_
  refine jn_newa (k := 1) (ty := .int) rfl (by decide +kernel) (by decide) (fun _ => rfl) rfl rfl (by decide) wAC_int (by decide) (by decide +kernel) (by decide +kernel) (by decide) (by decide +kernel) (jrl_of rfl) (jrl_of rfl) dX5_init_47 ?_
  rw [show ln 86 = 20 from by decide +kernel]
  refine jn_putR (q := 4) (k := 5) (T := TX5) (ty0 := tyX5) (N := 9) (off := 3) (by decide) rfl rfl (by decide +kernel) (by decide) rfl (by decide) in_X5 tyX5_ok nmX5 rfl rfl xFL_X5_31 rfl rfl (by decide) (fun _ => rfl) (fun _ => rfl) dX5_init_49 ?_
  refine jn_aload_n dX5_init_52 rfl 0 rfl ?_
  refine jn_aload_n dX5_init_53 rfl 0 rfl ?_
  refine jn_get (q := 4) (k := 0) (T := TX5) (N := 9) (v := .int (20 : Int32)) (by decide) (by decide +kernel) (by decide) rfl (by decide) in_X5 rfl xFL_X5_15 (fun ρ => by rw [jfl_nth (f := none) rfl]; simp [jfm, wI_sI, jv, wCX5_init_2, wCX5_init_9, wCX5_init_16, wCX5_init_23, wCX5_start_16, wCX8_init_1, wCX5_init_62, wCX5_init_69, wCX5_init_76]) dX5_init_54 ?_
  refine jn_newa (k := 1) (ty := .int) rfl (by decide +kernel) (by decide) (fun _ => rfl) rfl rfl (by decide) wAC_int (by decide) (by decide +kernel) (by decide +kernel) (by decide) (by decide +kernel) (jrl_of rfl) (jrl_of rfl) dX5_init_57 ?_
  rw [show ln 87 = 20 from by decide +kernel]
  refine jn_putR (q := 4) (k := 6) (T := TX5) (ty0 := tyX5) (N := 9) (off := 4) (by decide) rfl rfl (by decide +kernel) (by decide) rfl (by decide) in_X5 tyX5_ok nmX5 rfl rfl xFL_X5_34 rfl rfl (by decide) (fun _ => rfl) (fun _ => rfl) dX5_init_59 ?_
  refine jn_aload_n dX5_init_62 rfl 0 rfl ?_
  refine jn_aload_n dX5_init_63 rfl 0 rfl ?_
  refine jn_get (q := 4) (k := 0) (T := TX5) (N := 9) (v := .int (20 : Int32)) (by decide) (by decide +kernel) (by decide) rfl (by decide) in_X5 rfl xFL_X5_15 (fun ρ => by rw [jfl_nth (f := none) rfl]; simp [jfm, wI_sI, jv, wCX5_init_2, wCX5_init_9, wCX5_init_16, wCX5_init_23, wCX5_start_16, wCX8_init_1, wCX5_init_62, wCX5_init_69, wCX5_init_76]) dX5_init_64 ?_
  refine jn_aload_n dX5_init_67 rfl 0 rfl ?_
  refine jn_get (q := 4) (k := 1) (T := TX5) (N := 9) (v := .int (2 : Int32)) (by decide) (by decide +kernel) (by decide) rfl (by decide) in_X5 rfl xFL_X5_21 (fun ρ => by rw [jfl_nth (f := none) rfl]; simp [jfm, wI_sI, jv, wCX5_init_2, wCX5_init_9, wCX5_init_16, wCX5_init_23, wCX5_start_16, wCX8_init_1, wCX5_init_62, wCX5_init_69, wCX5_init_76]) dX5_init_68 ?_
  refine jn_imul dX5_init_71 ?_
  rw [show (20 : Int32) * (2 : Int32) = (40 : Int32) from by decide]
  refine jn_newa (k := 1) (ty := .int) rfl (by decide +kernel) (by decide) (fun _ => rfl) rfl rfl (by decide) wAC_int (by decide) (by decide +kernel) (by decide +kernel) (by decide) (by decide +kernel) (jrl_of rfl) (jrl_of rfl) dX5_init_72 ?_
  rw [show ln 88 = 40 from by decide +kernel]
  refine jn_putR (q := 4) (k := 7) (T := TX5) (ty0 := tyX5) (N := 9) (off := 5) (by decide) rfl rfl (by decide +kernel) (by decide) rfl (by decide) in_X5 tyX5_ok nmX5 rfl rfl xFL_X5_37 rfl rfl (by decide) (fun _ => rfl) (fun _ => rfl) dX5_init_74 ?_
  refine jn_aload_n dX5_init_77 rfl 0 rfl ?_
  refine jn_aload_n dX5_init_78 rfl 0 rfl ?_
  refine jn_get (q := 4) (k := 0) (T := TX5) (N := 9) (v := .int (20 : Int32)) (by decide) (by decide +kernel) (by decide) rfl (by decide) in_X5 rfl xFL_X5_15 (fun ρ => by rw [jfl_nth (f := none) rfl]; simp [jfm, wI_sI, jv, wCX5_init_2, wCX5_init_9, wCX5_init_16, wCX5_init_23, wCX5_start_16, wCX8_init_1, wCX5_init_62, wCX5_init_69, wCX5_init_76]) dX5_init_79 ?_
  refine jn_aload_n dX5_init_82 rfl 0 rfl ?_
  refine jn_get (q := 4) (k := 1) (T := TX5) (N := 9) (v := .int (2 : Int32)) (by decide) (by decide +kernel) (by decide) rfl (by decide) in_X5 rfl xFL_X5_21 (fun ρ => by rw [jfl_nth (f := none) rfl]; simp [jfm, wI_sI, jv, wCX5_init_2, wCX5_init_9, wCX5_init_16, wCX5_init_23, wCX5_start_16, wCX8_init_1, wCX5_init_62, wCX5_init_69, wCX5_init_76]) dX5_init_83 ?_
  refine jn_imul dX5_init_86 ?_
  rw [show (20 : Int32) * (2 : Int32) = (40 : Int32) from by decide]
  refine jn_newl (by decide +kernel) wAC_long (by decide) (by decide +kernel) (by decide +kernel) (by decide) (by decide +kernel) (jrl_of rfl) (jrl_of rfl) dX5_init_87 ?_
  rw [show ln 89 = 40 from by decide +kernel]
  refine jn_putR (q := 4) (k := 8) (T := TX5) (ty0 := tyX5) (N := 9) (off := 6) (by decide) rfl rfl (by decide +kernel) (by decide) rfl (by decide) in_X5 tyX5_ok nmX5 rfl rfl xFL_X5_40 rfl rfl (by decide) (fun _ => rfl) (fun _ => rfl) dX5_init_89 ?_
  exact jn_vret rfl dX5_init_92
def mCX1_init_92 (mk : Nat → Nat → Bool) : Nat → Nat → Bool := (mkS (mkS (mkS (mkS (mkS (mkS mk 92 2) 92 3) 92 4) 92 5) 92 6) 92 7)
set_option maxRecDepth 100000 in
set_option maxHeartbeats 4000000 in
theorem cX1_init_92 {w : jWd} {mk : Nat → Nat → Bool} : JNM yX1_init MX1_init 1 6 448 [.ref 92] w 93 mk none w 99 (mCX1_init_92 mk) := by
  refine jnm_of (by decide +kernel) rfl (Nat.le_of_ble_eq_true rfl) ?_
  show JN MX1_init 1 6 448 (none, w, 99, (mCX1_init_92 mk), 93, "<init>") w 93 mk 0 0 0 [(0, .ref 92)] []
  refine jn_aload_n dX1_init_0 rfl 0 rfl ?_
  refine jn_obj xML_X1_3 wOI.1 wOI.2 (by decide) (Nat.le_of_ble_eq_true rfl) dX1_init_1 ?_
  refine jn_aload_n dX1_init_4 rfl 0 rfl ?_
  refine jn_bipush (v := (12 : Int32)) dX1_init_5 (by decide) ?_
  refine jn_newl (by decide +kernel) wAC_long (by decide) (by decide +kernel) (by decide +kernel) (by decide) (by decide +kernel) (jrl_of rfl) (jrl_of rfl) dX1_init_7 ?_
  rw [show ln 93 = 12 from by decide +kernel]
  refine jn_putR (q := 1) (k := 2) (T := TX1) (ty0 := tyX1) (N := 8) (off := 1) (by decide) rfl rfl (by decide +kernel) (by decide) rfl (by decide) in_X1 tyX1_ok nmX1 rfl rfl xFL_X1_11 rfl rfl (by decide) (fun _ => rfl) (fun _ => rfl) dX1_init_9 ?_
  refine jn_aload_n dX1_init_12 rfl 0 rfl ?_
  refine jn_bipush (v := (12 : Int32)) dX1_init_13 (by decide) ?_
  refine jn_newl (by decide +kernel) wAC_long (by decide) (by decide +kernel) (by decide +kernel) (by decide) (by decide +kernel) (jrl_of rfl) (jrl_of rfl) dX1_init_15 ?_
  rw [show ln 94 = 12 from by decide +kernel]
  refine jn_putR (q := 1) (k := 3) (T := TX1) (ty0 := tyX1) (N := 8) (off := 2) (by decide) rfl rfl (by decide +kernel) (by decide) rfl (by decide) in_X1 tyX1_ok nmX1 rfl rfl xFL_X1_15 rfl rfl (by decide) (fun _ => rfl) (fun _ => rfl) dX1_init_17 ?_
  refine jn_aload_n dX1_init_20 rfl 0 rfl ?_
  refine jn_bipush (v := (12 : Int32)) dX1_init_21 (by decide) ?_
  refine jn_newa (k := 1) (ty := .int) rfl (by decide +kernel) (by decide) (fun _ => rfl) rfl rfl (by decide) wAC_int (by decide) (by decide +kernel) (by decide +kernel) (by decide) (by decide +kernel) (jrl_of rfl) (jrl_of rfl) dX1_init_23 ?_
  rw [show ln 95 = 12 from by decide +kernel]
  refine jn_putR (q := 1) (k := 4) (T := TX1) (ty0 := tyX1) (N := 8) (off := 3) (by decide) rfl rfl (by decide +kernel) (by decide) rfl (by decide) in_X1 tyX1_ok nmX1 rfl rfl xFL_X1_18 rfl rfl (by decide) (fun _ => rfl) (fun _ => rfl) dX1_init_25 ?_
  refine jn_aload_n dX1_init_28 rfl 0 rfl ?_
  refine jn_bipush (v := (12 : Int32)) dX1_init_29 (by decide) ?_
  refine jn_newa (k := 1) (ty := .int) rfl (by decide +kernel) (by decide) (fun _ => rfl) rfl rfl (by decide) wAC_int (by decide) (by decide +kernel) (by decide +kernel) (by decide) (by decide +kernel) (jrl_of rfl) (jrl_of rfl) dX1_init_31 ?_
  rw [show ln 96 = 12 from by decide +kernel]
  refine jn_putR (q := 1) (k := 5) (T := TX1) (ty0 := tyX1) (N := 8) (off := 4) (by decide) rfl rfl (by decide +kernel) (by decide) rfl (by decide) in_X1 tyX1_ok nmX1 rfl rfl xFL_X1_22 rfl rfl (by decide) (fun _ => rfl) (fun _ => rfl) dX1_init_33 ?_
  refine jn_aload_n dX1_init_36 rfl 0 rfl ?_
  refine jn_sipush (v := (200 : Int32)) dX1_init_37 (by decide) ?_
  refine jn_newa (k := 1) (ty := .int) rfl (by decide +kernel) (by decide) (fun _ => rfl) rfl rfl (by decide) wAC_int (by decide) (by decide +kernel) (by decide +kernel) (by decide) (by decide +kernel) (jrl_of rfl) (jrl_of rfl) dX1_init_40 ?_
  rw [show ln 97 = 200 from by decide +kernel]
  refine jn_putR (q := 1) (k := 6) (T := TX1) (ty0 := tyX1) (N := 8) (off := 5) (by decide) rfl rfl (by decide +kernel) (by decide) rfl (by decide) in_X1 tyX1_ok nmX1 rfl rfl xFL_X1_25 rfl rfl (by decide) (fun _ => rfl) (fun _ => rfl) dX1_init_42 ?_
  refine jn_aload_n dX1_init_45 rfl 0 rfl ?_
  refine jn_sipush (v := (200 : Int32)) dX1_init_46 (by decide) ?_
  refine jn_newa (k := 1) (ty := .int) rfl (by decide +kernel) (by decide) (fun _ => rfl) rfl rfl (by decide) wAC_int (by decide) (by decide +kernel) (by decide +kernel) (by decide) (by decide +kernel) (jrl_of rfl) (jrl_of rfl) dX1_init_49 ?_
  rw [show ln 98 = 200 from by decide +kernel]
  refine jn_putR (q := 1) (k := 7) (T := TX1) (ty0 := tyX1) (N := 8) (off := 6) (by decide) rfl rfl (by decide +kernel) (by decide) rfl (by decide) in_X1 tyX1_ok nmX1 rfl rfl xFL_X1_28 rfl rfl (by decide) (fun _ => rfl) (fun _ => rfl) dX1_init_51 ?_
  exact jn_vret rfl dX1_init_54
def mCX3_init_99 (mk : Nat → Nat → Bool) : Nat → Nat → Bool := (mkS mk 99 4)
set_option maxRecDepth 100000 in
set_option maxHeartbeats 4000000 in
theorem cX3_init_99 {w : jWd} {mk : Nat → Nat → Bool} : JNM yX3_init MX3_init 1 1 256 [.ref 99] w 100 mk none w 101 (mCX3_init_99 mk) := by
  refine jnm_of (by decide +kernel) rfl (Nat.le_of_ble_eq_true rfl) ?_
  show JN MX3_init 1 1 256 (none, w, 101, (mCX3_init_99 mk), 100, "<init>") w 100 mk 0 0 0 [(0, .ref 99)] []
  refine jn_aload_n dX3_init_0 rfl 0 rfl ?_
  refine jn_obj xML_X3_3 wOI.1 wOI.2 (by decide) (Nat.le_of_ble_eq_true rfl) dX3_init_1 ?_
  refine jn_aload_n dX3_init_4 rfl 0 rfl ?_
  refine jn_sipush (v := (256 : Int32)) dX3_init_5 (by decide) ?_
  refine jn_newa (k := 1) (ty := .int) rfl (by decide +kernel) (by decide) (fun _ => rfl) rfl rfl (by decide) wAC_int (by decide) (by decide +kernel) (by decide +kernel) (by decide) (by decide +kernel) (jrl_of rfl) (jrl_of rfl) dX3_init_8 ?_
  rw [show ln 100 = 256 from by decide +kernel]
  refine jn_putR (q := 3) (k := 4) (T := TX3) (ty0 := tyX3) (N := 5) (off := 1) (by decide) rfl rfl (by decide +kernel) (by decide) rfl (by decide) in_X3 tyX3_ok nmX3 rfl rfl xFL_X3_9 rfl rfl (by decide) (fun _ => rfl) (fun _ => rfl) dX3_init_10 ?_
  exact jn_vret rfl dX3_init_13
def mCX0_init_101 (mk : Nat → Nat → Bool) : Nat → Nat → Bool := (mkS (mkS (mkS (mkS (mkS (mkS mk 101 1) 101 2) 101 3) 101 4) 101 5) 101 6)
set_option maxRecDepth 100000 in
set_option maxHeartbeats 4000000 in
theorem cX0_init_101 {w : jWd} {mk : Nat → Nat → Bool} : JNM yX0_init MX0_init 1 6 360 [.ref 101] w 102 mk none w 108 (mCX0_init_101 mk) := by
  refine jnm_of (by decide +kernel) rfl (Nat.le_of_ble_eq_true rfl) ?_
  show JN MX0_init 1 6 360 (none, w, 108, (mCX0_init_101 mk), 102, "<init>") w 102 mk 0 0 0 [(0, .ref 101)] []
  refine jn_aload_n dX0_init_0 rfl 0 rfl ?_
  refine jn_obj xML_X0_3 wOI.1 wOI.2 (by decide) (Nat.le_of_ble_eq_true rfl) dX0_init_1 ?_
  refine jn_aload_n dX0_init_4 rfl 0 rfl ?_
  refine jn_bipush (v := (60 : Int32)) dX0_init_5 (by decide) ?_
  refine jn_newa (k := 1) (ty := .int) rfl (by decide +kernel) (by decide) (fun _ => rfl) rfl rfl (by decide) wAC_int (by decide) (by decide +kernel) (by decide +kernel) (by decide) (by decide +kernel) (jrl_of rfl) (jrl_of rfl) dX0_init_7 ?_
  rw [show ln 102 = 60 from by decide +kernel]
  refine jn_putR (q := 0) (k := 1) (T := TX0) (ty0 := tyX0) (N := 7) (off := 1) (by decide) rfl rfl (by decide +kernel) (by decide) rfl (by decide) in_X0 tyX0_ok nmX0 rfl rfl xFL_X0_11 rfl rfl (by decide) (fun _ => rfl) (fun _ => rfl) dX0_init_9 ?_
  refine jn_aload_n dX0_init_12 rfl 0 rfl ?_
  refine jn_bipush (v := (60 : Int32)) dX0_init_13 (by decide) ?_
  refine jn_newa (k := 1) (ty := .int) rfl (by decide +kernel) (by decide) (fun _ => rfl) rfl rfl (by decide) wAC_int (by decide) (by decide +kernel) (by decide +kernel) (by decide) (by decide +kernel) (jrl_of rfl) (jrl_of rfl) dX0_init_15 ?_
  rw [show ln 103 = 60 from by decide +kernel]
  refine jn_putR (q := 0) (k := 2) (T := TX0) (ty0 := tyX0) (N := 7) (off := 2) (by decide) rfl rfl (by decide +kernel) (by decide) rfl (by decide) in_X0 tyX0_ok nmX0 rfl rfl xFL_X0_15 rfl rfl (by decide) (fun _ => rfl) (fun _ => rfl) dX0_init_17 ?_
  refine jn_aload_n dX0_init_20 rfl 0 rfl ?_
  refine jn_bipush (v := (60 : Int32)) dX0_init_21 (by decide) ?_
  refine jn_newa (k := 1) (ty := .int) rfl (by decide +kernel) (by decide) (fun _ => rfl) rfl rfl (by decide) wAC_int (by decide) (by decide +kernel) (by decide +kernel) (by decide) (by decide +kernel) (jrl_of rfl) (jrl_of rfl) dX0_init_23 ?_
  rw [show ln 104 = 60 from by decide +kernel]
  refine jn_putR (q := 0) (k := 3) (T := TX0) (ty0 := tyX0) (N := 7) (off := 3) (by decide) rfl rfl (by decide +kernel) (by decide) rfl (by decide) in_X0 tyX0_ok nmX0 rfl rfl xFL_X0_18 rfl rfl (by decide) (fun _ => rfl) (fun _ => rfl) dX0_init_25 ?_
  refine jn_aload_n dX0_init_28 rfl 0 rfl ?_
  refine jn_bipush (v := (60 : Int32)) dX0_init_29 (by decide) ?_
  refine jn_newa (k := 1) (ty := .int) rfl (by decide +kernel) (by decide) (fun _ => rfl) rfl rfl (by decide) wAC_int (by decide) (by decide +kernel) (by decide +kernel) (by decide) (by decide +kernel) (jrl_of rfl) (jrl_of rfl) dX0_init_31 ?_
  rw [show ln 105 = 60 from by decide +kernel]
  refine jn_putR (q := 0) (k := 4) (T := TX0) (ty0 := tyX0) (N := 7) (off := 4) (by decide) rfl rfl (by decide +kernel) (by decide) rfl (by decide) in_X0 tyX0_ok nmX0 rfl rfl xFL_X0_21 rfl rfl (by decide) (fun _ => rfl) (fun _ => rfl) dX0_init_33 ?_
  refine jn_aload_n dX0_init_36 rfl 0 rfl ?_
  refine jn_bipush (v := (60 : Int32)) dX0_init_37 (by decide) ?_
  refine jn_newa (k := 1) (ty := .int) rfl (by decide +kernel) (by decide) (fun _ => rfl) rfl rfl (by decide) wAC_int (by decide) (by decide +kernel) (by decide +kernel) (by decide) (by decide +kernel) (jrl_of rfl) (jrl_of rfl) dX0_init_39 ?_
  rw [show ln 106 = 60 from by decide +kernel]
  refine jn_putR (q := 0) (k := 5) (T := TX0) (ty0 := tyX0) (N := 7) (off := 5) (by decide) rfl rfl (by decide +kernel) (by decide) rfl (by decide) in_X0 tyX0_ok nmX0 rfl rfl xFL_X0_24 rfl rfl (by decide) (fun _ => rfl) (fun _ => rfl) dX0_init_41 ?_
  refine jn_aload_n dX0_init_44 rfl 0 rfl ?_
  refine jn_bipush (v := (60 : Int32)) dX0_init_45 (by decide) ?_
  refine jn_newl (by decide +kernel) wAC_long (by decide) (by decide +kernel) (by decide +kernel) (by decide) (by decide +kernel) (jrl_of rfl) (jrl_of rfl) dX0_init_47 ?_
  rw [show ln 107 = 60 from by decide +kernel]
  refine jn_putR (q := 0) (k := 6) (T := TX0) (ty0 := tyX0) (N := 7) (off := 6) (by decide) rfl rfl (by decide +kernel) (by decide) rfl (by decide) in_X0 tyX0_ok nmX0 rfl rfl xFL_X0_27 rfl rfl (by decide) (fun _ => rfl) (fun _ => rfl) dX0_init_49 ?_
  exact jn_vret rfl dX0_init_52
def mCX9_init_108 (mk : Nat → Nat → Bool) : Nat → Nat → Bool := (mkS (mkS (mkS (mkS (mkS (mkS mk 108 3) 108 4) 108 5) 108 6) 108 7) 108 8)
set_option maxRecDepth 100000 in
set_option maxHeartbeats 4000000 in
theorem cX9_init_108 {w : jWd} {mk : Nat → Nat → Bool} : JNM yX9_init MX9_init 1 6 136 [.ref 108] w 109 mk none w 115 (mCX9_init_108 mk) := by
  refine jnm_of (by decide +kernel) rfl (Nat.le_of_ble_eq_true rfl) ?_
  show JN MX9_init 1 6 136 (none, w, 115, (mCX9_init_108 mk), 109, "<init>") w 109 mk 0 0 0 [(0, .ref 108)] []
  refine jn_aload_n dX9_init_0 rfl 0 rfl ?_
  refine jn_obj xML_X9_3 wOI.1 wOI.2 (by decide) (Nat.le_of_ble_eq_true rfl) dX9_init_1 ?_
  refine jn_aload_n dX9_init_4 rfl 0 rfl ?_
  refine jn_bipush (v := (20 : Int32)) dX9_init_5 (by decide) ?_
  refine jn_newa (k := 1) (ty := .int) rfl (by decide +kernel) (by decide) (fun _ => rfl) rfl rfl (by decide) wAC_int (by decide) (by decide +kernel) (by decide +kernel) (by decide) (by decide +kernel) (jrl_of rfl) (jrl_of rfl) dX9_init_7 ?_
  rw [show ln 109 = 20 from by decide +kernel]
  refine jn_putR (q := 8) (k := 3) (T := TX9) (ty0 := tyX9) (N := 9) (off := 1) (by decide) rfl rfl (by decide +kernel) (by decide) rfl (by decide) in_X9 tyX9_ok nmX9 rfl rfl xFL_X9_11 rfl rfl (by decide) (fun _ => rfl) (fun _ => rfl) dX9_init_9 ?_
  refine jn_aload_n dX9_init_12 rfl 0 rfl ?_
  refine jn_bipush (v := (20 : Int32)) dX9_init_13 (by decide) ?_
  refine jn_newa (k := 1) (ty := .int) rfl (by decide +kernel) (by decide) (fun _ => rfl) rfl rfl (by decide) wAC_int (by decide) (by decide +kernel) (by decide +kernel) (by decide) (by decide +kernel) (jrl_of rfl) (jrl_of rfl) dX9_init_15 ?_
  rw [show ln 110 = 20 from by decide +kernel]
  refine jn_putR (q := 8) (k := 4) (T := TX9) (ty0 := tyX9) (N := 9) (off := 2) (by decide) rfl rfl (by decide +kernel) (by decide) rfl (by decide) in_X9 tyX9_ok nmX9 rfl rfl xFL_X9_15 rfl rfl (by decide) (fun _ => rfl) (fun _ => rfl) dX9_init_17 ?_
  refine jn_aload_n dX9_init_20 rfl 0 rfl ?_
  refine jn_bipush (v := (40 : Int32)) dX9_init_21 (by decide) ?_
  refine jn_newa (k := 1) (ty := .int) rfl (by decide +kernel) (by decide) (fun _ => rfl) rfl rfl (by decide) wAC_int (by decide) (by decide +kernel) (by decide +kernel) (by decide) (by decide +kernel) (jrl_of rfl) (jrl_of rfl) dX9_init_23 ?_
  rw [show ln 111 = 40 from by decide +kernel]
  refine jn_putR (q := 8) (k := 5) (T := TX9) (ty0 := tyX9) (N := 9) (off := 3) (by decide) rfl rfl (by decide +kernel) (by decide) rfl (by decide) in_X9 tyX9_ok nmX9 rfl rfl xFL_X9_18 rfl rfl (by decide) (fun _ => rfl) (fun _ => rfl) dX9_init_25 ?_
  refine jn_aload_n dX9_init_28 rfl 0 rfl ?_
  refine jn_bipush (v := (40 : Int32)) dX9_init_29 (by decide) ?_
  refine jn_newa (k := 1) (ty := .int) rfl (by decide +kernel) (by decide) (fun _ => rfl) rfl rfl (by decide) wAC_int (by decide) (by decide +kernel) (by decide +kernel) (by decide) (by decide +kernel) (jrl_of rfl) (jrl_of rfl) dX9_init_31 ?_
  rw [show ln 112 = 40 from by decide +kernel]
  refine jn_putR (q := 8) (k := 6) (T := TX9) (ty0 := tyX9) (N := 9) (off := 4) (by decide) rfl rfl (by decide +kernel) (by decide) rfl (by decide) in_X9 tyX9_ok nmX9 rfl rfl xFL_X9_21 rfl rfl (by decide) (fun _ => rfl) (fun _ => rfl) dX9_init_33 ?_
  refine jn_aload_n dX9_init_36 rfl 0 rfl ?_
  refine jn_bipush (v := (8 : Int32)) dX9_init_37 (by decide) ?_
  refine jn_newa (k := 1) (ty := .int) rfl (by decide +kernel) (by decide) (fun _ => rfl) rfl rfl (by decide) wAC_int (by decide) (by decide +kernel) (by decide +kernel) (by decide) (by decide +kernel) (jrl_of rfl) (jrl_of rfl) dX9_init_39 ?_
  rw [show ln 113 = 8 from by decide +kernel]
  refine jn_putR (q := 8) (k := 7) (T := TX9) (ty0 := tyX9) (N := 9) (off := 5) (by decide) rfl rfl (by decide +kernel) (by decide) rfl (by decide) in_X9 tyX9_ok nmX9 rfl rfl xFL_X9_24 rfl rfl (by decide) (fun _ => rfl) (fun _ => rfl) dX9_init_41 ?_
  refine jn_aload_n dX9_init_44 rfl 0 rfl ?_
  refine jn_bipush (v := (8 : Int32)) dX9_init_45 (by decide) ?_
  refine jn_newa (k := 1) (ty := .int) rfl (by decide +kernel) (by decide) (fun _ => rfl) rfl rfl (by decide) wAC_int (by decide) (by decide +kernel) (by decide +kernel) (by decide) (by decide +kernel) (jrl_of rfl) (jrl_of rfl) dX9_init_47 ?_
  rw [show ln 114 = 8 from by decide +kernel]
  refine jn_putR (q := 8) (k := 8) (T := TX9) (ty0 := tyX9) (N := 9) (off := 6) (by decide) rfl rfl (by decide +kernel) (by decide) rfl (by decide) in_X9 tyX9_ok nmX9 rfl rfl xFL_X9_27 rfl rfl (by decide) (fun _ => rfl) (fun _ => rfl) dX9_init_49 ?_
  exact jn_vret rfl dX9_init_52
def mCX10_init_115 (mk : Nat → Nat → Bool) : Nat → Nat → Bool := (mkS (mkS (mkS (mkS (mkS mk 115 1) 115 2) 115 3) 115 4) 115 5)
set_option maxRecDepth 100000 in
set_option maxHeartbeats 4000000 in
theorem cX10_init_115 {w : jWd} {mk : Nat → Nat → Bool} : JNM yX10_init MX10_init 1 5 712 [.ref 115] w 116 mk none w 121 (mCX10_init_115 mk) := by
  refine jnm_of (by decide +kernel) rfl (Nat.le_of_ble_eq_true rfl) ?_
  show JN MX10_init 1 5 712 (none, w, 121, (mCX10_init_115 mk), 116, "<init>") w 116 mk 0 0 0 [(0, .ref 115)] []
  refine jn_aload_n dX10_init_0 rfl 0 rfl ?_
  refine jn_obj xML_X10_5 wOI.1 wOI.2 (by decide) (Nat.le_of_ble_eq_true rfl) dX10_init_1 ?_
  refine jn_aload_n dX10_init_4 rfl 0 rfl ?_
  refine jn_bipush (v := (8 : Int32)) dX10_init_5 (by decide) ?_
  refine jn_newa (k := 1) (ty := .int) rfl (by decide +kernel) (by decide) (fun _ => rfl) rfl rfl (by decide) wAC_int (by decide) (by decide +kernel) (by decide +kernel) (by decide) (by decide +kernel) (jrl_of rfl) (jrl_of rfl) dX10_init_7 ?_
  rw [show ln 116 = 8 from by decide +kernel]
  refine jn_putR (q := 9) (k := 1) (T := TX10) (ty0 := tyX10) (N := 6) (off := 1) (by decide) rfl rfl (by decide +kernel) (by decide) rfl (by decide) in_X10 tyX10_ok nmX10 rfl rfl xFL_X10_11 rfl rfl (by decide) (fun _ => rfl) (fun _ => rfl) dX10_init_9 ?_
  refine jn_aload_n dX10_init_12 rfl 0 rfl ?_
  refine jn_sipush (v := (128 : Int32)) dX10_init_13 (by decide) ?_
  refine jn_newa (k := 1) (ty := .int) rfl (by decide +kernel) (by decide) (fun _ => rfl) rfl rfl (by decide) wAC_int (by decide) (by decide +kernel) (by decide +kernel) (by decide) (by decide +kernel) (jrl_of rfl) (jrl_of rfl) dX10_init_16 ?_
  rw [show ln 117 = 128 from by decide +kernel]
  refine jn_putR (q := 9) (k := 2) (T := TX10) (ty0 := tyX10) (N := 6) (off := 2) (by decide) rfl rfl (by decide +kernel) (by decide) rfl (by decide) in_X10 tyX10_ok nmX10 rfl rfl xFL_X10_15 rfl rfl (by decide) (fun _ => rfl) (fun _ => rfl) dX10_init_18 ?_
  refine jn_aload_n dX10_init_21 rfl 0 rfl ?_
  refine jn_bipush (v := (64 : Int32)) dX10_init_22 (by decide) ?_
  refine jn_newa (k := 1) (ty := .int) rfl (by decide +kernel) (by decide) (fun _ => rfl) rfl rfl (by decide) wAC_int (by decide) (by decide +kernel) (by decide +kernel) (by decide) (by decide +kernel) (jrl_of rfl) (jrl_of rfl) dX10_init_24 ?_
  rw [show ln 118 = 64 from by decide +kernel]
  refine jn_putR (q := 9) (k := 3) (T := TX10) (ty0 := tyX10) (N := 6) (off := 3) (by decide) rfl rfl (by decide +kernel) (by decide) rfl (by decide) in_X10 tyX10_ok nmX10 rfl rfl xFL_X10_18 rfl rfl (by decide) (fun _ => rfl) (fun _ => rfl) dX10_init_26 ?_
  refine jn_aload_n dX10_init_29 rfl 0 rfl ?_
  refine jn_sipush (v := (256 : Int32)) dX10_init_30 (by decide) ?_
  refine jn_newa (k := 1) (ty := .int) rfl (by decide +kernel) (by decide) (fun _ => rfl) rfl rfl (by decide) wAC_int (by decide) (by decide +kernel) (by decide +kernel) (by decide) (by decide +kernel) (jrl_of rfl) (jrl_of rfl) dX10_init_33 ?_
  rw [show ln 119 = 256 from by decide +kernel]
  refine jn_putR (q := 9) (k := 4) (T := TX10) (ty0 := tyX10) (N := 6) (off := 4) (by decide) rfl rfl (by decide +kernel) (by decide) rfl (by decide) in_X10 tyX10_ok nmX10 rfl rfl xFL_X10_21 rfl rfl (by decide) (fun _ => rfl) (fun _ => rfl) dX10_init_35 ?_
  refine jn_aload_n dX10_init_38 rfl 0 rfl ?_
  refine jn_sipush (v := (256 : Int32)) dX10_init_39 (by decide) ?_
  refine jn_newa (k := 1) (ty := .int) rfl (by decide +kernel) (by decide) (fun _ => rfl) rfl rfl (by decide) wAC_int (by decide) (by decide +kernel) (by decide +kernel) (by decide) (by decide +kernel) (jrl_of rfl) (jrl_of rfl) dX10_init_42 ?_
  rw [show ln 120 = 256 from by decide +kernel]
  refine jn_putR (q := 9) (k := 5) (T := TX10) (ty0 := tyX10) (N := 6) (off := 5) (by decide) rfl rfl (by decide +kernel) (by decide) rfl (by decide) in_X10 tyX10_ok nmX10 rfl rfl xFL_X10_24 rfl rfl (by decide) (fun _ => rfl) (fun _ => rfl) dX10_init_44 ?_
  exact jn_vret rfl dX10_init_47
set_option maxRecDepth 100000 in
set_option maxHeartbeats 4000000 in
theorem cX5_isFull_76 {w : jWd} {mk : Nat → Nat → Bool} (h0 : wI w 76 0 = (1 : Int32)) (h2 : wI w 76 2 = (0 : Int32)) : JNM yX5_isFull MX5_isFull 1 0 0 [.ref 76] w 121 mk (some (.int (0 : Int32))) w 121 mk := by
  refine jnm_of (by decide +kernel) rfl (Nat.le_of_ble_eq_true rfl) ?_
  show JN MX5_isFull 1 0 0 ((some (.int (0 : Int32))), w, 121, mk, 121, "isFull") w 121 mk 0 0 0 [(0, .ref 76)] []
  refine jn_aload_n dX5_isFull_0 rfl 0 rfl ?_
  refine jn_get (q := 4) (k := 2) (T := TX5) (N := 9) (v := .int (0 : Int32)) (by decide) (by decide +kernel) (by decide) rfl (by decide) in_X5 rfl xFL_X5_44 (fun ρ => by rw [jfl_nth (f := none) rfl]; simp [jfm, wI_sI, jv, h0, h2, wCX5_init_2, wCX5_init_9, wCX5_init_16, wCX5_init_23, wCX5_start_16, wCX8_init_1, wCX5_init_62, wCX5_init_69, wCX5_init_76, wCX5_init_83]) dX5_isFull_1 ?_
  refine jn_aload_n dX5_isFull_4 rfl 0 rfl ?_
  refine jn_get (q := 4) (k := 0) (T := TX5) (N := 9) (v := .int (1 : Int32)) (by decide) (by decide +kernel) (by decide) rfl (by decide) in_X5 rfl xFL_X5_15 (fun ρ => by rw [jfl_nth (f := none) rfl]; simp [jfm, wI_sI, jv, h0, h2, wCX5_init_2, wCX5_init_9, wCX5_init_16, wCX5_init_23, wCX5_start_16, wCX8_init_1, wCX5_init_62, wCX5_init_69, wCX5_init_76, wCX5_init_83]) dX5_isFull_5 ?_
  refine jn_icmp_lt (tgt := 15) (nxt := 11) dX5_isFull_8 (by decide) rfl (fun _ => ?_) (fun hc => absurd (by decide) hc)
  refine jn_iconst (v := (0 : Int32)) dX5_isFull_15 (by decide) ?_
  exact jn_zret (ty := .boolean) rfl rfl dX5_isFull_16
def wCX5_start_76 (w : jWd) : jWd := (sI (sI (sI (sI (sI w 77 0 (0 : Int32)) 78 0 (0 : Int32)) 79 0 (5000 : Int32)) 80 0 (0 : Int32)) 76 2 (1 : Int32))
set_option maxRecDepth 100000 in
set_option maxHeartbeats 4000000 in
theorem cX5_start_76 {w : jWd} {mk : Nat → Nat → Bool} (h0 : wI w 76 0 = (1 : Int32)) (h2 : wI w 76 2 = (0 : Int32)) (h3 : mk 76 3 = true) (h4 : mk 76 4 = true) (h5 : mk 76 5 = true) (h6 : mk 76 6 = true) : JNM yX5_start MX5_start 2 0 0 [.ref 76, .int (0 : Int32), .int (0 : Int32), .int (5000 : Int32)] w 121 mk (some (.int (0 : Int32))) (wCX5_start_76 w) 121 mk := by
  refine jnm_of (by decide +kernel) rfl (Nat.le_of_ble_eq_true rfl) ?_
  show JN MX5_start 2 0 0 ((some (.int (0 : Int32))), (wCX5_start_76 w), 121, mk, 121, "start") w 121 mk 0 0 0 [(0, .ref 76), (1, .int (0 : Int32)), (2, .int (0 : Int32)), (3, .int (5000 : Int32))] []
  refine jn_aload_n dX5_start_0 rfl 0 rfl ?_
  refine jn_callV xML_X5_51 jLn_X5_isFull wIM_X5_isFull wSE_X5_isFull (q := 4) (by decide) (by decide +kernel) (by decide) rfl (cX5_isFull_76 h0 h2) (fun _ => rfl) (by decide) rfl rfl (Nat.le_of_ble_eq_true rfl) (jrl_of rfl) (jrl_of rfl) (Nat.le_refl _) (by decide) (by decide) dX5_start_1 ?_
  refine jn_if_eq (tgt := 9) (nxt := 7) dX5_start_4 (by decide) rfl (fun _ => ?_) (fun hc => absurd rfl hc)
  refine jn_aload_n dX5_start_9 rfl 0 rfl ?_
  refine jn_get (q := 4) (k := 3) (T := TX5) (N := 9) (v := .ref 77) (by decide) (by decide +kernel) (by decide) rfl (by decide) in_X5 rfl xFL_X5_24 (fun ρ => by rw [jfl_nth (f := some 1) rfl]; simp [jfm, mkS, jtg, jv, h0, h2, h3, h4, h5, h6, mCX5_init_2, mCX5_init_9, mCX5_init_16, mCX5_init_23, mCX1_init_32, mCX3_init_39, mCX0_init_41, mCX9_init_48, mCX10_init_55, mCX8_init_1, mCX5_init_62, mCX5_init_69, mCX5_init_76, mCX5_init_83, mCX1_init_92, mCX3_init_99, mCX0_init_101, mCX9_init_108, mCX10_init_115]) dX5_start_10 ?_
  refine jn_aload_n dX5_start_13 rfl 0 rfl ?_
  refine jn_get (q := 4) (k := 2) (T := TX5) (N := 9) (v := .int (0 : Int32)) (by decide) (by decide +kernel) (by decide) rfl (by decide) in_X5 rfl xFL_X5_44 (fun ρ => by rw [jfl_nth (f := none) rfl]; simp [jfm, wI_sI, jv, h0, h2, h3, h4, h5, h6, wCX5_init_2, wCX5_init_9, wCX5_init_16, wCX5_init_23, wCX5_start_16, wCX8_init_1, wCX5_init_62, wCX5_init_69, wCX5_init_76, wCX5_init_83]) dX5_start_14 ?_
  refine jn_iload_n dX5_start_17 rfl 1 rfl ?_
  refine jn_iastL (k := 0) (by decide) (by decide +kernel) (vp_lit (by decide +kernel) (by decide)) (by decide) dX5_start_18 ?_
  refine jn_aload_n dX5_start_19 rfl 0 rfl ?_
  refine jn_get (q := 4) (k := 4) (T := TX5) (N := 9) (v := .ref 78) (by decide) (by decide +kernel) (by decide) rfl (by decide) in_X5 rfl xFL_X5_28 (fun ρ => by rw [jfl_nth (f := some 2) rfl]; simp [jfm, mkS, jtg, jv, h0, h2, h3, h4, h5, h6, mCX5_init_2, mCX5_init_9, mCX5_init_16, mCX5_init_23, mCX1_init_32, mCX3_init_39, mCX0_init_41, mCX9_init_48, mCX10_init_55, mCX8_init_1, mCX5_init_62, mCX5_init_69, mCX5_init_76, mCX5_init_83, mCX1_init_92, mCX3_init_99, mCX0_init_101, mCX9_init_108, mCX10_init_115]) dX5_start_20 ?_
  refine jn_aload_n dX5_start_23 rfl 0 rfl ?_
  refine jn_get (q := 4) (k := 2) (T := TX5) (N := 9) (v := .int (0 : Int32)) (by decide) (by decide +kernel) (by decide) rfl (by decide) in_X5 rfl xFL_X5_44 (fun ρ => by rw [jfl_nth (f := none) rfl]; simp [jfm, wI_sI, jv, h0, h2, h3, h4, h5, h6, wCX5_init_2, wCX5_init_9, wCX5_init_16, wCX5_init_23, wCX5_start_16, wCX8_init_1, wCX5_init_62, wCX5_init_69, wCX5_init_76, wCX5_init_83]) dX5_start_24 ?_
  refine jn_iload_n dX5_start_27 rfl 2 rfl ?_
  refine jn_iastL (k := 0) (by decide) (by decide +kernel) (vp_lit (by decide +kernel) (by decide)) (by decide) dX5_start_28 ?_
  refine jn_aload_n dX5_start_29 rfl 0 rfl ?_
  refine jn_get (q := 4) (k := 5) (T := TX5) (N := 9) (v := .ref 79) (by decide) (by decide +kernel) (by decide) rfl (by decide) in_X5 rfl xFL_X5_31 (fun ρ => by rw [jfl_nth (f := some 3) rfl]; simp [jfm, mkS, jtg, jv, h0, h2, h3, h4, h5, h6, mCX5_init_2, mCX5_init_9, mCX5_init_16, mCX5_init_23, mCX1_init_32, mCX3_init_39, mCX0_init_41, mCX9_init_48, mCX10_init_55, mCX8_init_1, mCX5_init_62, mCX5_init_69, mCX5_init_76, mCX5_init_83, mCX1_init_92, mCX3_init_99, mCX0_init_101, mCX9_init_108, mCX10_init_115]) dX5_start_30 ?_
  refine jn_aload_n dX5_start_33 rfl 0 rfl ?_
  refine jn_get (q := 4) (k := 2) (T := TX5) (N := 9) (v := .int (0 : Int32)) (by decide) (by decide +kernel) (by decide) rfl (by decide) in_X5 rfl xFL_X5_44 (fun ρ => by rw [jfl_nth (f := none) rfl]; simp [jfm, wI_sI, jv, h0, h2, h3, h4, h5, h6, wCX5_init_2, wCX5_init_9, wCX5_init_16, wCX5_init_23, wCX5_start_16, wCX8_init_1, wCX5_init_62, wCX5_init_69, wCX5_init_76, wCX5_init_83]) dX5_start_34 ?_
  refine jn_iload_n dX5_start_37 rfl 3 rfl ?_
  refine jn_iastL (k := 0) (by decide) (by decide +kernel) (vp_lit (by decide +kernel) (by decide)) (by decide) dX5_start_38 ?_
  refine jn_aload_n dX5_start_39 rfl 0 rfl ?_
  refine jn_get (q := 4) (k := 6) (T := TX5) (N := 9) (v := .ref 80) (by decide) (by decide +kernel) (by decide) rfl (by decide) in_X5 rfl xFL_X5_34 (fun ρ => by rw [jfl_nth (f := some 4) rfl]; simp [jfm, mkS, jtg, jv, h0, h2, h3, h4, h5, h6, mCX5_init_2, mCX5_init_9, mCX5_init_16, mCX5_init_23, mCX1_init_32, mCX3_init_39, mCX0_init_41, mCX9_init_48, mCX10_init_55, mCX8_init_1, mCX5_init_62, mCX5_init_69, mCX5_init_76, mCX5_init_83, mCX1_init_92, mCX3_init_99, mCX0_init_101, mCX9_init_108, mCX10_init_115]) dX5_start_40 ?_
  refine jn_aload_n dX5_start_43 rfl 0 rfl ?_
  refine jn_get (q := 4) (k := 2) (T := TX5) (N := 9) (v := .int (0 : Int32)) (by decide) (by decide +kernel) (by decide) rfl (by decide) in_X5 rfl xFL_X5_44 (fun ρ => by rw [jfl_nth (f := none) rfl]; simp [jfm, wI_sI, jv, h0, h2, h3, h4, h5, h6, wCX5_init_2, wCX5_init_9, wCX5_init_16, wCX5_init_23, wCX5_start_16, wCX8_init_1, wCX5_init_62, wCX5_init_69, wCX5_init_76, wCX5_init_83]) dX5_start_44 ?_
  refine jn_iconst (v := (0 : Int32)) dX5_start_47 (by decide) ?_
  refine jn_iastL (k := 0) (by decide) (by decide +kernel) (vp_lit (by decide +kernel) (by decide)) (by decide) dX5_start_48 ?_
  refine jn_aload_n dX5_start_49 rfl 0 rfl ?_
  refine jn_dup dX5_start_50 rfl ?_
  refine jn_get (q := 4) (k := 2) (T := TX5) (N := 9) (v := .int (0 : Int32)) (by decide) (by decide +kernel) (by decide) rfl (by decide) in_X5 rfl xFL_X5_44 (fun ρ => by rw [jfl_nth (f := none) rfl]; simp [jfm, wI_sI, jv, h0, h2, h3, h4, h5, h6, wCX5_init_2, wCX5_init_9, wCX5_init_16, wCX5_init_23, wCX5_start_16, wCX8_init_1, wCX5_init_62, wCX5_init_69, wCX5_init_76, wCX5_init_83]) dX5_start_51 ?_
  refine jn_dup_x1 dX5_start_54 rfl rfl ?_
  refine jn_iconst (v := (1 : Int32)) dX5_start_55 (by decide) ?_
  refine jn_iadd dX5_start_56 ?_
  rw [show (0 : Int32) + (1 : Int32) = (1 : Int32) from by decide]
  refine jn_put (q := 4) (k := 2) (T := TX5) (ty0 := tyX5) (N := 9) (by decide) (by decide +kernel) (by decide) rfl (by decide) in_X5 tyX5_ok nmX5 rfl rfl rfl xFL_X5_44 rfl dX5_start_57 ?_
  exact jn_iret rfl dX5_start_60
def wCX8_init_61 (w : jWd) : jWd := (wCX5_start_76 (sI (sI (wCX5_init_83 (wCX5_init_76 (wCX5_init_69 (wCX5_init_62 w)))) 61 11 (80 : Int32)) 61 12 (50 : Int32)))
def mCX8_init_61 (mk : Nat → Nat → Bool) : Nat → Nat → Bool := (mkS (mCX10_init_115 (mkS (mCX9_init_108 (mkS (mCX0_init_101 (mkS (mCX3_init_99 (mkS (mCX1_init_92 (mkS (mkS (mkS (mCX5_init_83 (mkS (mCX5_init_76 (mkS (mCX5_init_69 (mkS (mCX5_init_62 mk) 61 0)) 61 1)) 61 2)) 61 3) 61 4) 61 5)) 61 6)) 61 7)) 61 8)) 61 9)) 61 10)
set_option maxRecDepth 100000 in
set_option maxHeartbeats 4000000 in
theorem cX8_init_61 {w : jWd} {mk : Nat → Nat → Bool} (hz : wI w 76 2 = (0 : Int32)) : JNM yX8_init MX8_init 3 59 4459 [.ref 61] w 62 mk none (wCX8_init_61 w) 121 (mCX8_init_61 mk) := by
  refine jnm_of (by decide +kernel) rfl (Nat.le_of_ble_eq_true rfl) ?_
  show JN MX8_init 3 59 4459 (none, (wCX8_init_61 w), 121, (mCX8_init_61 mk), 62, "<init>") w 62 mk 0 0 0 [(0, .ref 61)] []
  refine jn_aload_n dX8_init_0 rfl 0 rfl ?_
  refine jn_obj xML_X8_3 wOI.1 wOI.2 (by decide) (Nat.le_of_ble_eq_true rfl) dX8_init_1 ?_
  refine jn_aload_n dX8_init_4 rfl 0 rfl ?_
  refine jn_new (q := 4) (N := 9) (T := TX5) (ty0 := tyX5) (by decide +kernel) (by decide) rfl in_X5 tyX5_ok xCL_X8_9 xIN_X5 xIN_X5I nz_4 (by decide) (by decide) (jrl_of rfl) (jrl_of rfl) dX8_init_5 ?_
  refine jn_dup dX8_init_8 rfl ?_
  refine jn_bipush (v := (40 : Int32)) dX8_init_9 (by decide) ?_
  refine jn_bipush (v := (12 : Int32)) dX8_init_11 (by decide) ?_
  refine jn_callI xML_X8_13 jLn_X5_init rfl rfl wIM_X5_init cX5_init_62 (by decide) rfl rfl (Nat.le_of_ble_eq_true rfl) (jrl_of rfl) (jrl_of rfl) (by decide) (by decide) (by decide +kernel) dX8_init_13 ?_
  refine jn_putR (q := 7) (k := 0) (T := TX8) (ty0 := tyX8) (N := 13) (off := 1) (by decide) rfl rfl (by decide +kernel) (by decide) rfl (by decide) in_X8 tyX8_ok nmX8 rfl rfl xFL_X8_16 rfl rfl (by decide) (fun _ => rfl) (fun _ => rfl) dX8_init_16 ?_
  refine jn_aload_n dX8_init_19 rfl 0 rfl ?_
  refine jn_new (q := 4) (N := 9) (T := TX5) (ty0 := tyX5) (by decide +kernel) (by decide) rfl in_X5 tyX5_ok xCL_X8_9 xIN_X5 xIN_X5I nz_4 (by decide) (by decide) (jrl_of rfl) (jrl_of rfl) dX8_init_20 ?_
  refine jn_dup dX8_init_23 rfl ?_
  refine jn_bipush (v := (12 : Int32)) dX8_init_24 (by decide) ?_
  refine jn_bipush (v := (12 : Int32)) dX8_init_26 (by decide) ?_
  refine jn_callI xML_X8_13 jLn_X5_init rfl rfl wIM_X5_init cX5_init_69 (by decide) rfl rfl (Nat.le_of_ble_eq_true rfl) (jrl_of rfl) (jrl_of rfl) (by decide) (by decide) (by decide +kernel) dX8_init_28 ?_
  refine jn_putR (q := 7) (k := 1) (T := TX8) (ty0 := tyX8) (N := 13) (off := 8) (by decide) rfl rfl (by decide +kernel) (by decide) rfl (by decide) in_X8 tyX8_ok nmX8 rfl rfl xFL_X8_20 rfl rfl (by decide) (fun _ => rfl) (fun _ => rfl) dX8_init_31 ?_
  refine jn_aload_n dX8_init_34 rfl 0 rfl ?_
  refine jn_new (q := 4) (N := 9) (T := TX5) (ty0 := tyX5) (by decide +kernel) (by decide) rfl in_X5 tyX5_ok xCL_X8_9 xIN_X5 xIN_X5I nz_4 (by decide) (by decide) (jrl_of rfl) (jrl_of rfl) dX8_init_35 ?_
  refine jn_dup dX8_init_38 rfl ?_
  refine jn_iconst (v := (1 : Int32)) dX8_init_39 (by decide) ?_
  refine jn_bipush (v := (60 : Int32)) dX8_init_40 (by decide) ?_
  refine jn_callI xML_X8_13 jLn_X5_init rfl rfl wIM_X5_init cX5_init_76 (by decide) rfl rfl (Nat.le_of_ble_eq_true rfl) (jrl_of rfl) (jrl_of rfl) (by decide) (by decide) (by decide +kernel) dX8_init_42 ?_
  refine jn_putR (q := 7) (k := 2) (T := TX8) (ty0 := tyX8) (N := 13) (off := 15) (by decide) rfl rfl (by decide +kernel) (by decide) rfl (by decide) in_X8 tyX8_ok nmX8 rfl rfl xFL_X8_23 rfl rfl (by decide) (fun _ => rfl) (fun _ => rfl) dX8_init_45 ?_
  refine jn_aload_n dX8_init_48 rfl 0 rfl ?_
  refine jn_new (q := 4) (N := 9) (T := TX5) (ty0 := tyX5) (by decide +kernel) (by decide) rfl in_X5 tyX5_ok xCL_X8_9 xIN_X5 xIN_X5I nz_4 (by decide) (by decide) (jrl_of rfl) (jrl_of rfl) dX8_init_49 ?_
  refine jn_dup dX8_init_52 rfl ?_
  refine jn_bipush (v := (20 : Int32)) dX8_init_53 (by decide) ?_
  refine jn_iconst (v := (2 : Int32)) dX8_init_55 (by decide) ?_
  refine jn_callI xML_X8_13 jLn_X5_init rfl rfl wIM_X5_init cX5_init_83 (by decide) rfl rfl (Nat.le_of_ble_eq_true rfl) (jrl_of rfl) (jrl_of rfl) (by decide) (by decide) (by decide +kernel) dX8_init_56 ?_
  refine jn_putR (q := 7) (k := 3) (T := TX8) (ty0 := tyX8) (N := 13) (off := 22) (by decide) rfl rfl (by decide +kernel) (by decide) rfl (by decide) in_X8 tyX8_ok nmX8 rfl rfl xFL_X8_26 rfl rfl (by decide) (fun _ => rfl) (fun _ => rfl) dX8_init_59 ?_
  refine jn_aload_n dX8_init_62 rfl 0 rfl ?_
  refine jn_sipush (v := (480 : Int32)) dX8_init_63 (by decide) ?_
  refine jn_newl (by decide +kernel) wAC_long (by decide) (by decide +kernel) (by decide +kernel) (by decide) (by decide +kernel) (jrl_of rfl) (jrl_of rfl) dX8_init_66 ?_
  rw [show ln 90 = 480 from by decide +kernel]
  refine jn_putR (q := 7) (k := 4) (T := TX8) (ty0 := tyX8) (N := 13) (off := 29) (by decide) rfl rfl (by decide +kernel) (by decide) rfl (by decide) in_X8 tyX8_ok nmX8 rfl rfl xFL_X8_29 rfl rfl (by decide) (fun _ => rfl) (fun _ => rfl) dX8_init_68 ?_
  refine jn_aload_n dX8_init_71 rfl 0 rfl ?_
  refine jn_sipush (v := (256 : Int32)) dX8_init_72 (by decide) ?_
  refine jn_newa (k := 1) (ty := .int) rfl (by decide +kernel) (by decide) (fun _ => rfl) rfl rfl (by decide) wAC_int (by decide) (by decide +kernel) (by decide +kernel) (by decide) (by decide +kernel) (jrl_of rfl) (jrl_of rfl) dX8_init_75 ?_
  rw [show ln 91 = 256 from by decide +kernel]
  refine jn_putR (q := 7) (k := 5) (T := TX8) (ty0 := tyX8) (N := 13) (off := 30) (by decide) rfl rfl (by decide +kernel) (by decide) rfl (by decide) in_X8 tyX8_ok nmX8 rfl rfl xFL_X8_33 rfl rfl (by decide) (fun _ => rfl) (fun _ => rfl) dX8_init_77 ?_
  refine jn_aload_n dX8_init_80 rfl 0 rfl ?_
  refine jn_new (q := 1) (N := 8) (T := TX1) (ty0 := tyX1) (by decide +kernel) (by decide) rfl in_X1 tyX1_ok xCL_X8_37 xIN_X1 xIN_X1I nz_1 (by decide) (by decide) (jrl_of rfl) (jrl_of rfl) dX8_init_81 ?_
  refine jn_dup dX8_init_84 rfl ?_
  refine jn_callN (host := "NobodysBard") (by decide +kernel) jLn_X1_init rfl rfl wIM_X1_init cX1_init_92 (by decide) rfl rfl (Nat.le_of_ble_eq_true rfl) (jrl_of rfl) (jrl_of rfl) (by decide) (by decide) (by decide +kernel) dX8_init_85 ?_
  refine jn_putR (q := 7) (k := 6) (T := TX8) (ty0 := tyX8) (N := 13) (off := 31) (by decide) rfl rfl (by decide +kernel) (by decide) rfl (by decide) in_X8 tyX8_ok nmX8 rfl rfl xFL_X8_40 rfl rfl (by decide) (fun _ => rfl) (fun _ => rfl) dX8_init_88 ?_
  refine jn_aload_n dX8_init_91 rfl 0 rfl ?_
  refine jn_new (q := 3) (N := 5) (T := TX3) (ty0 := tyX3) (by decide +kernel) (by decide) rfl in_X3 tyX3_ok xCL_X8_44 xIN_X3 xIN_X3I nz_3 (by decide) (by decide) (jrl_of rfl) (jrl_of rfl) dX8_init_92 ?_
  refine jn_dup dX8_init_95 rfl ?_
  refine jn_callN (host := "NobodysBard") (by decide +kernel) jLn_X3_init rfl rfl wIM_X3_init cX3_init_99 (by decide) rfl rfl (Nat.le_of_ble_eq_true rfl) (jrl_of rfl) (jrl_of rfl) (by decide) (by decide) (by decide +kernel) dX8_init_96 ?_
  refine jn_putR (q := 7) (k := 7) (T := TX8) (ty0 := tyX8) (N := 13) (off := 38) (by decide) rfl rfl (by decide +kernel) (by decide) rfl (by decide) in_X8 tyX8_ok nmX8 rfl rfl xFL_X8_47 rfl rfl (by decide) (fun _ => rfl) (fun _ => rfl) dX8_init_99 ?_
  refine jn_aload_n dX8_init_102 rfl 0 rfl ?_
  refine jn_new (q := 0) (N := 7) (T := TX0) (ty0 := tyX0) (by decide +kernel) (by decide) rfl in_X0 tyX0_ok xCL_X8_51 xIN_X0 xIN_X0I nz_0 (by decide) (by decide) (jrl_of rfl) (jrl_of rfl) dX8_init_103 ?_
  refine jn_dup dX8_init_106 rfl ?_
  refine jn_callN (host := "NobodysBard") (by decide +kernel) jLn_X0_init rfl rfl wIM_X0_init cX0_init_101 (by decide) rfl rfl (Nat.le_of_ble_eq_true rfl) (jrl_of rfl) (jrl_of rfl) (by decide) (by decide) (by decide +kernel) dX8_init_107 ?_
  refine jn_putR (q := 7) (k := 8) (T := TX8) (ty0 := tyX8) (N := 13) (off := 40) (by decide) rfl rfl (by decide +kernel) (by decide) rfl (by decide) in_X8 tyX8_ok nmX8 rfl rfl xFL_X8_54 rfl rfl (by decide) (fun _ => rfl) (fun _ => rfl) dX8_init_110 ?_
  refine jn_aload_n dX8_init_113 rfl 0 rfl ?_
  refine jn_new (q := 8) (N := 9) (T := TX9) (ty0 := tyX9) (by decide +kernel) (by decide) rfl in_X9 tyX9_ok xCL_X8_58 xIN_X9 xIN_X9I nz_8 (by decide) (by decide) (jrl_of rfl) (jrl_of rfl) dX8_init_114 ?_
  refine jn_dup dX8_init_117 rfl ?_
  refine jn_callN (host := "NobodysBard") (by decide +kernel) jLn_X9_init rfl rfl wIM_X9_init cX9_init_108 (by decide) rfl rfl (Nat.le_of_ble_eq_true rfl) (jrl_of rfl) (jrl_of rfl) (by decide) (by decide) (by decide +kernel) dX8_init_118 ?_
  refine jn_putR (q := 7) (k := 9) (T := TX8) (ty0 := tyX8) (N := 13) (off := 47) (by decide) rfl rfl (by decide +kernel) (by decide) rfl (by decide) in_X8 tyX8_ok nmX8 rfl rfl xFL_X8_61 rfl rfl (by decide) (fun _ => rfl) (fun _ => rfl) dX8_init_121 ?_
  refine jn_aload_n dX8_init_124 rfl 0 rfl ?_
  refine jn_new (q := 9) (N := 6) (T := TX10) (ty0 := tyX10) (by decide +kernel) (by decide) rfl in_X10 tyX10_ok xCL_X8_65 xIN_X10 xIN_X10I nz_9 (by decide) (by decide) (jrl_of rfl) (jrl_of rfl) dX8_init_125 ?_
  refine jn_dup dX8_init_128 rfl ?_
  refine jn_callN (host := "NobodysBard") (by decide +kernel) jLn_X10_init rfl rfl wIM_X10_init cX10_init_115 (by decide) rfl rfl (Nat.le_of_ble_eq_true rfl) (jrl_of rfl) (jrl_of rfl) (by decide) (by decide) (by decide +kernel) dX8_init_129 ?_
  refine jn_putR (q := 7) (k := 10) (T := TX8) (ty0 := tyX8) (N := 13) (off := 54) (by decide) rfl rfl (by decide +kernel) (by decide) rfl (by decide) in_X8 tyX8_ok nmX8 rfl rfl xFL_X8_68 rfl rfl (by decide) (fun _ => rfl) (fun _ => rfl) dX8_init_132 ?_
  refine jn_aload_n dX8_init_135 rfl 0 rfl ?_
  refine jn_bipush (v := (80 : Int32)) dX8_init_136 (by decide) ?_
  refine jn_put (q := 7) (k := 11) (T := TX8) (ty0 := tyX8) (N := 13) (by decide) (by decide +kernel) (by decide) rfl (by decide) in_X8 tyX8_ok nmX8 rfl rfl rfl xFL_X8_72 rfl dX8_init_138 ?_
  refine jn_aload_n dX8_init_141 rfl 0 rfl ?_
  refine jn_bipush (v := (50 : Int32)) dX8_init_142 (by decide) ?_
  refine jn_put (q := 7) (k := 12) (T := TX8) (ty0 := tyX8) (N := 13) (by decide) (by decide +kernel) (by decide) rfl (by decide) in_X8 tyX8_ok nmX8 rfl rfl rfl xFL_X8_76 rfl dX8_init_144 ?_
  refine jn_aload_n dX8_init_147 rfl 0 rfl ?_
  refine jn_get (q := 7) (k := 2) (T := TX8) (N := 13) (v := .ref 76) (by decide) (by decide +kernel) (by decide) rfl (by decide) in_X8 rfl xFL_X8_23 (fun ρ => by rw [jfl_nth (f := some 15) rfl]; simp [jfm, mkS, jtg, jv, mCX5_init_2, mCX5_init_9, mCX5_init_16, mCX5_init_23, mCX1_init_32, mCX3_init_39, mCX0_init_41, mCX9_init_48, mCX10_init_55, mCX8_init_1, mCX5_init_62, mCX5_init_69, mCX5_init_76, mCX5_init_83, mCX1_init_92, mCX3_init_99, mCX0_init_101, mCX9_init_108, mCX10_init_115]) dX8_init_148 ?_
  refine jn_iconst (v := (0 : Int32)) dX8_init_151 (by decide) ?_
  refine jn_iconst (v := (0 : Int32)) dX8_init_152 (by decide) ?_
  refine jn_sipush (v := (5000 : Int32)) dX8_init_153 (by decide) ?_
  refine jn_callV xML_X8_79 jLn_X5_start wIM_X5_start wSE_X5_start (q := 4) (by decide) (by decide +kernel) (by decide) rfl (cX5_start_76 (by simp [wI_sI, wCX5_init_2, wCX5_init_9, wCX5_init_16, wCX5_init_23, wCX5_start_16, wCX8_init_1, wCX5_init_62, wCX5_init_69, wCX5_init_76, wCX5_init_83]) (by simp [wI_sI, wCX5_init_2, wCX5_init_9, wCX5_init_16, wCX5_init_23, wCX5_start_16, wCX8_init_1, wCX5_init_62, wCX5_init_69, wCX5_init_76, wCX5_init_83, hz]) (by simp [mkS, mCX5_init_2, mCX5_init_9, mCX5_init_16, mCX5_init_23, mCX1_init_32, mCX3_init_39, mCX0_init_41, mCX9_init_48, mCX10_init_55, mCX8_init_1, mCX5_init_62, mCX5_init_69, mCX5_init_76, mCX5_init_83, mCX1_init_92, mCX3_init_99, mCX0_init_101, mCX9_init_108, mCX10_init_115]) (by simp [mkS, mCX5_init_2, mCX5_init_9, mCX5_init_16, mCX5_init_23, mCX1_init_32, mCX3_init_39, mCX0_init_41, mCX9_init_48, mCX10_init_55, mCX8_init_1, mCX5_init_62, mCX5_init_69, mCX5_init_76, mCX5_init_83, mCX1_init_92, mCX3_init_99, mCX0_init_101, mCX9_init_108, mCX10_init_115]) (by simp [mkS, mCX5_init_2, mCX5_init_9, mCX5_init_16, mCX5_init_23, mCX1_init_32, mCX3_init_39, mCX0_init_41, mCX9_init_48, mCX10_init_55, mCX8_init_1, mCX5_init_62, mCX5_init_69, mCX5_init_76, mCX5_init_83, mCX1_init_92, mCX3_init_99, mCX0_init_101, mCX9_init_108, mCX10_init_115]) (by simp [mkS, mCX5_init_2, mCX5_init_9, mCX5_init_16, mCX5_init_23, mCX1_init_32, mCX3_init_39, mCX0_init_41, mCX9_init_48, mCX10_init_55, mCX8_init_1, mCX5_init_62, mCX5_init_69, mCX5_init_76, mCX5_init_83, mCX1_init_92, mCX3_init_99, mCX0_init_101, mCX9_init_108, mCX10_init_115])) (fun _ => rfl) (by decide) rfl rfl (Nat.le_of_ble_eq_true rfl) (jrl_of rfl) (jrl_of rfl) (Nat.le_refl _) (by decide) (by decide) dX8_init_156 ?_
  refine jn_pop dX8_init_159 rfl ?_
  exact jn_vret rfl dX8_init_160
theorem xFL_X11_16 : Cond.fieldLink RX11 16 RX11 (TX11 1).2.1 (TX11 1).2.2.1 ∈ jT := jT_t2 (i := 174) (by decide +kernel) (by decide +kernel)
def wCX5_init_122 (w : jWd) : jWd := (sI (sI w 122 0 (40 : Int32)) 122 1 (12 : Int32))
def mCX5_init_122 (mk : Nat → Nat → Bool) : Nat → Nat → Bool := (mkS (mkS (mkS (mkS (mkS (mkS mk 122 3) 122 4) 122 5) 122 6) 122 7) 122 8)
set_option maxRecDepth 100000 in
set_option maxHeartbeats 4000000 in
theorem cX5_init_122 {w : jWd} {mk : Nat → Nat → Bool} : JNM yX5_init MX5_init 1 6 1120 [.ref 122, .int (40 : Int32), .int (12 : Int32)] w 123 mk none (wCX5_init_122 w) 129 (mCX5_init_122 mk) := by
  refine jnm_of (by decide +kernel) rfl (Nat.le_of_ble_eq_true rfl) ?_
  show JN MX5_init 1 6 1120 (none, (wCX5_init_122 w), 129, (mCX5_init_122 mk), 123, "<init>") w 123 mk 0 0 0 [(0, .ref 122), (1, .int (40 : Int32)), (2, .int (12 : Int32))] []
  refine jn_aload_n dX5_init_0 rfl 0 rfl ?_
  refine jn_obj xML_X5_3 wOI.1 wOI.2 (by decide) (Nat.le_of_ble_eq_true rfl) dX5_init_1 ?_
  refine jn_aload_n dX5_init_4 rfl 0 rfl ?_
  refine jn_iconst (v := (0 : Int32)) dX5_init_5 (by decide) ?_
  refine jn_iload_n dX5_init_6 rfl 1 rfl ?_
  refine jn_imax xML_X5_9 (by decide) (by decide) (by decide +kernel) (Nat.le_of_ble_eq_true rfl) dX5_init_7 ?_
  rw [show imax (0 : Int32) (40 : Int32) = (40 : Int32) from by decide]
  refine jn_putF (q := 4) (k := 0) (T := TX5) (ty0 := tyX5) (N := 9) (by decide) rfl rfl (by decide +kernel) (by decide) rfl (by decide) in_X5 tyX5_ok nmX5 rfl rfl rfl xFL_X5_15 rfl dX5_init_10 ?_
  refine jn_aload_n dX5_init_13 rfl 0 rfl ?_
  refine jn_iconst (v := (0 : Int32)) dX5_init_14 (by decide) ?_
  refine jn_iload_n dX5_init_15 rfl 2 rfl ?_
  refine jn_imax xML_X5_9 (by decide) (by decide) (by decide +kernel) (Nat.le_of_ble_eq_true rfl) dX5_init_16 ?_
  rw [show imax (0 : Int32) (12 : Int32) = (12 : Int32) from by decide]
  refine jn_putF (q := 4) (k := 1) (T := TX5) (ty0 := tyX5) (N := 9) (by decide) rfl rfl (by decide +kernel) (by decide) rfl (by decide) in_X5 tyX5_ok nmX5 rfl rfl rfl xFL_X5_21 rfl dX5_init_19 ?_
  refine jn_aload_n dX5_init_22 rfl 0 rfl ?_
  refine jn_aload_n dX5_init_23 rfl 0 rfl ?_
  refine jn_get (q := 4) (k := 0) (T := TX5) (N := 9) (v := .int (40 : Int32)) (by decide) (by decide +kernel) (by decide) rfl (by decide) in_X5 rfl xFL_X5_15 (fun ρ => by rw [jfl_nth (f := none) rfl]; simp [jfm, wI_sI, jv, wCX5_init_2, wCX5_init_9, wCX5_init_16, wCX5_init_23, wCX5_start_16, wCX8_init_1, wCX5_init_62, wCX5_init_69, wCX5_init_76, wCX5_init_83, wCX5_start_76, wCX8_init_61]) dX5_init_24 ?_
  refine jn_newa (k := 1) (ty := .int) rfl (by decide +kernel) (by decide) (fun _ => rfl) rfl rfl (by decide) wAC_int (by decide) (by decide +kernel) (by decide +kernel) (by decide) (by decide +kernel) (jrl_of rfl) (jrl_of rfl) dX5_init_27 ?_
  rw [show ln 123 = 40 from by decide +kernel]
  refine jn_putR (q := 4) (k := 3) (T := TX5) (ty0 := tyX5) (N := 9) (off := 1) (by decide) rfl rfl (by decide +kernel) (by decide) rfl (by decide) in_X5 tyX5_ok nmX5 rfl rfl xFL_X5_24 rfl rfl (by decide) (fun _ => rfl) (fun _ => rfl) dX5_init_29 ?_
  refine jn_aload_n dX5_init_32 rfl 0 rfl ?_
  refine jn_aload_n dX5_init_33 rfl 0 rfl ?_
  refine jn_get (q := 4) (k := 0) (T := TX5) (N := 9) (v := .int (40 : Int32)) (by decide) (by decide +kernel) (by decide) rfl (by decide) in_X5 rfl xFL_X5_15 (fun ρ => by rw [jfl_nth (f := none) rfl]; simp [jfm, wI_sI, jv, wCX5_init_2, wCX5_init_9, wCX5_init_16, wCX5_init_23, wCX5_start_16, wCX8_init_1, wCX5_init_62, wCX5_init_69, wCX5_init_76, wCX5_init_83, wCX5_start_76, wCX8_init_61]) dX5_init_34 ?_
  refine jn_newa (k := 1) (ty := .int) rfl (by decide +kernel) (by decide) (fun _ => rfl) rfl rfl (by decide) wAC_int (by decide) (by decide +kernel) (by decide +kernel) (by decide) (by decide +kernel) (jrl_of rfl) (jrl_of rfl) dX5_init_37 ?_
  rw [show ln 124 = 40 from by decide +kernel]
  refine jn_putR (q := 4) (k := 4) (T := TX5) (ty0 := tyX5) (N := 9) (off := 2) (by decide) rfl rfl (by decide +kernel) (by decide) rfl (by decide) in_X5 tyX5_ok nmX5 rfl rfl xFL_X5_28 rfl rfl (by decide) (fun _ => rfl) (fun _ => rfl) dX5_init_39 ?_
  refine jn_aload_n dX5_init_42 rfl 0 rfl ?_
  refine jn_aload_n dX5_init_43 rfl 0 rfl ?_
  refine jn_get (q := 4) (k := 0) (T := TX5) (N := 9) (v := .int (40 : Int32)) (by decide) (by decide +kernel) (by decide) rfl (by decide) in_X5 rfl xFL_X5_15 (fun ρ => by rw [jfl_nth (f := none) rfl]; simp [jfm, wI_sI, jv, wCX5_init_2, wCX5_init_9, wCX5_init_16, wCX5_init_23, wCX5_start_16, wCX8_init_1, wCX5_init_62, wCX5_init_69, wCX5_init_76, wCX5_init_83, wCX5_start_76, wCX8_init_61]) dX5_init_44 ?_
  refine jn_newa (k := 1) (ty := .int) rfl (by decide +kernel) (by decide) (fun _ => rfl) rfl rfl (by decide) wAC_int (by decide) (by decide +kernel) (by decide +kernel) (by decide) (by decide +kernel) (jrl_of rfl) (jrl_of rfl) dX5_init_47 ?_
  rw [show ln 125 = 40 from by decide +kernel]
  refine jn_putR (q := 4) (k := 5) (T := TX5) (ty0 := tyX5) (N := 9) (off := 3) (by decide) rfl rfl (by decide +kernel) (by decide) rfl (by decide) in_X5 tyX5_ok nmX5 rfl rfl xFL_X5_31 rfl rfl (by decide) (fun _ => rfl) (fun _ => rfl) dX5_init_49 ?_
  refine jn_aload_n dX5_init_52 rfl 0 rfl ?_
  refine jn_aload_n dX5_init_53 rfl 0 rfl ?_
  refine jn_get (q := 4) (k := 0) (T := TX5) (N := 9) (v := .int (40 : Int32)) (by decide) (by decide +kernel) (by decide) rfl (by decide) in_X5 rfl xFL_X5_15 (fun ρ => by rw [jfl_nth (f := none) rfl]; simp [jfm, wI_sI, jv, wCX5_init_2, wCX5_init_9, wCX5_init_16, wCX5_init_23, wCX5_start_16, wCX8_init_1, wCX5_init_62, wCX5_init_69, wCX5_init_76, wCX5_init_83, wCX5_start_76, wCX8_init_61]) dX5_init_54 ?_
  refine jn_newa (k := 1) (ty := .int) rfl (by decide +kernel) (by decide) (fun _ => rfl) rfl rfl (by decide) wAC_int (by decide) (by decide +kernel) (by decide +kernel) (by decide) (by decide +kernel) (jrl_of rfl) (jrl_of rfl) dX5_init_57 ?_
  rw [show ln 126 = 40 from by decide +kernel]
  refine jn_putR (q := 4) (k := 6) (T := TX5) (ty0 := tyX5) (N := 9) (off := 4) (by decide) rfl rfl (by decide +kernel) (by decide) rfl (by decide) in_X5 tyX5_ok nmX5 rfl rfl xFL_X5_34 rfl rfl (by decide) (fun _ => rfl) (fun _ => rfl) dX5_init_59 ?_
  refine jn_aload_n dX5_init_62 rfl 0 rfl ?_
  refine jn_aload_n dX5_init_63 rfl 0 rfl ?_
  refine jn_get (q := 4) (k := 0) (T := TX5) (N := 9) (v := .int (40 : Int32)) (by decide) (by decide +kernel) (by decide) rfl (by decide) in_X5 rfl xFL_X5_15 (fun ρ => by rw [jfl_nth (f := none) rfl]; simp [jfm, wI_sI, jv, wCX5_init_2, wCX5_init_9, wCX5_init_16, wCX5_init_23, wCX5_start_16, wCX8_init_1, wCX5_init_62, wCX5_init_69, wCX5_init_76, wCX5_init_83, wCX5_start_76, wCX8_init_61]) dX5_init_64 ?_
  refine jn_aload_n dX5_init_67 rfl 0 rfl ?_
  refine jn_get (q := 4) (k := 1) (T := TX5) (N := 9) (v := .int (12 : Int32)) (by decide) (by decide +kernel) (by decide) rfl (by decide) in_X5 rfl xFL_X5_21 (fun ρ => by rw [jfl_nth (f := none) rfl]; simp [jfm, wI_sI, jv, wCX5_init_2, wCX5_init_9, wCX5_init_16, wCX5_init_23, wCX5_start_16, wCX8_init_1, wCX5_init_62, wCX5_init_69, wCX5_init_76, wCX5_init_83, wCX5_start_76, wCX8_init_61]) dX5_init_68 ?_
  refine jn_imul dX5_init_71 ?_
  rw [show (40 : Int32) * (12 : Int32) = (480 : Int32) from by decide]
  refine jn_newa (k := 1) (ty := .int) rfl (by decide +kernel) (by decide) (fun _ => rfl) rfl rfl (by decide) wAC_int (by decide) (by decide +kernel) (by decide +kernel) (by decide) (by decide +kernel) (jrl_of rfl) (jrl_of rfl) dX5_init_72 ?_
  rw [show ln 127 = 480 from by decide +kernel]
  refine jn_putR (q := 4) (k := 7) (T := TX5) (ty0 := tyX5) (N := 9) (off := 5) (by decide) rfl rfl (by decide +kernel) (by decide) rfl (by decide) in_X5 tyX5_ok nmX5 rfl rfl xFL_X5_37 rfl rfl (by decide) (fun _ => rfl) (fun _ => rfl) dX5_init_74 ?_
  refine jn_aload_n dX5_init_77 rfl 0 rfl ?_
  refine jn_aload_n dX5_init_78 rfl 0 rfl ?_
  refine jn_get (q := 4) (k := 0) (T := TX5) (N := 9) (v := .int (40 : Int32)) (by decide) (by decide +kernel) (by decide) rfl (by decide) in_X5 rfl xFL_X5_15 (fun ρ => by rw [jfl_nth (f := none) rfl]; simp [jfm, wI_sI, jv, wCX5_init_2, wCX5_init_9, wCX5_init_16, wCX5_init_23, wCX5_start_16, wCX8_init_1, wCX5_init_62, wCX5_init_69, wCX5_init_76, wCX5_init_83, wCX5_start_76, wCX8_init_61]) dX5_init_79 ?_
  refine jn_aload_n dX5_init_82 rfl 0 rfl ?_
  refine jn_get (q := 4) (k := 1) (T := TX5) (N := 9) (v := .int (12 : Int32)) (by decide) (by decide +kernel) (by decide) rfl (by decide) in_X5 rfl xFL_X5_21 (fun ρ => by rw [jfl_nth (f := none) rfl]; simp [jfm, wI_sI, jv, wCX5_init_2, wCX5_init_9, wCX5_init_16, wCX5_init_23, wCX5_start_16, wCX8_init_1, wCX5_init_62, wCX5_init_69, wCX5_init_76, wCX5_init_83, wCX5_start_76, wCX8_init_61]) dX5_init_83 ?_
  refine jn_imul dX5_init_86 ?_
  rw [show (40 : Int32) * (12 : Int32) = (480 : Int32) from by decide]
  refine jn_newl (by decide +kernel) wAC_long (by decide) (by decide +kernel) (by decide +kernel) (by decide) (by decide +kernel) (jrl_of rfl) (jrl_of rfl) dX5_init_87 ?_
  rw [show ln 128 = 480 from by decide +kernel]
  refine jn_putR (q := 4) (k := 8) (T := TX5) (ty0 := tyX5) (N := 9) (off := 6) (by decide) rfl rfl (by decide +kernel) (by decide) rfl (by decide) in_X5 tyX5_ok nmX5 rfl rfl xFL_X5_40 rfl rfl (by decide) (fun _ => rfl) (fun _ => rfl) dX5_init_89 ?_
  exact jn_vret rfl dX5_init_92
def wCX5_init_129 (w : jWd) : jWd := (sI (sI w 129 0 (12 : Int32)) 129 1 (12 : Int32))
def mCX5_init_129 (mk : Nat → Nat → Bool) : Nat → Nat → Bool := (mkS (mkS (mkS (mkS (mkS (mkS mk 129 3) 129 4) 129 5) 129 6) 129 7) 129 8)
set_option maxRecDepth 100000 in
set_option maxHeartbeats 4000000 in
theorem cX5_init_129 {w : jWd} {mk : Nat → Nat → Bool} : JNM yX5_init MX5_init 1 6 336 [.ref 129, .int (12 : Int32), .int (12 : Int32)] w 130 mk none (wCX5_init_129 w) 136 (mCX5_init_129 mk) := by
  refine jnm_of (by decide +kernel) rfl (Nat.le_of_ble_eq_true rfl) ?_
  show JN MX5_init 1 6 336 (none, (wCX5_init_129 w), 136, (mCX5_init_129 mk), 130, "<init>") w 130 mk 0 0 0 [(0, .ref 129), (1, .int (12 : Int32)), (2, .int (12 : Int32))] []
  refine jn_aload_n dX5_init_0 rfl 0 rfl ?_
  refine jn_obj xML_X5_3 wOI.1 wOI.2 (by decide) (Nat.le_of_ble_eq_true rfl) dX5_init_1 ?_
  refine jn_aload_n dX5_init_4 rfl 0 rfl ?_
  refine jn_iconst (v := (0 : Int32)) dX5_init_5 (by decide) ?_
  refine jn_iload_n dX5_init_6 rfl 1 rfl ?_
  refine jn_imax xML_X5_9 (by decide) (by decide) (by decide +kernel) (Nat.le_of_ble_eq_true rfl) dX5_init_7 ?_
  rw [show imax (0 : Int32) (12 : Int32) = (12 : Int32) from by decide]
  refine jn_putF (q := 4) (k := 0) (T := TX5) (ty0 := tyX5) (N := 9) (by decide) rfl rfl (by decide +kernel) (by decide) rfl (by decide) in_X5 tyX5_ok nmX5 rfl rfl rfl xFL_X5_15 rfl dX5_init_10 ?_
  refine jn_aload_n dX5_init_13 rfl 0 rfl ?_
  refine jn_iconst (v := (0 : Int32)) dX5_init_14 (by decide) ?_
  refine jn_iload_n dX5_init_15 rfl 2 rfl ?_
  refine jn_imax xML_X5_9 (by decide) (by decide) (by decide +kernel) (Nat.le_of_ble_eq_true rfl) dX5_init_16 ?_
  rw [show imax (0 : Int32) (12 : Int32) = (12 : Int32) from by decide]
  refine jn_putF (q := 4) (k := 1) (T := TX5) (ty0 := tyX5) (N := 9) (by decide) rfl rfl (by decide +kernel) (by decide) rfl (by decide) in_X5 tyX5_ok nmX5 rfl rfl rfl xFL_X5_21 rfl dX5_init_19 ?_
  refine jn_aload_n dX5_init_22 rfl 0 rfl ?_
  refine jn_aload_n dX5_init_23 rfl 0 rfl ?_
  refine jn_get (q := 4) (k := 0) (T := TX5) (N := 9) (v := .int (12 : Int32)) (by decide) (by decide +kernel) (by decide) rfl (by decide) in_X5 rfl xFL_X5_15 (fun ρ => by rw [jfl_nth (f := none) rfl]; simp [jfm, wI_sI, jv, wCX5_init_2, wCX5_init_9, wCX5_init_16, wCX5_init_23, wCX5_start_16, wCX8_init_1, wCX5_init_62, wCX5_init_69, wCX5_init_76, wCX5_init_83, wCX5_start_76, wCX8_init_61, wCX5_init_122]) dX5_init_24 ?_
  refine jn_newa (k := 1) (ty := .int) rfl (by decide +kernel) (by decide) (fun _ => rfl) rfl rfl (by decide) wAC_int (by decide) (by decide +kernel) (by decide +kernel) (by decide) (by decide +kernel) (jrl_of rfl) (jrl_of rfl) dX5_init_27 ?_
  rw [show ln 130 = 12 from by decide +kernel]
  refine jn_putR (q := 4) (k := 3) (T := TX5) (ty0 := tyX5) (N := 9) (off := 1) (by decide) rfl rfl (by decide +kernel) (by decide) rfl (by decide) in_X5 tyX5_ok nmX5 rfl rfl xFL_X5_24 rfl rfl (by decide) (fun _ => rfl) (fun _ => rfl) dX5_init_29 ?_
  refine jn_aload_n dX5_init_32 rfl 0 rfl ?_
  refine jn_aload_n dX5_init_33 rfl 0 rfl ?_
  refine jn_get (q := 4) (k := 0) (T := TX5) (N := 9) (v := .int (12 : Int32)) (by decide) (by decide +kernel) (by decide) rfl (by decide) in_X5 rfl xFL_X5_15 (fun ρ => by rw [jfl_nth (f := none) rfl]; simp [jfm, wI_sI, jv, wCX5_init_2, wCX5_init_9, wCX5_init_16, wCX5_init_23, wCX5_start_16, wCX8_init_1, wCX5_init_62, wCX5_init_69, wCX5_init_76, wCX5_init_83, wCX5_start_76, wCX8_init_61, wCX5_init_122]) dX5_init_34 ?_
  refine jn_newa (k := 1) (ty := .int) rfl (by decide +kernel) (by decide) (fun _ => rfl) rfl rfl (by decide) wAC_int (by decide) (by decide +kernel) (by decide +kernel) (by decide) (by decide +kernel) (jrl_of rfl) (jrl_of rfl) dX5_init_37 ?_
  rw [show ln 131 = 12 from by decide +kernel]
  refine jn_putR (q := 4) (k := 4) (T := TX5) (ty0 := tyX5) (N := 9) (off := 2) (by decide) rfl rfl (by decide +kernel) (by decide) rfl (by decide) in_X5 tyX5_ok nmX5 rfl rfl xFL_X5_28 rfl rfl (by decide) (fun _ => rfl) (fun _ => rfl) dX5_init_39 ?_
  refine jn_aload_n dX5_init_42 rfl 0 rfl ?_
  refine jn_aload_n dX5_init_43 rfl 0 rfl ?_
  refine jn_get (q := 4) (k := 0) (T := TX5) (N := 9) (v := .int (12 : Int32)) (by decide) (by decide +kernel) (by decide) rfl (by decide) in_X5 rfl xFL_X5_15 (fun ρ => by rw [jfl_nth (f := none) rfl]; simp [jfm, wI_sI, jv, wCX5_init_2, wCX5_init_9, wCX5_init_16, wCX5_init_23, wCX5_start_16, wCX8_init_1, wCX5_init_62, wCX5_init_69, wCX5_init_76, wCX5_init_83, wCX5_start_76, wCX8_init_61, wCX5_init_122]) dX5_init_44 ?_
  refine jn_newa (k := 1) (ty := .int) rfl (by decide +kernel) (by decide) (fun _ => rfl) rfl rfl (by decide) wAC_int (by decide) (by decide +kernel) (by decide +kernel) (by decide) (by decide +kernel) (jrl_of rfl) (jrl_of rfl) dX5_init_47 ?_
  rw [show ln 132 = 12 from by decide +kernel]
  refine jn_putR (q := 4) (k := 5) (T := TX5) (ty0 := tyX5) (N := 9) (off := 3) (by decide) rfl rfl (by decide +kernel) (by decide) rfl (by decide) in_X5 tyX5_ok nmX5 rfl rfl xFL_X5_31 rfl rfl (by decide) (fun _ => rfl) (fun _ => rfl) dX5_init_49 ?_
  refine jn_aload_n dX5_init_52 rfl 0 rfl ?_
  refine jn_aload_n dX5_init_53 rfl 0 rfl ?_
  refine jn_get (q := 4) (k := 0) (T := TX5) (N := 9) (v := .int (12 : Int32)) (by decide) (by decide +kernel) (by decide) rfl (by decide) in_X5 rfl xFL_X5_15 (fun ρ => by rw [jfl_nth (f := none) rfl]; simp [jfm, wI_sI, jv, wCX5_init_2, wCX5_init_9, wCX5_init_16, wCX5_init_23, wCX5_start_16, wCX8_init_1, wCX5_init_62, wCX5_init_69, wCX5_init_76, wCX5_init_83, wCX5_start_76, wCX8_init_61, wCX5_init_122]) dX5_init_54 ?_
  refine jn_newa (k := 1) (ty := .int) rfl (by decide +kernel) (by decide) (fun _ => rfl) rfl rfl (by decide) wAC_int (by decide) (by decide +kernel) (by decide +kernel) (by decide) (by decide +kernel) (jrl_of rfl) (jrl_of rfl) dX5_init_57 ?_
  rw [show ln 133 = 12 from by decide +kernel]
  refine jn_putR (q := 4) (k := 6) (T := TX5) (ty0 := tyX5) (N := 9) (off := 4) (by decide) rfl rfl (by decide +kernel) (by decide) rfl (by decide) in_X5 tyX5_ok nmX5 rfl rfl xFL_X5_34 rfl rfl (by decide) (fun _ => rfl) (fun _ => rfl) dX5_init_59 ?_
  refine jn_aload_n dX5_init_62 rfl 0 rfl ?_
  refine jn_aload_n dX5_init_63 rfl 0 rfl ?_
  refine jn_get (q := 4) (k := 0) (T := TX5) (N := 9) (v := .int (12 : Int32)) (by decide) (by decide +kernel) (by decide) rfl (by decide) in_X5 rfl xFL_X5_15 (fun ρ => by rw [jfl_nth (f := none) rfl]; simp [jfm, wI_sI, jv, wCX5_init_2, wCX5_init_9, wCX5_init_16, wCX5_init_23, wCX5_start_16, wCX8_init_1, wCX5_init_62, wCX5_init_69, wCX5_init_76, wCX5_init_83, wCX5_start_76, wCX8_init_61, wCX5_init_122]) dX5_init_64 ?_
  refine jn_aload_n dX5_init_67 rfl 0 rfl ?_
  refine jn_get (q := 4) (k := 1) (T := TX5) (N := 9) (v := .int (12 : Int32)) (by decide) (by decide +kernel) (by decide) rfl (by decide) in_X5 rfl xFL_X5_21 (fun ρ => by rw [jfl_nth (f := none) rfl]; simp [jfm, wI_sI, jv, wCX5_init_2, wCX5_init_9, wCX5_init_16, wCX5_init_23, wCX5_start_16, wCX8_init_1, wCX5_init_62, wCX5_init_69, wCX5_init_76, wCX5_init_83, wCX5_start_76, wCX8_init_61, wCX5_init_122]) dX5_init_68 ?_
  refine jn_imul dX5_init_71 ?_
  rw [show (12 : Int32) * (12 : Int32) = (144 : Int32) from by decide]
  refine jn_newa (k := 1) (ty := .int) rfl (by decide +kernel) (by decide) (fun _ => rfl) rfl rfl (by decide) wAC_int (by decide) (by decide +kernel) (by decide +kernel) (by decide) (by decide +kernel) (jrl_of rfl) (jrl_of rfl) dX5_init_72 ?_
  rw [show ln 134 = 144 from by decide +kernel]
  refine jn_putR (q := 4) (k := 7) (T := TX5) (ty0 := tyX5) (N := 9) (off := 5) (by decide) rfl rfl (by decide +kernel) (by decide) rfl (by decide) in_X5 tyX5_ok nmX5 rfl rfl xFL_X5_37 rfl rfl (by decide) (fun _ => rfl) (fun _ => rfl) dX5_init_74 ?_
  refine jn_aload_n dX5_init_77 rfl 0 rfl ?_
  refine jn_aload_n dX5_init_78 rfl 0 rfl ?_
  refine jn_get (q := 4) (k := 0) (T := TX5) (N := 9) (v := .int (12 : Int32)) (by decide) (by decide +kernel) (by decide) rfl (by decide) in_X5 rfl xFL_X5_15 (fun ρ => by rw [jfl_nth (f := none) rfl]; simp [jfm, wI_sI, jv, wCX5_init_2, wCX5_init_9, wCX5_init_16, wCX5_init_23, wCX5_start_16, wCX8_init_1, wCX5_init_62, wCX5_init_69, wCX5_init_76, wCX5_init_83, wCX5_start_76, wCX8_init_61, wCX5_init_122]) dX5_init_79 ?_
  refine jn_aload_n dX5_init_82 rfl 0 rfl ?_
  refine jn_get (q := 4) (k := 1) (T := TX5) (N := 9) (v := .int (12 : Int32)) (by decide) (by decide +kernel) (by decide) rfl (by decide) in_X5 rfl xFL_X5_21 (fun ρ => by rw [jfl_nth (f := none) rfl]; simp [jfm, wI_sI, jv, wCX5_init_2, wCX5_init_9, wCX5_init_16, wCX5_init_23, wCX5_start_16, wCX8_init_1, wCX5_init_62, wCX5_init_69, wCX5_init_76, wCX5_init_83, wCX5_start_76, wCX8_init_61, wCX5_init_122]) dX5_init_83 ?_
  refine jn_imul dX5_init_86 ?_
  rw [show (12 : Int32) * (12 : Int32) = (144 : Int32) from by decide]
  refine jn_newl (by decide +kernel) wAC_long (by decide) (by decide +kernel) (by decide +kernel) (by decide) (by decide +kernel) (jrl_of rfl) (jrl_of rfl) dX5_init_87 ?_
  rw [show ln 135 = 144 from by decide +kernel]
  refine jn_putR (q := 4) (k := 8) (T := TX5) (ty0 := tyX5) (N := 9) (off := 6) (by decide) rfl rfl (by decide +kernel) (by decide) rfl (by decide) in_X5 tyX5_ok nmX5 rfl rfl xFL_X5_40 rfl rfl (by decide) (fun _ => rfl) (fun _ => rfl) dX5_init_89 ?_
  exact jn_vret rfl dX5_init_92
def wCX5_init_136 (w : jWd) : jWd := (sI (sI w 136 0 (1 : Int32)) 136 1 (60 : Int32))
def mCX5_init_136 (mk : Nat → Nat → Bool) : Nat → Nat → Bool := (mkS (mkS (mkS (mkS (mkS (mkS mk 136 3) 136 4) 136 5) 136 6) 136 7) 136 8)
set_option maxRecDepth 100000 in
set_option maxHeartbeats 4000000 in
theorem cX5_init_136 {w : jWd} {mk : Nat → Nat → Bool} : JNM yX5_init MX5_init 1 6 124 [.ref 136, .int (1 : Int32), .int (60 : Int32)] w 137 mk none (wCX5_init_136 w) 143 (mCX5_init_136 mk) := by
  refine jnm_of (by decide +kernel) rfl (Nat.le_of_ble_eq_true rfl) ?_
  show JN MX5_init 1 6 124 (none, (wCX5_init_136 w), 143, (mCX5_init_136 mk), 137, "<init>") w 137 mk 0 0 0 [(0, .ref 136), (1, .int (1 : Int32)), (2, .int (60 : Int32))] []
  refine jn_aload_n dX5_init_0 rfl 0 rfl ?_
  refine jn_obj xML_X5_3 wOI.1 wOI.2 (by decide) (Nat.le_of_ble_eq_true rfl) dX5_init_1 ?_
  refine jn_aload_n dX5_init_4 rfl 0 rfl ?_
  refine jn_iconst (v := (0 : Int32)) dX5_init_5 (by decide) ?_
  refine jn_iload_n dX5_init_6 rfl 1 rfl ?_
  refine jn_imax xML_X5_9 (by decide) (by decide) (by decide +kernel) (Nat.le_of_ble_eq_true rfl) dX5_init_7 ?_
  rw [show imax (0 : Int32) (1 : Int32) = (1 : Int32) from by decide]
  refine jn_putF (q := 4) (k := 0) (T := TX5) (ty0 := tyX5) (N := 9) (by decide) rfl rfl (by decide +kernel) (by decide) rfl (by decide) in_X5 tyX5_ok nmX5 rfl rfl rfl xFL_X5_15 rfl dX5_init_10 ?_
  refine jn_aload_n dX5_init_13 rfl 0 rfl ?_
  refine jn_iconst (v := (0 : Int32)) dX5_init_14 (by decide) ?_
  refine jn_iload_n dX5_init_15 rfl 2 rfl ?_
  refine jn_imax xML_X5_9 (by decide) (by decide) (by decide +kernel) (Nat.le_of_ble_eq_true rfl) dX5_init_16 ?_
  rw [show imax (0 : Int32) (60 : Int32) = (60 : Int32) from by decide]
  refine jn_putF (q := 4) (k := 1) (T := TX5) (ty0 := tyX5) (N := 9) (by decide) rfl rfl (by decide +kernel) (by decide) rfl (by decide) in_X5 tyX5_ok nmX5 rfl rfl rfl xFL_X5_21 rfl dX5_init_19 ?_
  refine jn_aload_n dX5_init_22 rfl 0 rfl ?_
  refine jn_aload_n dX5_init_23 rfl 0 rfl ?_
  refine jn_get (q := 4) (k := 0) (T := TX5) (N := 9) (v := .int (1 : Int32)) (by decide) (by decide +kernel) (by decide) rfl (by decide) in_X5 rfl xFL_X5_15 (fun ρ => by rw [jfl_nth (f := none) rfl]; simp [jfm, wI_sI, jv, wCX5_init_2, wCX5_init_9, wCX5_init_16, wCX5_init_23, wCX5_start_16, wCX8_init_1, wCX5_init_62, wCX5_init_69, wCX5_init_76, wCX5_init_83, wCX5_start_76, wCX8_init_61, wCX5_init_122, wCX5_init_129]) dX5_init_24 ?_
  refine jn_newa (k := 1) (ty := .int) rfl (by decide +kernel) (by decide) (fun _ => rfl) rfl rfl (by decide) wAC_int (by decide) (by decide +kernel) (by decide +kernel) (by decide) (by decide +kernel) (jrl_of rfl) (jrl_of rfl) dX5_init_27 ?_
  rw [show ln 137 = 1 from by decide +kernel]
  refine jn_putR (q := 4) (k := 3) (T := TX5) (ty0 := tyX5) (N := 9) (off := 1) (by decide) rfl rfl (by decide +kernel) (by decide) rfl (by decide) in_X5 tyX5_ok nmX5 rfl rfl xFL_X5_24 rfl rfl (by decide) (fun _ => rfl) (fun _ => rfl) dX5_init_29 ?_
  refine jn_aload_n dX5_init_32 rfl 0 rfl ?_
  refine jn_aload_n dX5_init_33 rfl 0 rfl ?_
  refine jn_get (q := 4) (k := 0) (T := TX5) (N := 9) (v := .int (1 : Int32)) (by decide) (by decide +kernel) (by decide) rfl (by decide) in_X5 rfl xFL_X5_15 (fun ρ => by rw [jfl_nth (f := none) rfl]; simp [jfm, wI_sI, jv, wCX5_init_2, wCX5_init_9, wCX5_init_16, wCX5_init_23, wCX5_start_16, wCX8_init_1, wCX5_init_62, wCX5_init_69, wCX5_init_76, wCX5_init_83, wCX5_start_76, wCX8_init_61, wCX5_init_122, wCX5_init_129]) dX5_init_34 ?_
  refine jn_newa (k := 1) (ty := .int) rfl (by decide +kernel) (by decide) (fun _ => rfl) rfl rfl (by decide) wAC_int (by decide) (by decide +kernel) (by decide +kernel) (by decide) (by decide +kernel) (jrl_of rfl) (jrl_of rfl) dX5_init_37 ?_
  rw [show ln 138 = 1 from by decide +kernel]
  refine jn_putR (q := 4) (k := 4) (T := TX5) (ty0 := tyX5) (N := 9) (off := 2) (by decide) rfl rfl (by decide +kernel) (by decide) rfl (by decide) in_X5 tyX5_ok nmX5 rfl rfl xFL_X5_28 rfl rfl (by decide) (fun _ => rfl) (fun _ => rfl) dX5_init_39 ?_
  refine jn_aload_n dX5_init_42 rfl 0 rfl ?_
  refine jn_aload_n dX5_init_43 rfl 0 rfl ?_
  refine jn_get (q := 4) (k := 0) (T := TX5) (N := 9) (v := .int (1 : Int32)) (by decide) (by decide +kernel) (by decide) rfl (by decide) in_X5 rfl xFL_X5_15 (fun ρ => by rw [jfl_nth (f := none) rfl]; simp [jfm, wI_sI, jv, wCX5_init_2, wCX5_init_9, wCX5_init_16, wCX5_init_23, wCX5_start_16, wCX8_init_1, wCX5_init_62, wCX5_init_69, wCX5_init_76, wCX5_init_83, wCX5_start_76, wCX8_init_61, wCX5_init_122, wCX5_init_129]) dX5_init_44 ?_
  refine jn_newa (k := 1) (ty := .int) rfl (by decide +kernel) (by decide) (fun _ => rfl) rfl rfl (by decide) wAC_int (by decide) (by decide +kernel) (by decide +kernel) (by decide) (by decide +kernel) (jrl_of rfl) (jrl_of rfl) dX5_init_47 ?_
  rw [show ln 139 = 1 from by decide +kernel]
  refine jn_putR (q := 4) (k := 5) (T := TX5) (ty0 := tyX5) (N := 9) (off := 3) (by decide) rfl rfl (by decide +kernel) (by decide) rfl (by decide) in_X5 tyX5_ok nmX5 rfl rfl xFL_X5_31 rfl rfl (by decide) (fun _ => rfl) (fun _ => rfl) dX5_init_49 ?_
  refine jn_aload_n dX5_init_52 rfl 0 rfl ?_
  refine jn_aload_n dX5_init_53 rfl 0 rfl ?_
  refine jn_get (q := 4) (k := 0) (T := TX5) (N := 9) (v := .int (1 : Int32)) (by decide) (by decide +kernel) (by decide) rfl (by decide) in_X5 rfl xFL_X5_15 (fun ρ => by rw [jfl_nth (f := none) rfl]; simp [jfm, wI_sI, jv, wCX5_init_2, wCX5_init_9, wCX5_init_16, wCX5_init_23, wCX5_start_16, wCX8_init_1, wCX5_init_62, wCX5_init_69, wCX5_init_76, wCX5_init_83, wCX5_start_76, wCX8_init_61, wCX5_init_122, wCX5_init_129]) dX5_init_54 ?_
  refine jn_newa (k := 1) (ty := .int) rfl (by decide +kernel) (by decide) (fun _ => rfl) rfl rfl (by decide) wAC_int (by decide) (by decide +kernel) (by decide +kernel) (by decide) (by decide +kernel) (jrl_of rfl) (jrl_of rfl) dX5_init_57 ?_
  rw [show ln 140 = 1 from by decide +kernel]
  refine jn_putR (q := 4) (k := 6) (T := TX5) (ty0 := tyX5) (N := 9) (off := 4) (by decide) rfl rfl (by decide +kernel) (by decide) rfl (by decide) in_X5 tyX5_ok nmX5 rfl rfl xFL_X5_34 rfl rfl (by decide) (fun _ => rfl) (fun _ => rfl) dX5_init_59 ?_
  refine jn_aload_n dX5_init_62 rfl 0 rfl ?_
  refine jn_aload_n dX5_init_63 rfl 0 rfl ?_
  refine jn_get (q := 4) (k := 0) (T := TX5) (N := 9) (v := .int (1 : Int32)) (by decide) (by decide +kernel) (by decide) rfl (by decide) in_X5 rfl xFL_X5_15 (fun ρ => by rw [jfl_nth (f := none) rfl]; simp [jfm, wI_sI, jv, wCX5_init_2, wCX5_init_9, wCX5_init_16, wCX5_init_23, wCX5_start_16, wCX8_init_1, wCX5_init_62, wCX5_init_69, wCX5_init_76, wCX5_init_83, wCX5_start_76, wCX8_init_61, wCX5_init_122, wCX5_init_129]) dX5_init_64 ?_
  refine jn_aload_n dX5_init_67 rfl 0 rfl ?_
  refine jn_get (q := 4) (k := 1) (T := TX5) (N := 9) (v := .int (60 : Int32)) (by decide) (by decide +kernel) (by decide) rfl (by decide) in_X5 rfl xFL_X5_21 (fun ρ => by rw [jfl_nth (f := none) rfl]; simp [jfm, wI_sI, jv, wCX5_init_2, wCX5_init_9, wCX5_init_16, wCX5_init_23, wCX5_start_16, wCX8_init_1, wCX5_init_62, wCX5_init_69, wCX5_init_76, wCX5_init_83, wCX5_start_76, wCX8_init_61, wCX5_init_122, wCX5_init_129]) dX5_init_68 ?_
  refine jn_imul dX5_init_71 ?_
  rw [show (1 : Int32) * (60 : Int32) = (60 : Int32) from by decide]
  refine jn_newa (k := 1) (ty := .int) rfl (by decide +kernel) (by decide) (fun _ => rfl) rfl rfl (by decide) wAC_int (by decide) (by decide +kernel) (by decide +kernel) (by decide) (by decide +kernel) (jrl_of rfl) (jrl_of rfl) dX5_init_72 ?_
  rw [show ln 141 = 60 from by decide +kernel]
  refine jn_putR (q := 4) (k := 7) (T := TX5) (ty0 := tyX5) (N := 9) (off := 5) (by decide) rfl rfl (by decide +kernel) (by decide) rfl (by decide) in_X5 tyX5_ok nmX5 rfl rfl xFL_X5_37 rfl rfl (by decide) (fun _ => rfl) (fun _ => rfl) dX5_init_74 ?_
  refine jn_aload_n dX5_init_77 rfl 0 rfl ?_
  refine jn_aload_n dX5_init_78 rfl 0 rfl ?_
  refine jn_get (q := 4) (k := 0) (T := TX5) (N := 9) (v := .int (1 : Int32)) (by decide) (by decide +kernel) (by decide) rfl (by decide) in_X5 rfl xFL_X5_15 (fun ρ => by rw [jfl_nth (f := none) rfl]; simp [jfm, wI_sI, jv, wCX5_init_2, wCX5_init_9, wCX5_init_16, wCX5_init_23, wCX5_start_16, wCX8_init_1, wCX5_init_62, wCX5_init_69, wCX5_init_76, wCX5_init_83, wCX5_start_76, wCX8_init_61, wCX5_init_122, wCX5_init_129]) dX5_init_79 ?_
  refine jn_aload_n dX5_init_82 rfl 0 rfl ?_
  refine jn_get (q := 4) (k := 1) (T := TX5) (N := 9) (v := .int (60 : Int32)) (by decide) (by decide +kernel) (by decide) rfl (by decide) in_X5 rfl xFL_X5_21 (fun ρ => by rw [jfl_nth (f := none) rfl]; simp [jfm, wI_sI, jv, wCX5_init_2, wCX5_init_9, wCX5_init_16, wCX5_init_23, wCX5_start_16, wCX8_init_1, wCX5_init_62, wCX5_init_69, wCX5_init_76, wCX5_init_83, wCX5_start_76, wCX8_init_61, wCX5_init_122, wCX5_init_129]) dX5_init_83 ?_
  refine jn_imul dX5_init_86 ?_
  rw [show (1 : Int32) * (60 : Int32) = (60 : Int32) from by decide]
  refine jn_newl (by decide +kernel) wAC_long (by decide) (by decide +kernel) (by decide +kernel) (by decide) (by decide +kernel) (jrl_of rfl) (jrl_of rfl) dX5_init_87 ?_
  rw [show ln 142 = 60 from by decide +kernel]
  refine jn_putR (q := 4) (k := 8) (T := TX5) (ty0 := tyX5) (N := 9) (off := 6) (by decide) rfl rfl (by decide +kernel) (by decide) rfl (by decide) in_X5 tyX5_ok nmX5 rfl rfl xFL_X5_40 rfl rfl (by decide) (fun _ => rfl) (fun _ => rfl) dX5_init_89 ?_
  exact jn_vret rfl dX5_init_92
def wCX5_init_143 (w : jWd) : jWd := (sI (sI w 143 0 (20 : Int32)) 143 1 (2 : Int32))
def mCX5_init_143 (mk : Nat → Nat → Bool) : Nat → Nat → Bool := (mkS (mkS (mkS (mkS (mkS (mkS mk 143 3) 143 4) 143 5) 143 6) 143 7) 143 8)
set_option maxRecDepth 100000 in
set_option maxHeartbeats 4000000 in
theorem cX5_init_143 {w : jWd} {mk : Nat → Nat → Bool} : JNM yX5_init MX5_init 1 6 160 [.ref 143, .int (20 : Int32), .int (2 : Int32)] w 144 mk none (wCX5_init_143 w) 150 (mCX5_init_143 mk) := by
  refine jnm_of (by decide +kernel) rfl (Nat.le_of_ble_eq_true rfl) ?_
  show JN MX5_init 1 6 160 (none, (wCX5_init_143 w), 150, (mCX5_init_143 mk), 144, "<init>") w 144 mk 0 0 0 [(0, .ref 143), (1, .int (20 : Int32)), (2, .int (2 : Int32))] []
  refine jn_aload_n dX5_init_0 rfl 0 rfl ?_
  refine jn_obj xML_X5_3 wOI.1 wOI.2 (by decide) (Nat.le_of_ble_eq_true rfl) dX5_init_1 ?_
  refine jn_aload_n dX5_init_4 rfl 0 rfl ?_
  refine jn_iconst (v := (0 : Int32)) dX5_init_5 (by decide) ?_
  refine jn_iload_n dX5_init_6 rfl 1 rfl ?_
  refine jn_imax xML_X5_9 (by decide) (by decide) (by decide +kernel) (Nat.le_of_ble_eq_true rfl) dX5_init_7 ?_
  rw [show imax (0 : Int32) (20 : Int32) = (20 : Int32) from by decide]
  refine jn_putF (q := 4) (k := 0) (T := TX5) (ty0 := tyX5) (N := 9) (by decide) rfl rfl (by decide +kernel) (by decide) rfl (by decide) in_X5 tyX5_ok nmX5 rfl rfl rfl xFL_X5_15 rfl dX5_init_10 ?_
  refine jn_aload_n dX5_init_13 rfl 0 rfl ?_
  refine jn_iconst (v := (0 : Int32)) dX5_init_14 (by decide) ?_
  refine jn_iload_n dX5_init_15 rfl 2 rfl ?_
  refine jn_imax xML_X5_9 (by decide) (by decide) (by decide +kernel) (Nat.le_of_ble_eq_true rfl) dX5_init_16 ?_
  rw [show imax (0 : Int32) (2 : Int32) = (2 : Int32) from by decide]
  refine jn_putF (q := 4) (k := 1) (T := TX5) (ty0 := tyX5) (N := 9) (by decide) rfl rfl (by decide +kernel) (by decide) rfl (by decide) in_X5 tyX5_ok nmX5 rfl rfl rfl xFL_X5_21 rfl dX5_init_19 ?_
  refine jn_aload_n dX5_init_22 rfl 0 rfl ?_
  refine jn_aload_n dX5_init_23 rfl 0 rfl ?_
  refine jn_get (q := 4) (k := 0) (T := TX5) (N := 9) (v := .int (20 : Int32)) (by decide) (by decide +kernel) (by decide) rfl (by decide) in_X5 rfl xFL_X5_15 (fun ρ => by rw [jfl_nth (f := none) rfl]; simp [jfm, wI_sI, jv, wCX5_init_2, wCX5_init_9, wCX5_init_16, wCX5_init_23, wCX5_start_16, wCX8_init_1, wCX5_init_62, wCX5_init_69, wCX5_init_76, wCX5_init_83, wCX5_start_76, wCX8_init_61, wCX5_init_122, wCX5_init_129, wCX5_init_136]) dX5_init_24 ?_
  refine jn_newa (k := 1) (ty := .int) rfl (by decide +kernel) (by decide) (fun _ => rfl) rfl rfl (by decide) wAC_int (by decide) (by decide +kernel) (by decide +kernel) (by decide) (by decide +kernel) (jrl_of rfl) (jrl_of rfl) dX5_init_27 ?_
  rw [show ln 144 = 20 from by decide +kernel]
  refine jn_putR (q := 4) (k := 3) (T := TX5) (ty0 := tyX5) (N := 9) (off := 1) (by decide) rfl rfl (by decide +kernel) (by decide) rfl (by decide) in_X5 tyX5_ok nmX5 rfl rfl xFL_X5_24 rfl rfl (by decide) (fun _ => rfl) (fun _ => rfl) dX5_init_29 ?_
  refine jn_aload_n dX5_init_32 rfl 0 rfl ?_
  refine jn_aload_n dX5_init_33 rfl 0 rfl ?_
  refine jn_get (q := 4) (k := 0) (T := TX5) (N := 9) (v := .int (20 : Int32)) (by decide) (by decide +kernel) (by decide) rfl (by decide) in_X5 rfl xFL_X5_15 (fun ρ => by rw [jfl_nth (f := none) rfl]; simp [jfm, wI_sI, jv, wCX5_init_2, wCX5_init_9, wCX5_init_16, wCX5_init_23, wCX5_start_16, wCX8_init_1, wCX5_init_62, wCX5_init_69, wCX5_init_76, wCX5_init_83, wCX5_start_76, wCX8_init_61, wCX5_init_122, wCX5_init_129, wCX5_init_136]) dX5_init_34 ?_
  refine jn_newa (k := 1) (ty := .int) rfl (by decide +kernel) (by decide) (fun _ => rfl) rfl rfl (by decide) wAC_int (by decide) (by decide +kernel) (by decide +kernel) (by decide) (by decide +kernel) (jrl_of rfl) (jrl_of rfl) dX5_init_37 ?_
  rw [show ln 145 = 20 from by decide +kernel]
  refine jn_putR (q := 4) (k := 4) (T := TX5) (ty0 := tyX5) (N := 9) (off := 2) (by decide) rfl rfl (by decide +kernel) (by decide) rfl (by decide) in_X5 tyX5_ok nmX5 rfl rfl xFL_X5_28 rfl rfl (by decide) (fun _ => rfl) (fun _ => rfl) dX5_init_39 ?_
  refine jn_aload_n dX5_init_42 rfl 0 rfl ?_
  refine jn_aload_n dX5_init_43 rfl 0 rfl ?_
  refine jn_get (q := 4) (k := 0) (T := TX5) (N := 9) (v := .int (20 : Int32)) (by decide) (by decide +kernel) (by decide) rfl (by decide) in_X5 rfl xFL_X5_15 (fun ρ => by rw [jfl_nth (f := none) rfl]; simp [jfm, wI_sI, jv, wCX5_init_2, wCX5_init_9, wCX5_init_16, wCX5_init_23, wCX5_start_16, wCX8_init_1, wCX5_init_62, wCX5_init_69, wCX5_init_76, wCX5_init_83, wCX5_start_76, wCX8_init_61, wCX5_init_122, wCX5_init_129, wCX5_init_136]) dX5_init_44 ?_
  refine jn_newa (k := 1) (ty := .int) rfl (by decide +kernel) (by decide) (fun _ => rfl) rfl rfl (by decide) wAC_int (by decide) (by decide +kernel) (by decide +kernel) (by decide) (by decide +kernel) (jrl_of rfl) (jrl_of rfl) dX5_init_47 ?_
  rw [show ln 146 = 20 from by decide +kernel]
  refine jn_putR (q := 4) (k := 5) (T := TX5) (ty0 := tyX5) (N := 9) (off := 3) (by decide) rfl rfl (by decide +kernel) (by decide) rfl (by decide) in_X5 tyX5_ok nmX5 rfl rfl xFL_X5_31 rfl rfl (by decide) (fun _ => rfl) (fun _ => rfl) dX5_init_49 ?_
  refine jn_aload_n dX5_init_52 rfl 0 rfl ?_
  refine jn_aload_n dX5_init_53 rfl 0 rfl ?_
  refine jn_get (q := 4) (k := 0) (T := TX5) (N := 9) (v := .int (20 : Int32)) (by decide) (by decide +kernel) (by decide) rfl (by decide) in_X5 rfl xFL_X5_15 (fun ρ => by rw [jfl_nth (f := none) rfl]; simp [jfm, wI_sI, jv, wCX5_init_2, wCX5_init_9, wCX5_init_16, wCX5_init_23, wCX5_start_16, wCX8_init_1, wCX5_init_62, wCX5_init_69, wCX5_init_76, wCX5_init_83, wCX5_start_76, wCX8_init_61, wCX5_init_122, wCX5_init_129, wCX5_init_136]) dX5_init_54 ?_
  refine jn_newa (k := 1) (ty := .int) rfl (by decide +kernel) (by decide) (fun _ => rfl) rfl rfl (by decide) wAC_int (by decide) (by decide +kernel) (by decide +kernel) (by decide) (by decide +kernel) (jrl_of rfl) (jrl_of rfl) dX5_init_57 ?_
  rw [show ln 147 = 20 from by decide +kernel]
  refine jn_putR (q := 4) (k := 6) (T := TX5) (ty0 := tyX5) (N := 9) (off := 4) (by decide) rfl rfl (by decide +kernel) (by decide) rfl (by decide) in_X5 tyX5_ok nmX5 rfl rfl xFL_X5_34 rfl rfl (by decide) (fun _ => rfl) (fun _ => rfl) dX5_init_59 ?_
  refine jn_aload_n dX5_init_62 rfl 0 rfl ?_
  refine jn_aload_n dX5_init_63 rfl 0 rfl ?_
  refine jn_get (q := 4) (k := 0) (T := TX5) (N := 9) (v := .int (20 : Int32)) (by decide) (by decide +kernel) (by decide) rfl (by decide) in_X5 rfl xFL_X5_15 (fun ρ => by rw [jfl_nth (f := none) rfl]; simp [jfm, wI_sI, jv, wCX5_init_2, wCX5_init_9, wCX5_init_16, wCX5_init_23, wCX5_start_16, wCX8_init_1, wCX5_init_62, wCX5_init_69, wCX5_init_76, wCX5_init_83, wCX5_start_76, wCX8_init_61, wCX5_init_122, wCX5_init_129, wCX5_init_136]) dX5_init_64 ?_
  refine jn_aload_n dX5_init_67 rfl 0 rfl ?_
  refine jn_get (q := 4) (k := 1) (T := TX5) (N := 9) (v := .int (2 : Int32)) (by decide) (by decide +kernel) (by decide) rfl (by decide) in_X5 rfl xFL_X5_21 (fun ρ => by rw [jfl_nth (f := none) rfl]; simp [jfm, wI_sI, jv, wCX5_init_2, wCX5_init_9, wCX5_init_16, wCX5_init_23, wCX5_start_16, wCX8_init_1, wCX5_init_62, wCX5_init_69, wCX5_init_76, wCX5_init_83, wCX5_start_76, wCX8_init_61, wCX5_init_122, wCX5_init_129, wCX5_init_136]) dX5_init_68 ?_
  refine jn_imul dX5_init_71 ?_
  rw [show (20 : Int32) * (2 : Int32) = (40 : Int32) from by decide]
  refine jn_newa (k := 1) (ty := .int) rfl (by decide +kernel) (by decide) (fun _ => rfl) rfl rfl (by decide) wAC_int (by decide) (by decide +kernel) (by decide +kernel) (by decide) (by decide +kernel) (jrl_of rfl) (jrl_of rfl) dX5_init_72 ?_
  rw [show ln 148 = 40 from by decide +kernel]
  refine jn_putR (q := 4) (k := 7) (T := TX5) (ty0 := tyX5) (N := 9) (off := 5) (by decide) rfl rfl (by decide +kernel) (by decide) rfl (by decide) in_X5 tyX5_ok nmX5 rfl rfl xFL_X5_37 rfl rfl (by decide) (fun _ => rfl) (fun _ => rfl) dX5_init_74 ?_
  refine jn_aload_n dX5_init_77 rfl 0 rfl ?_
  refine jn_aload_n dX5_init_78 rfl 0 rfl ?_
  refine jn_get (q := 4) (k := 0) (T := TX5) (N := 9) (v := .int (20 : Int32)) (by decide) (by decide +kernel) (by decide) rfl (by decide) in_X5 rfl xFL_X5_15 (fun ρ => by rw [jfl_nth (f := none) rfl]; simp [jfm, wI_sI, jv, wCX5_init_2, wCX5_init_9, wCX5_init_16, wCX5_init_23, wCX5_start_16, wCX8_init_1, wCX5_init_62, wCX5_init_69, wCX5_init_76, wCX5_init_83, wCX5_start_76, wCX8_init_61, wCX5_init_122, wCX5_init_129, wCX5_init_136]) dX5_init_79 ?_
  refine jn_aload_n dX5_init_82 rfl 0 rfl ?_
  refine jn_get (q := 4) (k := 1) (T := TX5) (N := 9) (v := .int (2 : Int32)) (by decide) (by decide +kernel) (by decide) rfl (by decide) in_X5 rfl xFL_X5_21 (fun ρ => by rw [jfl_nth (f := none) rfl]; simp [jfm, wI_sI, jv, wCX5_init_2, wCX5_init_9, wCX5_init_16, wCX5_init_23, wCX5_start_16, wCX8_init_1, wCX5_init_62, wCX5_init_69, wCX5_init_76, wCX5_init_83, wCX5_start_76, wCX8_init_61, wCX5_init_122, wCX5_init_129, wCX5_init_136]) dX5_init_83 ?_
  refine jn_imul dX5_init_86 ?_
  rw [show (20 : Int32) * (2 : Int32) = (40 : Int32) from by decide]
  refine jn_newl (by decide +kernel) wAC_long (by decide) (by decide +kernel) (by decide +kernel) (by decide) (by decide +kernel) (jrl_of rfl) (jrl_of rfl) dX5_init_87 ?_
  rw [show ln 149 = 40 from by decide +kernel]
  refine jn_putR (q := 4) (k := 8) (T := TX5) (ty0 := tyX5) (N := 9) (off := 6) (by decide) rfl rfl (by decide +kernel) (by decide) rfl (by decide) in_X5 tyX5_ok nmX5 rfl rfl xFL_X5_40 rfl rfl (by decide) (fun _ => rfl) (fun _ => rfl) dX5_init_89 ?_
  exact jn_vret rfl dX5_init_92
def mCX1_init_152 (mk : Nat → Nat → Bool) : Nat → Nat → Bool := (mkS (mkS (mkS (mkS (mkS (mkS mk 152 2) 152 3) 152 4) 152 5) 152 6) 152 7)
set_option maxRecDepth 100000 in
set_option maxHeartbeats 4000000 in
theorem cX1_init_152 {w : jWd} {mk : Nat → Nat → Bool} : JNM yX1_init MX1_init 1 6 448 [.ref 152] w 153 mk none w 159 (mCX1_init_152 mk) := by
  refine jnm_of (by decide +kernel) rfl (Nat.le_of_ble_eq_true rfl) ?_
  show JN MX1_init 1 6 448 (none, w, 159, (mCX1_init_152 mk), 153, "<init>") w 153 mk 0 0 0 [(0, .ref 152)] []
  refine jn_aload_n dX1_init_0 rfl 0 rfl ?_
  refine jn_obj xML_X1_3 wOI.1 wOI.2 (by decide) (Nat.le_of_ble_eq_true rfl) dX1_init_1 ?_
  refine jn_aload_n dX1_init_4 rfl 0 rfl ?_
  refine jn_bipush (v := (12 : Int32)) dX1_init_5 (by decide) ?_
  refine jn_newl (by decide +kernel) wAC_long (by decide) (by decide +kernel) (by decide +kernel) (by decide) (by decide +kernel) (jrl_of rfl) (jrl_of rfl) dX1_init_7 ?_
  rw [show ln 153 = 12 from by decide +kernel]
  refine jn_putR (q := 1) (k := 2) (T := TX1) (ty0 := tyX1) (N := 8) (off := 1) (by decide) rfl rfl (by decide +kernel) (by decide) rfl (by decide) in_X1 tyX1_ok nmX1 rfl rfl xFL_X1_11 rfl rfl (by decide) (fun _ => rfl) (fun _ => rfl) dX1_init_9 ?_
  refine jn_aload_n dX1_init_12 rfl 0 rfl ?_
  refine jn_bipush (v := (12 : Int32)) dX1_init_13 (by decide) ?_
  refine jn_newl (by decide +kernel) wAC_long (by decide) (by decide +kernel) (by decide +kernel) (by decide) (by decide +kernel) (jrl_of rfl) (jrl_of rfl) dX1_init_15 ?_
  rw [show ln 154 = 12 from by decide +kernel]
  refine jn_putR (q := 1) (k := 3) (T := TX1) (ty0 := tyX1) (N := 8) (off := 2) (by decide) rfl rfl (by decide +kernel) (by decide) rfl (by decide) in_X1 tyX1_ok nmX1 rfl rfl xFL_X1_15 rfl rfl (by decide) (fun _ => rfl) (fun _ => rfl) dX1_init_17 ?_
  refine jn_aload_n dX1_init_20 rfl 0 rfl ?_
  refine jn_bipush (v := (12 : Int32)) dX1_init_21 (by decide) ?_
  refine jn_newa (k := 1) (ty := .int) rfl (by decide +kernel) (by decide) (fun _ => rfl) rfl rfl (by decide) wAC_int (by decide) (by decide +kernel) (by decide +kernel) (by decide) (by decide +kernel) (jrl_of rfl) (jrl_of rfl) dX1_init_23 ?_
  rw [show ln 155 = 12 from by decide +kernel]
  refine jn_putR (q := 1) (k := 4) (T := TX1) (ty0 := tyX1) (N := 8) (off := 3) (by decide) rfl rfl (by decide +kernel) (by decide) rfl (by decide) in_X1 tyX1_ok nmX1 rfl rfl xFL_X1_18 rfl rfl (by decide) (fun _ => rfl) (fun _ => rfl) dX1_init_25 ?_
  refine jn_aload_n dX1_init_28 rfl 0 rfl ?_
  refine jn_bipush (v := (12 : Int32)) dX1_init_29 (by decide) ?_
  refine jn_newa (k := 1) (ty := .int) rfl (by decide +kernel) (by decide) (fun _ => rfl) rfl rfl (by decide) wAC_int (by decide) (by decide +kernel) (by decide +kernel) (by decide) (by decide +kernel) (jrl_of rfl) (jrl_of rfl) dX1_init_31 ?_
  rw [show ln 156 = 12 from by decide +kernel]
  refine jn_putR (q := 1) (k := 5) (T := TX1) (ty0 := tyX1) (N := 8) (off := 4) (by decide) rfl rfl (by decide +kernel) (by decide) rfl (by decide) in_X1 tyX1_ok nmX1 rfl rfl xFL_X1_22 rfl rfl (by decide) (fun _ => rfl) (fun _ => rfl) dX1_init_33 ?_
  refine jn_aload_n dX1_init_36 rfl 0 rfl ?_
  refine jn_sipush (v := (200 : Int32)) dX1_init_37 (by decide) ?_
  refine jn_newa (k := 1) (ty := .int) rfl (by decide +kernel) (by decide) (fun _ => rfl) rfl rfl (by decide) wAC_int (by decide) (by decide +kernel) (by decide +kernel) (by decide) (by decide +kernel) (jrl_of rfl) (jrl_of rfl) dX1_init_40 ?_
  rw [show ln 157 = 200 from by decide +kernel]
  refine jn_putR (q := 1) (k := 6) (T := TX1) (ty0 := tyX1) (N := 8) (off := 5) (by decide) rfl rfl (by decide +kernel) (by decide) rfl (by decide) in_X1 tyX1_ok nmX1 rfl rfl xFL_X1_25 rfl rfl (by decide) (fun _ => rfl) (fun _ => rfl) dX1_init_42 ?_
  refine jn_aload_n dX1_init_45 rfl 0 rfl ?_
  refine jn_sipush (v := (200 : Int32)) dX1_init_46 (by decide) ?_
  refine jn_newa (k := 1) (ty := .int) rfl (by decide +kernel) (by decide) (fun _ => rfl) rfl rfl (by decide) wAC_int (by decide) (by decide +kernel) (by decide +kernel) (by decide) (by decide +kernel) (jrl_of rfl) (jrl_of rfl) dX1_init_49 ?_
  rw [show ln 158 = 200 from by decide +kernel]
  refine jn_putR (q := 1) (k := 7) (T := TX1) (ty0 := tyX1) (N := 8) (off := 6) (by decide) rfl rfl (by decide +kernel) (by decide) rfl (by decide) in_X1 tyX1_ok nmX1 rfl rfl xFL_X1_28 rfl rfl (by decide) (fun _ => rfl) (fun _ => rfl) dX1_init_51 ?_
  exact jn_vret rfl dX1_init_54
def mCX3_init_159 (mk : Nat → Nat → Bool) : Nat → Nat → Bool := (mkS mk 159 4)
set_option maxRecDepth 100000 in
set_option maxHeartbeats 4000000 in
theorem cX3_init_159 {w : jWd} {mk : Nat → Nat → Bool} : JNM yX3_init MX3_init 1 1 256 [.ref 159] w 160 mk none w 161 (mCX3_init_159 mk) := by
  refine jnm_of (by decide +kernel) rfl (Nat.le_of_ble_eq_true rfl) ?_
  show JN MX3_init 1 1 256 (none, w, 161, (mCX3_init_159 mk), 160, "<init>") w 160 mk 0 0 0 [(0, .ref 159)] []
  refine jn_aload_n dX3_init_0 rfl 0 rfl ?_
  refine jn_obj xML_X3_3 wOI.1 wOI.2 (by decide) (Nat.le_of_ble_eq_true rfl) dX3_init_1 ?_
  refine jn_aload_n dX3_init_4 rfl 0 rfl ?_
  refine jn_sipush (v := (256 : Int32)) dX3_init_5 (by decide) ?_
  refine jn_newa (k := 1) (ty := .int) rfl (by decide +kernel) (by decide) (fun _ => rfl) rfl rfl (by decide) wAC_int (by decide) (by decide +kernel) (by decide +kernel) (by decide) (by decide +kernel) (jrl_of rfl) (jrl_of rfl) dX3_init_8 ?_
  rw [show ln 160 = 256 from by decide +kernel]
  refine jn_putR (q := 3) (k := 4) (T := TX3) (ty0 := tyX3) (N := 5) (off := 1) (by decide) rfl rfl (by decide +kernel) (by decide) rfl (by decide) in_X3 tyX3_ok nmX3 rfl rfl xFL_X3_9 rfl rfl (by decide) (fun _ => rfl) (fun _ => rfl) dX3_init_10 ?_
  exact jn_vret rfl dX3_init_13
def mCX0_init_161 (mk : Nat → Nat → Bool) : Nat → Nat → Bool := (mkS (mkS (mkS (mkS (mkS (mkS mk 161 1) 161 2) 161 3) 161 4) 161 5) 161 6)
set_option maxRecDepth 100000 in
set_option maxHeartbeats 4000000 in
theorem cX0_init_161 {w : jWd} {mk : Nat → Nat → Bool} : JNM yX0_init MX0_init 1 6 360 [.ref 161] w 162 mk none w 168 (mCX0_init_161 mk) := by
  refine jnm_of (by decide +kernel) rfl (Nat.le_of_ble_eq_true rfl) ?_
  show JN MX0_init 1 6 360 (none, w, 168, (mCX0_init_161 mk), 162, "<init>") w 162 mk 0 0 0 [(0, .ref 161)] []
  refine jn_aload_n dX0_init_0 rfl 0 rfl ?_
  refine jn_obj xML_X0_3 wOI.1 wOI.2 (by decide) (Nat.le_of_ble_eq_true rfl) dX0_init_1 ?_
  refine jn_aload_n dX0_init_4 rfl 0 rfl ?_
  refine jn_bipush (v := (60 : Int32)) dX0_init_5 (by decide) ?_
  refine jn_newa (k := 1) (ty := .int) rfl (by decide +kernel) (by decide) (fun _ => rfl) rfl rfl (by decide) wAC_int (by decide) (by decide +kernel) (by decide +kernel) (by decide) (by decide +kernel) (jrl_of rfl) (jrl_of rfl) dX0_init_7 ?_
  rw [show ln 162 = 60 from by decide +kernel]
  refine jn_putR (q := 0) (k := 1) (T := TX0) (ty0 := tyX0) (N := 7) (off := 1) (by decide) rfl rfl (by decide +kernel) (by decide) rfl (by decide) in_X0 tyX0_ok nmX0 rfl rfl xFL_X0_11 rfl rfl (by decide) (fun _ => rfl) (fun _ => rfl) dX0_init_9 ?_
  refine jn_aload_n dX0_init_12 rfl 0 rfl ?_
  refine jn_bipush (v := (60 : Int32)) dX0_init_13 (by decide) ?_
  refine jn_newa (k := 1) (ty := .int) rfl (by decide +kernel) (by decide) (fun _ => rfl) rfl rfl (by decide) wAC_int (by decide) (by decide +kernel) (by decide +kernel) (by decide) (by decide +kernel) (jrl_of rfl) (jrl_of rfl) dX0_init_15 ?_
  rw [show ln 163 = 60 from by decide +kernel]
  refine jn_putR (q := 0) (k := 2) (T := TX0) (ty0 := tyX0) (N := 7) (off := 2) (by decide) rfl rfl (by decide +kernel) (by decide) rfl (by decide) in_X0 tyX0_ok nmX0 rfl rfl xFL_X0_15 rfl rfl (by decide) (fun _ => rfl) (fun _ => rfl) dX0_init_17 ?_
  refine jn_aload_n dX0_init_20 rfl 0 rfl ?_
  refine jn_bipush (v := (60 : Int32)) dX0_init_21 (by decide) ?_
  refine jn_newa (k := 1) (ty := .int) rfl (by decide +kernel) (by decide) (fun _ => rfl) rfl rfl (by decide) wAC_int (by decide) (by decide +kernel) (by decide +kernel) (by decide) (by decide +kernel) (jrl_of rfl) (jrl_of rfl) dX0_init_23 ?_
  rw [show ln 164 = 60 from by decide +kernel]
  refine jn_putR (q := 0) (k := 3) (T := TX0) (ty0 := tyX0) (N := 7) (off := 3) (by decide) rfl rfl (by decide +kernel) (by decide) rfl (by decide) in_X0 tyX0_ok nmX0 rfl rfl xFL_X0_18 rfl rfl (by decide) (fun _ => rfl) (fun _ => rfl) dX0_init_25 ?_
  refine jn_aload_n dX0_init_28 rfl 0 rfl ?_
  refine jn_bipush (v := (60 : Int32)) dX0_init_29 (by decide) ?_
  refine jn_newa (k := 1) (ty := .int) rfl (by decide +kernel) (by decide) (fun _ => rfl) rfl rfl (by decide) wAC_int (by decide) (by decide +kernel) (by decide +kernel) (by decide) (by decide +kernel) (jrl_of rfl) (jrl_of rfl) dX0_init_31 ?_
  rw [show ln 165 = 60 from by decide +kernel]
  refine jn_putR (q := 0) (k := 4) (T := TX0) (ty0 := tyX0) (N := 7) (off := 4) (by decide) rfl rfl (by decide +kernel) (by decide) rfl (by decide) in_X0 tyX0_ok nmX0 rfl rfl xFL_X0_21 rfl rfl (by decide) (fun _ => rfl) (fun _ => rfl) dX0_init_33 ?_
  refine jn_aload_n dX0_init_36 rfl 0 rfl ?_
  refine jn_bipush (v := (60 : Int32)) dX0_init_37 (by decide) ?_
  refine jn_newa (k := 1) (ty := .int) rfl (by decide +kernel) (by decide) (fun _ => rfl) rfl rfl (by decide) wAC_int (by decide) (by decide +kernel) (by decide +kernel) (by decide) (by decide +kernel) (jrl_of rfl) (jrl_of rfl) dX0_init_39 ?_
  rw [show ln 166 = 60 from by decide +kernel]
  refine jn_putR (q := 0) (k := 5) (T := TX0) (ty0 := tyX0) (N := 7) (off := 5) (by decide) rfl rfl (by decide +kernel) (by decide) rfl (by decide) in_X0 tyX0_ok nmX0 rfl rfl xFL_X0_24 rfl rfl (by decide) (fun _ => rfl) (fun _ => rfl) dX0_init_41 ?_
  refine jn_aload_n dX0_init_44 rfl 0 rfl ?_
  refine jn_bipush (v := (60 : Int32)) dX0_init_45 (by decide) ?_
  refine jn_newl (by decide +kernel) wAC_long (by decide) (by decide +kernel) (by decide +kernel) (by decide) (by decide +kernel) (jrl_of rfl) (jrl_of rfl) dX0_init_47 ?_
  rw [show ln 167 = 60 from by decide +kernel]
  refine jn_putR (q := 0) (k := 6) (T := TX0) (ty0 := tyX0) (N := 7) (off := 6) (by decide) rfl rfl (by decide +kernel) (by decide) rfl (by decide) in_X0 tyX0_ok nmX0 rfl rfl xFL_X0_27 rfl rfl (by decide) (fun _ => rfl) (fun _ => rfl) dX0_init_49 ?_
  exact jn_vret rfl dX0_init_52
def mCX9_init_168 (mk : Nat → Nat → Bool) : Nat → Nat → Bool := (mkS (mkS (mkS (mkS (mkS (mkS mk 168 3) 168 4) 168 5) 168 6) 168 7) 168 8)
set_option maxRecDepth 100000 in
set_option maxHeartbeats 4000000 in
theorem cX9_init_168 {w : jWd} {mk : Nat → Nat → Bool} : JNM yX9_init MX9_init 1 6 136 [.ref 168] w 169 mk none w 175 (mCX9_init_168 mk) := by
  refine jnm_of (by decide +kernel) rfl (Nat.le_of_ble_eq_true rfl) ?_
  show JN MX9_init 1 6 136 (none, w, 175, (mCX9_init_168 mk), 169, "<init>") w 169 mk 0 0 0 [(0, .ref 168)] []
  refine jn_aload_n dX9_init_0 rfl 0 rfl ?_
  refine jn_obj xML_X9_3 wOI.1 wOI.2 (by decide) (Nat.le_of_ble_eq_true rfl) dX9_init_1 ?_
  refine jn_aload_n dX9_init_4 rfl 0 rfl ?_
  refine jn_bipush (v := (20 : Int32)) dX9_init_5 (by decide) ?_
  refine jn_newa (k := 1) (ty := .int) rfl (by decide +kernel) (by decide) (fun _ => rfl) rfl rfl (by decide) wAC_int (by decide) (by decide +kernel) (by decide +kernel) (by decide) (by decide +kernel) (jrl_of rfl) (jrl_of rfl) dX9_init_7 ?_
  rw [show ln 169 = 20 from by decide +kernel]
  refine jn_putR (q := 8) (k := 3) (T := TX9) (ty0 := tyX9) (N := 9) (off := 1) (by decide) rfl rfl (by decide +kernel) (by decide) rfl (by decide) in_X9 tyX9_ok nmX9 rfl rfl xFL_X9_11 rfl rfl (by decide) (fun _ => rfl) (fun _ => rfl) dX9_init_9 ?_
  refine jn_aload_n dX9_init_12 rfl 0 rfl ?_
  refine jn_bipush (v := (20 : Int32)) dX9_init_13 (by decide) ?_
  refine jn_newa (k := 1) (ty := .int) rfl (by decide +kernel) (by decide) (fun _ => rfl) rfl rfl (by decide) wAC_int (by decide) (by decide +kernel) (by decide +kernel) (by decide) (by decide +kernel) (jrl_of rfl) (jrl_of rfl) dX9_init_15 ?_
  rw [show ln 170 = 20 from by decide +kernel]
  refine jn_putR (q := 8) (k := 4) (T := TX9) (ty0 := tyX9) (N := 9) (off := 2) (by decide) rfl rfl (by decide +kernel) (by decide) rfl (by decide) in_X9 tyX9_ok nmX9 rfl rfl xFL_X9_15 rfl rfl (by decide) (fun _ => rfl) (fun _ => rfl) dX9_init_17 ?_
  refine jn_aload_n dX9_init_20 rfl 0 rfl ?_
  refine jn_bipush (v := (40 : Int32)) dX9_init_21 (by decide) ?_
  refine jn_newa (k := 1) (ty := .int) rfl (by decide +kernel) (by decide) (fun _ => rfl) rfl rfl (by decide) wAC_int (by decide) (by decide +kernel) (by decide +kernel) (by decide) (by decide +kernel) (jrl_of rfl) (jrl_of rfl) dX9_init_23 ?_
  rw [show ln 171 = 40 from by decide +kernel]
  refine jn_putR (q := 8) (k := 5) (T := TX9) (ty0 := tyX9) (N := 9) (off := 3) (by decide) rfl rfl (by decide +kernel) (by decide) rfl (by decide) in_X9 tyX9_ok nmX9 rfl rfl xFL_X9_18 rfl rfl (by decide) (fun _ => rfl) (fun _ => rfl) dX9_init_25 ?_
  refine jn_aload_n dX9_init_28 rfl 0 rfl ?_
  refine jn_bipush (v := (40 : Int32)) dX9_init_29 (by decide) ?_
  refine jn_newa (k := 1) (ty := .int) rfl (by decide +kernel) (by decide) (fun _ => rfl) rfl rfl (by decide) wAC_int (by decide) (by decide +kernel) (by decide +kernel) (by decide) (by decide +kernel) (jrl_of rfl) (jrl_of rfl) dX9_init_31 ?_
  rw [show ln 172 = 40 from by decide +kernel]
  refine jn_putR (q := 8) (k := 6) (T := TX9) (ty0 := tyX9) (N := 9) (off := 4) (by decide) rfl rfl (by decide +kernel) (by decide) rfl (by decide) in_X9 tyX9_ok nmX9 rfl rfl xFL_X9_21 rfl rfl (by decide) (fun _ => rfl) (fun _ => rfl) dX9_init_33 ?_
  refine jn_aload_n dX9_init_36 rfl 0 rfl ?_
  refine jn_bipush (v := (8 : Int32)) dX9_init_37 (by decide) ?_
  refine jn_newa (k := 1) (ty := .int) rfl (by decide +kernel) (by decide) (fun _ => rfl) rfl rfl (by decide) wAC_int (by decide) (by decide +kernel) (by decide +kernel) (by decide) (by decide +kernel) (jrl_of rfl) (jrl_of rfl) dX9_init_39 ?_
  rw [show ln 173 = 8 from by decide +kernel]
  refine jn_putR (q := 8) (k := 7) (T := TX9) (ty0 := tyX9) (N := 9) (off := 5) (by decide) rfl rfl (by decide +kernel) (by decide) rfl (by decide) in_X9 tyX9_ok nmX9 rfl rfl xFL_X9_24 rfl rfl (by decide) (fun _ => rfl) (fun _ => rfl) dX9_init_41 ?_
  refine jn_aload_n dX9_init_44 rfl 0 rfl ?_
  refine jn_bipush (v := (8 : Int32)) dX9_init_45 (by decide) ?_
  refine jn_newa (k := 1) (ty := .int) rfl (by decide +kernel) (by decide) (fun _ => rfl) rfl rfl (by decide) wAC_int (by decide) (by decide +kernel) (by decide +kernel) (by decide) (by decide +kernel) (jrl_of rfl) (jrl_of rfl) dX9_init_47 ?_
  rw [show ln 174 = 8 from by decide +kernel]
  refine jn_putR (q := 8) (k := 8) (T := TX9) (ty0 := tyX9) (N := 9) (off := 6) (by decide) rfl rfl (by decide +kernel) (by decide) rfl (by decide) in_X9 tyX9_ok nmX9 rfl rfl xFL_X9_27 rfl rfl (by decide) (fun _ => rfl) (fun _ => rfl) dX9_init_49 ?_
  exact jn_vret rfl dX9_init_52
def mCX10_init_175 (mk : Nat → Nat → Bool) : Nat → Nat → Bool := (mkS (mkS (mkS (mkS (mkS mk 175 1) 175 2) 175 3) 175 4) 175 5)
set_option maxRecDepth 100000 in
set_option maxHeartbeats 4000000 in
theorem cX10_init_175 {w : jWd} {mk : Nat → Nat → Bool} : JNM yX10_init MX10_init 1 5 712 [.ref 175] w 176 mk none w 181 (mCX10_init_175 mk) := by
  refine jnm_of (by decide +kernel) rfl (Nat.le_of_ble_eq_true rfl) ?_
  show JN MX10_init 1 5 712 (none, w, 181, (mCX10_init_175 mk), 176, "<init>") w 176 mk 0 0 0 [(0, .ref 175)] []
  refine jn_aload_n dX10_init_0 rfl 0 rfl ?_
  refine jn_obj xML_X10_5 wOI.1 wOI.2 (by decide) (Nat.le_of_ble_eq_true rfl) dX10_init_1 ?_
  refine jn_aload_n dX10_init_4 rfl 0 rfl ?_
  refine jn_bipush (v := (8 : Int32)) dX10_init_5 (by decide) ?_
  refine jn_newa (k := 1) (ty := .int) rfl (by decide +kernel) (by decide) (fun _ => rfl) rfl rfl (by decide) wAC_int (by decide) (by decide +kernel) (by decide +kernel) (by decide) (by decide +kernel) (jrl_of rfl) (jrl_of rfl) dX10_init_7 ?_
  rw [show ln 176 = 8 from by decide +kernel]
  refine jn_putR (q := 9) (k := 1) (T := TX10) (ty0 := tyX10) (N := 6) (off := 1) (by decide) rfl rfl (by decide +kernel) (by decide) rfl (by decide) in_X10 tyX10_ok nmX10 rfl rfl xFL_X10_11 rfl rfl (by decide) (fun _ => rfl) (fun _ => rfl) dX10_init_9 ?_
  refine jn_aload_n dX10_init_12 rfl 0 rfl ?_
  refine jn_sipush (v := (128 : Int32)) dX10_init_13 (by decide) ?_
  refine jn_newa (k := 1) (ty := .int) rfl (by decide +kernel) (by decide) (fun _ => rfl) rfl rfl (by decide) wAC_int (by decide) (by decide +kernel) (by decide +kernel) (by decide) (by decide +kernel) (jrl_of rfl) (jrl_of rfl) dX10_init_16 ?_
  rw [show ln 177 = 128 from by decide +kernel]
  refine jn_putR (q := 9) (k := 2) (T := TX10) (ty0 := tyX10) (N := 6) (off := 2) (by decide) rfl rfl (by decide +kernel) (by decide) rfl (by decide) in_X10 tyX10_ok nmX10 rfl rfl xFL_X10_15 rfl rfl (by decide) (fun _ => rfl) (fun _ => rfl) dX10_init_18 ?_
  refine jn_aload_n dX10_init_21 rfl 0 rfl ?_
  refine jn_bipush (v := (64 : Int32)) dX10_init_22 (by decide) ?_
  refine jn_newa (k := 1) (ty := .int) rfl (by decide +kernel) (by decide) (fun _ => rfl) rfl rfl (by decide) wAC_int (by decide) (by decide +kernel) (by decide +kernel) (by decide) (by decide +kernel) (jrl_of rfl) (jrl_of rfl) dX10_init_24 ?_
  rw [show ln 178 = 64 from by decide +kernel]
  refine jn_putR (q := 9) (k := 3) (T := TX10) (ty0 := tyX10) (N := 6) (off := 3) (by decide) rfl rfl (by decide +kernel) (by decide) rfl (by decide) in_X10 tyX10_ok nmX10 rfl rfl xFL_X10_18 rfl rfl (by decide) (fun _ => rfl) (fun _ => rfl) dX10_init_26 ?_
  refine jn_aload_n dX10_init_29 rfl 0 rfl ?_
  refine jn_sipush (v := (256 : Int32)) dX10_init_30 (by decide) ?_
  refine jn_newa (k := 1) (ty := .int) rfl (by decide +kernel) (by decide) (fun _ => rfl) rfl rfl (by decide) wAC_int (by decide) (by decide +kernel) (by decide +kernel) (by decide) (by decide +kernel) (jrl_of rfl) (jrl_of rfl) dX10_init_33 ?_
  rw [show ln 179 = 256 from by decide +kernel]
  refine jn_putR (q := 9) (k := 4) (T := TX10) (ty0 := tyX10) (N := 6) (off := 4) (by decide) rfl rfl (by decide +kernel) (by decide) rfl (by decide) in_X10 tyX10_ok nmX10 rfl rfl xFL_X10_21 rfl rfl (by decide) (fun _ => rfl) (fun _ => rfl) dX10_init_35 ?_
  refine jn_aload_n dX10_init_38 rfl 0 rfl ?_
  refine jn_sipush (v := (256 : Int32)) dX10_init_39 (by decide) ?_
  refine jn_newa (k := 1) (ty := .int) rfl (by decide +kernel) (by decide) (fun _ => rfl) rfl rfl (by decide) wAC_int (by decide) (by decide +kernel) (by decide +kernel) (by decide) (by decide +kernel) (jrl_of rfl) (jrl_of rfl) dX10_init_42 ?_
  rw [show ln 180 = 256 from by decide +kernel]
  refine jn_putR (q := 9) (k := 5) (T := TX10) (ty0 := tyX10) (N := 6) (off := 5) (by decide) rfl rfl (by decide +kernel) (by decide) rfl (by decide) in_X10 tyX10_ok nmX10 rfl rfl xFL_X10_24 rfl rfl (by decide) (fun _ => rfl) (fun _ => rfl) dX10_init_44 ?_
  exact jn_vret rfl dX10_init_47
set_option maxRecDepth 100000 in
set_option maxHeartbeats 4000000 in
theorem cX5_isFull_136 {w : jWd} {mk : Nat → Nat → Bool} (h0 : wI w 136 0 = (1 : Int32)) (h2 : wI w 136 2 = (0 : Int32)) : JNM yX5_isFull MX5_isFull 1 0 0 [.ref 136] w 181 mk (some (.int (0 : Int32))) w 181 mk := by
  refine jnm_of (by decide +kernel) rfl (Nat.le_of_ble_eq_true rfl) ?_
  show JN MX5_isFull 1 0 0 ((some (.int (0 : Int32))), w, 181, mk, 181, "isFull") w 181 mk 0 0 0 [(0, .ref 136)] []
  refine jn_aload_n dX5_isFull_0 rfl 0 rfl ?_
  refine jn_get (q := 4) (k := 2) (T := TX5) (N := 9) (v := .int (0 : Int32)) (by decide) (by decide +kernel) (by decide) rfl (by decide) in_X5 rfl xFL_X5_44 (fun ρ => by rw [jfl_nth (f := none) rfl]; simp [jfm, wI_sI, jv, h0, h2, wCX5_init_2, wCX5_init_9, wCX5_init_16, wCX5_init_23, wCX5_start_16, wCX8_init_1, wCX5_init_62, wCX5_init_69, wCX5_init_76, wCX5_init_83, wCX5_start_76, wCX8_init_61, wCX5_init_122, wCX5_init_129, wCX5_init_136, wCX5_init_143]) dX5_isFull_1 ?_
  refine jn_aload_n dX5_isFull_4 rfl 0 rfl ?_
  refine jn_get (q := 4) (k := 0) (T := TX5) (N := 9) (v := .int (1 : Int32)) (by decide) (by decide +kernel) (by decide) rfl (by decide) in_X5 rfl xFL_X5_15 (fun ρ => by rw [jfl_nth (f := none) rfl]; simp [jfm, wI_sI, jv, h0, h2, wCX5_init_2, wCX5_init_9, wCX5_init_16, wCX5_init_23, wCX5_start_16, wCX8_init_1, wCX5_init_62, wCX5_init_69, wCX5_init_76, wCX5_init_83, wCX5_start_76, wCX8_init_61, wCX5_init_122, wCX5_init_129, wCX5_init_136, wCX5_init_143]) dX5_isFull_5 ?_
  refine jn_icmp_lt (tgt := 15) (nxt := 11) dX5_isFull_8 (by decide) rfl (fun _ => ?_) (fun hc => absurd (by decide) hc)
  refine jn_iconst (v := (0 : Int32)) dX5_isFull_15 (by decide) ?_
  exact jn_zret (ty := .boolean) rfl rfl dX5_isFull_16
def wCX5_start_136 (w : jWd) : jWd := (sI (sI (sI (sI (sI w 137 0 (0 : Int32)) 138 0 (0 : Int32)) 139 0 (5000 : Int32)) 140 0 (0 : Int32)) 136 2 (1 : Int32))
set_option maxRecDepth 100000 in
set_option maxHeartbeats 4000000 in
theorem cX5_start_136 {w : jWd} {mk : Nat → Nat → Bool} (h0 : wI w 136 0 = (1 : Int32)) (h2 : wI w 136 2 = (0 : Int32)) (h3 : mk 136 3 = true) (h4 : mk 136 4 = true) (h5 : mk 136 5 = true) (h6 : mk 136 6 = true) : JNM yX5_start MX5_start 2 0 0 [.ref 136, .int (0 : Int32), .int (0 : Int32), .int (5000 : Int32)] w 181 mk (some (.int (0 : Int32))) (wCX5_start_136 w) 181 mk := by
  refine jnm_of (by decide +kernel) rfl (Nat.le_of_ble_eq_true rfl) ?_
  show JN MX5_start 2 0 0 ((some (.int (0 : Int32))), (wCX5_start_136 w), 181, mk, 181, "start") w 181 mk 0 0 0 [(0, .ref 136), (1, .int (0 : Int32)), (2, .int (0 : Int32)), (3, .int (5000 : Int32))] []
  refine jn_aload_n dX5_start_0 rfl 0 rfl ?_
  refine jn_callV xML_X5_51 jLn_X5_isFull wIM_X5_isFull wSE_X5_isFull (q := 4) (by decide) (by decide +kernel) (by decide) rfl (cX5_isFull_136 h0 h2) (fun _ => rfl) (by decide) rfl rfl (Nat.le_of_ble_eq_true rfl) (jrl_of rfl) (jrl_of rfl) (Nat.le_refl _) (by decide) (by decide) dX5_start_1 ?_
  refine jn_if_eq (tgt := 9) (nxt := 7) dX5_start_4 (by decide) rfl (fun _ => ?_) (fun hc => absurd rfl hc)
  refine jn_aload_n dX5_start_9 rfl 0 rfl ?_
  refine jn_get (q := 4) (k := 3) (T := TX5) (N := 9) (v := .ref 137) (by decide) (by decide +kernel) (by decide) rfl (by decide) in_X5 rfl xFL_X5_24 (fun ρ => by rw [jfl_nth (f := some 1) rfl]; simp [jfm, mkS, jtg, jv, h0, h2, h3, h4, h5, h6, mCX5_init_2, mCX5_init_9, mCX5_init_16, mCX5_init_23, mCX1_init_32, mCX3_init_39, mCX0_init_41, mCX9_init_48, mCX10_init_55, mCX8_init_1, mCX5_init_62, mCX5_init_69, mCX5_init_76, mCX5_init_83, mCX1_init_92, mCX3_init_99, mCX0_init_101, mCX9_init_108, mCX10_init_115, mCX8_init_61, mCX5_init_122, mCX5_init_129, mCX5_init_136, mCX5_init_143, mCX1_init_152, mCX3_init_159, mCX0_init_161, mCX9_init_168, mCX10_init_175]) dX5_start_10 ?_
  refine jn_aload_n dX5_start_13 rfl 0 rfl ?_
  refine jn_get (q := 4) (k := 2) (T := TX5) (N := 9) (v := .int (0 : Int32)) (by decide) (by decide +kernel) (by decide) rfl (by decide) in_X5 rfl xFL_X5_44 (fun ρ => by rw [jfl_nth (f := none) rfl]; simp [jfm, wI_sI, jv, h0, h2, h3, h4, h5, h6, wCX5_init_2, wCX5_init_9, wCX5_init_16, wCX5_init_23, wCX5_start_16, wCX8_init_1, wCX5_init_62, wCX5_init_69, wCX5_init_76, wCX5_init_83, wCX5_start_76, wCX8_init_61, wCX5_init_122, wCX5_init_129, wCX5_init_136, wCX5_init_143]) dX5_start_14 ?_
  refine jn_iload_n dX5_start_17 rfl 1 rfl ?_
  refine jn_iastL (k := 0) (by decide) (by decide +kernel) (vp_lit (by decide +kernel) (by decide)) (by decide) dX5_start_18 ?_
  refine jn_aload_n dX5_start_19 rfl 0 rfl ?_
  refine jn_get (q := 4) (k := 4) (T := TX5) (N := 9) (v := .ref 138) (by decide) (by decide +kernel) (by decide) rfl (by decide) in_X5 rfl xFL_X5_28 (fun ρ => by rw [jfl_nth (f := some 2) rfl]; simp [jfm, mkS, jtg, jv, h0, h2, h3, h4, h5, h6, mCX5_init_2, mCX5_init_9, mCX5_init_16, mCX5_init_23, mCX1_init_32, mCX3_init_39, mCX0_init_41, mCX9_init_48, mCX10_init_55, mCX8_init_1, mCX5_init_62, mCX5_init_69, mCX5_init_76, mCX5_init_83, mCX1_init_92, mCX3_init_99, mCX0_init_101, mCX9_init_108, mCX10_init_115, mCX8_init_61, mCX5_init_122, mCX5_init_129, mCX5_init_136, mCX5_init_143, mCX1_init_152, mCX3_init_159, mCX0_init_161, mCX9_init_168, mCX10_init_175]) dX5_start_20 ?_
  refine jn_aload_n dX5_start_23 rfl 0 rfl ?_
  refine jn_get (q := 4) (k := 2) (T := TX5) (N := 9) (v := .int (0 : Int32)) (by decide) (by decide +kernel) (by decide) rfl (by decide) in_X5 rfl xFL_X5_44 (fun ρ => by rw [jfl_nth (f := none) rfl]; simp [jfm, wI_sI, jv, h0, h2, h3, h4, h5, h6, wCX5_init_2, wCX5_init_9, wCX5_init_16, wCX5_init_23, wCX5_start_16, wCX8_init_1, wCX5_init_62, wCX5_init_69, wCX5_init_76, wCX5_init_83, wCX5_start_76, wCX8_init_61, wCX5_init_122, wCX5_init_129, wCX5_init_136, wCX5_init_143]) dX5_start_24 ?_
  refine jn_iload_n dX5_start_27 rfl 2 rfl ?_
  refine jn_iastL (k := 0) (by decide) (by decide +kernel) (vp_lit (by decide +kernel) (by decide)) (by decide) dX5_start_28 ?_
  refine jn_aload_n dX5_start_29 rfl 0 rfl ?_
  refine jn_get (q := 4) (k := 5) (T := TX5) (N := 9) (v := .ref 139) (by decide) (by decide +kernel) (by decide) rfl (by decide) in_X5 rfl xFL_X5_31 (fun ρ => by rw [jfl_nth (f := some 3) rfl]; simp [jfm, mkS, jtg, jv, h0, h2, h3, h4, h5, h6, mCX5_init_2, mCX5_init_9, mCX5_init_16, mCX5_init_23, mCX1_init_32, mCX3_init_39, mCX0_init_41, mCX9_init_48, mCX10_init_55, mCX8_init_1, mCX5_init_62, mCX5_init_69, mCX5_init_76, mCX5_init_83, mCX1_init_92, mCX3_init_99, mCX0_init_101, mCX9_init_108, mCX10_init_115, mCX8_init_61, mCX5_init_122, mCX5_init_129, mCX5_init_136, mCX5_init_143, mCX1_init_152, mCX3_init_159, mCX0_init_161, mCX9_init_168, mCX10_init_175]) dX5_start_30 ?_
  refine jn_aload_n dX5_start_33 rfl 0 rfl ?_
  refine jn_get (q := 4) (k := 2) (T := TX5) (N := 9) (v := .int (0 : Int32)) (by decide) (by decide +kernel) (by decide) rfl (by decide) in_X5 rfl xFL_X5_44 (fun ρ => by rw [jfl_nth (f := none) rfl]; simp [jfm, wI_sI, jv, h0, h2, h3, h4, h5, h6, wCX5_init_2, wCX5_init_9, wCX5_init_16, wCX5_init_23, wCX5_start_16, wCX8_init_1, wCX5_init_62, wCX5_init_69, wCX5_init_76, wCX5_init_83, wCX5_start_76, wCX8_init_61, wCX5_init_122, wCX5_init_129, wCX5_init_136, wCX5_init_143]) dX5_start_34 ?_
  refine jn_iload_n dX5_start_37 rfl 3 rfl ?_
  refine jn_iastL (k := 0) (by decide) (by decide +kernel) (vp_lit (by decide +kernel) (by decide)) (by decide) dX5_start_38 ?_
  refine jn_aload_n dX5_start_39 rfl 0 rfl ?_
  refine jn_get (q := 4) (k := 6) (T := TX5) (N := 9) (v := .ref 140) (by decide) (by decide +kernel) (by decide) rfl (by decide) in_X5 rfl xFL_X5_34 (fun ρ => by rw [jfl_nth (f := some 4) rfl]; simp [jfm, mkS, jtg, jv, h0, h2, h3, h4, h5, h6, mCX5_init_2, mCX5_init_9, mCX5_init_16, mCX5_init_23, mCX1_init_32, mCX3_init_39, mCX0_init_41, mCX9_init_48, mCX10_init_55, mCX8_init_1, mCX5_init_62, mCX5_init_69, mCX5_init_76, mCX5_init_83, mCX1_init_92, mCX3_init_99, mCX0_init_101, mCX9_init_108, mCX10_init_115, mCX8_init_61, mCX5_init_122, mCX5_init_129, mCX5_init_136, mCX5_init_143, mCX1_init_152, mCX3_init_159, mCX0_init_161, mCX9_init_168, mCX10_init_175]) dX5_start_40 ?_
  refine jn_aload_n dX5_start_43 rfl 0 rfl ?_
  refine jn_get (q := 4) (k := 2) (T := TX5) (N := 9) (v := .int (0 : Int32)) (by decide) (by decide +kernel) (by decide) rfl (by decide) in_X5 rfl xFL_X5_44 (fun ρ => by rw [jfl_nth (f := none) rfl]; simp [jfm, wI_sI, jv, h0, h2, h3, h4, h5, h6, wCX5_init_2, wCX5_init_9, wCX5_init_16, wCX5_init_23, wCX5_start_16, wCX8_init_1, wCX5_init_62, wCX5_init_69, wCX5_init_76, wCX5_init_83, wCX5_start_76, wCX8_init_61, wCX5_init_122, wCX5_init_129, wCX5_init_136, wCX5_init_143]) dX5_start_44 ?_
  refine jn_iconst (v := (0 : Int32)) dX5_start_47 (by decide) ?_
  refine jn_iastL (k := 0) (by decide) (by decide +kernel) (vp_lit (by decide +kernel) (by decide)) (by decide) dX5_start_48 ?_
  refine jn_aload_n dX5_start_49 rfl 0 rfl ?_
  refine jn_dup dX5_start_50 rfl ?_
  refine jn_get (q := 4) (k := 2) (T := TX5) (N := 9) (v := .int (0 : Int32)) (by decide) (by decide +kernel) (by decide) rfl (by decide) in_X5 rfl xFL_X5_44 (fun ρ => by rw [jfl_nth (f := none) rfl]; simp [jfm, wI_sI, jv, h0, h2, h3, h4, h5, h6, wCX5_init_2, wCX5_init_9, wCX5_init_16, wCX5_init_23, wCX5_start_16, wCX8_init_1, wCX5_init_62, wCX5_init_69, wCX5_init_76, wCX5_init_83, wCX5_start_76, wCX8_init_61, wCX5_init_122, wCX5_init_129, wCX5_init_136, wCX5_init_143]) dX5_start_51 ?_
  refine jn_dup_x1 dX5_start_54 rfl rfl ?_
  refine jn_iconst (v := (1 : Int32)) dX5_start_55 (by decide) ?_
  refine jn_iadd dX5_start_56 ?_
  rw [show (0 : Int32) + (1 : Int32) = (1 : Int32) from by decide]
  refine jn_put (q := 4) (k := 2) (T := TX5) (ty0 := tyX5) (N := 9) (by decide) (by decide +kernel) (by decide) rfl (by decide) in_X5 tyX5_ok nmX5 rfl rfl rfl xFL_X5_44 rfl dX5_start_57 ?_
  exact jn_iret rfl dX5_start_60
def wCX8_init_121 (w : jWd) : jWd := (wCX5_start_136 (sI (sI (wCX5_init_143 (wCX5_init_136 (wCX5_init_129 (wCX5_init_122 w)))) 121 11 (80 : Int32)) 121 12 (50 : Int32)))
def mCX8_init_121 (mk : Nat → Nat → Bool) : Nat → Nat → Bool := (mkS (mCX10_init_175 (mkS (mCX9_init_168 (mkS (mCX0_init_161 (mkS (mCX3_init_159 (mkS (mCX1_init_152 (mkS (mkS (mkS (mCX5_init_143 (mkS (mCX5_init_136 (mkS (mCX5_init_129 (mkS (mCX5_init_122 mk) 121 0)) 121 1)) 121 2)) 121 3) 121 4) 121 5)) 121 6)) 121 7)) 121 8)) 121 9)) 121 10)
set_option maxRecDepth 100000 in
set_option maxHeartbeats 4000000 in
theorem cX8_init_121 {w : jWd} {mk : Nat → Nat → Bool} (hz : wI w 136 2 = (0 : Int32)) : JNM yX8_init MX8_init 3 59 4459 [.ref 121] w 122 mk none (wCX8_init_121 w) 181 (mCX8_init_121 mk) := by
  refine jnm_of (by decide +kernel) rfl (Nat.le_of_ble_eq_true rfl) ?_
  show JN MX8_init 3 59 4459 (none, (wCX8_init_121 w), 181, (mCX8_init_121 mk), 122, "<init>") w 122 mk 0 0 0 [(0, .ref 121)] []
  refine jn_aload_n dX8_init_0 rfl 0 rfl ?_
  refine jn_obj xML_X8_3 wOI.1 wOI.2 (by decide) (Nat.le_of_ble_eq_true rfl) dX8_init_1 ?_
  refine jn_aload_n dX8_init_4 rfl 0 rfl ?_
  refine jn_new (q := 4) (N := 9) (T := TX5) (ty0 := tyX5) (by decide +kernel) (by decide) rfl in_X5 tyX5_ok xCL_X8_9 xIN_X5 xIN_X5I nz_4 (by decide) (by decide) (jrl_of rfl) (jrl_of rfl) dX8_init_5 ?_
  refine jn_dup dX8_init_8 rfl ?_
  refine jn_bipush (v := (40 : Int32)) dX8_init_9 (by decide) ?_
  refine jn_bipush (v := (12 : Int32)) dX8_init_11 (by decide) ?_
  refine jn_callI xML_X8_13 jLn_X5_init rfl rfl wIM_X5_init cX5_init_122 (by decide) rfl rfl (Nat.le_of_ble_eq_true rfl) (jrl_of rfl) (jrl_of rfl) (by decide) (by decide) (by decide +kernel) dX8_init_13 ?_
  refine jn_putR (q := 7) (k := 0) (T := TX8) (ty0 := tyX8) (N := 13) (off := 1) (by decide) rfl rfl (by decide +kernel) (by decide) rfl (by decide) in_X8 tyX8_ok nmX8 rfl rfl xFL_X8_16 rfl rfl (by decide) (fun _ => rfl) (fun _ => rfl) dX8_init_16 ?_
  refine jn_aload_n dX8_init_19 rfl 0 rfl ?_
  refine jn_new (q := 4) (N := 9) (T := TX5) (ty0 := tyX5) (by decide +kernel) (by decide) rfl in_X5 tyX5_ok xCL_X8_9 xIN_X5 xIN_X5I nz_4 (by decide) (by decide) (jrl_of rfl) (jrl_of rfl) dX8_init_20 ?_
  refine jn_dup dX8_init_23 rfl ?_
  refine jn_bipush (v := (12 : Int32)) dX8_init_24 (by decide) ?_
  refine jn_bipush (v := (12 : Int32)) dX8_init_26 (by decide) ?_
  refine jn_callI xML_X8_13 jLn_X5_init rfl rfl wIM_X5_init cX5_init_129 (by decide) rfl rfl (Nat.le_of_ble_eq_true rfl) (jrl_of rfl) (jrl_of rfl) (by decide) (by decide) (by decide +kernel) dX8_init_28 ?_
  refine jn_putR (q := 7) (k := 1) (T := TX8) (ty0 := tyX8) (N := 13) (off := 8) (by decide) rfl rfl (by decide +kernel) (by decide) rfl (by decide) in_X8 tyX8_ok nmX8 rfl rfl xFL_X8_20 rfl rfl (by decide) (fun _ => rfl) (fun _ => rfl) dX8_init_31 ?_
  refine jn_aload_n dX8_init_34 rfl 0 rfl ?_
  refine jn_new (q := 4) (N := 9) (T := TX5) (ty0 := tyX5) (by decide +kernel) (by decide) rfl in_X5 tyX5_ok xCL_X8_9 xIN_X5 xIN_X5I nz_4 (by decide) (by decide) (jrl_of rfl) (jrl_of rfl) dX8_init_35 ?_
  refine jn_dup dX8_init_38 rfl ?_
  refine jn_iconst (v := (1 : Int32)) dX8_init_39 (by decide) ?_
  refine jn_bipush (v := (60 : Int32)) dX8_init_40 (by decide) ?_
  refine jn_callI xML_X8_13 jLn_X5_init rfl rfl wIM_X5_init cX5_init_136 (by decide) rfl rfl (Nat.le_of_ble_eq_true rfl) (jrl_of rfl) (jrl_of rfl) (by decide) (by decide) (by decide +kernel) dX8_init_42 ?_
  refine jn_putR (q := 7) (k := 2) (T := TX8) (ty0 := tyX8) (N := 13) (off := 15) (by decide) rfl rfl (by decide +kernel) (by decide) rfl (by decide) in_X8 tyX8_ok nmX8 rfl rfl xFL_X8_23 rfl rfl (by decide) (fun _ => rfl) (fun _ => rfl) dX8_init_45 ?_
  refine jn_aload_n dX8_init_48 rfl 0 rfl ?_
  refine jn_new (q := 4) (N := 9) (T := TX5) (ty0 := tyX5) (by decide +kernel) (by decide) rfl in_X5 tyX5_ok xCL_X8_9 xIN_X5 xIN_X5I nz_4 (by decide) (by decide) (jrl_of rfl) (jrl_of rfl) dX8_init_49 ?_
  refine jn_dup dX8_init_52 rfl ?_
  refine jn_bipush (v := (20 : Int32)) dX8_init_53 (by decide) ?_
  refine jn_iconst (v := (2 : Int32)) dX8_init_55 (by decide) ?_
  refine jn_callI xML_X8_13 jLn_X5_init rfl rfl wIM_X5_init cX5_init_143 (by decide) rfl rfl (Nat.le_of_ble_eq_true rfl) (jrl_of rfl) (jrl_of rfl) (by decide) (by decide) (by decide +kernel) dX8_init_56 ?_
  refine jn_putR (q := 7) (k := 3) (T := TX8) (ty0 := tyX8) (N := 13) (off := 22) (by decide) rfl rfl (by decide +kernel) (by decide) rfl (by decide) in_X8 tyX8_ok nmX8 rfl rfl xFL_X8_26 rfl rfl (by decide) (fun _ => rfl) (fun _ => rfl) dX8_init_59 ?_
  refine jn_aload_n dX8_init_62 rfl 0 rfl ?_
  refine jn_sipush (v := (480 : Int32)) dX8_init_63 (by decide) ?_
  refine jn_newl (by decide +kernel) wAC_long (by decide) (by decide +kernel) (by decide +kernel) (by decide) (by decide +kernel) (jrl_of rfl) (jrl_of rfl) dX8_init_66 ?_
  rw [show ln 150 = 480 from by decide +kernel]
  refine jn_putR (q := 7) (k := 4) (T := TX8) (ty0 := tyX8) (N := 13) (off := 29) (by decide) rfl rfl (by decide +kernel) (by decide) rfl (by decide) in_X8 tyX8_ok nmX8 rfl rfl xFL_X8_29 rfl rfl (by decide) (fun _ => rfl) (fun _ => rfl) dX8_init_68 ?_
  refine jn_aload_n dX8_init_71 rfl 0 rfl ?_
  refine jn_sipush (v := (256 : Int32)) dX8_init_72 (by decide) ?_
  refine jn_newa (k := 1) (ty := .int) rfl (by decide +kernel) (by decide) (fun _ => rfl) rfl rfl (by decide) wAC_int (by decide) (by decide +kernel) (by decide +kernel) (by decide) (by decide +kernel) (jrl_of rfl) (jrl_of rfl) dX8_init_75 ?_
  rw [show ln 151 = 256 from by decide +kernel]
  refine jn_putR (q := 7) (k := 5) (T := TX8) (ty0 := tyX8) (N := 13) (off := 30) (by decide) rfl rfl (by decide +kernel) (by decide) rfl (by decide) in_X8 tyX8_ok nmX8 rfl rfl xFL_X8_33 rfl rfl (by decide) (fun _ => rfl) (fun _ => rfl) dX8_init_77 ?_
  refine jn_aload_n dX8_init_80 rfl 0 rfl ?_
  refine jn_new (q := 1) (N := 8) (T := TX1) (ty0 := tyX1) (by decide +kernel) (by decide) rfl in_X1 tyX1_ok xCL_X8_37 xIN_X1 xIN_X1I nz_1 (by decide) (by decide) (jrl_of rfl) (jrl_of rfl) dX8_init_81 ?_
  refine jn_dup dX8_init_84 rfl ?_
  refine jn_callN (host := "NobodysBard") (by decide +kernel) jLn_X1_init rfl rfl wIM_X1_init cX1_init_152 (by decide) rfl rfl (Nat.le_of_ble_eq_true rfl) (jrl_of rfl) (jrl_of rfl) (by decide) (by decide) (by decide +kernel) dX8_init_85 ?_
  refine jn_putR (q := 7) (k := 6) (T := TX8) (ty0 := tyX8) (N := 13) (off := 31) (by decide) rfl rfl (by decide +kernel) (by decide) rfl (by decide) in_X8 tyX8_ok nmX8 rfl rfl xFL_X8_40 rfl rfl (by decide) (fun _ => rfl) (fun _ => rfl) dX8_init_88 ?_
  refine jn_aload_n dX8_init_91 rfl 0 rfl ?_
  refine jn_new (q := 3) (N := 5) (T := TX3) (ty0 := tyX3) (by decide +kernel) (by decide) rfl in_X3 tyX3_ok xCL_X8_44 xIN_X3 xIN_X3I nz_3 (by decide) (by decide) (jrl_of rfl) (jrl_of rfl) dX8_init_92 ?_
  refine jn_dup dX8_init_95 rfl ?_
  refine jn_callN (host := "NobodysBard") (by decide +kernel) jLn_X3_init rfl rfl wIM_X3_init cX3_init_159 (by decide) rfl rfl (Nat.le_of_ble_eq_true rfl) (jrl_of rfl) (jrl_of rfl) (by decide) (by decide) (by decide +kernel) dX8_init_96 ?_
  refine jn_putR (q := 7) (k := 7) (T := TX8) (ty0 := tyX8) (N := 13) (off := 38) (by decide) rfl rfl (by decide +kernel) (by decide) rfl (by decide) in_X8 tyX8_ok nmX8 rfl rfl xFL_X8_47 rfl rfl (by decide) (fun _ => rfl) (fun _ => rfl) dX8_init_99 ?_
  refine jn_aload_n dX8_init_102 rfl 0 rfl ?_
  refine jn_new (q := 0) (N := 7) (T := TX0) (ty0 := tyX0) (by decide +kernel) (by decide) rfl in_X0 tyX0_ok xCL_X8_51 xIN_X0 xIN_X0I nz_0 (by decide) (by decide) (jrl_of rfl) (jrl_of rfl) dX8_init_103 ?_
  refine jn_dup dX8_init_106 rfl ?_
  refine jn_callN (host := "NobodysBard") (by decide +kernel) jLn_X0_init rfl rfl wIM_X0_init cX0_init_161 (by decide) rfl rfl (Nat.le_of_ble_eq_true rfl) (jrl_of rfl) (jrl_of rfl) (by decide) (by decide) (by decide +kernel) dX8_init_107 ?_
  refine jn_putR (q := 7) (k := 8) (T := TX8) (ty0 := tyX8) (N := 13) (off := 40) (by decide) rfl rfl (by decide +kernel) (by decide) rfl (by decide) in_X8 tyX8_ok nmX8 rfl rfl xFL_X8_54 rfl rfl (by decide) (fun _ => rfl) (fun _ => rfl) dX8_init_110 ?_
  refine jn_aload_n dX8_init_113 rfl 0 rfl ?_
  refine jn_new (q := 8) (N := 9) (T := TX9) (ty0 := tyX9) (by decide +kernel) (by decide) rfl in_X9 tyX9_ok xCL_X8_58 xIN_X9 xIN_X9I nz_8 (by decide) (by decide) (jrl_of rfl) (jrl_of rfl) dX8_init_114 ?_
  refine jn_dup dX8_init_117 rfl ?_
  refine jn_callN (host := "NobodysBard") (by decide +kernel) jLn_X9_init rfl rfl wIM_X9_init cX9_init_168 (by decide) rfl rfl (Nat.le_of_ble_eq_true rfl) (jrl_of rfl) (jrl_of rfl) (by decide) (by decide) (by decide +kernel) dX8_init_118 ?_
  refine jn_putR (q := 7) (k := 9) (T := TX8) (ty0 := tyX8) (N := 13) (off := 47) (by decide) rfl rfl (by decide +kernel) (by decide) rfl (by decide) in_X8 tyX8_ok nmX8 rfl rfl xFL_X8_61 rfl rfl (by decide) (fun _ => rfl) (fun _ => rfl) dX8_init_121 ?_
  refine jn_aload_n dX8_init_124 rfl 0 rfl ?_
  refine jn_new (q := 9) (N := 6) (T := TX10) (ty0 := tyX10) (by decide +kernel) (by decide) rfl in_X10 tyX10_ok xCL_X8_65 xIN_X10 xIN_X10I nz_9 (by decide) (by decide) (jrl_of rfl) (jrl_of rfl) dX8_init_125 ?_
  refine jn_dup dX8_init_128 rfl ?_
  refine jn_callN (host := "NobodysBard") (by decide +kernel) jLn_X10_init rfl rfl wIM_X10_init cX10_init_175 (by decide) rfl rfl (Nat.le_of_ble_eq_true rfl) (jrl_of rfl) (jrl_of rfl) (by decide) (by decide) (by decide +kernel) dX8_init_129 ?_
  refine jn_putR (q := 7) (k := 10) (T := TX8) (ty0 := tyX8) (N := 13) (off := 54) (by decide) rfl rfl (by decide +kernel) (by decide) rfl (by decide) in_X8 tyX8_ok nmX8 rfl rfl xFL_X8_68 rfl rfl (by decide) (fun _ => rfl) (fun _ => rfl) dX8_init_132 ?_
  refine jn_aload_n dX8_init_135 rfl 0 rfl ?_
  refine jn_bipush (v := (80 : Int32)) dX8_init_136 (by decide) ?_
  refine jn_put (q := 7) (k := 11) (T := TX8) (ty0 := tyX8) (N := 13) (by decide) (by decide +kernel) (by decide) rfl (by decide) in_X8 tyX8_ok nmX8 rfl rfl rfl xFL_X8_72 rfl dX8_init_138 ?_
  refine jn_aload_n dX8_init_141 rfl 0 rfl ?_
  refine jn_bipush (v := (50 : Int32)) dX8_init_142 (by decide) ?_
  refine jn_put (q := 7) (k := 12) (T := TX8) (ty0 := tyX8) (N := 13) (by decide) (by decide +kernel) (by decide) rfl (by decide) in_X8 tyX8_ok nmX8 rfl rfl rfl xFL_X8_76 rfl dX8_init_144 ?_
  refine jn_aload_n dX8_init_147 rfl 0 rfl ?_
  refine jn_get (q := 7) (k := 2) (T := TX8) (N := 13) (v := .ref 136) (by decide) (by decide +kernel) (by decide) rfl (by decide) in_X8 rfl xFL_X8_23 (fun ρ => by rw [jfl_nth (f := some 15) rfl]; simp [jfm, mkS, jtg, jv, mCX5_init_2, mCX5_init_9, mCX5_init_16, mCX5_init_23, mCX1_init_32, mCX3_init_39, mCX0_init_41, mCX9_init_48, mCX10_init_55, mCX8_init_1, mCX5_init_62, mCX5_init_69, mCX5_init_76, mCX5_init_83, mCX1_init_92, mCX3_init_99, mCX0_init_101, mCX9_init_108, mCX10_init_115, mCX8_init_61, mCX5_init_122, mCX5_init_129, mCX5_init_136, mCX5_init_143, mCX1_init_152, mCX3_init_159, mCX0_init_161, mCX9_init_168, mCX10_init_175]) dX8_init_148 ?_
  refine jn_iconst (v := (0 : Int32)) dX8_init_151 (by decide) ?_
  refine jn_iconst (v := (0 : Int32)) dX8_init_152 (by decide) ?_
  refine jn_sipush (v := (5000 : Int32)) dX8_init_153 (by decide) ?_
  refine jn_callV xML_X8_79 jLn_X5_start wIM_X5_start wSE_X5_start (q := 4) (by decide) (by decide +kernel) (by decide) rfl (cX5_start_136 (by simp [wI_sI, wCX5_init_2, wCX5_init_9, wCX5_init_16, wCX5_init_23, wCX5_start_16, wCX8_init_1, wCX5_init_62, wCX5_init_69, wCX5_init_76, wCX5_init_83, wCX5_start_76, wCX8_init_61, wCX5_init_122, wCX5_init_129, wCX5_init_136, wCX5_init_143]) (by simp [wI_sI, wCX5_init_2, wCX5_init_9, wCX5_init_16, wCX5_init_23, wCX5_start_16, wCX8_init_1, wCX5_init_62, wCX5_init_69, wCX5_init_76, wCX5_init_83, wCX5_start_76, wCX8_init_61, wCX5_init_122, wCX5_init_129, wCX5_init_136, wCX5_init_143, hz]) (by simp [mkS, mCX5_init_2, mCX5_init_9, mCX5_init_16, mCX5_init_23, mCX1_init_32, mCX3_init_39, mCX0_init_41, mCX9_init_48, mCX10_init_55, mCX8_init_1, mCX5_init_62, mCX5_init_69, mCX5_init_76, mCX5_init_83, mCX1_init_92, mCX3_init_99, mCX0_init_101, mCX9_init_108, mCX10_init_115, mCX8_init_61, mCX5_init_122, mCX5_init_129, mCX5_init_136, mCX5_init_143, mCX1_init_152, mCX3_init_159, mCX0_init_161, mCX9_init_168, mCX10_init_175]) (by simp [mkS, mCX5_init_2, mCX5_init_9, mCX5_init_16, mCX5_init_23, mCX1_init_32, mCX3_init_39, mCX0_init_41, mCX9_init_48, mCX10_init_55, mCX8_init_1, mCX5_init_62, mCX5_init_69, mCX5_init_76, mCX5_init_83, mCX1_init_92, mCX3_init_99, mCX0_init_101, mCX9_init_108, mCX10_init_115, mCX8_init_61, mCX5_init_122, mCX5_init_129, mCX5_init_136, mCX5_init_143, mCX1_init_152, mCX3_init_159, mCX0_init_161, mCX9_init_168, mCX10_init_175]) (by simp [mkS, mCX5_init_2, mCX5_init_9, mCX5_init_16, mCX5_init_23, mCX1_init_32, mCX3_init_39, mCX0_init_41, mCX9_init_48, mCX10_init_55, mCX8_init_1, mCX5_init_62, mCX5_init_69, mCX5_init_76, mCX5_init_83, mCX1_init_92, mCX3_init_99, mCX0_init_101, mCX9_init_108, mCX10_init_115, mCX8_init_61, mCX5_init_122, mCX5_init_129, mCX5_init_136, mCX5_init_143, mCX1_init_152, mCX3_init_159, mCX0_init_161, mCX9_init_168, mCX10_init_175]) (by simp [mkS, mCX5_init_2, mCX5_init_9, mCX5_init_16, mCX5_init_23, mCX1_init_32, mCX3_init_39, mCX0_init_41, mCX9_init_48, mCX10_init_55, mCX8_init_1, mCX5_init_62, mCX5_init_69, mCX5_init_76, mCX5_init_83, mCX1_init_92, mCX3_init_99, mCX0_init_101, mCX9_init_108, mCX10_init_115, mCX8_init_61, mCX5_init_122, mCX5_init_129, mCX5_init_136, mCX5_init_143, mCX1_init_152, mCX3_init_159, mCX0_init_161, mCX9_init_168, mCX10_init_175])) (fun _ => rfl) (by decide) rfl rfl (Nat.le_of_ble_eq_true rfl) (jrl_of rfl) (jrl_of rfl) (Nat.le_refl _) (by decide) (by decide) dX8_init_156 ?_
  refine jn_pop dX8_init_159 rfl ?_
  exact jn_vret rfl dX8_init_160
theorem xFL_X11_19 : Cond.fieldLink RX11 19 RX11 (TX11 2).2.1 (TX11 2).2.2.1 ∈ jT := jT_t2 (i := 175) (by decide +kernel) (by decide +kernel)
theorem xFL_X11_22 : Cond.fieldLink RX11 22 RX11 (TX11 3).2.1 (TX11 3).2.2.1 ∈ jT := jT_t2 (i := 176) (by decide +kernel) (by decide +kernel)
theorem xCL_X11_26 : Cond.classLink RX11 26 RX2 ∈ jT := jT_t2 (i := 82) (by decide +kernel) (by decide +kernel)
theorem xIN_X2 : Cond.instantiable RX2 6 ∈ jT := jT_t2 (i := 83) (by decide +kernel) (by decide +kernel)
theorem xIN_X2I : Cond.initialized RX2 ∈ jT := jT_t1 (i := 10) (by decide +kernel) (by decide +kernel)
theorem xML_X2_3 : Cond.methodLink RX2 3 Lib.objectInit ∈ jT := jT_t2 (i := 87) (by decide +kernel) (by decide +kernel)
theorem xFL_X2_11 : Cond.fieldLink RX2 11 RX2 (TX2 1).2.1 (TX2 1).2.2.1 ∈ jT := jT_t2 (i := 89) (by decide +kernel) (by decide +kernel)
theorem xFL_X2_17 : Cond.fieldLink RX2 17 RX2 (TX2 2).2.1 (TX2 2).2.2.1 ∈ jT := jT_t2 (i := 90) (by decide +kernel) (by decide +kernel)
theorem xFL_X2_21 : Cond.fieldLink RX2 21 RX2 (TX2 0).2.1 (TX2 0).2.2.1 ∈ jT := jT_t2 (i := 88) (by decide +kernel) (by decide +kernel)
def mCX2_init_182 (mk : Nat → Nat → Bool) : Nat → Nat → Bool := (mkS (mkS (mkS mk 182 1) 182 2) 182 0)
set_option maxRecDepth 100000 in
set_option maxHeartbeats 4000000 in
theorem cX2_init_182 {w : jWd} {mk : Nat → Nat → Bool} : JNM yX2_init MX2_init 1 2 18 [.ref 182, .ref 1] w 183 mk none w 185 (mCX2_init_182 mk) := by
  refine jnm_of (by decide +kernel) rfl (Nat.le_of_ble_eq_true rfl) ?_
  show JN MX2_init 1 2 18 (none, w, 185, (mCX2_init_182 mk), 183, "<init>") w 183 mk 0 0 0 [(0, .ref 182), (1, .ref 1)] []
  refine jn_aload_n dX2_init_0 rfl 0 rfl ?_
  refine jn_obj xML_X2_3 wOI.1 wOI.2 (by decide) (Nat.le_of_ble_eq_true rfl) dX2_init_1 ?_
  refine jn_aload_n dX2_init_4 rfl 0 rfl ?_
  refine jn_bipush (v := (12 : Int32)) dX2_init_5 (by decide) ?_
  refine jn_newl (by decide +kernel) wAC_long (by decide) (by decide +kernel) (by decide +kernel) (by decide) (by decide +kernel) (jrl_of rfl) (jrl_of rfl) dX2_init_7 ?_
  rw [show ln 183 = 12 from by decide +kernel]
  refine jn_putR (q := 2) (k := 1) (T := TX2) (ty0 := tyX2) (N := 6) (off := 1) (by decide) rfl rfl (by decide +kernel) (by decide) rfl (by decide) in_X2 tyX2_ok nmX2 rfl rfl xFL_X2_11 rfl rfl (by decide) (fun _ => rfl) (fun _ => rfl) dX2_init_9 ?_
  refine jn_aload_n dX2_init_12 rfl 0 rfl ?_
  refine jn_bipush (v := (6 : Int32)) dX2_init_13 (by decide) ?_
  refine jn_newa (k := 1) (ty := .int) rfl (by decide +kernel) (by decide) (fun _ => rfl) rfl rfl (by decide) wAC_int (by decide) (by decide +kernel) (by decide +kernel) (by decide) (by decide +kernel) (jrl_of rfl) (jrl_of rfl) dX2_init_15 ?_
  rw [show ln 184 = 6 from by decide +kernel]
  refine jn_putR (q := 2) (k := 2) (T := TX2) (ty0 := tyX2) (N := 6) (off := 2) (by decide) rfl rfl (by decide +kernel) (by decide) rfl (by decide) in_X2 tyX2_ok nmX2 rfl rfl xFL_X2_17 rfl rfl (by decide) (fun _ => rfl) (fun _ => rfl) dX2_init_17 ?_
  refine jn_aload_n dX2_init_20 rfl 0 rfl ?_
  refine jn_aload_n dX2_init_21 rfl 1 rfl ?_
  refine jn_putR (q := 2) (k := 0) (T := TX2) (ty0 := tyX2) (N := 6) (off := 9999) (by decide) rfl rfl (by decide +kernel) (by decide) rfl (by decide) in_X2 tyX2_ok nmX2 rfl rfl xFL_X2_21 rfl rfl (by decide) (fun _ => rfl) (fun _ => rfl) dX2_init_22 ?_
  exact jn_vret rfl dX2_init_25
theorem xML_X11_28 : Cond.methodLink RX11 28 yX2_init ∈ jT := jT_t2 (i := 84) (by decide +kernel) (by decide +kernel)
theorem xFL_X11_31 : Cond.fieldLink RX11 31 RX11 (TX11 4).2.1 (TX11 4).2.2.1 ∈ jT := jT_t2 (i := 177) (by decide +kernel) (by decide +kernel)
theorem xCL_X11_35 : Cond.classLink RX11 35 RX7 ∈ jT := jT_t2 (i := 111) (by decide +kernel) (by decide +kernel)
theorem xIN_X7 : Cond.instantiable RX7 3 ∈ jT := jT_t2 (i := 112) (by decide +kernel) (by decide +kernel)
theorem xIN_X7I : Cond.initialized RX7 ∈ jT := jT_t1 (i := 11) (by decide +kernel) (by decide +kernel)
theorem xML_X7_3 : Cond.methodLink RX7 3 Lib.objectInit ∈ jT := jT_t2 (i := 116) (by decide +kernel) (by decide +kernel)
theorem xFL_X7_11 : Cond.fieldLink RX7 11 RX7 (TX7 0).2.1 (TX7 0).2.2.1 ∈ jT := jT_t2 (i := 120) (by decide +kernel) (by decide +kernel)
theorem xFL_X7_15 : Cond.fieldLink RX7 15 RX7 (TX7 1).2.1 (TX7 1).2.2.1 ∈ jT := jT_t2 (i := 122) (by decide +kernel) (by decide +kernel)
theorem xFL_X7_18 : Cond.fieldLink RX7 18 RX7 (TX7 2).2.1 (TX7 2).2.2.1 ∈ jT := jT_t2 (i := 123) (by decide +kernel) (by decide +kernel)
def wCJ7_fill_53178_186 (w : jWd) : jWd := (sI (sI (sI (sI w 186 0 (-1 : Int32)) 186 1 (-1 : Int32)) 186 2 (-1 : Int32)) 186 3 (-1 : Int32))
set_option maxRecDepth 100000 in
set_option maxHeartbeats 4000000 in
theorem cJ7_fill_53178_186 {w : jWd} {mk : Nat → Nat → Bool} : JNM yJ7_fill_53178 MJ7_fill_53178 1 0 0 [.ref 186, .int (-1 : Int32)] w 189 mk none (wCJ7_fill_53178_186 w) 189 mk := by
  refine jnm_of (by decide +kernel) rfl (Nat.le_of_ble_eq_true rfl) ?_
  show JN MJ7_fill_53178 1 0 0 (none, (wCJ7_fill_53178_186 w), 189, mk, 189, "fill") w 189 mk 0 0 0 [(0, .ref 186), (1, .int (-1 : Int32))] []
  refine jn_iconst (v := (0 : Int32)) dJ7_fill_53178_0 (by decide) ?_
  refine jn_istore_n (lv' := [(2, .int (0 : Int32)), (0, .ref 186), (1, .int (-1 : Int32))]) dJ7_fill_53178_1 rfl (by decide) rfl ?_
  refine jn_aload_n dJ7_fill_53178_2 rfl 1 rfl ?_
  refine jn_alen (v := (4 : Int32)) (by decide) (by decide +kernel) (by decide +kernel) dJ7_fill_53178_3 ?_
  refine jn_istore_n (lv' := [(3, .int (4 : Int32)), (2, .int (0 : Int32)), (0, .ref 186), (1, .int (-1 : Int32))]) dJ7_fill_53178_4 rfl (by decide) rfl ?_
  refine jn_iload_n dJ7_fill_53178_5 rfl 1 rfl ?_
  refine jn_iload_n dJ7_fill_53178_6 rfl 0 rfl ?_
  refine jn_icmp_ge (tgt := 20) (nxt := 10) dJ7_fill_53178_7 (by decide) rfl (fun hc => absurd hc (by decide)) (fun _ => ?_)
  refine jn_aload_n dJ7_fill_53178_10 rfl 2 rfl ?_
  refine jn_iload_n dJ7_fill_53178_11 rfl 1 rfl ?_
  refine jn_iload_n dJ7_fill_53178_12 rfl 3 rfl ?_
  refine jn_iastL (k := 0) (by decide) (by decide +kernel) (vp_lit (by decide +kernel) (by decide)) (by decide) dJ7_fill_53178_13 ?_
  refine jn_iinc (x := (0 : Int32)) (v := (1 : Int32)) (lv' := [(2, .int (1 : Int32)), (3, .int (4 : Int32)), (0, .ref 186), (1, .int (-1 : Int32))]) dJ7_fill_53178_14 1 rfl (by decide) (by decide) rfl ?_
  refine jn_goto (tgt := 5) dJ7_fill_53178_17 (by decide) ?_
  refine jn_iload_n dJ7_fill_53178_5 rfl 0 rfl ?_
  refine jn_iload_n dJ7_fill_53178_6 rfl 1 rfl ?_
  refine jn_icmp_ge (tgt := 20) (nxt := 10) dJ7_fill_53178_7 (by decide) rfl (fun hc => absurd hc (by decide)) (fun _ => ?_)
  refine jn_aload_n dJ7_fill_53178_10 rfl 2 rfl ?_
  refine jn_iload_n dJ7_fill_53178_11 rfl 0 rfl ?_
  refine jn_iload_n dJ7_fill_53178_12 rfl 3 rfl ?_
  refine jn_iastL (k := 1) (by decide) (by decide +kernel) (vp_lit (by decide +kernel) (by decide)) (by decide) dJ7_fill_53178_13 ?_
  refine jn_iinc (x := (1 : Int32)) (v := (2 : Int32)) (lv' := [(2, .int (2 : Int32)), (3, .int (4 : Int32)), (0, .ref 186), (1, .int (-1 : Int32))]) dJ7_fill_53178_14 0 rfl (by decide) (by decide) rfl ?_
  refine jn_goto (tgt := 5) dJ7_fill_53178_17 (by decide) ?_
  refine jn_iload_n dJ7_fill_53178_5 rfl 0 rfl ?_
  refine jn_iload_n dJ7_fill_53178_6 rfl 1 rfl ?_
  refine jn_icmp_ge (tgt := 20) (nxt := 10) dJ7_fill_53178_7 (by decide) rfl (fun hc => absurd hc (by decide)) (fun _ => ?_)
  refine jn_aload_n dJ7_fill_53178_10 rfl 2 rfl ?_
  refine jn_iload_n dJ7_fill_53178_11 rfl 0 rfl ?_
  refine jn_iload_n dJ7_fill_53178_12 rfl 3 rfl ?_
  refine jn_iastL (k := 2) (by decide) (by decide +kernel) (vp_lit (by decide +kernel) (by decide)) (by decide) dJ7_fill_53178_13 ?_
  refine jn_iinc (x := (2 : Int32)) (v := (3 : Int32)) (lv' := [(2, .int (3 : Int32)), (3, .int (4 : Int32)), (0, .ref 186), (1, .int (-1 : Int32))]) dJ7_fill_53178_14 0 rfl (by decide) (by decide) rfl ?_
  refine jn_goto (tgt := 5) dJ7_fill_53178_17 (by decide) ?_
  refine jn_iload_n dJ7_fill_53178_5 rfl 0 rfl ?_
  refine jn_iload_n dJ7_fill_53178_6 rfl 1 rfl ?_
  refine jn_icmp_ge (tgt := 20) (nxt := 10) dJ7_fill_53178_7 (by decide) rfl (fun hc => absurd hc (by decide)) (fun _ => ?_)
  refine jn_aload_n dJ7_fill_53178_10 rfl 2 rfl ?_
  refine jn_iload_n dJ7_fill_53178_11 rfl 0 rfl ?_
  refine jn_iload_n dJ7_fill_53178_12 rfl 3 rfl ?_
  refine jn_iastL (k := 3) (by decide) (by decide +kernel) (vp_lit (by decide +kernel) (by decide)) (by decide) dJ7_fill_53178_13 ?_
  refine jn_iinc (x := (3 : Int32)) (v := (4 : Int32)) (lv' := [(2, .int (4 : Int32)), (3, .int (4 : Int32)), (0, .ref 186), (1, .int (-1 : Int32))]) dJ7_fill_53178_14 0 rfl (by decide) (by decide) rfl ?_
  refine jn_goto (tgt := 5) dJ7_fill_53178_17 (by decide) ?_
  refine jn_iload_n dJ7_fill_53178_5 rfl 0 rfl ?_
  refine jn_iload_n dJ7_fill_53178_6 rfl 1 rfl ?_
  refine jn_icmp_ge (tgt := 20) (nxt := 10) dJ7_fill_53178_7 (by decide) rfl (fun _ => ?_) (fun hc => absurd (by decide) hc)
  exact jn_vret rfl dJ7_fill_53178_20
theorem xML_X7_22 : Cond.methodLink RX7 22 yJ7_fill_53178 ∈ jT := jT_t2 (i := 117) (by decide +kernel) (by decide +kernel)
def wCX7_init_185 (w : jWd) : jWd := (wCJ7_fill_53178_186 w)
def mCX7_init_185 (mk : Nat → Nat → Bool) : Nat → Nat → Bool := (mkS (mkS (mkS mk 185 0) 185 1) 185 2)
set_option maxRecDepth 100000 in
set_option maxHeartbeats 4000000 in
theorem cX7_init_185 {w : jWd} {mk : Nat → Nat → Bool} : JNM yX7_init MX7_init 2 3 248 [.ref 185] w 186 mk none (wCX7_init_185 w) 189 (mCX7_init_185 mk) := by
  refine jnm_of (by decide +kernel) rfl (Nat.le_of_ble_eq_true rfl) ?_
  show JN MX7_init 2 3 248 (none, (wCX7_init_185 w), 189, (mCX7_init_185 mk), 186, "<init>") w 186 mk 0 0 0 [(0, .ref 185)] []
  refine jn_aload_n dX7_init_0 rfl 0 rfl ?_
  refine jn_obj xML_X7_3 wOI.1 wOI.2 (by decide) (Nat.le_of_ble_eq_true rfl) dX7_init_1 ?_
  refine jn_aload_n dX7_init_4 rfl 0 rfl ?_
  refine jn_iconst (v := (4 : Int32)) dX7_init_5 (by decide) ?_
  refine jn_newa (k := 1) (ty := .int) rfl (by decide +kernel) (by decide) (fun _ => rfl) rfl rfl (by decide) wAC_int (by decide) (by decide +kernel) (by decide +kernel) (by decide) (by decide +kernel) (jrl_of rfl) (jrl_of rfl) dX7_init_6 ?_
  rw [show ln 186 = 4 from by decide +kernel]
  refine jn_putR (q := 6) (k := 0) (T := TX7) (ty0 := tyX7) (N := 3) (off := 1) (by decide) rfl rfl (by decide +kernel) (by decide) rfl (by decide) in_X7 tyX7_ok nmX7 rfl rfl xFL_X7_11 rfl rfl (by decide) (fun _ => rfl) (fun _ => rfl) dX7_init_8 ?_
  refine jn_aload_n dX7_init_11 rfl 0 rfl ?_
  refine jn_iconst (v := (4 : Int32)) dX7_init_12 (by decide) ?_
  refine jn_newa (k := 1) (ty := .int) rfl (by decide +kernel) (by decide) (fun _ => rfl) rfl rfl (by decide) wAC_int (by decide) (by decide +kernel) (by decide +kernel) (by decide) (by decide +kernel) (jrl_of rfl) (jrl_of rfl) dX7_init_13 ?_
  rw [show ln 187 = 4 from by decide +kernel]
  refine jn_putR (q := 6) (k := 1) (T := TX7) (ty0 := tyX7) (N := 3) (off := 2) (by decide) rfl rfl (by decide +kernel) (by decide) rfl (by decide) in_X7 tyX7_ok nmX7 rfl rfl xFL_X7_15 rfl rfl (by decide) (fun _ => rfl) (fun _ => rfl) dX7_init_15 ?_
  refine jn_aload_n dX7_init_18 rfl 0 rfl ?_
  refine jn_sipush (v := (240 : Int32)) dX7_init_19 (by decide) ?_
  refine jn_newl (by decide +kernel) wAC_long (by decide) (by decide +kernel) (by decide +kernel) (by decide) (by decide +kernel) (jrl_of rfl) (jrl_of rfl) dX7_init_22 ?_
  rw [show ln 188 = 240 from by decide +kernel]
  refine jn_putR (q := 6) (k := 2) (T := TX7) (ty0 := tyX7) (N := 3) (off := 3) (by decide) rfl rfl (by decide +kernel) (by decide) rfl (by decide) in_X7 tyX7_ok nmX7 rfl rfl xFL_X7_18 rfl rfl (by decide) (fun _ => rfl) (fun _ => rfl) dX7_init_24 ?_
  refine jn_aload_n dX7_init_27 rfl 0 rfl ?_
  refine jn_get (q := 6) (k := 0) (T := TX7) (N := 3) (v := .ref 186) (by decide) (by decide +kernel) (by decide) rfl (by decide) in_X7 rfl xFL_X7_11 (fun ρ => by rw [jfl_nth (f := some 1) rfl]; simp [jfm, mkS, jtg, jv, mCX5_init_2, mCX5_init_9, mCX5_init_16, mCX5_init_23, mCX1_init_32, mCX3_init_39, mCX0_init_41, mCX9_init_48, mCX10_init_55, mCX8_init_1, mCX5_init_62, mCX5_init_69, mCX5_init_76, mCX5_init_83, mCX1_init_92, mCX3_init_99, mCX0_init_101, mCX9_init_108, mCX10_init_115, mCX8_init_61, mCX5_init_122, mCX5_init_129, mCX5_init_136, mCX5_init_143, mCX1_init_152, mCX3_init_159, mCX0_init_161, mCX9_init_168, mCX10_init_175, mCX8_init_121, mCX2_init_182]) dX7_init_28 ?_
  refine jn_iconst (v := (-1 : Int32)) dX7_init_31 (by decide) ?_
  refine jn_callS xML_X7_22 jLn_J7_fill_53178 wST_J7_fill_53178 cJ7_fill_53178_186 (by decide) rfl rfl (Nat.le_of_ble_eq_true rfl) (jrl_of rfl) (jrl_of rfl) (Nat.le_refl _) (by decide) (by decide) dX7_init_32 ?_
  exact jn_vret rfl dX7_init_35
theorem xML_X11_37 : Cond.methodLink RX11 37 yX7_init ∈ jT := jT_t2 (i := 113) (by decide +kernel) (by decide +kernel)
theorem xFL_X11_38 : Cond.fieldLink RX11 38 RX11 (TX11 5).2.1 (TX11 5).2.2.1 ∈ jT := jT_t2 (i := 178) (by decide +kernel) (by decide +kernel)
theorem xCL_X11_42 : Cond.classLink RX11 42 RX6 ∈ jT := jT_t2 (i := 131) (by decide +kernel) (by decide +kernel)
theorem xIN_X6 : Cond.instantiable RX6 9 ∈ jT := jT_t2 (i := 132) (by decide +kernel) (by decide +kernel)
theorem xIN_X6I : Cond.initialized RX6 ∈ jT := jT_t1 (i := 13) (by decide +kernel) (by decide +kernel)
theorem xML_X6_3 : Cond.methodLink RX6 3 Lib.objectInit ∈ jT := jT_t2 (i := 136) (by decide +kernel) (by decide +kernel)
theorem xCL_X6_9 : Cond.classLink RX6 9 RX1 ∈ jT := jT_t2 (i := 137) (by decide +kernel) (by decide +kernel)
def mCX1_init_190 (mk : Nat → Nat → Bool) : Nat → Nat → Bool := (mkS (mkS (mkS (mkS (mkS (mkS mk 190 2) 190 3) 190 4) 190 5) 190 6) 190 7)
set_option maxRecDepth 100000 in
set_option maxHeartbeats 4000000 in
theorem cX1_init_190 {w : jWd} {mk : Nat → Nat → Bool} : JNM yX1_init MX1_init 1 6 448 [.ref 190] w 191 mk none w 197 (mCX1_init_190 mk) := by
  refine jnm_of (by decide +kernel) rfl (Nat.le_of_ble_eq_true rfl) ?_
  show JN MX1_init 1 6 448 (none, w, 197, (mCX1_init_190 mk), 191, "<init>") w 191 mk 0 0 0 [(0, .ref 190)] []
  refine jn_aload_n dX1_init_0 rfl 0 rfl ?_
  refine jn_obj xML_X1_3 wOI.1 wOI.2 (by decide) (Nat.le_of_ble_eq_true rfl) dX1_init_1 ?_
  refine jn_aload_n dX1_init_4 rfl 0 rfl ?_
  refine jn_bipush (v := (12 : Int32)) dX1_init_5 (by decide) ?_
  refine jn_newl (by decide +kernel) wAC_long (by decide) (by decide +kernel) (by decide +kernel) (by decide) (by decide +kernel) (jrl_of rfl) (jrl_of rfl) dX1_init_7 ?_
  rw [show ln 191 = 12 from by decide +kernel]
  refine jn_putR (q := 1) (k := 2) (T := TX1) (ty0 := tyX1) (N := 8) (off := 1) (by decide) rfl rfl (by decide +kernel) (by decide) rfl (by decide) in_X1 tyX1_ok nmX1 rfl rfl xFL_X1_11 rfl rfl (by decide) (fun _ => rfl) (fun _ => rfl) dX1_init_9 ?_
  refine jn_aload_n dX1_init_12 rfl 0 rfl ?_
  refine jn_bipush (v := (12 : Int32)) dX1_init_13 (by decide) ?_
  refine jn_newl (by decide +kernel) wAC_long (by decide) (by decide +kernel) (by decide +kernel) (by decide) (by decide +kernel) (jrl_of rfl) (jrl_of rfl) dX1_init_15 ?_
  rw [show ln 192 = 12 from by decide +kernel]
  refine jn_putR (q := 1) (k := 3) (T := TX1) (ty0 := tyX1) (N := 8) (off := 2) (by decide) rfl rfl (by decide +kernel) (by decide) rfl (by decide) in_X1 tyX1_ok nmX1 rfl rfl xFL_X1_15 rfl rfl (by decide) (fun _ => rfl) (fun _ => rfl) dX1_init_17 ?_
  refine jn_aload_n dX1_init_20 rfl 0 rfl ?_
  refine jn_bipush (v := (12 : Int32)) dX1_init_21 (by decide) ?_
  refine jn_newa (k := 1) (ty := .int) rfl (by decide +kernel) (by decide) (fun _ => rfl) rfl rfl (by decide) wAC_int (by decide) (by decide +kernel) (by decide +kernel) (by decide) (by decide +kernel) (jrl_of rfl) (jrl_of rfl) dX1_init_23 ?_
  rw [show ln 193 = 12 from by decide +kernel]
  refine jn_putR (q := 1) (k := 4) (T := TX1) (ty0 := tyX1) (N := 8) (off := 3) (by decide) rfl rfl (by decide +kernel) (by decide) rfl (by decide) in_X1 tyX1_ok nmX1 rfl rfl xFL_X1_18 rfl rfl (by decide) (fun _ => rfl) (fun _ => rfl) dX1_init_25 ?_
  refine jn_aload_n dX1_init_28 rfl 0 rfl ?_
  refine jn_bipush (v := (12 : Int32)) dX1_init_29 (by decide) ?_
  refine jn_newa (k := 1) (ty := .int) rfl (by decide +kernel) (by decide) (fun _ => rfl) rfl rfl (by decide) wAC_int (by decide) (by decide +kernel) (by decide +kernel) (by decide) (by decide +kernel) (jrl_of rfl) (jrl_of rfl) dX1_init_31 ?_
  rw [show ln 194 = 12 from by decide +kernel]
  refine jn_putR (q := 1) (k := 5) (T := TX1) (ty0 := tyX1) (N := 8) (off := 4) (by decide) rfl rfl (by decide +kernel) (by decide) rfl (by decide) in_X1 tyX1_ok nmX1 rfl rfl xFL_X1_22 rfl rfl (by decide) (fun _ => rfl) (fun _ => rfl) dX1_init_33 ?_
  refine jn_aload_n dX1_init_36 rfl 0 rfl ?_
  refine jn_sipush (v := (200 : Int32)) dX1_init_37 (by decide) ?_
  refine jn_newa (k := 1) (ty := .int) rfl (by decide +kernel) (by decide) (fun _ => rfl) rfl rfl (by decide) wAC_int (by decide) (by decide +kernel) (by decide +kernel) (by decide) (by decide +kernel) (jrl_of rfl) (jrl_of rfl) dX1_init_40 ?_
  rw [show ln 195 = 200 from by decide +kernel]
  refine jn_putR (q := 1) (k := 6) (T := TX1) (ty0 := tyX1) (N := 8) (off := 5) (by decide) rfl rfl (by decide +kernel) (by decide) rfl (by decide) in_X1 tyX1_ok nmX1 rfl rfl xFL_X1_25 rfl rfl (by decide) (fun _ => rfl) (fun _ => rfl) dX1_init_42 ?_
  refine jn_aload_n dX1_init_45 rfl 0 rfl ?_
  refine jn_sipush (v := (200 : Int32)) dX1_init_46 (by decide) ?_
  refine jn_newa (k := 1) (ty := .int) rfl (by decide +kernel) (by decide) (fun _ => rfl) rfl rfl (by decide) wAC_int (by decide) (by decide +kernel) (by decide +kernel) (by decide) (by decide +kernel) (jrl_of rfl) (jrl_of rfl) dX1_init_49 ?_
  rw [show ln 196 = 200 from by decide +kernel]
  refine jn_putR (q := 1) (k := 7) (T := TX1) (ty0 := tyX1) (N := 8) (off := 6) (by decide) rfl rfl (by decide +kernel) (by decide) rfl (by decide) in_X1 tyX1_ok nmX1 rfl rfl xFL_X1_28 rfl rfl (by decide) (fun _ => rfl) (fun _ => rfl) dX1_init_51 ?_
  exact jn_vret rfl dX1_init_54
theorem xFL_X6_12 : Cond.fieldLink RX6 12 RX6 (TX6 0).2.1 (TX6 0).2.2.1 ∈ jT := jT_t2 (i := 141) (by decide +kernel) (by decide +kernel)
theorem xCL_X6_18 : Cond.classLink RX6 18 RX3 ∈ jT := jT_t2 (i := 139) (by decide +kernel) (by decide +kernel)
def mCX3_init_197 (mk : Nat → Nat → Bool) : Nat → Nat → Bool := (mkS mk 197 4)
set_option maxRecDepth 100000 in
set_option maxHeartbeats 4000000 in
theorem cX3_init_197 {w : jWd} {mk : Nat → Nat → Bool} : JNM yX3_init MX3_init 1 1 256 [.ref 197] w 198 mk none w 199 (mCX3_init_197 mk) := by
  refine jnm_of (by decide +kernel) rfl (Nat.le_of_ble_eq_true rfl) ?_
  show JN MX3_init 1 1 256 (none, w, 199, (mCX3_init_197 mk), 198, "<init>") w 198 mk 0 0 0 [(0, .ref 197)] []
  refine jn_aload_n dX3_init_0 rfl 0 rfl ?_
  refine jn_obj xML_X3_3 wOI.1 wOI.2 (by decide) (Nat.le_of_ble_eq_true rfl) dX3_init_1 ?_
  refine jn_aload_n dX3_init_4 rfl 0 rfl ?_
  refine jn_sipush (v := (256 : Int32)) dX3_init_5 (by decide) ?_
  refine jn_newa (k := 1) (ty := .int) rfl (by decide +kernel) (by decide) (fun _ => rfl) rfl rfl (by decide) wAC_int (by decide) (by decide +kernel) (by decide +kernel) (by decide) (by decide +kernel) (jrl_of rfl) (jrl_of rfl) dX3_init_8 ?_
  rw [show ln 198 = 256 from by decide +kernel]
  refine jn_putR (q := 3) (k := 4) (T := TX3) (ty0 := tyX3) (N := 5) (off := 1) (by decide) rfl rfl (by decide +kernel) (by decide) rfl (by decide) in_X3 tyX3_ok nmX3 rfl rfl xFL_X3_9 rfl rfl (by decide) (fun _ => rfl) (fun _ => rfl) dX3_init_10 ?_
  exact jn_vret rfl dX3_init_13
theorem xFL_X6_21 : Cond.fieldLink RX6 21 RX6 (TX6 1).2.1 (TX6 1).2.2.1 ∈ jT := jT_t2 (i := 143) (by decide +kernel) (by decide +kernel)
theorem xFL_X6_25 : Cond.fieldLink RX6 25 RX6 (TX6 6).2.1 (TX6 6).2.2.1 ∈ jT := jT_t2 (i := 151) (by decide +kernel) (by decide +kernel)
theorem xFL_X6_29 : Cond.fieldLink RX6 29 RX6 (TX6 7).2.1 (TX6 7).2.2.1 ∈ jT := jT_t2 (i := 152) (by decide +kernel) (by decide +kernel)
theorem xFL_X6_32 : Cond.fieldLink RX6 32 RX6 (TX6 8).2.1 (TX6 8).2.2.1 ∈ jT := jT_t2 (i := 153) (by decide +kernel) (by decide +kernel)
def mCX6_init_189 (mk : Nat → Nat → Bool) : Nat → Nat → Bool := (mkS (mkS (mkS (mkS (mCX3_init_197 (mkS (mCX1_init_190 mk) 189 0)) 189 1) 189 6) 189 7) 189 8)
set_option maxRecDepth 100000 in
set_option maxHeartbeats 4000000 in
theorem cX6_init_189 {w : jWd} {mk : Nat → Nat → Bool} : JNM yX6_init MX6_init 2 12 1920 [.ref 189] w 190 mk none w 202 (mCX6_init_189 mk) := by
  refine jnm_of (by decide +kernel) rfl (Nat.le_of_ble_eq_true rfl) ?_
  show JN MX6_init 2 12 1920 (none, w, 202, (mCX6_init_189 mk), 190, "<init>") w 190 mk 0 0 0 [(0, .ref 189)] []
  refine jn_aload_n dX6_init_0 rfl 0 rfl ?_
  refine jn_obj xML_X6_3 wOI.1 wOI.2 (by decide) (Nat.le_of_ble_eq_true rfl) dX6_init_1 ?_
  refine jn_aload_n dX6_init_4 rfl 0 rfl ?_
  refine jn_new (q := 1) (N := 8) (T := TX1) (ty0 := tyX1) (by decide +kernel) (by decide) rfl in_X1 tyX1_ok xCL_X6_9 xIN_X1 xIN_X1I nz_1 (by decide) (by decide) (jrl_of rfl) (jrl_of rfl) dX6_init_5 ?_
  refine jn_dup dX6_init_8 rfl ?_
  refine jn_callN (host := "NobodysBard") (by decide +kernel) jLn_X1_init rfl rfl wIM_X1_init cX1_init_190 (by decide) rfl rfl (Nat.le_of_ble_eq_true rfl) (jrl_of rfl) (jrl_of rfl) (by decide) (by decide) (by decide +kernel) dX6_init_9 ?_
  refine jn_putR (q := 5) (k := 0) (T := TX6) (ty0 := tyX6) (N := 9) (off := 1) (by decide) rfl rfl (by decide +kernel) (by decide) rfl (by decide) in_X6 tyX6_ok nmX6 rfl rfl xFL_X6_12 rfl rfl (by decide) (fun _ => rfl) (fun _ => rfl) dX6_init_12 ?_
  refine jn_aload_n dX6_init_15 rfl 0 rfl ?_
  refine jn_new (q := 3) (N := 5) (T := TX3) (ty0 := tyX3) (by decide +kernel) (by decide) rfl in_X3 tyX3_ok xCL_X6_18 xIN_X3 xIN_X3I nz_3 (by decide) (by decide) (jrl_of rfl) (jrl_of rfl) dX6_init_16 ?_
  refine jn_dup dX6_init_19 rfl ?_
  refine jn_callN (host := "NobodysBard") (by decide +kernel) jLn_X3_init rfl rfl wIM_X3_init cX3_init_197 (by decide) rfl rfl (Nat.le_of_ble_eq_true rfl) (jrl_of rfl) (jrl_of rfl) (by decide) (by decide) (by decide +kernel) dX6_init_20 ?_
  refine jn_putR (q := 5) (k := 1) (T := TX6) (ty0 := tyX6) (N := 9) (off := 8) (by decide) rfl rfl (by decide +kernel) (by decide) rfl (by decide) in_X6 tyX6_ok nmX6 rfl rfl xFL_X6_21 rfl rfl (by decide) (fun _ => rfl) (fun _ => rfl) dX6_init_23 ?_
  refine jn_aload_n dX6_init_26 rfl 0 rfl ?_
  refine jn_sipush (v := (401 : Int32)) dX6_init_27 (by decide) ?_
  refine jn_newa (k := 1) (ty := .int) rfl (by decide +kernel) (by decide) (fun _ => rfl) rfl rfl (by decide) wAC_int (by decide) (by decide +kernel) (by decide +kernel) (by decide) (by decide +kernel) (jrl_of rfl) (jrl_of rfl) dX6_init_30 ?_
  rw [show ln 199 = 401 from by decide +kernel]
  refine jn_putR (q := 5) (k := 6) (T := TX6) (ty0 := tyX6) (N := 9) (off := 10) (by decide) rfl rfl (by decide +kernel) (by decide) rfl (by decide) in_X6 tyX6_ok nmX6 rfl rfl xFL_X6_25 rfl rfl (by decide) (fun _ => rfl) (fun _ => rfl) dX6_init_32 ?_
  refine jn_aload_n dX6_init_35 rfl 0 rfl ?_
  refine jn_sipush (v := (401 : Int32)) dX6_init_36 (by decide) ?_
  refine jn_newa (k := 1) (ty := .int) rfl (by decide +kernel) (by decide) (fun _ => rfl) rfl rfl (by decide) wAC_int (by decide) (by decide +kernel) (by decide +kernel) (by decide) (by decide +kernel) (jrl_of rfl) (jrl_of rfl) dX6_init_39 ?_
  rw [show ln 200 = 401 from by decide +kernel]
  refine jn_putR (q := 5) (k := 7) (T := TX6) (ty0 := tyX6) (N := 9) (off := 11) (by decide) rfl rfl (by decide +kernel) (by decide) rfl (by decide) in_X6 tyX6_ok nmX6 rfl rfl xFL_X6_29 rfl rfl (by decide) (fun _ => rfl) (fun _ => rfl) dX6_init_41 ?_
  refine jn_aload_n dX6_init_44 rfl 0 rfl ?_
  refine jn_sipush (v := (401 : Int32)) dX6_init_45 (by decide) ?_
  refine jn_newa (k := 1) (ty := .int) rfl (by decide +kernel) (by decide) (fun _ => rfl) rfl rfl (by decide) wAC_int (by decide) (by decide +kernel) (by decide +kernel) (by decide) (by decide +kernel) (jrl_of rfl) (jrl_of rfl) dX6_init_48 ?_
  rw [show ln 201 = 401 from by decide +kernel]
  refine jn_putR (q := 5) (k := 8) (T := TX6) (ty0 := tyX6) (N := 9) (off := 12) (by decide) rfl rfl (by decide +kernel) (by decide) rfl (by decide) in_X6 tyX6_ok nmX6 rfl rfl xFL_X6_32 rfl rfl (by decide) (fun _ => rfl) (fun _ => rfl) dX6_init_50 ?_
  exact jn_vret rfl dX6_init_53
theorem xFL_X11_45 : Cond.fieldLink RX11 45 RX11 (TX11 6).2.1 (TX11 6).2.2.1 ∈ jT := jT_t2 (i := 179) (by decide +kernel) (by decide +kernel)
theorem xFL_X11_49 : Cond.fieldLink RX11 49 RX11 (TX11 7).2.1 (TX11 7).2.2.1 ∈ jT := jT_t2 (i := 180) (by decide +kernel) (by decide +kernel)
theorem xFL_X11_53 : Cond.fieldLink RX11 53 RX11 (TX11 9).2.1 (TX11 9).2.2.1 ∈ jT := jT_t2 (i := 182) (by decide +kernel) (by decide +kernel)
theorem xFL_X11_57 : Cond.fieldLink RX11 57 RX11 (TX11 10).2.1 (TX11 10).2.2.1 ∈ jT := jT_t2 (i := 183) (by decide +kernel) (by decide +kernel)
def wCX11_init_0 (w : jWd) : jWd := (wCX7_init_185 (wCX8_init_121 (wCX8_init_61 (wCX8_init_1 w))))
def mCX11_init_0 (mk : Nat → Nat → Bool) : Nat → Nat → Bool := (mkS (mkS (mkS (mkS (mCX6_init_189 (mkS (mCX7_init_185 (mkS (mCX2_init_182 (mkS (mkS (mCX8_init_121 (mkS (mCX8_init_61 (mkS (mCX8_init_1 mk) 0 0)) 0 1)) 0 2) 0 3)) 0 4)) 0 5)) 0 6) 0 7) 0 9) 0 10)
set_option maxRecDepth 100000 in
set_option maxHeartbeats 4000000 in
theorem cX11_init_0 {w : jWd} {mk : Nat → Nat → Bool} (hz1 : wI w 16 2 = (0 : Int32)) (hz2 : wI w 76 2 = (0 : Int32)) (hz3 : wI w 136 2 = (0 : Int32)) : JNM yX11_init MX11_init 4 204 16042 [.ref 0] w 1 mk none (wCX11_init_0 w) 205 (mCX11_init_0 mk) := by
  refine jnm_of (by decide +kernel) rfl (Nat.le_of_ble_eq_true rfl) ?_
  show JN MX11_init 4 204 16042 (none, (wCX11_init_0 w), 205, (mCX11_init_0 mk), 1, "<init>") w 1 mk 0 0 0 [(0, .ref 0)] []
  refine jn_aload_n dX11_init_0 rfl 0 rfl ?_
  refine jn_obj xML_X11_1 wOI.1 wOI.2 (by decide) (Nat.le_of_ble_eq_true rfl) dX11_init_1 ?_
  refine jn_aload_n dX11_init_4 rfl 0 rfl ?_
  refine jn_new (q := 7) (N := 13) (T := TX8) (ty0 := tyX8) (by decide +kernel) (by decide) rfl in_X8 tyX8_ok xCL_X11_7 xIN_X8 xIN_X8I nz_7 (by decide) (by decide) (jrl_of rfl) (jrl_of rfl) dX11_init_5 ?_
  refine jn_dup dX11_init_8 rfl ?_
  refine jn_callI xML_X11_9 jLn_X8_init rfl rfl wIM_X8_init (cX8_init_1 (by simp [wI_sI, wCX5_init_2, wCX5_init_9, wCX5_init_16, wCX5_init_23, wCX5_start_16, wCX8_init_1, hz1, hz2, hz3])) (by decide) rfl rfl (Nat.le_of_ble_eq_true rfl) (jrl_of rfl) (jrl_of rfl) (by decide) (by decide) (by decide +kernel) dX11_init_9 ?_
  refine jn_putR (q := 10) (k := 0) (T := TX11) (ty0 := tyX11) (N := 11) (off := 1) (by decide) rfl rfl (by decide +kernel) (by decide) rfl (by decide) in_X11 tyX11_ok nmX11 rfl rfl xFL_X11_10 rfl rfl (by decide) (fun _ => rfl) (fun _ => rfl) dX11_init_12 ?_
  refine jn_aload_n dX11_init_15 rfl 0 rfl ?_
  refine jn_new (q := 7) (N := 13) (T := TX8) (ty0 := tyX8) (by decide +kernel) (by decide) rfl in_X8 tyX8_ok xCL_X11_7 xIN_X8 xIN_X8I nz_7 (by decide) (by decide) (jrl_of rfl) (jrl_of rfl) dX11_init_16 ?_
  refine jn_dup dX11_init_19 rfl ?_
  refine jn_callI xML_X11_9 jLn_X8_init rfl rfl wIM_X8_init (cX8_init_61 (by simp [wI_sI, wCX5_init_2, wCX5_init_9, wCX5_init_16, wCX5_init_23, wCX5_start_16, wCX8_init_1, wCX5_init_62, wCX5_init_69, wCX5_init_76, wCX5_init_83, wCX5_start_76, wCX8_init_61, hz1, hz2, hz3])) (by decide) rfl rfl (Nat.le_of_ble_eq_true rfl) (jrl_of rfl) (jrl_of rfl) (by decide) (by decide) (by decide +kernel) dX11_init_20 ?_
  refine jn_putR (q := 10) (k := 1) (T := TX11) (ty0 := tyX11) (N := 11) (off := 61) (by decide) rfl rfl (by decide +kernel) (by decide) rfl (by decide) in_X11 tyX11_ok nmX11 rfl rfl xFL_X11_16 rfl rfl (by decide) (fun _ => rfl) (fun _ => rfl) dX11_init_23 ?_
  refine jn_aload_n dX11_init_26 rfl 0 rfl ?_
  refine jn_new (q := 7) (N := 13) (T := TX8) (ty0 := tyX8) (by decide +kernel) (by decide) rfl in_X8 tyX8_ok xCL_X11_7 xIN_X8 xIN_X8I nz_7 (by decide) (by decide) (jrl_of rfl) (jrl_of rfl) dX11_init_27 ?_
  refine jn_dup dX11_init_30 rfl ?_
  refine jn_callI xML_X11_9 jLn_X8_init rfl rfl wIM_X8_init (cX8_init_121 (by simp [wI_sI, wCX5_init_2, wCX5_init_9, wCX5_init_16, wCX5_init_23, wCX5_start_16, wCX8_init_1, wCX5_init_62, wCX5_init_69, wCX5_init_76, wCX5_init_83, wCX5_start_76, wCX8_init_61, wCX5_init_122, wCX5_init_129, wCX5_init_136, wCX5_init_143, wCX5_start_136, wCX8_init_121, hz1, hz2, hz3])) (by decide) rfl rfl (Nat.le_of_ble_eq_true rfl) (jrl_of rfl) (jrl_of rfl) (by decide) (by decide) (by decide +kernel) dX11_init_31 ?_
  refine jn_putR (q := 10) (k := 2) (T := TX11) (ty0 := tyX11) (N := 11) (off := 121) (by decide) rfl rfl (by decide +kernel) (by decide) rfl (by decide) in_X11 tyX11_ok nmX11 rfl rfl xFL_X11_19 rfl rfl (by decide) (fun _ => rfl) (fun _ => rfl) dX11_init_34 ?_
  refine jn_aload_n dX11_init_37 rfl 0 rfl ?_
  refine jn_iconst (v := (2 : Int32)) dX11_init_38 (by decide) ?_
  refine jn_newa (k := 3) (ty := .boolean) rfl (by decide +kernel) (by decide) (fun _ => rfl) rfl rfl (by decide) wAC_boolean (by decide) (by decide +kernel) (by decide +kernel) (by decide) (by decide +kernel) (jrl_of rfl) (jrl_of rfl) dX11_init_39 ?_
  rw [show ln 181 = 2 from by decide +kernel]
  refine jn_putR (q := 10) (k := 3) (T := TX11) (ty0 := tyX11) (N := 11) (off := 181) (by decide) rfl rfl (by decide +kernel) (by decide) rfl (by decide) in_X11 tyX11_ok nmX11 rfl rfl xFL_X11_22 rfl rfl (by decide) (fun _ => rfl) (fun _ => rfl) dX11_init_41 ?_
  refine jn_aload_n dX11_init_44 rfl 0 rfl ?_
  refine jn_new (q := 2) (N := 6) (T := TX2) (ty0 := tyX2) (by decide +kernel) (by decide) rfl in_X2 tyX2_ok xCL_X11_26 xIN_X2 xIN_X2I nz_2 (by decide) (by decide) (jrl_of rfl) (jrl_of rfl) dX11_init_45 ?_
  refine jn_dup dX11_init_48 rfl ?_
  refine jn_aload_n dX11_init_49 rfl 0 rfl ?_
  refine jn_get (q := 10) (k := 0) (T := TX11) (N := 11) (v := .ref 1) (by decide) (by decide +kernel) (by decide) rfl (by decide) in_X11 rfl xFL_X11_10 (fun ρ => by rw [jfl_nth (f := some 1) rfl]; simp [jfm, mkS, jtg, jv, mCX5_init_2, mCX5_init_9, mCX5_init_16, mCX5_init_23, mCX1_init_32, mCX3_init_39, mCX0_init_41, mCX9_init_48, mCX10_init_55, mCX8_init_1, mCX5_init_62, mCX5_init_69, mCX5_init_76, mCX5_init_83, mCX1_init_92, mCX3_init_99, mCX0_init_101, mCX9_init_108, mCX10_init_115, mCX8_init_61, mCX5_init_122, mCX5_init_129, mCX5_init_136, mCX5_init_143, mCX1_init_152, mCX3_init_159, mCX0_init_161, mCX9_init_168, mCX10_init_175, mCX8_init_121]) dX11_init_50 ?_
  refine jn_callI xML_X11_28 jLn_X2_init rfl rfl wIM_X2_init cX2_init_182 (by decide) rfl rfl (Nat.le_of_ble_eq_true rfl) (jrl_of rfl) (jrl_of rfl) (by decide) (by decide) (by decide +kernel) dX11_init_53 ?_
  refine jn_putR (q := 10) (k := 4) (T := TX11) (ty0 := tyX11) (N := 11) (off := 182) (by decide) rfl rfl (by decide +kernel) (by decide) rfl (by decide) in_X11 tyX11_ok nmX11 rfl rfl xFL_X11_31 rfl rfl (by decide) (fun _ => rfl) (fun _ => rfl) dX11_init_56 ?_
  refine jn_aload_n dX11_init_59 rfl 0 rfl ?_
  refine jn_new (q := 6) (N := 3) (T := TX7) (ty0 := tyX7) (by decide +kernel) (by decide) rfl in_X7 tyX7_ok xCL_X11_35 xIN_X7 xIN_X7I nz_6 (by decide) (by decide) (jrl_of rfl) (jrl_of rfl) dX11_init_60 ?_
  refine jn_dup dX11_init_63 rfl ?_
  refine jn_callI xML_X11_37 jLn_X7_init rfl rfl wIM_X7_init cX7_init_185 (by decide) rfl rfl (Nat.le_of_ble_eq_true rfl) (jrl_of rfl) (jrl_of rfl) (by decide) (by decide) (by decide +kernel) dX11_init_64 ?_
  refine jn_putR (q := 10) (k := 5) (T := TX11) (ty0 := tyX11) (N := 11) (off := 185) (by decide) rfl rfl (by decide +kernel) (by decide) rfl (by decide) in_X11 tyX11_ok nmX11 rfl rfl xFL_X11_38 rfl rfl (by decide) (fun _ => rfl) (fun _ => rfl) dX11_init_67 ?_
  refine jn_aload_n dX11_init_70 rfl 0 rfl ?_
  refine jn_new (q := 5) (N := 9) (T := TX6) (ty0 := tyX6) (by decide +kernel) (by decide) rfl in_X6 tyX6_ok xCL_X11_42 xIN_X6 xIN_X6I nz_5 (by decide) (by decide) (jrl_of rfl) (jrl_of rfl) dX11_init_71 ?_
  refine jn_dup dX11_init_74 rfl ?_
  refine jn_callN (host := "NobodysBard") (by decide +kernel) jLn_X6_init rfl rfl wIM_X6_init cX6_init_189 (by decide) rfl rfl (Nat.le_of_ble_eq_true rfl) (jrl_of rfl) (jrl_of rfl) (by decide) (by decide) (by decide +kernel) dX11_init_75 ?_
  refine jn_putR (q := 10) (k := 6) (T := TX11) (ty0 := tyX11) (N := 11) (off := 189) (by decide) rfl rfl (by decide +kernel) (by decide) rfl (by decide) in_X11 tyX11_ok nmX11 rfl rfl xFL_X11_45 rfl rfl (by decide) (fun _ => rfl) (fun _ => rfl) dX11_init_78 ?_
  refine jn_aload_n dX11_init_81 rfl 0 rfl ?_
  refine jn_sipush (v := (400 : Int32)) dX11_init_82 (by decide) ?_
  refine jn_newa (k := 0) (ty := .byte) rfl (by decide +kernel) (by decide) (fun _ => rfl) rfl rfl (by decide) wAC_byte (by decide) (by decide +kernel) (by decide +kernel) (by decide) (by decide +kernel) (jrl_of rfl) (jrl_of rfl) dX11_init_85 ?_
  rw [show ln 202 = 400 from by decide +kernel]
  refine jn_putR (q := 10) (k := 7) (T := TX11) (ty0 := tyX11) (N := 11) (off := 202) (by decide) rfl rfl (by decide +kernel) (by decide) rfl (by decide) in_X11 tyX11_ok nmX11 rfl rfl xFL_X11_49 rfl rfl (by decide) (fun _ => rfl) (fun _ => rfl) dX11_init_87 ?_
  refine jn_aload_n dX11_init_90 rfl 0 rfl ?_
  refine jn_bipush (v := (12 : Int32)) dX11_init_91 (by decide) ?_
  refine jn_newl (by decide +kernel) wAC_long (by decide) (by decide +kernel) (by decide +kernel) (by decide) (by decide +kernel) (jrl_of rfl) (jrl_of rfl) dX11_init_93 ?_
  rw [show ln 203 = 12 from by decide +kernel]
  refine jn_putR (q := 10) (k := 9) (T := TX11) (ty0 := tyX11) (N := 11) (off := 203) (by decide) rfl rfl (by decide +kernel) (by decide) rfl (by decide) in_X11 tyX11_ok nmX11 rfl rfl xFL_X11_53 rfl rfl (by decide) (fun _ => rfl) (fun _ => rfl) dX11_init_95 ?_
  refine jn_aload_n dX11_init_98 rfl 0 rfl ?_
  refine jn_bipush (v := (8 : Int32)) dX11_init_99 (by decide) ?_
  refine jn_newa (k := 1) (ty := .int) rfl (by decide +kernel) (by decide) (fun _ => rfl) rfl rfl (by decide) wAC_int (by decide) (by decide +kernel) (by decide +kernel) (by decide) (by decide +kernel) (jrl_of rfl) (jrl_of rfl) dX11_init_101 ?_
  rw [show ln 204 = 8 from by decide +kernel]
  refine jn_putR (q := 10) (k := 10) (T := TX11) (ty0 := tyX11) (N := 11) (off := 204) (by decide) rfl rfl (by decide +kernel) (by decide) rfl (by decide) in_X11 tyX11_ok nmX11 rfl rfl xFL_X11_57 rfl rfl (by decide) (fun _ => rfl) (fun _ => rfl) dX11_init_103 ?_
  exact jn_vret rfl dX11_init_106
theorem xML_X12_11 : Cond.methodLink RX12 11 Lib.objectInit ∈ jT := jT_t6 (i := 35) (by decide +kernel) (by decide +kernel)
theorem xFL_X12_7 : Cond.fieldLink RX12 7 RX12 (TX12 1).2.1 (TX12 1).2.2.1 ∈ jT := jT_t6 (i := 37) (by decide +kernel) (by decide +kernel)
theorem xFL_X12_17 : Cond.fieldLink RX12 17 RX12 (TX12 2).2.1 (TX12 2).2.2.1 ∈ jT := jT_t6 (i := 38) (by decide +kernel) (by decide +kernel)
theorem xFL_X12_20 : Cond.fieldLink RX12 20 RX12 (TX12 3).2.1 (TX12 3).2.2.1 ∈ jT := jT_t6 (i := 39) (by decide +kernel) (by decide +kernel)
theorem xFL_X12_24 : Cond.fieldLink RX12 24 RX12 (TX12 4).2.1 (TX12 4).2.2.1 ∈ jT := jT_t6 (i := 40) (by decide +kernel) (by decide +kernel)
theorem xFL_X12_28 : Cond.fieldLink RX12 28 RX12 (TX12 5).2.1 (TX12 5).2.2.1 ∈ jT := jT_t6 (i := 41) (by decide +kernel) (by decide +kernel)
theorem xFL_X12_31 : Cond.fieldLink RX12 31 RX12 (TX12 6).2.1 (TX12 6).2.2.1 ∈ jT := jT_t6 (i := 42) (by decide +kernel) (by decide +kernel)
theorem xFL_X12_34 : Cond.fieldLink RX12 34 RX12 (TX12 7).2.1 (TX12 7).2.2.1 ∈ jT := jT_t6 (i := 43) (by decide +kernel) (by decide +kernel)
theorem xFL_X12_37 : Cond.fieldLink RX12 37 RX12 (TX12 8).2.1 (TX12 8).2.2.1 ∈ jT := jT_t6 (i := 44) (by decide +kernel) (by decide +kernel)
theorem xFL_X12_40 : Cond.fieldLink RX12 40 RX12 (TX12 20).2.1 (TX12 20).2.2.1 ∈ jT := jT_t6 (i := 56) (by decide +kernel) (by decide +kernel)
theorem xFL_X12_43 : Cond.fieldLink RX12 43 RX12 (TX12 21).2.1 (TX12 21).2.2.1 ∈ jT := jT_t6 (i := 57) (by decide +kernel) (by decide +kernel)
theorem xFL_X12_46 : Cond.fieldLink RX12 46 RX12 (TX12 22).2.1 (TX12 22).2.2.1 ∈ jT := jT_t6 (i := 58) (by decide +kernel) (by decide +kernel)
theorem xFL_X12_49 : Cond.fieldLink RX12 49 RX12 (TX12 24).2.1 (TX12 24).2.2.1 ∈ jT := jT_t6 (i := 60) (by decide +kernel) (by decide +kernel)
theorem xFL_X12_52 : Cond.fieldLink RX12 52 RX12 (TX12 26).2.1 (TX12 26).2.2.1 ∈ jT := jT_t6 (i := 62) (by decide +kernel) (by decide +kernel)
theorem xFL_X12_55 : Cond.fieldLink RX12 55 RX12 (TX12 27).2.1 (TX12 27).2.2.1 ∈ jT := jT_t6 (i := 63) (by decide +kernel) (by decide +kernel)
theorem xFL_X12_58 : Cond.fieldLink RX12 58 RX12 (TX12 31).2.1 (TX12 31).2.2.1 ∈ jT := jT_t6 (i := 67) (by decide +kernel) (by decide +kernel)
theorem xFL_X12_61 : Cond.fieldLink RX12 61 RX12 (TX12 34).2.1 (TX12 34).2.2.1 ∈ jT := jT_t6 (i := 70) (by decide +kernel) (by decide +kernel)
theorem xFL_X12_64 : Cond.fieldLink RX12 64 RX12 (TX12 35).2.1 (TX12 35).2.2.1 ∈ jT := jT_t6 (i := 71) (by decide +kernel) (by decide +kernel)
theorem xFL_X12_67 : Cond.fieldLink RX12 67 RX12 (TX12 36).2.1 (TX12 36).2.2.1 ∈ jT := jT_t6 (i := 72) (by decide +kernel) (by decide +kernel)
theorem xFL_X12_70 : Cond.fieldLink RX12 70 RX12 (TX12 37).2.1 (TX12 37).2.2.1 ∈ jT := jT_t6 (i := 73) (by decide +kernel) (by decide +kernel)
def wCX12_init_205 (w : jWd) : jWd := (sI (sI (sI (sI (sI (sI (sI (sI w 205 20 (-1 : Int32)) 221 0 (-1 : Int32)) 221 1 (-1 : Int32)) 221 2 (-1 : Int32)) 221 3 (-1 : Int32)) 207 161 (5000 : Int32)) 207 248 (80 : Int32)) 207 249 (50 : Int32))
def mCX12_init_205 (mk : Nat → Nat → Bool) : Nat → Nat → Bool := (mkS (mkS (mkS (mkS (mkS (mkS (mkS (mkS (mkS (mkS (mkS (mkS (mkS (mkS (mkS (mkS (mkS (mkS mk 205 1) 205 2) 205 3) 205 4) 205 5) 205 6) 205 7) 205 8) 205 21) 205 22) 205 24) 205 26) 205 27) 205 31) 205 34) 205 35) 205 36) 205 37)
set_option maxRecDepth 100000 in
set_option maxHeartbeats 4000000 in
theorem cX12_init_205 {w : jWd} {mk : Nat → Nat → Bool} : JNM yX12_init MX12_init 1 18 10193 [.ref 205] w 206 mk none (wCX12_init_205 w) 224 (mCX12_init_205 mk) := by
  refine jnm_of (by decide +kernel) rfl (Nat.le_of_ble_eq_true rfl) ?_
  show JN MX12_init 1 18 10193 (none, (wCX12_init_205 w), 224, (mCX12_init_205 mk), 206, "<init>") w 206 mk 0 0 0 [(0, .ref 205)] []
  refine jn_aload_n dX12_init_0 rfl 0 rfl ?_
  refine jn_obj xML_X12_11 wOI.1 wOI.2 (by decide) (Nat.le_of_ble_eq_true rfl) dX12_init_1 ?_
  refine jn_aload_n dX12_init_4 rfl 0 rfl ?_
  refine jn_bipush (v := (8 : Int32)) dX12_init_5 (by decide) ?_
  refine jn_newa (k := 1) (ty := .int) rfl (by decide +kernel) (by decide) (fun _ => rfl) rfl rfl (by decide) wAC_int (by decide) (by decide +kernel) (by decide +kernel) (by decide) (by decide +kernel) (jrl_of rfl) (jrl_of rfl) dX12_init_7 ?_
  rw [show ln 206 = 8 from by decide +kernel]
  refine jn_putR (q := 11) (k := 1) (T := TX12) (ty0 := tyX12) (N := 38) (off := 1) (by decide) rfl rfl (by decide +kernel) (by decide) rfl (by decide) in_X12 tyX12_ok nmX12 rfl rfl xFL_X12_7 rfl rfl (by decide) (fun _ => rfl) (fun _ => rfl) dX12_init_9 ?_
  refine jn_aload_n dX12_init_12 rfl 0 rfl ?_
  refine jn_sipush (v := (3372 : Int32)) dX12_init_13 (by decide) ?_
  refine jn_newa (k := 1) (ty := .int) rfl (by decide +kernel) (by decide) (fun _ => rfl) rfl rfl (by decide) wAC_int (by decide) (by decide +kernel) (by decide +kernel) (by decide) (by decide +kernel) (jrl_of rfl) (jrl_of rfl) dX12_init_16 ?_
  rw [show ln 207 = 3372 from by decide +kernel]
  refine jn_putR (q := 11) (k := 2) (T := TX12) (ty0 := tyX12) (N := 38) (off := 2) (by decide) rfl rfl (by decide +kernel) (by decide) rfl (by decide) in_X12 tyX12_ok nmX12 rfl rfl xFL_X12_17 rfl rfl (by decide) (fun _ => rfl) (fun _ => rfl) dX12_init_18 ?_
  refine jn_aload_n dX12_init_21 rfl 0 rfl ?_
  refine jn_sipush (v := (2352 : Int32)) dX12_init_22 (by decide) ?_
  refine jn_newl (by decide +kernel) wAC_long (by decide) (by decide +kernel) (by decide +kernel) (by decide) (by decide +kernel) (jrl_of rfl) (jrl_of rfl) dX12_init_25 ?_
  rw [show ln 208 = 2352 from by decide +kernel]
  refine jn_putR (q := 11) (k := 3) (T := TX12) (ty0 := tyX12) (N := 38) (off := 3) (by decide) rfl rfl (by decide +kernel) (by decide) rfl (by decide) in_X12 tyX12_ok nmX12 rfl rfl xFL_X12_20 rfl rfl (by decide) (fun _ => rfl) (fun _ => rfl) dX12_init_27 ?_
  refine jn_aload_n dX12_init_30 rfl 0 rfl ?_
  refine jn_iconst (v := (2 : Int32)) dX12_init_31 (by decide) ?_
  refine jn_newa (k := 3) (ty := .boolean) rfl (by decide +kernel) (by decide) (fun _ => rfl) rfl rfl (by decide) wAC_boolean (by decide) (by decide +kernel) (by decide +kernel) (by decide) (by decide +kernel) (jrl_of rfl) (jrl_of rfl) dX12_init_32 ?_
  rw [show ln 209 = 2 from by decide +kernel]
  refine jn_putR (q := 11) (k := 4) (T := TX12) (ty0 := tyX12) (N := 38) (off := 4) (by decide) rfl rfl (by decide +kernel) (by decide) rfl (by decide) in_X12 tyX12_ok nmX12 rfl rfl xFL_X12_24 rfl rfl (by decide) (fun _ => rfl) (fun _ => rfl) dX12_init_34 ?_
  refine jn_aload_n dX12_init_37 rfl 0 rfl ?_
  refine jn_bipush (v := (81 : Int32)) dX12_init_38 (by decide) ?_
  refine jn_newa (k := 1) (ty := .int) rfl (by decide +kernel) (by decide) (fun _ => rfl) rfl rfl (by decide) wAC_int (by decide) (by decide +kernel) (by decide +kernel) (by decide) (by decide +kernel) (jrl_of rfl) (jrl_of rfl) dX12_init_40 ?_
  rw [show ln 210 = 81 from by decide +kernel]
  refine jn_putR (q := 11) (k := 5) (T := TX12) (ty0 := tyX12) (N := 38) (off := 5) (by decide) rfl rfl (by decide +kernel) (by decide) rfl (by decide) in_X12 tyX12_ok nmX12 rfl rfl xFL_X12_28 rfl rfl (by decide) (fun _ => rfl) (fun _ => rfl) dX12_init_42 ?_
  refine jn_aload_n dX12_init_45 rfl 0 rfl ?_
  refine jn_sipush (v := (2580 : Int32)) dX12_init_46 (by decide) ?_
  refine jn_newa (k := 1) (ty := .int) rfl (by decide +kernel) (by decide) (fun _ => rfl) rfl rfl (by decide) wAC_int (by decide) (by decide +kernel) (by decide +kernel) (by decide) (by decide +kernel) (jrl_of rfl) (jrl_of rfl) dX12_init_49 ?_
  rw [show ln 211 = 2580 from by decide +kernel]
  refine jn_putR (q := 11) (k := 6) (T := TX12) (ty0 := tyX12) (N := 38) (off := 6) (by decide) rfl rfl (by decide +kernel) (by decide) rfl (by decide) in_X12 tyX12_ok nmX12 rfl rfl xFL_X12_31 rfl rfl (by decide) (fun _ => rfl) (fun _ => rfl) dX12_init_51 ?_
  refine jn_aload_n dX12_init_54 rfl 0 rfl ?_
  refine jn_bipush (v := (116 : Int32)) dX12_init_55 (by decide) ?_
  refine jn_newa (k := 1) (ty := .int) rfl (by decide +kernel) (by decide) (fun _ => rfl) rfl rfl (by decide) wAC_int (by decide) (by decide +kernel) (by decide +kernel) (by decide) (by decide +kernel) (jrl_of rfl) (jrl_of rfl) dX12_init_57 ?_
  rw [show ln 212 = 116 from by decide +kernel]
  refine jn_putR (q := 11) (k := 7) (T := TX12) (ty0 := tyX12) (N := 38) (off := 7) (by decide) rfl rfl (by decide +kernel) (by decide) rfl (by decide) in_X12 tyX12_ok nmX12 rfl rfl xFL_X12_34 rfl rfl (by decide) (fun _ => rfl) (fun _ => rfl) dX12_init_59 ?_
  refine jn_aload_n dX12_init_62 rfl 0 rfl ?_
  refine jn_sipush (v := (400 : Int32)) dX12_init_63 (by decide) ?_
  refine jn_newa (k := 1) (ty := .int) rfl (by decide +kernel) (by decide) (fun _ => rfl) rfl rfl (by decide) wAC_int (by decide) (by decide +kernel) (by decide +kernel) (by decide) (by decide +kernel) (jrl_of rfl) (jrl_of rfl) dX12_init_66 ?_
  rw [show ln 213 = 400 from by decide +kernel]
  refine jn_putR (q := 11) (k := 8) (T := TX12) (ty0 := tyX12) (N := 38) (off := 8) (by decide) rfl rfl (by decide +kernel) (by decide) rfl (by decide) in_X12 tyX12_ok nmX12 rfl rfl xFL_X12_37 rfl rfl (by decide) (fun _ => rfl) (fun _ => rfl) dX12_init_68 ?_
  refine jn_aload_n dX12_init_71 rfl 0 rfl ?_
  refine jn_iconst (v := (-1 : Int32)) dX12_init_72 (by decide) ?_
  refine jn_put (q := 11) (k := 20) (T := TX12) (ty0 := tyX12) (N := 38) (by decide) (by decide +kernel) (by decide) rfl (by decide) in_X12 tyX12_ok nmX12 rfl rfl rfl xFL_X12_40 rfl dX12_init_73 ?_
  refine jn_aload_n dX12_init_76 rfl 0 rfl ?_
  refine jn_bipush (v := (8 : Int32)) dX12_init_77 (by decide) ?_
  refine jn_newa (k := 1) (ty := .int) rfl (by decide +kernel) (by decide) (fun _ => rfl) rfl rfl (by decide) wAC_int (by decide) (by decide +kernel) (by decide +kernel) (by decide) (by decide +kernel) (jrl_of rfl) (jrl_of rfl) dX12_init_79 ?_
  rw [show ln 214 = 8 from by decide +kernel]
  refine jn_putR (q := 11) (k := 21) (T := TX12) (ty0 := tyX12) (N := 38) (off := 9) (by decide) rfl rfl (by decide +kernel) (by decide) rfl (by decide) in_X12 tyX12_ok nmX12 rfl rfl xFL_X12_43 rfl rfl (by decide) (fun _ => rfl) (fun _ => rfl) dX12_init_81 ?_
  refine jn_aload_n dX12_init_84 rfl 0 rfl ?_
  refine jn_bipush (v := (12 : Int32)) dX12_init_85 (by decide) ?_
  refine jn_newa (k := 1) (ty := .int) rfl (by decide +kernel) (by decide) (fun _ => rfl) rfl rfl (by decide) wAC_int (by decide) (by decide +kernel) (by decide +kernel) (by decide) (by decide +kernel) (jrl_of rfl) (jrl_of rfl) dX12_init_87 ?_
  rw [show ln 215 = 12 from by decide +kernel]
  refine jn_putR (q := 11) (k := 22) (T := TX12) (ty0 := tyX12) (N := 38) (off := 10) (by decide) rfl rfl (by decide +kernel) (by decide) rfl (by decide) in_X12 tyX12_ok nmX12 rfl rfl xFL_X12_46 rfl rfl (by decide) (fun _ => rfl) (fun _ => rfl) dX12_init_89 ?_
  refine jn_aload_n dX12_init_92 rfl 0 rfl ?_
  refine jn_sipush (v := (260 : Int32)) dX12_init_93 (by decide) ?_
  refine jn_newa (k := 3) (ty := .boolean) rfl (by decide +kernel) (by decide) (fun _ => rfl) rfl rfl (by decide) wAC_boolean (by decide) (by decide +kernel) (by decide +kernel) (by decide) (by decide +kernel) (jrl_of rfl) (jrl_of rfl) dX12_init_96 ?_
  rw [show ln 216 = 260 from by decide +kernel]
  refine jn_putR (q := 11) (k := 24) (T := TX12) (ty0 := tyX12) (N := 38) (off := 11) (by decide) rfl rfl (by decide +kernel) (by decide) rfl (by decide) in_X12 tyX12_ok nmX12 rfl rfl xFL_X12_49 rfl rfl (by decide) (fun _ => rfl) (fun _ => rfl) dX12_init_98 ?_
  refine jn_aload_n dX12_init_101 rfl 0 rfl ?_
  refine jn_bipush (v := (12 : Int32)) dX12_init_102 (by decide) ?_
  refine jn_newl (by decide +kernel) wAC_long (by decide) (by decide +kernel) (by decide +kernel) (by decide) (by decide +kernel) (jrl_of rfl) (jrl_of rfl) dX12_init_104 ?_
  rw [show ln 217 = 12 from by decide +kernel]
  refine jn_putR (q := 11) (k := 26) (T := TX12) (ty0 := tyX12) (N := 38) (off := 12) (by decide) rfl rfl (by decide +kernel) (by decide) rfl (by decide) in_X12 tyX12_ok nmX12 rfl rfl xFL_X12_52 rfl rfl (by decide) (fun _ => rfl) (fun _ => rfl) dX12_init_106 ?_
  refine jn_aload_n dX12_init_109 rfl 0 rfl ?_
  refine jn_sipush (v := (480 : Int32)) dX12_init_110 (by decide) ?_
  refine jn_newl (by decide +kernel) wAC_long (by decide) (by decide +kernel) (by decide +kernel) (by decide) (by decide +kernel) (jrl_of rfl) (jrl_of rfl) dX12_init_113 ?_
  rw [show ln 218 = 480 from by decide +kernel]
  refine jn_putR (q := 11) (k := 27) (T := TX12) (ty0 := tyX12) (N := 38) (off := 13) (by decide) rfl rfl (by decide +kernel) (by decide) rfl (by decide) in_X12 tyX12_ok nmX12 rfl rfl xFL_X12_55 rfl rfl (by decide) (fun _ => rfl) (fun _ => rfl) dX12_init_115 ?_
  refine jn_aload_n dX12_init_118 rfl 0 rfl ?_
  refine jn_bipush (v := (6 : Int32)) dX12_init_119 (by decide) ?_
  refine jn_newa (k := 1) (ty := .int) rfl (by decide +kernel) (by decide) (fun _ => rfl) rfl rfl (by decide) wAC_int (by decide) (by decide +kernel) (by decide +kernel) (by decide) (by decide +kernel) (jrl_of rfl) (jrl_of rfl) dX12_init_121 ?_
  rw [show ln 219 = 6 from by decide +kernel]
  refine jn_putR (q := 11) (k := 31) (T := TX12) (ty0 := tyX12) (N := 38) (off := 14) (by decide) rfl rfl (by decide +kernel) (by decide) rfl (by decide) in_X12 tyX12_ok nmX12 rfl rfl xFL_X12_58 rfl rfl (by decide) (fun _ => rfl) (fun _ => rfl) dX12_init_123 ?_
  refine jn_aload_n dX12_init_126 rfl 0 rfl ?_
  refine jn_sipush (v := (256 : Int32)) dX12_init_127 (by decide) ?_
  refine jn_newa (k := 1) (ty := .int) rfl (by decide +kernel) (by decide) (fun _ => rfl) rfl rfl (by decide) wAC_int (by decide) (by decide +kernel) (by decide +kernel) (by decide) (by decide +kernel) (jrl_of rfl) (jrl_of rfl) dX12_init_130 ?_
  rw [show ln 220 = 256 from by decide +kernel]
  refine jn_putR (q := 11) (k := 34) (T := TX12) (ty0 := tyX12) (N := 38) (off := 15) (by decide) rfl rfl (by decide +kernel) (by decide) rfl (by decide) in_X12 tyX12_ok nmX12 rfl rfl xFL_X12_61 rfl rfl (by decide) (fun _ => rfl) (fun _ => rfl) dX12_init_132 ?_
  refine jn_aload_n dX12_init_135 rfl 0 rfl ?_
  refine jn_iconst (v := (4 : Int32)) dX12_init_136 (by decide) ?_
  refine jn_newa (k := 1) (ty := .int) rfl (by decide +kernel) (by decide) (fun _ => rfl) rfl rfl (by decide) wAC_int (by decide) (by decide +kernel) (by decide +kernel) (by decide) (by decide +kernel) (jrl_of rfl) (jrl_of rfl) dX12_init_137 ?_
  rw [show ln 221 = 4 from by decide +kernel]
  refine jn_dup dX12_init_139 rfl ?_
  refine jn_iconst (v := (0 : Int32)) dX12_init_140 (by decide) ?_
  refine jn_iconst (v := (-1 : Int32)) dX12_init_141 (by decide) ?_
  refine jn_iastL (k := 0) (by decide) (by decide +kernel) (vp_lit (by decide +kernel) (by decide)) (by decide) dX12_init_142 ?_
  refine jn_dup dX12_init_143 rfl ?_
  refine jn_iconst (v := (1 : Int32)) dX12_init_144 (by decide) ?_
  refine jn_iconst (v := (-1 : Int32)) dX12_init_145 (by decide) ?_
  refine jn_iastL (k := 1) (by decide) (by decide +kernel) (vp_lit (by decide +kernel) (by decide)) (by decide) dX12_init_146 ?_
  refine jn_dup dX12_init_147 rfl ?_
  refine jn_iconst (v := (2 : Int32)) dX12_init_148 (by decide) ?_
  refine jn_iconst (v := (-1 : Int32)) dX12_init_149 (by decide) ?_
  refine jn_iastL (k := 2) (by decide) (by decide +kernel) (vp_lit (by decide +kernel) (by decide)) (by decide) dX12_init_150 ?_
  refine jn_dup dX12_init_151 rfl ?_
  refine jn_iconst (v := (3 : Int32)) dX12_init_152 (by decide) ?_
  refine jn_iconst (v := (-1 : Int32)) dX12_init_153 (by decide) ?_
  refine jn_iastL (k := 3) (by decide) (by decide +kernel) (vp_lit (by decide +kernel) (by decide)) (by decide) dX12_init_154 ?_
  refine jn_putR (q := 11) (k := 35) (T := TX12) (ty0 := tyX12) (N := 38) (off := 16) (by decide) rfl rfl (by decide +kernel) (by decide) rfl (by decide) in_X12 tyX12_ok nmX12 rfl rfl xFL_X12_64 rfl rfl (by decide) (fun _ => rfl) (fun _ => rfl) dX12_init_155 ?_
  refine jn_aload_n dX12_init_158 rfl 0 rfl ?_
  refine jn_iconst (v := (4 : Int32)) dX12_init_159 (by decide) ?_
  refine jn_newa (k := 1) (ty := .int) rfl (by decide +kernel) (by decide) (fun _ => rfl) rfl rfl (by decide) wAC_int (by decide) (by decide +kernel) (by decide +kernel) (by decide) (by decide +kernel) (jrl_of rfl) (jrl_of rfl) dX12_init_160 ?_
  rw [show ln 222 = 4 from by decide +kernel]
  refine jn_putR (q := 11) (k := 36) (T := TX12) (ty0 := tyX12) (N := 38) (off := 17) (by decide) rfl rfl (by decide +kernel) (by decide) rfl (by decide) in_X12 tyX12_ok nmX12 rfl rfl xFL_X12_67 rfl rfl (by decide) (fun _ => rfl) (fun _ => rfl) dX12_init_162 ?_
  refine jn_aload_n dX12_init_165 rfl 0 rfl ?_
  refine jn_sipush (v := (240 : Int32)) dX12_init_166 (by decide) ?_
  refine jn_newl (by decide +kernel) wAC_long (by decide) (by decide +kernel) (by decide +kernel) (by decide) (by decide +kernel) (jrl_of rfl) (jrl_of rfl) dX12_init_169 ?_
  rw [show ln 223 = 240 from by decide +kernel]
  refine jn_putR (q := 11) (k := 37) (T := TX12) (ty0 := tyX12) (N := 38) (off := 18) (by decide) rfl rfl (by decide +kernel) (by decide) rfl (by decide) in_X12 tyX12_ok nmX12 rfl rfl xFL_X12_70 rfl rfl (by decide) (fun _ => rfl) (fun _ => rfl) dX12_init_171 ?_
  refine jn_aload_n dX12_init_174 rfl 0 rfl ?_
  refine jn_get (q := 11) (k := 2) (T := TX12) (N := 38) (v := .ref 207) (by decide) (by decide +kernel) (by decide) rfl (by decide) in_X12 rfl xFL_X12_17 (fun ρ => by rw [jfl_nth (f := some 2) rfl]; simp [jfm, mkS, jtg, jv, mCX5_init_2, mCX5_init_9, mCX5_init_16, mCX5_init_23, mCX1_init_32, mCX3_init_39, mCX0_init_41, mCX9_init_48, mCX10_init_55, mCX8_init_1, mCX5_init_62, mCX5_init_69, mCX5_init_76, mCX5_init_83, mCX1_init_92, mCX3_init_99, mCX0_init_101, mCX9_init_108, mCX10_init_115, mCX8_init_61, mCX5_init_122, mCX5_init_129, mCX5_init_136, mCX5_init_143, mCX1_init_152, mCX3_init_159, mCX0_init_161, mCX9_init_168, mCX10_init_175, mCX8_init_121, mCX2_init_182, mCX7_init_185, mCX1_init_190, mCX3_init_197, mCX6_init_189, mCX11_init_0]) dX12_init_175 ?_
  refine jn_sipush (v := (161 : Int32)) dX12_init_178 (by decide) ?_
  refine jn_sipush (v := (5000 : Int32)) dX12_init_181 (by decide) ?_
  refine jn_iastL (k := 161) (by decide) (by decide +kernel) (vp_lit (by decide +kernel) (by decide)) (by decide) dX12_init_184 ?_
  refine jn_aload_n dX12_init_185 rfl 0 rfl ?_
  refine jn_get (q := 11) (k := 2) (T := TX12) (N := 38) (v := .ref 207) (by decide) (by decide +kernel) (by decide) rfl (by decide) in_X12 rfl xFL_X12_17 (fun ρ => by rw [jfl_nth (f := some 2) rfl]; simp [jfm, mkS, jtg, jv, mCX5_init_2, mCX5_init_9, mCX5_init_16, mCX5_init_23, mCX1_init_32, mCX3_init_39, mCX0_init_41, mCX9_init_48, mCX10_init_55, mCX8_init_1, mCX5_init_62, mCX5_init_69, mCX5_init_76, mCX5_init_83, mCX1_init_92, mCX3_init_99, mCX0_init_101, mCX9_init_108, mCX10_init_115, mCX8_init_61, mCX5_init_122, mCX5_init_129, mCX5_init_136, mCX5_init_143, mCX1_init_152, mCX3_init_159, mCX0_init_161, mCX9_init_168, mCX10_init_175, mCX8_init_121, mCX2_init_182, mCX7_init_185, mCX1_init_190, mCX3_init_197, mCX6_init_189, mCX11_init_0]) dX12_init_186 ?_
  refine jn_sipush (v := (248 : Int32)) dX12_init_189 (by decide) ?_
  refine jn_bipush (v := (80 : Int32)) dX12_init_192 (by decide) ?_
  refine jn_iastL (k := 248) (by decide) (by decide +kernel) (vp_lit (by decide +kernel) (by decide)) (by decide) dX12_init_194 ?_
  refine jn_aload_n dX12_init_195 rfl 0 rfl ?_
  refine jn_get (q := 11) (k := 2) (T := TX12) (N := 38) (v := .ref 207) (by decide) (by decide +kernel) (by decide) rfl (by decide) in_X12 rfl xFL_X12_17 (fun ρ => by rw [jfl_nth (f := some 2) rfl]; simp [jfm, mkS, jtg, jv, mCX5_init_2, mCX5_init_9, mCX5_init_16, mCX5_init_23, mCX1_init_32, mCX3_init_39, mCX0_init_41, mCX9_init_48, mCX10_init_55, mCX8_init_1, mCX5_init_62, mCX5_init_69, mCX5_init_76, mCX5_init_83, mCX1_init_92, mCX3_init_99, mCX0_init_101, mCX9_init_108, mCX10_init_115, mCX8_init_61, mCX5_init_122, mCX5_init_129, mCX5_init_136, mCX5_init_143, mCX1_init_152, mCX3_init_159, mCX0_init_161, mCX9_init_168, mCX10_init_175, mCX8_init_121, mCX2_init_182, mCX7_init_185, mCX1_init_190, mCX3_init_197, mCX6_init_189, mCX11_init_0]) dX12_init_196 ?_
  refine jn_sipush (v := (249 : Int32)) dX12_init_199 (by decide) ?_
  refine jn_bipush (v := (50 : Int32)) dX12_init_202 (by decide) ?_
  refine jn_iastL (k := 249) (by decide) (by decide +kernel) (vp_lit (by decide +kernel) (by decide)) (by decide) dX12_init_204 ?_
  exact jn_vret rfl dX12_init_205
