/-! the class's copy of a State -/
def rI (c k : Nat) : Prop := (c = 0 ∧ (k = 11 ∨ k = 12)) ∨ ((c = 1 ∨ c = 8 ∨ c = 15 ∨ c = 22) ∧ k = 2) ∨ ((2 ≤ c ∧ c ≤ 5) ∧ k < 40) ∨ ((9 ≤ c ∧ c ≤ 12) ∧ k < 12) ∨ ((16 ≤ c ∧ c ≤ 19) ∧ k = 0) ∨ (c = 20 ∧ k < 60) ∨ ((23 ≤ c ∧ c ≤ 26) ∧ k < 20) ∨ (c = 30 ∧ k < 256) ∨ (c = 31 ∧ k = 0) ∨ ((c = 34 ∨ c = 35) ∧ k < 12) ∨ ((c = 36 ∨ c = 37) ∧ k < 200) ∨ (c = 38 ∧ k ≤ 3) ∨ (c = 39 ∧ k < 256) ∨ (c = 40 ∧ k = 0) ∨ ((41 ≤ c ∧ c ≤ 45) ∧ k < 60) ∨ (c = 47 ∧ k ≤ 2) ∨ ((c = 48 ∨ c = 49) ∧ k < 20) ∨ ((c = 50 ∨ c = 51) ∧ k < 40) ∨ ((c = 52 ∨ c = 53) ∧ k < 8) ∨ (c = 54 ∧ k = 0) ∨ (c = 55 ∧ k < 8) ∨ (c = 56 ∧ k < 128)
def rJ (c k : Nat) : Prop := (c = 7 ∧ k < 480) ∨ (c = 14 ∧ k < 144) ∨ (c = 21 ∧ k < 60) ∨ (c = 28 ∧ k < 40) ∨ (c = 29 ∧ k < 480) ∨ ((c = 32 ∨ c = 33) ∧ k < 12) ∨ (c = 46 ∧ k < 60)
theorem cp_X8 {t a : Nat} {w : jWd} (hd : a + 60 ≤ t ∨ t + 60 ≤ a) (hl : ∀ i, i ≤ 56 → ln (t + i) = ln (1 + i) ∧ ln (a + i) = ln (1 + i)) (ct : RCon t w) (ca : RCon a w) : ∃ w', fX8_copy t a w = some w' ∧ frP (fun c _ => t ≤ c ∧ c ≤ t + 59) w w' ∧ RCon t w' ∧ (∀ c k, rI c k → wI w' (t + c) k = wI w (a + c) k) ∧ (∀ c k, rJ c k → wJ w' (t + c) k = wJ w (a + c) k) := by
  have z0 : ((0 : Int32)).toNatClampNeg = 0 := by decide
  have z480 : ((480 : Int32)).toNatClampNeg = 480 := by decide
  have z256 : ((256 : Int32)).toNatClampNeg = 256 := by decide
  have lnA : ∀ b i N, b + i ≤ 56 → N ≤ ln (1 + (b + i)) → N ≤ ln (a + b + i) ∧ N ≤ ln (t + b + i) := fun b i N h1 h2 => by rw [Nat.add_assoc, Nat.add_assoc, (hl _ h1).1, (hl _ h1).2]; exact ⟨h2, h2⟩
  obtain ⟨t1, t2, t3, t4, t5, t6, t7, t8, t9⟩ := id ct
  obtain ⟨a1, a2, a3, a4, a5, a6, a7, a8, a9⟩ := id ca
  have S0 : frP (fun c _ => t ≤ c ∧ c ≤ t + 59) w w := frP_refl _ _
  have S0x : frP (fun c k => t + 1 ≤ c ∧ c < t + 1) w w := frP_refl _ _
  have S0x' : frP (fun c k => t + 1 ≤ c ∧ c < t + 8) w w := frP_mono (fun c k z => ⟨by omega, by omega⟩) S0x
  obtain ⟨w1, x1, f1, i1, j1⟩ := cp_X5 (t := t + 1) (a := a + 1) (w := w) (M := 40) (E := 12) (by omega) (by decide) (by decide) (by decide) ((frP_I S0x (by omega)).trans t1) ((frP_I S0x (by omega)).trans a1) ((frP_I S0x (by omega)).trans t2) ((frP_I S0x (by omega)).trans a2) ⟨fun i h1 h2 => lnA 1 i 40 (by omega) (by rcases (show i = 1 ∨ i = 2 ∨ i = 3 ∨ i = 4 by omega) with rfl | rfl | rfl | rfl <;> decide), fun i h1 h2 => lnA 1 i (40 * 12) (by omega) (by rcases (show i = 5 ∨ i = 6 by omega) with rfl | rfl <;> decide)⟩
  have S1 : frP (fun c _ => t ≤ c ∧ c ≤ t + 59) w w1 := frP_trans S0 (frP_mono (fun c k z => ⟨by omega, by omega⟩) f1)
  have S1x : frP (fun c k => t + 1 ≤ c ∧ c < t + 8) w w1 := frP_trans S0x' (frP_mono (fun c k z => ⟨by omega, by omega⟩) f1)
  have S1x' : frP (fun c k => t + 1 ≤ c ∧ c < t + 15) w w1 := frP_mono (fun c k z => ⟨by omega, by omega⟩) S1x
  obtain ⟨w2, x2, f2, i2, j2⟩ := cp_X5 (t := t + 8) (a := a + 8) (w := w1) (M := 12) (E := 12) (by omega) (by decide) (by decide) (by decide) ((frP_I S1x (by omega)).trans t3) ((frP_I S1x (by omega)).trans a3) ((frP_I S1x (by omega)).trans t4) ((frP_I S1x (by omega)).trans a4) ⟨fun i h1 h2 => lnA 8 i 12 (by omega) (by rcases (show i = 1 ∨ i = 2 ∨ i = 3 ∨ i = 4 by omega) with rfl | rfl | rfl | rfl <;> decide), fun i h1 h2 => lnA 8 i (12 * 12) (by omega) (by rcases (show i = 5 ∨ i = 6 by omega) with rfl | rfl <;> decide)⟩
  have S2 : frP (fun c _ => t ≤ c ∧ c ≤ t + 59) w w2 := frP_trans S1 (frP_mono (fun c k z => ⟨by omega, by omega⟩) f2)
  have S2x : frP (fun c k => t + 1 ≤ c ∧ c < t + 15) w w2 := frP_trans S1x' (frP_mono (fun c k z => ⟨by omega, by omega⟩) f2)
  have S2x' : frP (fun c k => t + 1 ≤ c ∧ c < t + 22) w w2 := frP_mono (fun c k z => ⟨by omega, by omega⟩) S2x
  obtain ⟨w3, x3, f3, i3, j3⟩ := cp_X5 (t := t + 15) (a := a + 15) (w := w2) (M := 1) (E := 60) (by omega) (by decide) (by decide) (by decide) ((frP_I S2x (by omega)).trans t5) ((frP_I S2x (by omega)).trans a5) ((frP_I S2x (by omega)).trans t6) ((frP_I S2x (by omega)).trans a6) ⟨fun i h1 h2 => lnA 15 i 1 (by omega) (by rcases (show i = 1 ∨ i = 2 ∨ i = 3 ∨ i = 4 by omega) with rfl | rfl | rfl | rfl <;> decide), fun i h1 h2 => lnA 15 i (1 * 60) (by omega) (by rcases (show i = 5 ∨ i = 6 by omega) with rfl | rfl <;> decide)⟩
  have S3 : frP (fun c _ => t ≤ c ∧ c ≤ t + 59) w w3 := frP_trans S2 (frP_mono (fun c k z => ⟨by omega, by omega⟩) f3)
  have S3x : frP (fun c k => t + 1 ≤ c ∧ c < t + 22) w w3 := frP_trans S2x' (frP_mono (fun c k z => ⟨by omega, by omega⟩) f3)
  have S3x' : frP (fun c k => t + 1 ≤ c ∧ c < t + 29) w w3 := frP_mono (fun c k z => ⟨by omega, by omega⟩) S3x
  obtain ⟨w4, x4, f4, i4, j4⟩ := cp_X5 (t := t + 22) (a := a + 22) (w := w3) (M := 20) (E := 2) (by omega) (by decide) (by decide) (by decide) ((frP_I S3x (by omega)).trans t8) ((frP_I S3x (by omega)).trans a8) ((frP_I S3x (by omega)).trans t9) ((frP_I S3x (by omega)).trans a9) ⟨fun i h1 h2 => lnA 22 i 20 (by omega) (by rcases (show i = 1 ∨ i = 2 ∨ i = 3 ∨ i = 4 by omega) with rfl | rfl | rfl | rfl <;> decide), fun i h1 h2 => lnA 22 i (20 * 2) (by omega) (by rcases (show i = 5 ∨ i = 6 by omega) with rfl | rfl <;> decide)⟩
  have S4 : frP (fun c _ => t ≤ c ∧ c ≤ t + 59) w w4 := frP_trans S3 (frP_mono (fun c k z => ⟨by omega, by omega⟩) f4)
  obtain ⟨w5, u5⟩ : ∃ u, u = cpJ w4 (a + 29) 0 (t + 29) 0 480 := ⟨_, rfl⟩
  have f5 : frP (fun c _ => t + 29 ≤ c ∧ c ≤ t + 29) w4 w5 := by rw [u5]; exact frP_cJ (fun _ => ⟨by omega, by omega⟩)
  have j5 : ∀ k, k < 480 → wJ w5 (t + 29) k = wJ w4 (a + 29) k := fun k hk => by rw [u5]; exact ev_cJs hk
  have S5 : frP (fun c _ => t ≤ c ∧ c ≤ t + 59) w w5 := frP_trans S4 (frP_mono (fun c k z => ⟨by omega, by omega⟩) f5)
  obtain ⟨w6, u6⟩ : ∃ u, u = cpI w5 (a + 30) 0 (t + 30) 0 256 := ⟨_, rfl⟩
  have f6 : frP (fun c _ => t + 30 ≤ c ∧ c ≤ t + 30) w5 w6 := by rw [u6]; exact frP_cI (fun _ => ⟨by omega, by omega⟩)
  have i6 : ∀ k, k < 256 → wI w6 (t + 30) k = wI w5 (a + 30) k := fun k hk => by rw [u6]; exact ev_cIs hk
  have S6 : frP (fun c _ => t ≤ c ∧ c ≤ t + 59) w w6 := frP_trans S5 (frP_mono (fun c k z => ⟨by omega, by omega⟩) f6)
  obtain ⟨w7, x7, f7, i7, j7⟩ := cp_X1 (t := t + 31) (a := a + 31) (w := w6) (by omega) ⟨lnA 31 1 12 (by decide) (by decide), lnA 31 2 12 (by decide) (by decide), lnA 31 3 12 (by decide) (by decide), lnA 31 4 12 (by decide) (by decide), lnA 31 5 200 (by decide) (by decide), lnA 31 6 200 (by decide) (by decide)⟩
  have S7 : frP (fun c _ => t ≤ c ∧ c ≤ t + 59) w w7 := frP_trans S6 (frP_mono (fun c k z => ⟨by omega, by omega⟩) f7)
  obtain ⟨w8, x8, f8, i8⟩ := cp_X3 (t := t + 38) (a := a + 38) (w := w7) (by omega) (lnA 38 1 256 (by decide) (by decide))
  have S8 : frP (fun c _ => t ≤ c ∧ c ≤ t + 59) w w8 := frP_trans S7 (frP_mono (fun c k z => ⟨by omega, by omega⟩) f8)
  obtain ⟨w9, x9, f9, i9, j9⟩ := cp_X0 (t := t + 40) (a := a + 40) (w := w8) (by omega) ⟨lnA 40 1 60 (by decide) (by decide), lnA 40 2 60 (by decide) (by decide), lnA 40 3 60 (by decide) (by decide), lnA 40 4 60 (by decide) (by decide), lnA 40 5 60 (by decide) (by decide), lnA 40 6 60 (by decide) (by decide)⟩
  have S9 : frP (fun c _ => t ≤ c ∧ c ≤ t + 59) w w9 := frP_trans S8 (frP_mono (fun c k z => ⟨by omega, by omega⟩) f9)
  obtain ⟨w10, x10, f10, i10⟩ := cp_X9 (t := t + 47) (a := a + 47) (w := w9) (by omega) ⟨lnA 47 1 20 (by decide) (by decide), lnA 47 2 20 (by decide) (by decide), lnA 47 3 40 (by decide) (by decide), lnA 47 4 40 (by decide) (by decide), lnA 47 5 8 (by decide) (by decide), lnA 47 6 8 (by decide) (by decide)⟩
  have S10 : frP (fun c _ => t ≤ c ∧ c ≤ t + 59) w w10 := frP_trans S9 (frP_mono (fun c k z => ⟨by omega, by omega⟩) f10)
  obtain ⟨w11, x11, f11, i11⟩ := cp_X10 (t := t + 54) (a := a + 54) (w := w10) (by omega) ⟨lnA 54 1 8 (by decide) (by decide), lnA 54 2 128 (by decide) (by decide)⟩
  have S11 : frP (fun c _ => t ≤ c ∧ c ≤ t + 59) w w11 := frP_trans S10 (frP_mono (fun c k z => ⟨by omega, by omega⟩) f11)
  obtain ⟨v, hv⟩ : ∃ v, v = sI (sI w11 t 11 (wI w11 a 11)) t 12 (wI (sI w11 t 11 (wI w11 a 11)) a 12) := ⟨_, rfl⟩
  have fv : frP (fun c k => c = t ∧ (k = 11 ∨ k = 12)) w11 v := by rw [hv]; exact frP_trans (frP_sI _ _ ⟨rfl, .inl rfl⟩) (frP_sI _ _ ⟨rfl, .inr rfl⟩)
  have F11 : frP (fun c k => (t + 63 ≤ c) ∨ c = t) w11 v := frP_mono (fun c k z => .inr z.1) fv
  have F10 : frP (fun c k => t + 54 ≤ c ∨ c = t) w10 v := frP_trans (frP_mono (fun c k z => .inl (by omega)) f11) (frP_mono (fun c k z => by omega) F11)
  have F9 : frP (fun c k => t + 47 ≤ c ∨ c = t) w9 v := frP_trans (frP_mono (fun c k z => .inl (by omega)) f10) (frP_mono (fun c k z => by omega) F10)
  have F8 : frP (fun c k => t + 40 ≤ c ∨ c = t) w8 v := frP_trans (frP_mono (fun c k z => .inl (by omega)) f9) (frP_mono (fun c k z => by omega) F9)
  have F7 : frP (fun c k => t + 38 ≤ c ∨ c = t) w7 v := frP_trans (frP_mono (fun c k z => .inl (by omega)) f8) (frP_mono (fun c k z => by omega) F8)
  have F6 : frP (fun c k => t + 31 ≤ c ∨ c = t) w6 v := frP_trans (frP_mono (fun c k z => .inl (by omega)) f7) (frP_mono (fun c k z => by omega) F7)
  have F5 : frP (fun c k => t + 30 ≤ c ∨ c = t) w5 v := frP_trans (frP_mono (fun c k z => .inl (by omega)) f6) (frP_mono (fun c k z => by omega) F6)
  have F4 : frP (fun c k => t + 29 ≤ c ∨ c = t) w4 v := frP_trans (frP_mono (fun c k z => .inl (by omega)) f5) (frP_mono (fun c k z => by omega) F5)
  have F3 : frP (fun c k => t + 22 ≤ c ∨ c = t) w3 v := frP_trans (frP_mono (fun c k z => .inl (by omega)) f4) (frP_mono (fun c k z => by omega) F4)
  have F2 : frP (fun c k => t + 15 ≤ c ∨ c = t) w2 v := frP_trans (frP_mono (fun c k z => .inl (by omega)) f3) (frP_mono (fun c k z => by omega) F3)
  have F1 : frP (fun c k => t + 8 ≤ c ∨ c = t) w1 v := frP_trans (frP_mono (fun c k z => .inl (by omega)) f2) (frP_mono (fun c k z => by omega) F2)
  have g1 : ∀ i k, (i = 0 ∧ k = 2) ∨ (1 ≤ i ∧ i ≤ 4 ∧ k < 40) ∨ (i = 5 ∧ k < 40 * 12) → wI v (t + (1 + i)) k = wI w (a + (1 + i)) k := fun i k h => by rw [← Nat.add_assoc, ← Nat.add_assoc, frP_I F1 (by omega), i1 i k h, frP_I S0 (by omega)]
  have q1 : ∀ k, k < 40 * 12 → wJ v (t + (1 + 6)) k = wJ w (a + (1 + 6)) k := fun k h => by rw [← Nat.add_assoc, ← Nat.add_assoc, frP_J F1 (by omega), j1 k h, frP_J S0 (by omega)]
  have g2 : ∀ i k, (i = 0 ∧ k = 2) ∨ (1 ≤ i ∧ i ≤ 4 ∧ k < 12) ∨ (i = 5 ∧ k < 12 * 12) → wI v (t + (8 + i)) k = wI w (a + (8 + i)) k := fun i k h => by rw [← Nat.add_assoc, ← Nat.add_assoc, frP_I F2 (by omega), i2 i k h, frP_I S1 (by omega)]
  have q2 : ∀ k, k < 12 * 12 → wJ v (t + (8 + 6)) k = wJ w (a + (8 + 6)) k := fun k h => by rw [← Nat.add_assoc, ← Nat.add_assoc, frP_J F2 (by omega), j2 k h, frP_J S1 (by omega)]
  have g3 : ∀ i k, (i = 0 ∧ k = 2) ∨ (1 ≤ i ∧ i ≤ 4 ∧ k < 1) ∨ (i = 5 ∧ k < 1 * 60) → wI v (t + (15 + i)) k = wI w (a + (15 + i)) k := fun i k h => by rw [← Nat.add_assoc, ← Nat.add_assoc, frP_I F3 (by omega), i3 i k h, frP_I S2 (by omega)]
  have q3 : ∀ k, k < 1 * 60 → wJ v (t + (15 + 6)) k = wJ w (a + (15 + 6)) k := fun k h => by rw [← Nat.add_assoc, ← Nat.add_assoc, frP_J F3 (by omega), j3 k h, frP_J S2 (by omega)]
  have g4 : ∀ i k, (i = 0 ∧ k = 2) ∨ (1 ≤ i ∧ i ≤ 4 ∧ k < 20) ∨ (i = 5 ∧ k < 20 * 2) → wI v (t + (22 + i)) k = wI w (a + (22 + i)) k := fun i k h => by rw [← Nat.add_assoc, ← Nat.add_assoc, frP_I F4 (by omega), i4 i k h, frP_I S3 (by omega)]
  have q4 : ∀ k, k < 20 * 2 → wJ v (t + (22 + 6)) k = wJ w (a + (22 + 6)) k := fun k h => by rw [← Nat.add_assoc, ← Nat.add_assoc, frP_J F4 (by omega), j4 k h, frP_J S3 (by omega)]
  have q5 : ∀ k, k < 480 → wJ v (t + 29) k = wJ w (a + 29) k := fun k h => by rw [frP_J F5 (by omega), j5 k h, frP_J S4 (by omega)]
  have g6 : ∀ k, k < 256 → wI v (t + 30) k = wI w (a + 30) k := fun k h => by rw [frP_I F6 (by omega), i6 k h, frP_I S5 (by omega)]
  have g7 : ∀ i k, (i = 0 ∧ k = 0) ∨ (i = 0 ∧ k = 1) ∨ (i = 3 ∧ k < 12) ∨ (i = 4 ∧ k < 12) ∨ (i = 5 ∧ k < 200) ∨ (i = 6 ∧ k < 200) → wI v (t + (31 + i)) k = wI w (a + (31 + i)) k := fun i k h => by rw [← Nat.add_assoc, ← Nat.add_assoc, frP_I F7 (by omega), i7 i k h, frP_I S6 (by omega)]
  have q7 : ∀ i k, (i = 1 ∧ k < 12) ∨ (i = 2 ∧ k < 12) → wJ v (t + (31 + i)) k = wJ w (a + (31 + i)) k := fun i k h => by rw [← Nat.add_assoc, ← Nat.add_assoc, frP_J F7 (by omega), j7 i k h, frP_J S6 (by omega)]
  have g8 : ∀ i k, (i = 0 ∧ k = 0) ∨ (i = 0 ∧ k = 1) ∨ (i = 0 ∧ k = 2) ∨ (i = 0 ∧ k = 3) ∨ (i = 1 ∧ k < 256) → wI v (t + (38 + i)) k = wI w (a + (38 + i)) k := fun i k h => by rw [← Nat.add_assoc, ← Nat.add_assoc, frP_I F8 (by omega), i8 i k h, frP_I S7 (by omega)]
  have g9 : ∀ i k, (i = 0 ∧ k = 0) ∨ (i = 1 ∧ k < 60) ∨ (i = 2 ∧ k < 60) ∨ (i = 3 ∧ k < 60) ∨ (i = 4 ∧ k < 60) ∨ (i = 5 ∧ k < 60) → wI v (t + (40 + i)) k = wI w (a + (40 + i)) k := fun i k h => by rw [← Nat.add_assoc, ← Nat.add_assoc, frP_I F9 (by omega), i9 i k h, frP_I S8 (by omega)]
  have q9 : ∀ i k, (i = 6 ∧ k < 60) → wJ v (t + (40 + i)) k = wJ w (a + (40 + i)) k := fun i k h => by rw [← Nat.add_assoc, ← Nat.add_assoc, frP_J F9 (by omega), j9 i k h, frP_J S8 (by omega)]
  have g10 : ∀ i k, (i = 0 ∧ k = 0) ∨ (i = 0 ∧ k = 1) ∨ (i = 0 ∧ k = 2) ∨ (i = 1 ∧ k < 20) ∨ (i = 2 ∧ k < 20) ∨ (i = 3 ∧ k < 40) ∨ (i = 4 ∧ k < 40) ∨ (i = 5 ∧ k < 8) ∨ (i = 6 ∧ k < 8) → wI v (t + (47 + i)) k = wI w (a + (47 + i)) k := fun i k h => by rw [← Nat.add_assoc, ← Nat.add_assoc, frP_I F10 (by omega), i10 i k h, frP_I S9 (by omega)]
  have g11 : ∀ i k, (i = 0 ∧ k = 0) ∨ (i = 1 ∧ k < 8) ∨ (i = 2 ∧ k < 128) → wI v (t + (54 + i)) k = wI w (a + (54 + i)) k := fun i k h => by rw [← Nat.add_assoc, ← Nat.add_assoc, frP_I F11 (by omega), i11 i k h, frP_I S10 (by omega)]
  refine ⟨v, ?_, frP_trans S11 (frP_mono (fun c k z => ⟨by omega, by omega⟩) fv), ?_, fun c k h => ?_, fun c k h => ?_⟩
  · unfold fX8_copy letV
    dsimp only
    rw [z0, z480, z256, x1, ev_bO, x2, ev_bO, x3, ev_bO, x4, ev_bO, grc_L (by decide) z480 (lnA 29 0 480 (by decide) (by decide)).1 (lnA 29 0 480 (by decide) (by decide)).2, ← u5, grc_L (by decide) z256 (lnA 30 0 256 (by decide) (by decide)).1 (lnA 30 0 256 (by decide) (by decide)).2, ← u6, x7, ev_bO, x8, ev_bO, x9, ev_bO, x10, ev_bO, x11, ev_bO, ← hv]
  · refine ⟨?_, ?_, ?_, ?_, ?_, ?_, ?_, ?_, ?_⟩
    · rw [frP_I F1 (by omega), frP_I f1 (by omega), frP_I S0x (by omega)]; exact t1
    · rw [frP_I F1 (by omega), frP_I f1 (by omega), frP_I S0x (by omega)]; exact t2
    · rw [frP_I F2 (by omega), frP_I f2 (by omega), frP_I S1x (by omega)]; exact t3
    · rw [frP_I F2 (by omega), frP_I f2 (by omega), frP_I S1x (by omega)]; exact t4
    · rw [frP_I F3 (by omega), frP_I f3 (by omega), frP_I S2x (by omega)]; exact t5
    · rw [frP_I F3 (by omega), frP_I f3 (by omega), frP_I S2x (by omega)]; exact t6
    · exact (g3 0 2 (by omega)).trans a7
    · rw [frP_I F4 (by omega), frP_I f4 (by omega), frP_I S3x (by omega)]; exact t8
    · rw [frP_I F4 (by omega), frP_I f4 (by omega), frP_I S3x (by omega)]; exact t9
  · unfold rI at h
    rcases h with ⟨y0, h⟩ | ⟨h, e⟩ | ⟨h, e⟩ | ⟨h, e⟩ | ⟨h, e⟩ | ⟨h, e⟩ | ⟨h, e⟩ | ⟨h, e⟩ | ⟨h, e⟩ | ⟨h, e⟩ | ⟨h, e⟩ | ⟨h, e⟩ | ⟨h, e⟩ | ⟨h, e⟩ | ⟨h, e⟩ | ⟨h, e⟩ | ⟨h, e⟩ | ⟨h, e⟩ | ⟨h, e⟩ | ⟨h, e⟩ | ⟨h, e⟩ | ⟨h, e⟩
    · subst y0
      rw [hv]
      rcases h with rfl | rfl
      · rw [ev_wIn _ (by omega)]
        refine (ev_wIs _ _ _ _).trans ?_
        exact frP_I S11 (by omega)
      · refine (ev_wIs _ _ _ _).trans ?_
        rw [ev_wIn _ (by omega)]
        exact frP_I S11 (by omega)
    · subst e
      rcases h with rfl | rfl | rfl | rfl
      · exact g1 0 2 (.inl ⟨rfl, rfl⟩)
      · exact g2 0 2 (.inl ⟨rfl, rfl⟩)
      · exact g3 0 2 (.inl ⟨rfl, rfl⟩)
      · exact g4 0 2 (.inl ⟨rfl, rfl⟩)
    · clear hl ct ca t1 t2 t3 t4 t5 t6 t7 t8 t9 a1 a2 a3 a4 a5 a6 a7 a8 a9
      obtain ⟨i, rfl⟩ : ∃ i, c = 1 + i := ⟨c - 1, by omega⟩
      exact g1 i k (by omega)
    · clear hl ct ca t1 t2 t3 t4 t5 t6 t7 t8 t9 a1 a2 a3 a4 a5 a6 a7 a8 a9
      obtain ⟨i, rfl⟩ : ∃ i, c = 8 + i := ⟨c - 8, by omega⟩
      exact g2 i k (by omega)
    · clear hl ct ca t1 t2 t3 t4 t5 t6 t7 t8 t9 a1 a2 a3 a4 a5 a6 a7 a8 a9
      obtain ⟨i, rfl⟩ : ∃ i, c = 15 + i := ⟨c - 15, by omega⟩
      exact g3 i k (by omega)
    · clear hl ct ca t1 t2 t3 t4 t5 t6 t7 t8 t9 a1 a2 a3 a4 a5 a6 a7 a8 a9
      obtain ⟨i, rfl⟩ : ∃ i, c = 15 + i := ⟨c - 15, by omega⟩
      exact g3 i k (by omega)
    · clear hl ct ca t1 t2 t3 t4 t5 t6 t7 t8 t9 a1 a2 a3 a4 a5 a6 a7 a8 a9
      obtain ⟨i, rfl⟩ : ∃ i, c = 22 + i := ⟨c - 22, by omega⟩
      exact g4 i k (by omega)
    · subst h
      exact g6 k e
    · clear hl ct ca t1 t2 t3 t4 t5 t6 t7 t8 t9 a1 a2 a3 a4 a5 a6 a7 a8 a9
      obtain ⟨i, rfl⟩ : ∃ i, c = 31 + i := ⟨c - 31, by omega⟩
      exact g7 i k (by omega)
    · clear hl ct ca t1 t2 t3 t4 t5 t6 t7 t8 t9 a1 a2 a3 a4 a5 a6 a7 a8 a9
      obtain ⟨i, rfl⟩ : ∃ i, c = 31 + i := ⟨c - 31, by omega⟩
      exact g7 i k (by omega)
    · clear hl ct ca t1 t2 t3 t4 t5 t6 t7 t8 t9 a1 a2 a3 a4 a5 a6 a7 a8 a9
      obtain ⟨i, rfl⟩ : ∃ i, c = 31 + i := ⟨c - 31, by omega⟩
      exact g7 i k (by omega)
    · clear hl ct ca t1 t2 t3 t4 t5 t6 t7 t8 t9 a1 a2 a3 a4 a5 a6 a7 a8 a9
      obtain ⟨i, rfl⟩ : ∃ i, c = 38 + i := ⟨c - 38, by omega⟩
      exact g8 i k (by omega)
    · clear hl ct ca t1 t2 t3 t4 t5 t6 t7 t8 t9 a1 a2 a3 a4 a5 a6 a7 a8 a9
      obtain ⟨i, rfl⟩ : ∃ i, c = 38 + i := ⟨c - 38, by omega⟩
      exact g8 i k (by omega)
    · clear hl ct ca t1 t2 t3 t4 t5 t6 t7 t8 t9 a1 a2 a3 a4 a5 a6 a7 a8 a9
      obtain ⟨i, rfl⟩ : ∃ i, c = 40 + i := ⟨c - 40, by omega⟩
      exact g9 i k (by omega)
    · clear hl ct ca t1 t2 t3 t4 t5 t6 t7 t8 t9 a1 a2 a3 a4 a5 a6 a7 a8 a9
      obtain ⟨i, rfl⟩ : ∃ i, c = 40 + i := ⟨c - 40, by omega⟩
      exact g9 i k (by omega)
    · clear hl ct ca t1 t2 t3 t4 t5 t6 t7 t8 t9 a1 a2 a3 a4 a5 a6 a7 a8 a9
      obtain ⟨i, rfl⟩ : ∃ i, c = 47 + i := ⟨c - 47, by omega⟩
      exact g10 i k (by omega)
    · clear hl ct ca t1 t2 t3 t4 t5 t6 t7 t8 t9 a1 a2 a3 a4 a5 a6 a7 a8 a9
      obtain ⟨i, rfl⟩ : ∃ i, c = 47 + i := ⟨c - 47, by omega⟩
      exact g10 i k (by omega)
    · clear hl ct ca t1 t2 t3 t4 t5 t6 t7 t8 t9 a1 a2 a3 a4 a5 a6 a7 a8 a9
      obtain ⟨i, rfl⟩ : ∃ i, c = 47 + i := ⟨c - 47, by omega⟩
      exact g10 i k (by omega)
    · clear hl ct ca t1 t2 t3 t4 t5 t6 t7 t8 t9 a1 a2 a3 a4 a5 a6 a7 a8 a9
      obtain ⟨i, rfl⟩ : ∃ i, c = 47 + i := ⟨c - 47, by omega⟩
      exact g10 i k (by omega)
    · clear hl ct ca t1 t2 t3 t4 t5 t6 t7 t8 t9 a1 a2 a3 a4 a5 a6 a7 a8 a9
      obtain ⟨i, rfl⟩ : ∃ i, c = 54 + i := ⟨c - 54, by omega⟩
      exact g11 i k (by omega)
    · clear hl ct ca t1 t2 t3 t4 t5 t6 t7 t8 t9 a1 a2 a3 a4 a5 a6 a7 a8 a9
      obtain ⟨i, rfl⟩ : ∃ i, c = 54 + i := ⟨c - 54, by omega⟩
      exact g11 i k (by omega)
    · clear hl ct ca t1 t2 t3 t4 t5 t6 t7 t8 t9 a1 a2 a3 a4 a5 a6 a7 a8 a9
      obtain ⟨i, rfl⟩ : ∃ i, c = 54 + i := ⟨c - 54, by omega⟩
      exact g11 i k (by omega)
  · unfold rJ at h
    rcases h with ⟨rfl, h⟩ | ⟨rfl, h⟩ | ⟨rfl, h⟩ | ⟨rfl, h⟩ | ⟨rfl, h⟩ | ⟨e, h⟩ | ⟨rfl, h⟩
    · exact q1 k h
    · exact q2 k h
    · exact q3 k h
    · exact q4 k h
    · exact q5 k h
    · rcases e with rfl | rfl
      · exact q7 1 k (by omega)
      · exact q7 2 k (by omega)
    · exact q9 6 k (by omega)
