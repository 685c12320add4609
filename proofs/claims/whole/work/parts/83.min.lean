/-! minister -/
section MIN
variable {A : Nat → Nat} {L : Nat → Int64} {F W : Nat → Nat} {w : jWd}
def vN (x : Int64) : Nat := x.toInt.toNat
theorem lN_vN {x : Int64} {b : Nat} (hb : b < 2147483648) (h : ¬ fX11_within x 0 ((nI b).toInt64) = 0) : vN x ≤ b ∧ x.toInt32 = nI (vN x) := by
  have h' := Classical.not_not.mp (fun q => h ((wi_X _ _ _).mpr q))
  have h1 := Int64.le_iff_toInt_le.mp h'.1
  have h2 := Int64.le_iff_toInt_le.mp h'.2
  rw [nI_l hb, pk_lT (by omega)] at h2
  have e0 : (0 : Int64).toInt = 0 := by decide
  rw [e0] at h1
  have e2 : vN x ≤ b := by unfold vN; omega
  have e : x = lN (vN x) := Int64.toInt_inj.mp (by rw [pk_lT (by omega)]; unfold vN; omega)
  exact ⟨e2, (congrArg Int64.toInt32 e).trans Int64.toInt32_ofNat'⟩
theorem rem5 {i : Nat} (h : i < 1000) : i_rem (nI i) (5 : Int32) = nI (i % 5) := by
  unfold i_rem
  rw [show (5 : Int32) = nI 5 from rfl, pk_div (by omega) (by omega) (by omega), ev_mul, ev_sub (by omega), show i - i / 5 * 5 = i % 5 by omega]
theorem div5 {i : Nat} (h : i < 1000) : nI i / (5 : Int32) = nI (i / 5) := by rw [show (5 : Int32) = nI 5 from rfl, pk_div (by omega) (by omega) (by omega)]
def grN (i : Nat) : Nat := if i % 5 = 0 then 15 else if i % 5 = 1 then 9999 else if i % 5 = 2 then 9 else 2
theorem grN_le (i : Nat) : grN i ≤ 9999 := by
  unfold grN
  repeat' split
  all_goals omega
theorem gr_X {i : Nat} (h : i < 1000) : fX0_greatest (i_rem (nI i) (5 : Int32)) = nI (grN i) := by
  rw [rem5 h]
  have h5 : i % 5 < 5 := Nat.mod_lt _ (by decide)
  unfold fX0_greatest grN
  generalize i % 5 = j at h5
  have e : j = 0 ∨ j = 1 ∨ j = 2 ∨ j = 3 ∨ j = 4 := by omega
  rcases e with rfl | rfl | rfl | rfl | rfl <;> decide +kernel
abbrev bx (x : Nat → Int64) (j : Nat) : Prop := fX11_within (x j) 0 ((nI (grN j)).toInt64) = 0
theorem rwat_X {r k m : Nat} (hr : r < 4) (hk : k < m) (hm : m ≤ 60) (q1 : wI w 186 r = nI m) : fX7_at (nI r) (nI k) w = some (wJ w 188 (60 * r + k)) := by
  have l6 : ln 186 = 4 := rfl
  have l8 : ln 188 = 240 := rfl
  have eX : nI r * (60 : Int32) + nI k = nI (60 * r + k) := by rw [show (60 : Int32) = nI 60 from rfl, ev_mul, nI_add, Nat.mul_comm]
  unfold fX7_at
  rw [cb_N hr, if_neg (by decide), if_neg (nI_pos (by omega)), l6, grd_N hr (by decide), nI_clamp (by omega), q1, if_neg (nI_ge hk (by omega)), eX, l8, grd_N (by omega) (by decide), nI_clamp (by omega)]
theorem ck_X {n r m : Nat} {K1 K2 : Option (Int32 × jWd)} {x : Nat → Int64} (hr : r < 4) (hm : m ≤ 60) (q1 : wI w 186 r = nI m) (hx : ∀ k, k < m → wJ w 188 (60 * r + k) = x k) : ∀ c i f, i + c = m → c < f → ((∀ j, i ≤ j → j < m → ¬ bx x j) → lX11_minister_55 n (nI r) (nI m) K1 K2 w f (nI i) = K1) ∧ (∀ j, i ≤ j → j < m → bx x j → lX11_minister_55 n (nI r) (nI m) K1 K2 w f (nI i) = K2) := by
  intro c
  induction c with
  | zero =>
    intro i f hi hf
    obtain ⟨f, rfl⟩ : ∃ g, f = g + 1 := ⟨f - 1, by omega⟩
    refine ⟨fun _ => ?_, fun j h1 h2 _ => absurd h1 (by omega)⟩
    show bX11_minister_55 n (nI r) (nI m) K1 K2 w _ (nI i) = _
    unfold bX11_minister_55
    rw [if_pos (nI_le (by omega) (by omega))]
  | succ c ih =>
    intro i f hi hf
    obtain ⟨f, rfl⟩ : ∃ g, f = g + 1 := ⟨f - 1, by omega⟩
    have e : lX11_minister_55 n (nI r) (nI m) K1 K2 w (f + 1) (nI i) = if fX11_within (x i) 0 ((nI (grN i)).toInt64) = 0 then K2 else lX11_minister_55 n (nI r) (nI m) K1 K2 w f (nI (i + 1)) := by
      show bX11_minister_55 n (nI r) (nI m) K1 K2 w (lX11_minister_55 n (nI r) (nI m) K1 K2 w f) (nI i) = _
      unfold bX11_minister_55 letV
      rw [if_neg (nI_ge (by omega) (by omega)), rwat_X hr (show i < m by omega) hm q1, hx i (by omega), gr_X (by omega), nI_1]
      rfl
    have h := ih (i + 1) f (by omega) (by omega)
    rw [e]
    refine ⟨fun q => ?_, fun j h1 h2 hb => ?_⟩
    · rw [if_neg (q i (by omega) (by omega))]
      exact h.1 (fun j h1 h2 => q j (by omega) h2)
    · by_cases b : bx x i
      · exact if_pos b
      · rw [if_neg b]
        have hne : j ≠ i := fun z => b (by rw [← z]; exact hb)
        exact h.2 j (by omega) h2 hb
theorem isA_iff (x : Nat → Int64) (q : Nat) : fX12_isAnswer (x (5 * q)) (x (5 * q + 1)) (x (5 * q + 2)) (x (5 * q + 3)) (x (5 * q + 4)) = 0 ↔ ∃ k, k < 5 ∧ bx x (5 * q + k) := by
  have g0 : grN (5 * q) = 15 := by unfold grN; rw [if_pos (by omega)]
  have g1 : grN (5 * q + 1) = 9999 := by unfold grN; rw [if_neg (by omega), if_pos (by omega)]
  have g2 : grN (5 * q + 2) = 9 := by unfold grN; rw [if_neg (by omega), if_neg (by omega), if_pos (by omega)]
  have g3 : grN (5 * q + 3) = 2 := by unfold grN; rw [if_neg (by omega), if_neg (by omega), if_neg (by omega)]
  have g4 : grN (5 * q + 4) = 2 := by unfold grN; rw [if_neg (by omega), if_neg (by omega), if_neg (by omega)]
  have b0 : bx x (5 * q) ↔ fX12_within (x (5 * q)) (0 : Int64) (15 : Int64) = 0 := by unfold bx; rw [g0, nI_l (by decide)]; exact Iff.rfl
  have b1 : bx x (5 * q + 1) ↔ fX12_within (x (5 * q + 1)) (0 : Int64) (9999 : Int64) = 0 := by unfold bx; rw [g1, nI_l (by decide)]; exact Iff.rfl
  have b2 : bx x (5 * q + 2) ↔ fX12_within (x (5 * q + 2)) (0 : Int64) (9 : Int64) = 0 := by unfold bx; rw [g2, nI_l (by decide)]; exact Iff.rfl
  have b3 : bx x (5 * q + 3) ↔ fX12_within (x (5 * q + 3)) (0 : Int64) (2 : Int64) = 0 := by unfold bx; rw [g3, nI_l (by decide)]; exact Iff.rfl
  have b4 : bx x (5 * q + 4) ↔ fX12_within (x (5 * q + 4)) (0 : Int64) (2 : Int64) = 0 := by unfold bx; rw [g4, nI_l (by decide)]; exact Iff.rfl
  unfold fX12_isAnswer
  by_cases y0 : fX12_within (x (5 * q)) (0 : Int64) (15 : Int64) = 0
  · rw [if_pos y0]
    exact ⟨fun _ => ⟨0, by omega, b0.mpr y0⟩, fun _ => rfl⟩
  by_cases y1 : fX12_within (x (5 * q + 1)) (0 : Int64) (9999 : Int64) = 0
  · rw [if_neg y0, if_pos y1]
    exact ⟨fun _ => ⟨1, by omega, b1.mpr y1⟩, fun _ => rfl⟩
  by_cases y2 : fX12_within (x (5 * q + 2)) (0 : Int64) (9 : Int64) = 0
  · rw [if_neg y0, if_neg y1, if_pos y2]
    exact ⟨fun _ => ⟨2, by omega, b2.mpr y2⟩, fun _ => rfl⟩
  by_cases y3 : fX12_within (x (5 * q + 3)) (0 : Int64) (2 : Int64) = 0
  · rw [if_neg y0, if_neg y1, if_neg y2, if_pos y3]
    exact ⟨fun _ => ⟨3, by omega, b3.mpr y3⟩, fun _ => rfl⟩
  by_cases y4 : fX12_within (x (5 * q + 4)) (0 : Int64) (2 : Int64) = 0
  · rw [if_neg y0, if_neg y1, if_neg y2, if_neg y3, if_pos y4]
    exact ⟨fun _ => ⟨4, by omega, b4.mpr y4⟩, fun _ => rfl⟩
  rw [if_neg y0, if_neg y1, if_neg y2, if_neg y3, if_neg y4]
  refine ⟨fun z => absurd z (by decide), fun ⟨k, hk, hb⟩ => ?_⟩
  have e : k = 0 ∨ k = 1 ∨ k = 2 ∨ k = 3 ∨ k = 4 := by omega
  rcases e with rfl | rfl | rfl | rfl | rfl
  · exact absurd (b0.mp hb) y0
  · exact absurd (b1.mp hb) y1
  · exact absurd (b2.mp hb) y2
  · exact absurd (b3.mp hb) y3
  · exact absurd (b4.mp hb) y4
theorem ad_N (p c : Nat) : nI p + nI c = nI (p + c) := nI_add p c
theorem ck_M {n r Q : Nat} {K1 K2 : Option (Int32 × jWd)} {x : Nat → Int64} (hr : r < 4) (hQ : Q ≤ 12) (hx : ∀ k, k < 5 * Q → wJ w 223 (60 * r + k) = x k) : ∀ c q f, q + c = Q → c < f → ((∀ j, 5 * q ≤ j → j < 5 * Q → ¬ bx x j) → lX12_minister_70 n (nI r) (nI Q) K1 K2 w f (nI q) = K1) ∧ (∀ j, 5 * q ≤ j → j < 5 * Q → bx x j → lX12_minister_70 n (nI r) (nI Q) K1 K2 w f (nI q) = K2) := by
  have l3 : ln 223 = 240 := rfl
  intro c
  induction c with
  | zero =>
    intro q f hi hf
    obtain ⟨f, rfl⟩ : ∃ g, f = g + 1 := ⟨f - 1, by omega⟩
    refine ⟨fun _ => ?_, fun j h1 h2 _ => absurd h1 (by omega)⟩
    show bX12_minister_70 n (nI r) (nI Q) K1 K2 w _ (nI q) = _
    unfold bX12_minister_70
    rw [if_pos (nI_le (by omega) (by omega))]
  | succ c ih =>
    intro q f hi hf
    obtain ⟨f, rfl⟩ : ∃ g, f = g + 1 := ⟨f - 1, by omega⟩
    have eI : (60 : Int32) * nI r + (5 : Int32) * nI q = nI (60 * r + 5 * q) := by rw [show (60 : Int32) = nI 60 from rfl, show (5 : Int32) = nI 5 from rfl, ev_mul, ev_mul, nI_add]
    have v0 : wJ w 223 (60 * r + 5 * q) = x (5 * q) := hx _ (by omega)
    have v1 : wJ w 223 (60 * r + 5 * q + 1) = x (5 * q + 1) := by rw [Nat.add_assoc]; exact hx _ (by omega)
    have v2 : wJ w 223 (60 * r + 5 * q + 2) = x (5 * q + 2) := by rw [Nat.add_assoc]; exact hx _ (by omega)
    have v3 : wJ w 223 (60 * r + 5 * q + 3) = x (5 * q + 3) := by rw [Nat.add_assoc]; exact hx _ (by omega)
    have v4 : wJ w 223 (60 * r + 5 * q + 4) = x (5 * q + 4) := by rw [Nat.add_assoc]; exact hx _ (by omega)
    have e : lX12_minister_70 n (nI r) (nI Q) K1 K2 w (f + 1) (nI q) = if fX12_isAnswer (x (5 * q)) (x (5 * q + 1)) (x (5 * q + 2)) (x (5 * q + 3)) (x (5 * q + 4)) = 0 then K2 else lX12_minister_70 n (nI r) (nI Q) K1 K2 w f (nI (q + 1)) := by
      show bX12_minister_70 n (nI r) (nI Q) K1 K2 w (lX12_minister_70 n (nI r) (nI Q) K1 K2 w f) (nI q) = _
      unfold bX12_minister_70 letV
      dsimp only
      rw [if_neg (nI_ge (by omega) (by omega)), eI, l3, nI_1, show (2 : Int32) = nI 2 from rfl, show (3 : Int32) = nI 3 from rfl, show (4 : Int32) = nI 4 from rfl, nI_add, nI_add, nI_add, grd_N (by omega) (by decide), grd_N (by omega) (by decide), grd_N (by omega) (by decide), grd_N (by omega) (by decide), grd_N (by omega) (by decide), nI_clamp (by omega), nI_clamp (by omega), nI_clamp (by omega), nI_clamp (by omega), nI_clamp (by omega), v0, v1, v2, v3, v4, nI_1]
    have h := ih (q + 1) f (by omega) (by omega)
    rw [e]
    refine ⟨fun z => ?_, fun j h1 h2 hb => ?_⟩
    · have hno : ¬ fX12_isAnswer (x (5 * q)) (x (5 * q + 1)) (x (5 * q + 2)) (x (5 * q + 3)) (x (5 * q + 4)) = 0 := fun y => by
        obtain ⟨k, hk, hb⟩ := (isA_iff x q).mp y
        exact z (5 * q + k) (by omega) (by omega) hb
      rw [if_neg hno]
      exact h.1 (fun j h1 h2 => z j (by omega) h2)
    · by_cases b : fX12_isAnswer (x (5 * q)) (x (5 * q + 1)) (x (5 * q + 2)) (x (5 * q + 3)) (x (5 * q + 4)) = 0
      · rw [if_pos b]
      · rw [if_neg b]
        by_cases y : j < 5 * (q + 1)
        · exact absurd ((isA_iff x q).mpr ⟨j - 5 * q, by omega, by rw [show 5 * q + (j - 5 * q) = j by omega]; exact hb⟩) b
        · exact h.2 j (by omega) h2 hb
/-- the class's answers from place a on -/
def mW (w : jWd) (a : Nat) (x : Nat → Int64) : Nat → jWd
  | 0 => w
  | j + 1 => sJ (sI (sI (sI (sI (sI (sI (mW w a x j) 42 (a + j) (nI (vN (x (5 * j))))) 43 (a + j) (nI (vN (x (5 * j + 1))))) 44 (a + j) (nI (vN (x (5 * j + 2))))) 41 0 (nI (a + j + 1))) 45 (a + j) (nI (vN (x (5 * j + 3))))) 46 (a + j) (nI (vN (x (5 * j + 4))))) 47 (a + j) 0
theorem mW_s (w : jWd) (a : Nat) (x : Nat → Int64) (j : Nat) : mW w a x (j + 1) = sJ (sI (sI (sI (sI (sI (sI (mW w a x j) 42 (a + j) (nI (vN (x (5 * j))))) 43 (a + j) (nI (vN (x (5 * j + 1))))) 44 (a + j) (nI (vN (x (5 * j + 2))))) 41 0 (nI (a + j + 1))) 45 (a + j) (nI (vN (x (5 * j + 3))))) 46 (a + j) (nI (vN (x (5 * j + 4))))) 47 (a + j) 0 := rfl
theorem mW_fr (w : jWd) (a : Nat) (x : Nat → Int64) : ∀ j, frP (fun c _ => 41 ≤ c ∧ c ≤ 47) w (mW w a x j) := by
  intro j
  induction j with
  | zero => exact frP_refl _ _
  | succ j ih =>
    rw [mW_s]
    exact frP_trans (frP_trans (frP_trans (frP_trans (frP_trans (frP_trans (frP_trans ih (frP_sI _ _ ⟨by decide, by decide⟩)) (frP_sI _ _ ⟨by decide, by decide⟩)) (frP_sI _ _ ⟨by decide, by decide⟩)) (frP_sI _ _ ⟨by decide, by decide⟩)) (frP_sI _ _ ⟨by decide, by decide⟩)) (frP_sI _ _ ⟨by decide, by decide⟩)) (frP_sJ _ _ ⟨by decide, by decide⟩)
theorem mW_0 {a : Nat} {x : Nat → Int64} (h0 : wI w 41 0 = nI a) : ∀ j, wI (mW w a x j) 41 0 = nI (a + j) := by
  intro j
  cases j with
  | zero => exact h0
  | succ j =>
    rw [mW_s]
    simp (disch := omega) only [wI_sJ, ev_wIn]
    exact ev_wIs _ _ _ _
/-- the reference's answers from place a on -/
def rW (w : jWd) (a : Nat) (x : Nat → Int64) : Nat → jWd
  | 0 => w
  | j + 1 => sI (sJ (sI (sI (sI (sI (sI (rW w a x j) 207 (548 + (a + j)) (nI (vN (x (5 * j))))) 207 (608 + (a + j)) (nI (vN (x (5 * j + 1))))) 207 (668 + (a + j)) (nI (vN (x (5 * j + 2))))) 207 (728 + (a + j)) (nI (vN (x (5 * j + 3))))) 207 (788 + (a + j)) (nI (vN (x (5 * j + 4))))) 208 (724 + (a + j)) 0) 207 547 (nI (a + j + 1))
theorem rW_s (w : jWd) (a : Nat) (x : Nat → Int64) (j : Nat) : rW w a x (j + 1) = sI (sJ (sI (sI (sI (sI (sI (rW w a x j) 207 (548 + (a + j)) (nI (vN (x (5 * j))))) 207 (608 + (a + j)) (nI (vN (x (5 * j + 1))))) 207 (668 + (a + j)) (nI (vN (x (5 * j + 2))))) 207 (728 + (a + j)) (nI (vN (x (5 * j + 3))))) 207 (788 + (a + j)) (nI (vN (x (5 * j + 4))))) 208 (724 + (a + j)) 0) 207 547 (nI (a + j + 1)) := rfl
theorem rW_fr (w : jWd) {a : Nat} (x : Nat → Int64) : ∀ j, a + j ≤ 60 → frP (fun c k => (c = 207 ∨ c = 208) ∧ 547 ≤ k ∧ k < 848 ∧ (c = 208 → k < 784)) w (rW w a x j) := by
  intro j
  induction j with
  | zero => exact fun _ => frP_refl _ _
  | succ j ih =>
    intro hj
    rw [rW_s]
    refine frP_trans (frP_trans (frP_trans (frP_trans (frP_trans (frP_trans (frP_trans (ih (by omega)) (frP_sI _ _ ?_)) (frP_sI _ _ ?_)) (frP_sI _ _ ?_)) (frP_sI _ _ ?_)) (frP_sI _ _ ?_)) (frP_sJ _ _ ?_)) (frP_sI _ _ ?_) <;> exact ⟨by omega, by omega, by omega, by omega⟩
theorem rW_0 {a : Nat} {x : Nat → Int64} (h0 : wI w 207 547 = nI a) : ∀ j, wI (rW w a x j) 207 547 = nI (a + j) := by
  intro j
  cases j with
  | zero => exact h0
  | succ j =>
    rw [rW_s]
    exact ev_wIs _ _ _ _
theorem mst_X {n r m Q a : Nat} {x : Nat → Int64} (hr : r < 4) (hm : m = 5 * Q) (hm60 : m ≤ 60) (h60 : a + Q ≤ 60) (q1 : wI w 186 r = nI m) (hx : ∀ k, k < m → wJ w 188 (60 * r + k) = x k) (hv : ∀ k, k < m → (x k).toInt32 = nI (vN (x k))) (h0 : wI w 41 0 = nI a) : ∀ c j f, j + c = Q → c < f → lX11_minister_124 n (nI r) (nI Q) f (nI j) (mW w a x j) = some (nI Q, mW w a x Q) := by
  intro c
  induction c with
  | zero =>
    intro j f hi hf
    obtain ⟨f, rfl⟩ : ∃ g, f = g + 1 := ⟨f - 1, by omega⟩
    show bX11_minister_124 n (nI r) (nI Q) _ (nI j) _ = _
    unfold bX11_minister_124
    rw [if_pos (nI_le (by omega) (by omega)), show j = Q by omega]
  | succ c ih =>
    intro j f hi hf
    obtain ⟨f, rfl⟩ : ∃ g, f = g + 1 := ⟨f - 1, by omega⟩
    have l1 : ln (41 + 1) = 60 := rfl
    have l2 : ln (41 + 2) = 60 := rfl
    have l3 : ln (41 + 3) = 60 := rfl
    have l4 : ln (41 + 4) = 60 := rfl
    have l5 : ln (41 + 5) = 60 := rfl
    have l6 : ln (41 + 6) = 60 := rfl
    have e5 : nI j * (5 : Int32) = nI (5 * j) := by rw [show (5 : Int32) = nI 5 from rfl, ev_mul, Nat.mul_comm]
    have f0 := mW_fr w a x j
    have hA : ∀ k, k < m → fX7_at (nI r) (nI k) (mW w a x j) = some (x k) := fun k hk => by
      rw [rwat_X hr hk hm60 ((frP_I f0 (by omega)).trans q1), frP_J f0 (by omega), hx k hk]
    have h1 := mW_0 (x := x) h0 j
    have hlt : a + j < 60 := by omega
    obtain ⟨u, hu⟩ : ∃ u, u = sI (sI (sI (sI (mW w a x j) 42 (a + j) (nI (vN (x (5 * j))))) 43 (a + j) (nI (vN (x (5 * j + 1))))) 44 (a + j) (nI (vN (x (5 * j + 2))))) 41 0 (nI (a + j + 1)) := ⟨_, rfl⟩
    have hs : fX0_start 41 (nI (vN (x (5 * j)))) (nI (vN (x (5 * j + 1)))) (nI (vN (x (5 * j + 2)))) (mW w a x j) = some (nI (a + j), u) := by
      rw [hu]
      unfold fX0_start letV
      dsimp only
      rw [h1, if_pos (show nI (a + j) < (60 : Int32) from nI_lt (b := 60) hlt (by decide)), l1, l2, l3]
      simp (disch := omega) only [grd_N, nI_clamp, ev_wIn, h1, nI_1]
    have hA2 : ∀ k, k < m → fX7_at (nI r) (nI k) u = some (x k) := fun k hk => by
      have q2 : wI u 186 r = nI m := by
        rw [hu]
        simp (disch := omega) only [ev_wIn]
        exact (frP_I f0 (by omega)).trans q1
      rw [rwat_X hr hk hm60 q2, hu, wJ_sI, wJ_sI, wJ_sI, wJ_sI, frP_J f0 (by omega), hx k hk]
    have hh : fX0_has 41 (nI (a + j)) u = bI true := ha_yes (show a + j < a + j + 1 by omega) (by omega) (by rw [hu]; exact ev_wIs _ _ _ _)
    have he : fX0_hear 41 (nI (a + j)) (nI (vN (x (5 * j + 3)))) (nI (vN (x (5 * j + 4)))) (0 : Int64) u = some (mW w a x (j + 1)) := by
      unfold fX0_hear letV
      rw [hh, if_neg (by decide), l4, l5, l6]
      simp (disch := omega) only [grd_N, nI_clamp]
      rw [mW_s, hu]
    show bX11_minister_124 n (nI r) (nI Q) (lX11_minister_124 n (nI r) (nI Q) f) (nI j) (mW w a x j) = _
    unfold bX11_minister_124 letV
    dsimp only
    rw [if_neg (nI_ge (by omega) (by omega)), e5, nI_1, show (2 : Int32) = nI 2 from rfl, show (3 : Int32) = nI 3 from rfl, show (4 : Int32) = nI 4 from rfl, nI_add, nI_add, nI_add, hA (5 * j) (by omega), ev_bO, hA (5 * j + 1) (by omega), ev_bO, hA (5 * j + 2) (by omega), ev_bO, hv (5 * j) (by omega), hv (5 * j + 1) (by omega), hv (5 * j + 2) (by omega), hs, ev_bO2, hA2 (5 * j + 3) (by omega), ev_bO, hA2 (5 * j + 4) (by omega), ev_bO, hv (5 * j + 3) (by omega), hv (5 * j + 4) (by omega), he, ev_bO, nI_1]
    exact ih (j + 1) f (by omega) (by omega)
theorem cln_z : cln 0 = 0 := by decide +kernel
theorem mst_M {n r Q a : Nat} {x : Nat → Int64} (hn : 8 < n) (hr : r < 4) (hQ : Q ≤ 12) (h60 : a + Q ≤ 60) (hx : ∀ k, k < 5 * Q → wJ w 223 (60 * r + k) = x k) (hv : ∀ k, k < 5 * Q → (x k).toInt32 = nI (vN (x k))) (h0 : wI w 207 547 = nI a) : ∀ c j f, j + c = Q → c < f → lX12_minister_171 n (nI r) (nI Q) f (nI j) (rW w a x j) = some (nI Q, rW w a x Q) := by
  have l3 : ln 223 = 240 := rfl
  intro c
  induction c with
  | zero =>
    intro j f hi hf
    obtain ⟨f, rfl⟩ : ∃ g, f = g + 1 := ⟨f - 1, by omega⟩
    show bX12_minister_171 n (nI r) (nI Q) _ (nI j) _ = _
    unfold bX12_minister_171
    rw [if_pos (nI_le (by omega) (by omega)), show j = Q by omega]
  | succ c ih =>
    intro j f hi hf
    obtain ⟨f, rfl⟩ : ∃ g, f = g + 1 := ⟨f - 1, by omega⟩
    have eI : (60 : Int32) * nI r + (5 : Int32) * nI j = nI (60 * r + 5 * j) := by rw [show (60 : Int32) = nI 60 from rfl, show (5 : Int32) = nI 5 from rfl, ev_mul, ev_mul, nI_add]
    have f0 := rW_fr w (a := a) x j (by omega)
    have hA : ∀ k, k < 5 * Q → wJ (rW w a x j) 223 (60 * r + k) = x k := fun k hk => by rw [frP_J f0 (by omega), hx k hk]
    have v0 : wJ (rW w a x j) 223 (60 * r + 5 * j) = x (5 * j) := hA _ (by omega)
    have v1 : wJ (rW w a x j) 223 (60 * r + 5 * j + 1) = x (5 * j + 1) := by rw [Nat.add_assoc]; exact hA _ (by omega)
    have v2 : wJ (rW w a x j) 223 (60 * r + 5 * j + 2) = x (5 * j + 2) := by rw [Nat.add_assoc]; exact hA _ (by omega)
    have v3 : wJ (rW w a x j) 223 (60 * r + 5 * j + 3) = x (5 * j + 3) := by rw [Nat.add_assoc]; exact hA _ (by omega)
    have v4 : wJ (rW w a x j) 223 (60 * r + 5 * j + 4) = x (5 * j + 4) := by rw [Nat.add_assoc]; exact hA _ (by omega)
    have h1 := rW_0 (x := x) h0 j
    have b2 := ans_M (n := n) hn h1 (show a + j < 60 by omega) (nI (vN (x (5 * j)))) (nI (vN (x (5 * j + 1)))) (nI (vN (x (5 * j + 2)))) (nI (vN (x (5 * j + 3)))) (nI (vN (x (5 * j + 4)))) (0 : Int64)
    rw [cln_z, ← rW_s] at b2
    show bX12_minister_171 n (nI r) (nI Q) (lX12_minister_171 n (nI r) (nI Q) f) (nI j) (rW w a x j) = _
    unfold bX12_minister_171 letV
    dsimp only
    rw [if_neg (nI_ge (by omega) (by omega)), eI, l3, nI_1, show (2 : Int32) = nI 2 from rfl, show (3 : Int32) = nI 3 from rfl, show (4 : Int32) = nI 4 from rfl, nI_add, nI_add, nI_add, grd_N (by omega) (by decide), grd_N (by omega) (by decide), grd_N (by omega) (by decide), grd_N (by omega) (by decide), grd_N (by omega) (by decide), nI_clamp (by omega), nI_clamp (by omega), nI_clamp (by omega), nI_clamp (by omega), nI_clamp (by omega), v0, v1, v2, v3, v4, hv (5 * j) (by omega), hv (5 * j + 1) (by omega), hv (5 * j + 2) (by omega), hv (5 * j + 3) (by omega), hv (5 * j + 4) (by omega), b2, ev_bO, nI_1]
    exact ih (j + 1) f (by omega) (by omega)
/-- what both hold behind j answers -/
def mA (A : Nat → Nat) (x : Nat → Int64) : Nat → Nat → Nat
  | 0 => A
  | j + 1 => anA (mA A x j) (vN (x (5 * j))) (vN (x (5 * j + 1))) (vN (x (5 * j + 2))) (vN (x (5 * j + 3))) (vN (x (5 * j + 4)))
def mL (A : Nat → Nat) (L : Nat → Int64) : Nat → Nat → Int64
  | 0 => L
  | j + 1 => uN (mL A L j) (724 + (A 547 + j)) 0
theorem mA_s (A : Nat → Nat) (x : Nat → Int64) (j : Nat) : mA A x (j + 1) = anA (mA A x j) (vN (x (5 * j))) (vN (x (5 * j + 1))) (vN (x (5 * j + 2))) (vN (x (5 * j + 3))) (vN (x (5 * j + 4))) := rfl
theorem mL_s (A : Nat → Nat) (L : Nat → Int64) (j : Nat) : mL A L (j + 1) = uN (mL A L j) (724 + (A 547 + j)) 0 := rfl
theorem mA_547 (A : Nat → Nat) (x : Nat → Int64) : ∀ j, mA A x j 547 = A 547 + j := by
  intro j
  induction j with
  | zero => rfl
  | succ j ih =>
    rw [mA_s]
    unfold anA
    rw [uN_eq, ih]
    rfl
theorem RM_mi {x : Nat → Int64} (h : RM A L F W 0 w) : ∀ j, RM (mA A x j) (mL A L j) F W 0 (rW w (A 547) x j) := by
  intro j
  induction j with
  | zero => exact h
  | succ j ih =>
    rw [mA_s, mL_s, rW_s]
    unfold anA
    rw [mA_547]
    exact RM_A (RM_L (RM_A (RM_A (RM_A (RM_A (RM_A ih _) _) _) _) _) _) _
theorem RN_mi {x : Nat → Int64} {Q : Nat} (h : RN A L F W w) (h60 : A 547 + Q ≤ 60) (hb : ∀ k, k < 5 * Q → ¬ bx x k) : ∀ j, j ≤ Q → ∀ z, (∀ c k, 1 ≤ c → c ≤ 57 → wI z c k = wI (mW w (A 547) x j) c k ∧ wJ z c k = wJ (mW w (A 547) x j) c k) → RM (mA A x j) (mL A L j) F W 0 z → RN (mA A x j) (mL A L j) F W z := by
  intro j
  induction j with
  | zero =>
    intro _ z hz hM
    exact ⟨h.1, RX_cg h.1.1 (fun c k h1 h2 => (hz c k h1 (by omega)).1) (fun c k h1 h2 => (hz c k h1 (by omega)).2) h.2.1, RCon_c (fun c k hc _ => (hz c k (by omega) (by omega)).1) h.2.2.1, hM⟩
  | succ j ih =>
    intro hj z hz hM
    have hm : RM A L F W 0 (sI (mW w (A 547) x j) 205 0 (0 : Int32)) := RM_I (RM_cg (fun k _ => frP_I (mW_fr w (A 547) x j) (by omega)) (fun k _ => frP_J (mW_fr w (A 547) x j) (by omega)) (fun k _ => frP_I (mW_fr w (A 547) x j) (by omega)) (fun k _ => frP_I (mW_fr w (A 547) x j) (by omega)) h.2.2.2) _ (by omega)
    have f0 := rW_fr (sI (mW w (A 547) x j) 205 0 (0 : Int32)) (a := A 547) x j (by omega)
    have hI : ∀ c k, 1 ≤ c → c ≤ 57 → wI (rW (sI (mW w (A 547) x j) 205 0 (0 : Int32)) (A 547) x j) c k = wI (mW w (A 547) x j) c k := fun c k h1 h2 => by rw [frP_I f0 (by omega), ev_wIn _ (by omega)]
    have hJ : ∀ c k, 1 ≤ c → c ≤ 57 → wJ (rW (sI (mW w (A 547) x j) 205 0 (0 : Int32)) (A 547) x j) c k = wJ (mW w (A 547) x j) c k := fun c k h1 h2 => by rw [frP_J f0 (by omega), wJ_sI]
    have hN := ih (by omega) _ (fun c k h1 h2 => ⟨hI c k h1 h2, hJ c k h1 h2⟩) (RM_mi hm j)
    have g0 := (lN_vN (show 15 < 2147483648 by decide) (show ¬ fX11_within (x (5 * j)) 0 ((nI 15).toInt64) = 0 from by have := hb (5 * j) (by omega); unfold bx grN at this; rwa [if_pos (by omega)] at this)).1
    have g1 := (lN_vN (show 9999 < 2147483648 by decide) (show ¬ fX11_within (x (5 * j + 1)) 0 ((nI 9999).toInt64) = 0 from by have := hb (5 * j + 1) (by omega); unfold bx grN at this; rwa [if_neg (by omega), if_pos (by omega)] at this)).1
    have g2 := (lN_vN (show 9 < 2147483648 by decide) (show ¬ fX11_within (x (5 * j + 2)) 0 ((nI 9).toInt64) = 0 from by have := hb (5 * j + 2) (by omega); unfold bx grN at this; rwa [if_neg (by omega), if_neg (by omega), if_pos (by omega)] at this)).1
    have g3 := (lN_vN (show 2 < 2147483648 by decide) (show ¬ fX11_within (x (5 * j + 3)) 0 ((nI 2).toInt64) = 0 from by have := hb (5 * j + 3) (by omega); unfold bx grN at this; rwa [if_neg (by omega), if_neg (by omega), if_neg (by omega)] at this)).1
    have g4 := (lN_vN (show 2 < 2147483648 by decide) (show ¬ fX11_within (x (5 * j + 4)) 0 ((nI 2).toInt64) = 0 from by have := hb (5 * j + 4) (by omega); unfold bx grN at this; rwa [if_neg (by omega), if_neg (by omega), if_neg (by omega)] at this)).1
    have e7 := mA_547 A x j
    have eL : mL A L (j + 1) = uN (mL A L j) (724 + mA A x j 547) 0 := by rw [mL_s, e7]
    rw [eL] at hM ⊢
    rw [mA_s] at hM ⊢
    refine RN_ans hN (by omega) g0 g1 g2 g3 g4 (l := 0) (by rw [← cln_z]; exact isC_cln 0) (fun c k h1 h2 => ?_) hM
    rw [(hz c k h1 h2).1, (hz c k h1 h2).2, mW_s, e7]
    exact ⟨by simp only [wI_sI, wI_sJ, hI c k h1 h2], by simp only [wJ_sI, wJ_sJ, hJ c k h1 h2]⟩
end MIN
