/-! adds, added -/
section ADD
variable {A : Nat → Nat} {L : Nat → Int64} {F W : Nat → Nat} {w : jWd}
/-- a book's line, smoothed of a tale, is like that one -/
def anS (L : Nat → Int64) (F : Nat → Nat) (b t H : Nat) (l : Int64) : Nat → Nat → Bool
  | 0, _ => false
  | c + 1, i => if alkN (smS F t (L (540 + 12 * b + i))) l < H then anS L F b t H l c (i + 1) else true
def anX (L : Nat → Int64) (F : Nat → Nat) (b t H : Nat) (l : Int64) : Nat → Nat → Bool
  | 0, _ => false
  | c + 1, i => if alkN (L (540 + 12 * b + i)) l < H ∧ alkN (smS F t (L (540 + 12 * b + i))) l < H then anX L F b t H l c (i + 1) else true
theorem anX_or (A : Nat → Nat) (L : Nat → Int64) (F : Nat → Nat) (b t H : Nat) (l : Int64) : ∀ c i, anX L F b t H l c i = (anB A L b H l c i || anS L F b t H l c i) := by
  intro c
  induction c with
  | zero => intro i; rfl
  | succ c ih =>
    intro i
    unfold anX anB anS
    by_cases q1 : alkN (L (540 + 12 * b + i)) l < H
    · by_cases q2 : alkN (smS F t (L (540 + 12 * b + i))) l < H
      · rw [if_pos ⟨q1, q2⟩, if_pos q1, if_pos q2, ih]
      · rw [if_neg (fun z => q2 z.2), if_pos q1, if_neg q2, Bool.or_true]
    · rw [if_neg (fun z => q1 z.1), if_neg q1, Bool.true_or]
def adZ (A : Nat → Nat) (L : Nat → Int64) (F : Nat → Nat) (b t p : Nat) : Bool := decide (3 ≤ (whS A L F p).1) && anX L F b t (A 248) (L (480 + p)) (A (236 + b)) 0
def adF (sel : Nat → Bool) (i : Int32) : Nat → Nat → Nat → Int32
  | 0, _, m => if i = -1 then nI m else -1
  | c + 1, p, m => if sel p = true then (if nI m = i then nI p else adF sel i c (p + 1) (m + 1)) else adF sel i c (p + 1) m
def BSm (A : Nat → Nat) (L : Nat → Int64) (F : Nat → Nat) (b t : Nat) (w : jWd) : Prop := ∀ k, k < A (236 + b) → wJ w 183 k = smS F t (L (540 + 12 * b + k))
theorem BSm_fr {b t : Nat} {w' : jWd} (hf : frP P182 w w') (h : BSm A L F b t w) : BSm A L F b t w' := fun k hk => by rw [frP_J hf (show ¬ P182 183 k by unfold P182; omega)]; exact h k hk
theorem bs_X {n : Nat} (hn : 201 < n) {b t : Nat} (ht : t < 2147483648) (p3 : Int32) (K : jWd → Option (Int32 × jWd)) : ∀ c k f (w : jWd), RN A L F W w → b < A 223 → k + c = A (236 + b) → c < f → (∀ j, j < k → wJ w 183 j = smS F t (L (540 + 12 * b + j))) → ∃ w', lX2_addsOf_19 n (nI b) (nI t) p3 K f (nI k) w = K w' ∧ BSm A L F b t w' ∧ frP (fun c _ => c = 183) w w' := by
  have l13 : ln 13 = 12 := rfl
  have l183 : ln 183 = 12 := rfl
  intro c
  induction c with
  | zero =>
    intro k f w h hb hk hf h1
    obtain ⟨f, rfl⟩ : ∃ g, f = g + 1 := ⟨f - 1, by omega⟩
    have h12 := h.1.1.2.2.2.2.1
    have h9 := h.1.1.2.2.2.2.2.1 b (by omega)
    have e13 : wI w 13 b = nI (A (236 + b)) := (h.2.1.2.1.2 b hb).2.1
    refine ⟨w, ?_, fun j hj => h1 j (by omega), frP_refl _ _⟩
    show bX2_addsOf_19 n (nI b) (nI t) p3 K _ (nI k) w = _
    unfold bX2_addsOf_19
    rw [l13, grd_N (by omega) (by decide), nI_clamp (by omega), e13, if_pos (nI_le (by omega) (by omega))]
  | succ c ih =>
    intro k f w h hb hk hf h1
    obtain ⟨f, rfl⟩ : ∃ g, f = g + 1 := ⟨f - 1, by omega⟩
    have h12 := h.1.1.2.2.2.2.1
    have h9 := h.1.1.2.2.2.2.2.1 b (by omega)
    have e13 : wI w 13 b = nI (A (236 + b)) := (h.2.1.2.1.2 b hb).2.1
    have hL := h.1.2.2.1.2.1 b k hb (by omega)
    have f0 : frP (fun c _ => c = 183) w (sJ w 183 k (smS F t (L (540 + 12 * b + k)))) := frP_sJ _ _ rfl
    obtain ⟨w', e1, e2, e3⟩ := ih (k + 1) f (sJ w 183 k (smS F t (L (540 + 12 * b + k)))) (RN_fr (frP_mono (fun c k q => by unfold Scr; omega) f0) h) hb (by omega) (by omega) (fun j hj => by
      by_cases e : j = k
      · subst e; rw [ev_wJs]
      · rw [ev_wJn _ (by omega), h1 j (by omega)])
    refine ⟨w', ?_, e2, frP_trans f0 e3⟩
    show bX2_addsOf_19 n (nI b) (nI t) p3 K (lX2_addsOf_19 n (nI b) (nI t) p3 K f) (nI k) w = _
    unfold bX2_addsOf_19
    rw [l13, grd_N (by omega) (by decide), nI_clamp (by omega), e13, if_neg (nI_ge (by omega) (by omega)), if_neg (show ¬ (12 : Int32) ≤ nI k from nI_ge (b := 12) (by omega) (by decide)), bk_at h hb (by omega)]
    dsimp only [bO]
    rw [sm_X hn ht h.2.1.2.2.2.2.2.1 h.1.2.2.2.1 hL.1]
    dsimp only [bO, letV]
    rw [l183, grd_N (by omega) (by decide), nI_clamp (by omega), nI_1]
    exact e1
theorem wb_l {n : Nat} (hn : 20 < n) (h : RN A L F W w) {b t : Nat} (hb : b < A 223) (hB : BSm A L F b t w) {l : Int64} (hl : isL l) : ∀ c i f, i + c = A (236 + b) → c < f → lX2_wouldBeTheirs_37 n (nI b) l w f (nI i) = some (bI (anS L F b t (A 248) l c i)) := by
  have h12 := h.1.1.2.2.2.2.1
  have h9 := h.1.1.2.2.2.2.2.1 b (by omega)
  have l13 : ln 13 = 12 := rfl
  have l183 : ln 183 = 12 := rfl
  have e13 : wI w 13 b = nI (A (236 + b)) := (h.2.1.2.1.2 b hb).2.1
  have x1 : wI w 1 11 = nI (A 248) := h.2.1.2.2.2.2.2.2.2.2.2.2.1
  obtain ⟨b1, b2, b3⟩ := h.1.1.2.2.2.2.2.2.1
  intro c
  induction c with
  | zero =>
    intro i f hi hf
    obtain ⟨f, rfl⟩ : ∃ g, f = g + 1 := ⟨f - 1, by omega⟩
    show bX2_wouldBeTheirs_37 n (nI b) l w _ (nI i) = _
    unfold bX2_wouldBeTheirs_37
    rw [l13, grd_N (by omega) (by decide), nI_clamp (by omega), e13, if_pos (nI_le (by omega) (by omega))]
    rfl
  | succ c ih =>
    intro i f hi hf
    obtain ⟨f, rfl⟩ : ∃ g, f = g + 1 := ⟨f - 1, by omega⟩
    have hL := h.1.2.2.1.2.1 b i hb (by omega)
    have ha := alkN_le (smS F t (L (540 + 12 * b + i))) l
    show bX2_wouldBeTheirs_37 n (nI b) l w (lX2_wouldBeTheirs_37 n (nI b) l w f) (nI i) = _
    unfold bX2_wouldBeTheirs_37 anS
    rw [l13, grd_N (by omega) (by decide), nI_clamp (by omega), e13, if_neg (nI_ge (by omega) (by omega)), if_neg (show ¬ (12 : Int32) ≤ nI i from nI_ge (b := 12) (by omega) (by decide)), l183, grd_N (by omega) (by decide), nI_clamp (by omega), hB i (by omega), alk_X (by omega) (smS_C h.1.2.2.2.1 t hL.1) hl.1 (fun q => hl.2 q.2), x1]
    dsimp only [bO, letV]
    rw [nI_1]
    by_cases q : alkN (smS F t (L (540 + 12 * b + i))) l < A 248
    · rw [if_pos (nI_lt q (by omega)), if_pos q]
      exact ih (i + 1) f (by omega) (by omega)
    · rw [if_neg (nI_nlt (by omega) (by omega)), if_neg q]
      rfl
theorem wb_X {n : Nat} (hn : 20 < n) (h : RN A L F W w) {b t : Nat} (hb : b < A 223) (hB : BSm A L F b t w) {l : Int64} (hl : isL l) : fX2_wouldBeTheirs n (nI b) l w = some (bI (anX L F b t (A 248) l (A (236 + b)) 0)) := by
  have h12 := h.1.1.2.2.2.2.1
  have h9 := h.1.1.2.2.2.2.2.1 b (by omega)
  have x1 : wI w 1 11 = nI (A 248) := h.2.1.2.2.2.2.2.2.2.2.2.2.1
  obtain ⟨b1, b2, b3⟩ := h.1.1.2.2.2.2.2.2.1
  unfold fX2_wouldBeTheirs
  rw [has_yes hb (by omega) h.2.1.2.1.1, if_neg (by decide), x1, bh_X hn h hb (by omega) hl, anX_or A]
  dsimp only [bO]
  cases hc : anB A L b (A 248) l (A (236 + b)) 0
  · rw [if_pos (by decide), Bool.false_or]
    exact wb_l hn h hb hB hl (A (236 + b)) 0 n (by omega) (by omega)
  · rw [if_neg (by decide), Bool.true_or]
    rfl
theorem ad_X {n : Nat} (hn : 70 < n) {b t : Nat} (i : Int32) (K : Int32 → jWd → Option (Int32 × jWd)) (hK : ∀ m w, K (nI m) w = some (if i = -1 then nI m else -1, w)) : ∀ c p f m (w : jWd), RN A L F W w → b < A 223 → BSm A L F b t w → p + c = A 162 → c < f → m ≤ p → ∃ w', lX2_addsOf_89 n (nI b) i K f (nI m) (nI p) w = some (adF (adZ A L F b t) i c p m, w') ∧ frP P182 w w' := by
  intro c
  induction c with
  | zero =>
    intro p f m w h hb hB hp hf hm
    obtain ⟨f, rfl⟩ : ∃ g, f = g + 1 := ⟨f - 1, by omega⟩
    have h60 := h.1.1.2.2.2.1
    have e20 : wI w 20 0 = nI (A 162) := h.2.1.2.2.1.2.1
    refine ⟨w, ?_, frP_refl _ _⟩
    show bX2_addsOf_89 n (nI b) i K _ (nI m) (nI p) w = _
    unfold bX2_addsOf_89
    rw [e20, if_pos (nI_le (by omega) (by omega)), hK]
    rfl
  | succ c ih =>
    intro p f m w h hb hB hp hf hm
    obtain ⟨f, rfl⟩ : ∃ g, f = g + 1 := ⟨f - 1, by omega⟩
    have h60 := h.1.1.2.2.2.1
    have e20 : wI w 20 0 = nI (A 162) := h.2.1.2.2.1.2.1
    obtain ⟨w1, a1, a2, a3, a4⟩ := look_X hn h (show p < A 162 by omega)
    have h1 := RN_fr (frP_mono p182_s a4) h
    have hB1 := BSm_fr a4 hB
    have hk5 := whS_le A L F p
    have hL := h.1.2.2.1.2.2.1 p (by omega)
    have step : lX2_addsOf_89 n (nI b) i K (f + 1) (nI m) (nI p) w = if adZ A L F b t p = true then (if nI m = i then some (nI p, w1) else lX2_addsOf_89 n (nI b) i K f (nI (m + 1)) (nI (p + 1)) w1) else lX2_addsOf_89 n (nI b) i K f (nI m) (nI (p + 1)) w1 := by
      show bX2_addsOf_89 n (nI b) i K (lX2_addsOf_89 n (nI b) i K f) (nI m) (nI p) w = _
      unfold bX2_addsOf_89
      rw [e20, if_neg (nI_ge (by omega) (by omega)), a1]
      dsimp only [bO, letV]
      rw [a2, nI_1, nI_1, pr_at h1 (by omega)]
      dsimp only [bO]
      rw [wb_X (by omega) h1 hb hB1 hL]
      dsimp only [bO]
      unfold adZ
      by_cases q : (whS A L F p).1 < 3
      · rw [if_pos (show nI (whS A L F p).1 < (3 : Int32) from nI_lt (b := 3) q (by decide)), decide_eq_false (show ¬ 3 ≤ (whS A L F p).1 by omega), Bool.false_and, if_neg (by decide)]
      · rw [if_neg (show ¬ nI (whS A L F p).1 < (3 : Int32) from nI_nlt (b := 3) (by omega) (by omega)), decide_eq_true (show 3 ≤ (whS A L F p).1 by omega), Bool.true_and]
        cases anX L F b t (A 248) (L (480 + p)) (A (236 + b)) 0
        · rw [if_pos (by decide), if_neg (by decide)]
        · rw [if_neg (by decide), if_pos rfl]
    rw [step]
    unfold adF
    by_cases q : adZ A L F b t p = true
    · rw [if_pos q, if_pos q]
      by_cases z : nI m = i
      · rw [if_pos z, if_pos z]
        exact ⟨w1, rfl, a4⟩
      · rw [if_neg z, if_neg z]
        obtain ⟨w2, i1, i2⟩ := ih (p + 1) f (m + 1) w1 h1 hb hB1 (by omega) (by omega) (by omega)
        exact ⟨w2, i1, frP_trans a4 i2⟩
    · rw [if_neg q, if_neg q]
      obtain ⟨w2, i1, i2⟩ := ih (p + 1) f m w1 h1 hb hB1 (by omega) (by omega) (by omega)
      exact ⟨w2, i1, frP_trans a4 i2⟩
theorem adds_X {n : Nat} (hn : 201 < n) (h : RN A L F W w) {b t : Nat} (hb : b < A 223) (ht : t < 2147483648) (i : Int32) : ∃ w', fX2_addsOf n (nI b) (nI t) i w = some (adF (adZ A L F b t) i (A 162) 0 0, w') ∧ frS w w' := by
  have h12 := h.1.1.2.2.2.2.1
  have h9 := h.1.1.2.2.2.2.2.1 b (by omega)
  unfold fX2_addsOf
  rw [has_yes hb (by omega) h.2.1.2.1.1, if_neg (by decide)]
  obtain ⟨w1, e1, e2, e3⟩ := bs_X (n := n) hn (b := b) (t := t) ht i (fun (w_11 : jWd) => lX2_addsOf_89 n (nI b) i (fun (z4_27 : Int32) (w_26 : jWd) => if i = (-1 : Int32) then some (z4_27, w_26) else some ((-1 : Int32), w_26)) n (0 : Int32) (0 : Int32) w_11) (A (236 + b)) 0 n w h hb (by omega) (by omega) (fun j hj => absurd hj (Nat.not_lt_zero j))
  have f1 : frS w w1 := frP_mono (fun c k q => by unfold Scr; omega) e3
  obtain ⟨w2, i1, i2⟩ := ad_X (n := n) (by omega) (b := b) (t := t) i (fun (z4_27 : Int32) (w_26 : jWd) => if i = (-1 : Int32) then some (z4_27, w_26) else some ((-1 : Int32), w_26)) (fun m w => by split <;> rfl) (A 162) 0 n 0 w1 (RN_fr f1 h) hb e2 (by omega) (by have := h.1.1.2.2.2.1; omega) (Nat.le_refl _)
  exact ⟨w2, e1.trans i1, frP_trans f1 (frP_mono p182_s i2)⟩
/-! the reference -/
def Pab (c k : Nat) : Prop := Psm c k ∨ Pbs c k
theorem pab_s : ∀ c k, Pab c k → Scr c k := fun c k h => by unfold Pab Psm Pbs at h; unfold Scr; omega
theorem SLn_fb {w' : jWd} {s : Nat} (hf : frP Pab w w') (h : SLn A L F w s) : SLn A L F w' s := fun i k h1 h2 h3 => by rw [frP_J hf (show ¬ Pab 218 _ by unfold Pab Psm Pbs; omega)]; exact h i k h1 h2 h3
theorem p210_ab : ∀ c k, P210 c k → Pab c k := fun c k h => .inr (.inr h)
theorem abi_M {n : Nat} (hn : 201 < n) {b t p : Nat} (ht : t < 2147483648) (p3 p4 : Int32) (K : Int32 → jWd → Option (Int32 × jWd)) : ∀ c i f (w : jWd), RN A L F W w → b < A 223 → p < A 162 → i + c = A (236 + b) → c < f → (∀ w', RN A L F W w' → lX12_addsBy_42 n (nI b) (nI t) p3 p4 (nI p) K f (1 : Int32) (nI i) w' = K 1 w') ∧ ∃ w', lX12_addsBy_42 n (nI b) (nI t) p3 p4 (nI p) K f (0 : Int32) (nI i) w = K (bI (anX L F b t (A 248) (L (480 + p)) c i)) w' ∧ frP Pab w w' := by
  have l7 : ln 207 = 3372 := rfl
  have l8 : ln 208 = 2352 := rfl
  have one : ∀ i f (w' : jWd), RN A L F W w' → b < A 223 → i ≤ 12 → lX12_addsBy_42 n (nI b) (nI t) p3 p4 (nI p) K (f + 1) (1 : Int32) (nI i) w' = K 1 w' := by
    intro i f w' h' hb hi
    have h12 := h'.1.1.2.2.2.2.1
    show bX12_addsBy_42 n (nI b) (nI t) p3 p4 (nI p) K _ (1 : Int32) (nI i) w' = _
    unfold bX12_addsBy_42
    rw [show (236 : Int32) + nI b = nI (236 + b) from nI_add 236 b, l7, grd_N (by omega) (by decide), nI_clamp (by omega), RN_A h' (show 236 + b < 1124 by omega), if_neg (show ¬ (1 : Int32) = 0 by decide)]
    split <;> rfl
  intro c
  induction c with
  | zero =>
    intro i f w h hb hp hi hf
    obtain ⟨f, rfl⟩ : ∃ g, f = g + 1 := ⟨f - 1, by omega⟩
    have h12 := h.1.1.2.2.2.2.1
    have h9 := h.1.1.2.2.2.2.2.1 b (by omega)
    refine ⟨fun w' h' => one i f w' h' hb (by omega), w, ?_, frP_refl _ _⟩
    show bX12_addsBy_42 n (nI b) (nI t) p3 p4 (nI p) K _ (0 : Int32) (nI i) w = _
    unfold bX12_addsBy_42
    rw [show (236 : Int32) + nI b = nI (236 + b) from nI_add 236 b, l7, grd_N (by omega) (by decide), nI_clamp (by omega), RN_A h (show 236 + b < 1124 by omega), if_pos (nI_le (by omega) (by omega))]
    rfl
  | succ c ih =>
    intro i f w h hb hp hi hf
    obtain ⟨f, rfl⟩ : ∃ g, f = g + 1 := ⟨f - 1, by omega⟩
    have h12 := h.1.1.2.2.2.2.1
    have h9 := h.1.1.2.2.2.2.2.1 b (by omega)
    have h60 := h.1.1.2.2.2.1
    obtain ⟨b1, b2, b3⟩ := h.1.1.2.2.2.2.2.2.1
    refine ⟨fun w' h' => one i f w' h' hb (by omega), ?_⟩
    have hL := h.1.2.2.1.2.1 b i hb (by omega)
    obtain ⟨w1, e1, e2⟩ := alk_M (n := n) (by omega) (L (480 + p)) (L (540 + 12 * b + i)) w
    have e2 := frP_mono p210_ab (frP_of e2)
    have ha := alkN_le (L (540 + 12 * b + i)) (L (480 + p))
    have h1 := RN_fr (frP_mono pab_s e2) h
    obtain ⟨w2, s1, s2⟩ := sm_M (n := n) hn h1.1.2.2.2.1 ht (L (540 + 12 * b + i)) (RN_F h1)
    rw [cln_id hL.1] at s1
    have s2 : frP Pab w1 w2 := frP_mono (fun _ _ => .inl) s2
    have h2 := RN_fr (frP_mono pab_s s2) h1
    obtain ⟨w3, g1, g2⟩ := alk_M (n := n) (by omega) (L (480 + p)) (smS F t (L (540 + 12 * b + i))) w2
    have g2 := frP_mono p210_ab (frP_of g2)
    have hb' := alkN_le (smS F t (L (540 + 12 * b + i))) (L (480 + p))
    have h3 := RN_fr (frP_mono pab_s g2) h2
    obtain ⟨i1, w4, i2, i3⟩ := ih (i + 1) f w3 h3 hb hp (by omega) (by omega)
    obtain ⟨j1, -⟩ := ih (i + 1) f w1 h1 hb hp (by omega) (by omega)
    have step : lX12_addsBy_42 n (nI b) (nI t) p3 p4 (nI p) K (f + 1) (0 : Int32) (nI i) w = if ¬ alkN (L (540 + 12 * b + i)) (L (480 + p)) < A 248 then lX12_addsBy_42 n (nI b) (nI t) p3 p4 (nI p) K f (1 : Int32) (nI (i + 1)) w1 else if alkN (smS F t (L (540 + 12 * b + i))) (L (480 + p)) < A 248 then lX12_addsBy_42 n (nI b) (nI t) p3 p4 (nI p) K f (0 : Int32) (nI (i + 1)) w3 else lX12_addsBy_42 n (nI b) (nI t) p3 p4 (nI p) K f (1 : Int32) (nI (i + 1)) w3 := by
      show bX12_addsBy_42 n (nI b) (nI t) p3 p4 (nI p) K (lX12_addsBy_42 n (nI b) (nI t) p3 p4 (nI p) K f) (0 : Int32) (nI i) w = _
      unfold bX12_addsBy_42
      rw [show (236 : Int32) + nI b = nI (236 + b) from nI_add 236 b, l7, grd_N (by omega) (by decide), nI_clamp (by omega), RN_A h (show 236 + b < 1124 by omega), if_neg (nI_ge (by omega) (by omega)), if_pos rfl, show (480 : Int32) + nI p = nI (480 + p) from nI_add 480 p, show (540 : Int32) + (12 : Int32) * nI b + nI i = nI (540 + 12 * b + i) by rw [show (12 : Int32) = nI 12 from rfl, ev_mul, show (540 : Int32) = nI 540 from rfl, nI_add, nI_add], l8]
      dsimp only [letV]
      rw [grd_N (by omega) (by decide), grd_N (by omega) (by decide), nI_clamp (by omega), nI_clamp (by omega), RN_L h (by omega), RN_L h (by omega), e1]
      dsimp only [bO2]
      rw [RN_A h1 (show 248 < 1124 by decide), grd_N (by omega) (by decide), RN_L h1 (by omega), s1]
      dsimp only [bO2]
      rw [g1]
      dsimp only [bO2]
      rw [RN_A h3 (show 248 < 1124 by decide), nI_1, alkN_sym (L (480 + p)), alkN_sym (L (480 + p))]
      by_cases q : alkN (L (540 + 12 * b + i)) (L (480 + p)) < A 248
      · rw [if_neg (nI_ge q (by omega)), if_neg (show ¬ ¬ alkN (L (540 + 12 * b + i)) (L (480 + p)) < A 248 from fun z => z q)]
        by_cases z : alkN (smS F t (L (540 + 12 * b + i))) (L (480 + p)) < A 248
        · rw [if_pos (nI_lt z (by omega)), if_pos z]
        · rw [if_neg (nI_nlt (by omega) (by omega)), if_neg z]
      · rw [if_pos (nI_le (by omega) (by omega)), if_pos q]
    rw [step]
    unfold anX
    by_cases q : alkN (L (540 + 12 * b + i)) (L (480 + p)) < A 248
    · rw [if_neg (fun z => z q)]
      by_cases z : alkN (smS F t (L (540 + 12 * b + i))) (L (480 + p)) < A 248
      · rw [if_pos z, if_pos ⟨q, z⟩]
        exact ⟨w4, i2, frP_trans (frP_trans (frP_trans e2 s2) g2) i3⟩
      · rw [if_neg z, if_neg (fun y => z y.2)]
        exact ⟨w3, i1 w3 h3, frP_trans (frP_trans e2 s2) g2⟩
    · rw [if_pos q, if_neg (fun y => q y.1)]
      exact ⟨w1, j1 w1 h1, e2⟩
theorem ab_M {n : Nat} (hn : 201 < n) {b t : Nat} (ht : t < 2147483648) (i : Int32) (K : Int32 → jWd → Option (Int32 × jWd)) (hK : ∀ m w, K (nI m) w = some (if i = -1 then nI m else -1, w)) : ∀ c p f m (w : jWd), RN A L F W w → SLn A L F w (A 0) → b < A 223 → p + c = A 162 → c < f → m ≤ p → ∃ w', lX12_addsBy_10 n (nI b) (nI t) i K f (nI m) (nI p) w = some (adF (adZ A L F b t) i c p m, w') ∧ frP Pab w w' := by
  intro c
  induction c with
  | zero =>
    intro p f m w h hS hb hp hf hm
    obtain ⟨f, rfl⟩ : ∃ g, f = g + 1 := ⟨f - 1, by omega⟩
    have h60 := h.1.1.2.2.2.1
    refine ⟨w, ?_, frP_refl _ _⟩
    show bX12_addsBy_10 n (nI b) (nI t) i K _ (nI m) (nI p) w = _
    unfold bX12_addsBy_10
    rw [RN_A h (show 162 < 1124 by decide), if_pos (nI_le (by omega) (by omega)), hK]
    rfl
  | succ c ih =>
    intro p f m w h hS hb hp hf hm
    obtain ⟨f, rfl⟩ : ∃ g, f = g + 1 := ⟨f - 1, by omega⟩
    have h60 := h.1.1.2.2.2.1
    have h12 := h.1.1.2.2.2.2.1
    have h9 := h.1.1.2.2.2.2.2.1 b (by omega)
    obtain ⟨w1, a1, a2, a3⟩ := who_M (n := n) (by omega) h hS (show p < 60 by omega)
    have a3 : frP Pab w w1 := frP_mono (fun _ _ => .inr) a3
    have h1 := RN_fr (frP_mono pab_s a3) h
    have hS1 := SLn_fb a3 hS
    have hk5 := whS_le A L F p
    obtain ⟨-, w2, c1, c2⟩ := abi_M (n := n) hn (b := b) (t := t) (p := p) ht i (nI m) (fun (z6_28 : Int32) (w_27 : jWd) => if z6_28 = 0 then letV (nI p + (1 : Int32)) (fun (x5_33 : Int32) => lX12_addsBy_10 n (nI b) (nI t) i K f (nI m) x5_33 w_27) else if nI m = i then some (nI p, w_27) else letV (nI m + (1 : Int32)) (fun (x4_29 : Int32) => letV (nI p + (1 : Int32)) (fun (x5_31 : Int32) => lX12_addsBy_10 n (nI b) (nI t) i K f x4_29 x5_31 w_27))) (A (236 + b)) 0 n w1 h1 hb (by omega) (by omega) (by omega)
    have h2 := RN_fr (frP_mono pab_s c2) h1
    have hS2 := SLn_fb c2 hS1
    dsimp only [letV] at c1
    rw [nI_1, nI_1] at c1
    have step : lX12_addsBy_10 n (nI b) (nI t) i K (f + 1) (nI m) (nI p) w = if adZ A L F b t p = true then (if nI m = i then some (nI p, w2) else lX12_addsBy_10 n (nI b) (nI t) i K f (nI (m + 1)) (nI (p + 1)) w2) else lX12_addsBy_10 n (nI b) (nI t) i K f (nI m) (nI (p + 1)) (if 3 ≤ (whS A L F p).1 then w2 else w1) := by
      show bX12_addsBy_10 n (nI b) (nI t) i K (lX12_addsBy_10 n (nI b) (nI t) i K f) (nI m) (nI p) w = _
      unfold bX12_addsBy_10 adZ
      rw [RN_A h (show 162 < 1124 by decide), if_neg (nI_ge (by omega) (by omega)), a1]
      dsimp only [bO2, letV]
      rw [nI_1, nI_1]
      by_cases q : 3 ≤ (whS A L F p).1
      · rw [if_pos (show (3 : Int32) ≤ nI (whS A L F p).1 from nI_le (a := 3) q (by omega)), decide_eq_true q, Bool.true_and, if_pos q]
        refine c1.trans ?_
        cases anX L F b t (A 248) (L (480 + p)) (A (236 + b)) 0
        · rw [if_pos (by decide), if_neg (by decide)]
        · rw [if_neg (by decide), if_pos rfl]
      · rw [if_neg (show ¬ (3 : Int32) ≤ nI (whS A L F p).1 from nI_ge (b := 3) (by omega) (by decide)), decide_eq_false q, Bool.false_and, if_neg (by decide), if_neg q]
    rw [step]
    unfold adF
    by_cases q : adZ A L F b t p = true
    · rw [if_pos q, if_pos q]
      by_cases z : nI m = i
      · rw [if_pos z, if_pos z]
        exact ⟨w2, rfl, frP_trans a3 c2⟩
      · rw [if_neg z, if_neg z]
        obtain ⟨w3, i1, i2⟩ := ih (p + 1) f (m + 1) w2 h2 hS2 hb (by omega) (by omega) (by omega)
        exact ⟨w3, i1, frP_trans (frP_trans a3 c2) i2⟩
    · rw [if_neg q, if_neg q]
      by_cases y : 3 ≤ (whS A L F p).1
      · rw [if_pos y]
        obtain ⟨w3, i1, i2⟩ := ih (p + 1) f m w2 h2 hS2 hb (by omega) (by omega) (by omega)
        exact ⟨w3, i1, frP_trans (frP_trans a3 c2) i2⟩
      · rw [if_neg y]
        obtain ⟨w3, i1, i2⟩ := ih (p + 1) f m w1 h1 hS1 hb (by omega) (by omega) (by omega)
        exact ⟨w3, i1, frP_trans a3 i2⟩
theorem adds_M {n : Nat} (hn : 201 < n) (h : RN A L F W w) {b t : Nat} (hb : b < A 223) (ht : t < 2147483648) (i : Int32) : ∃ w', fX12_addsBy n (nI b) (nI t) i w = some (adF (adZ A L F b t) i (A 162) 0 0, w') ∧ frS w w' := by
  obtain ⟨w1, a1, a2, a3⟩ := smooths_M (n := n) hn h
  have f1 := frP_mono psl_s a3
  obtain ⟨w2, i1, i2⟩ := ab_M (n := n) hn (b := b) (t := t) ht i (fun (z4_38 : Int32) (w_37 : jWd) => if i = (-1 : Int32) then some (z4_38, w_37) else some ((-1 : Int32), w_37)) (fun m w => by split <;> rfl) (A 162) 0 n 0 w1 (RN_fr f1 h) a2 hb (by omega) (by have := h.1.1.2.2.2.1; omega) (Nat.le_refl _)
  refine ⟨w2, ?_, frP_trans f1 (frP_mono pab_s i2)⟩
  unfold fX12_addsBy
  rw [a1]
  exact i1
end ADD
theorem s_adds : fS_adds RR := by
  intro w a0 a1 hw
  obtain ⟨⟨A, L, F, W, h⟩, -⟩ := id hw
  have h12 := h.1.1.2.2.2.2.1
  have hM := rd_M h
  refine ⟨20000, rr_call hw ?_⟩
  rcases ix_cs a0 (A 223) with ⟨b, hb, rfl⟩ | hn
  · rcases wi_cs a1 0 9 (a := 0) (b := 9) rfl rfl (by decide) (by decide) with ⟨h1, h2⟩ | ⟨t, _, ht, rfl, h1, h2⟩
    · refine .inr ⟨-3, 3, by decide, by decide, ⟨w, ?_, frP_refl _ _⟩, fun w1 f1 => ⟨sI w1 205 0 (0 : Int32), ?_, frS_0 w1⟩⟩
      · unfold fX11_adds
        rw [has_yes hb (by omega) h.2.1.2.1.1, if_neg (by decide), if_pos h1, rx_id3]
      · unfold fX12_adds letV
        dsimp only
        rw [RN_A (hM w1 f1) (show 223 < 1124 by decide), if_neg (wi_yes hb (by omega)), if_pos h2, no_id3]
    · refine .inl ⟨adF (adZ A L F b t) (-1) (A 162) 0 0, ?_, fun w1 f1 => ?_⟩
      · obtain ⟨w2, e1, e2⟩ := adds_X (n := 20000) (by decide) h hb (t := t) (by omega) (-1)
        refine ⟨w2, ?_, e2⟩
        unfold fX11_adds
        rw [has_yes hb (by omega) h.2.1.2.1.1, if_neg (by decide), if_neg h1, e1]
        rfl
      · obtain ⟨w2, e1, e2⟩ := adds_M (n := 20000) (by decide) (hM w1 f1) hb (t := t) (by omega) (-1)
        refine ⟨w2, ?_, frP_trans (frS_0 w1) e2⟩
        unfold fX12_adds letV
        dsimp only
        rw [RN_A (hM w1 f1) (show 223 < 1124 by decide), if_neg (wi_yes hb (by omega)), if_neg h2, e1]
        rfl
  · refine .inr ⟨-2, 2, by decide, by decide, ⟨w, ?_, frP_refl _ _⟩, fun w1 f1 => ⟨sI w1 205 0 (0 : Int32), ?_, frS_0 w1⟩⟩
    · unfold fX11_adds
      rw [has_no hn (by omega) h.2.1.2.1.1, if_pos (by decide), rx_id2]
    · unfold fX12_adds letV
      dsimp only
      rw [RN_A (hM w1 f1) (show 223 < 1124 by decide), if_pos (wi_no hn (by omega)), no_id2]
theorem s_added : fS_added RR := by
  intro w a0 a1 a2 hw
  obtain ⟨⟨A, L, F, W, h⟩, -⟩ := id hw
  have h12 := h.1.1.2.2.2.2.1
  have hM := rd_M h
  refine ⟨20000, rr_call hw ?_⟩
  rcases ix_cs a0 (A 223) with ⟨b, hb, rfl⟩ | hn
  · rcases wi_cs a1 0 9 (a := 0) (b := 9) rfl rfl (by decide) (by decide) with ⟨h1, h2⟩ | ⟨t, _, ht, rfl, h1, h2⟩
    · refine .inr ⟨-3, 3, by decide, by decide, ⟨w, ?_, frP_refl _ _⟩, fun w1 f1 => ⟨sI w1 205 0 (0 : Int32), ?_, frS_0 w1⟩⟩
      · unfold fX11_added
        rw [has_yes hb (by omega) h.2.1.2.1.1, if_neg (by decide), if_pos h1, rx_id3]
      · unfold fX12_added letV
        dsimp only
        rw [RN_A (hM w1 f1) (show 223 < 1124 by decide), if_neg (wi_yes hb (by omega)), if_pos h2, no_id3]
    · by_cases hz : 0 ≤ a2
      · refine .inl ⟨adF (adZ A L F b t) a2 (A 162) 0 0, ?_, fun w1 f1 => ?_⟩
        · obtain ⟨w2, e1, e2⟩ := adds_X (n := 20000) (by decide) h hb (t := t) (by omega) a2
          refine ⟨w2, ?_, e2⟩
          unfold fX11_added
          rw [has_yes hb (by omega) h.2.1.2.1.1, if_neg (by decide), if_neg h1, if_pos hz, e1]
          rfl
        · obtain ⟨w2, e1, e2⟩ := adds_M (n := 20000) (by decide) (hM w1 f1) hb (t := t) (by omega) a2
          refine ⟨w2, ?_, frP_trans (frS_0 w1) e2⟩
          unfold fX12_added letV
          dsimp only
          rw [RN_A (hM w1 f1) (show 223 < 1124 by decide), if_neg (wi_yes hb (by omega)), if_neg h2, if_pos hz, e1]
          rfl
      · refine .inl ⟨-1, ⟨w, ?_, frP_refl _ _⟩, fun w1 f1 => ⟨sI w1 205 0 (0 : Int32), ?_, frS_0 w1⟩⟩
        · unfold fX11_added
          rw [has_yes hb (by omega) h.2.1.2.1.1, if_neg (by decide), if_neg h1, if_neg hz]
        · unfold fX12_added letV
          dsimp only
          rw [RN_A (hM w1 f1) (show 223 < 1124 by decide), if_neg (wi_yes hb (by omega)), if_neg h2, if_neg hz]
  · refine .inr ⟨-2, 2, by decide, by decide, ⟨w, ?_, frP_refl _ _⟩, fun w1 f1 => ⟨sI w1 205 0 (0 : Int32), ?_, frS_0 w1⟩⟩
    · unfold fX11_added
      rw [has_no hn (by omega) h.2.1.2.1.1, if_pos (by decide), rx_id2]
    · unfold fX12_added letV
      dsimp only
      rw [RN_A (hM w1 f1) (show 223 < 1124 by decide), if_pos (wi_no hn (by omega)), no_id2]
