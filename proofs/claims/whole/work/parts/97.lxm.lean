/-! lexing, the reference -/
section LXM
variable {w u : jWd} {b : Nat → Nat} {N : Nat}
def TpM (b : Nat → Nat) (N : Nat) (w : jWd) : Prop := N ≤ 400 ∧ (∀ k, b k < 256) ∧ wI w 205 12 = nI N ∧ ∀ k, k < N → wI w 213 k = nI (b k)
def seI (b : Nat → Nat) (N k : Nat) : Int32 := if k < N then nI (b k) else -1
theorem see_M {k : Nat} (h : TpM b N w) (hk : k < 2 ^ 31) : fX12_see (nI k) w = some (seI b N k) := by
  obtain ⟨hN, hb, h12, ht⟩ := h
  have l : ln 213 = 400 := rfl
  unfold fX12_see seI
  rw [h12]
  by_cases q : k < N
  · rw [if_neg (nI_ge q (by omega)), if_pos q, l, grd_N (by omega) (by decide), nI_clamp hk, ht k q]
  · rw [if_pos (nI_le (by omega) hk), if_neg q]
theorem sm_256 : ∀ v, v < 256 → fX12_isSmall (nI v) = bI (isS v) := by decide +kernel
theorem dg_256 : ∀ v, v < 256 → fX12_isDigit (nI v) = bI (isD v) := by decide +kernel
theorem seI_S (hb : ∀ k, b k < 256) (k : Nat) : fX12_isSmall (seI b N k) = bI (decide (k < N) && isS (b k)) := by
  unfold seI
  by_cases q : k < N
  · rw [if_pos q, decide_eq_true q, Bool.true_and, sm_256 _ (hb k)]
  · rw [if_neg q, decide_eq_false q, Bool.false_and]
    rfl
theorem seI_D (hb : ∀ k, b k < 256) (k : Nat) : fX12_isDigit (seI b N k) = bI (decide (k < N) && isD (b k)) := by
  unfold seI
  by_cases q : k < N
  · rw [if_pos q, decide_eq_true q, Bool.true_and, dg_256 _ (hb k)]
  · rw [if_neg q, decide_eq_false q, Bool.false_and]
    rfl
theorem seI_eq (hb : ∀ k, b k < 256) {k c : Nat} (hc : c < 256) : seI b N k = nI c ↔ (k < N ∧ b k = c) := by
  have := hb k
  unfold seI
  by_cases q : k < N
  · rw [if_pos q, nI_eq (by omega) (by omega)]
    exact ⟨fun h => ⟨q, h⟩, fun h => h.2⟩
  · rw [if_neg q]
    refine ⟨fun e => ?_, fun h => absurd h.1 q⟩
    exact absurd (show nI c < 0 by rw [← e]; decide) (nI_pos (by omega))
/-- what lexing writes -/
def LxP (c k : Nat) : Prop := c = 205 ∧ (k = 10 ∨ k = 11 ∨ k = 13 ∨ k = 14)
theorem TpM_fr {w' : jWd} (h : TpM b N w) (f : frP LxP w w') : TpM b N w' := ⟨h.1, h.2.1, by rw [frP_I f (by unfold LxP; omega)]; exact h.2.2.1, fun k hk => by rw [frP_I f (by unfold LxP; omega)]; exact h.2.2.2 k hk⟩
theorem ns_M {n : Nat} (K : jWd → Option jWd) : ∀ c p f (w : jWd), TpM b N w → p + c = N → c < f → wI w 205 10 = nI p → ∃ w', lX12_next_8 n K f w = K w' ∧ wI w' 205 10 = nI (sk b N p) ∧ frP LxP w w' := by
  intro c
  induction c with
  | zero =>
    intro p f w h hp hf h10
    have hN := h.1
    obtain ⟨f, rfl⟩ : ∃ g, f = g + 1 := ⟨f - 1, by omega⟩
    have ep : p = N := by omega
    refine ⟨w, ?_, by rw [ep, sk_N, ← ep]; exact h10, frP_refl _ _⟩
    show bX12_next_8 n K _ w = _
    unfold bX12_next_8 letV
    dsimp only
    rw [h10, see_M h (by omega), ev_bO, if_neg (show ¬ seI b N p = (10 : Int32) from fun z => by
      have := (seI_eq h.2.1 (c := 10) (by decide)).mp z
      omega), ev_bO, if_neg (show ¬ seI b N p = (32 : Int32) from fun z => by
      have := (seI_eq h.2.1 (c := 32) (by decide)).mp z
      omega)]
  | succ c ih =>
    intro p f w h hp hf h10
    have hN := h.1
    obtain ⟨f, rfl⟩ : ∃ g, f = g + 1 := ⟨f - 1, by omega⟩
    show ∃ w', bX12_next_8 n K (lX12_next_8 n K f) w = K w' ∧ _
    unfold bX12_next_8 letV
    dsimp only
    rw [h10, see_M h (by omega), ev_bO, ev_bO, nI_1]
    have f1 : frP LxP w (sI w 205 10 (nI (p + 1))) := frP_sI _ _ (by unfold LxP; omega)
    obtain ⟨w', d1, d2, d3⟩ := ih (p + 1) f (sI w 205 10 (nI (p + 1))) (TpM_fr h f1) (by omega) (by omega) (ev_wIs _ _ _ _)
    by_cases q1 : b p = 10
    · rw [if_pos (show seI b N p = (10 : Int32) from (seI_eq h.2.1 (c := 10) (by decide)).mpr ⟨by omega, q1⟩)]
      exact ⟨w', d1, by rw [sk_w (by omega) (.inl q1)]; exact d2, frP_trans f1 d3⟩
    · rw [if_neg (show ¬ seI b N p = (10 : Int32) from fun z => q1 ((seI_eq h.2.1 (c := 10) (by decide)).mp z).2)]
      by_cases q2 : b p = 32
      · rw [if_pos (show seI b N p = (32 : Int32) from (seI_eq h.2.1 (c := 32) (by decide)).mpr ⟨by omega, q2⟩)]
        exact ⟨w', d1, by rw [sk_w (by omega) (.inr q2)]; exact d2, frP_trans f1 d3⟩
      · rw [if_neg (show ¬ seI b N p = (32 : Int32) from fun z => q2 ((seI_eq h.2.1 (c := 32) (by decide)).mp z).2)]
        exact ⟨w, rfl, by rw [sk_n (by omega) (by omega)]; exact h10, frP_refl _ _⟩
theorem nl_M {n : Nat} (K : jWd → Option jWd) : ∀ c p f (w : jWd), TpM b N w → p + c = N → c < f → wI w 205 11 = nI p → ∃ w', lX12_next_89 n K f w = K w' ∧ wI w' 205 11 = nI (ru b N isS p) ∧ frP (fun c k => c = 205 ∧ k = 11) w w' := by
  intro c
  induction c with
  | zero =>
    intro p f w h hp hf h11
    have hN := h.1
    obtain ⟨f, rfl⟩ : ∃ g, f = g + 1 := ⟨f - 1, by omega⟩
    have ep : p = N := by omega
    refine ⟨w, ?_, by rw [ep, ru_N, ← ep]; exact h11, frP_refl _ _⟩
    show bX12_next_89 n K _ w = _
    unfold bX12_next_89
    rw [h11, see_M h (by omega), ev_bO, seI_S h.2.1, decide_eq_false (show ¬ p < N by omega), Bool.false_and, if_pos (show bI false = (0 : Int32) from rfl)]
  | succ c ih =>
    intro p f w h hp hf h11
    have hN := h.1
    obtain ⟨f, rfl⟩ : ∃ g, f = g + 1 := ⟨f - 1, by omega⟩
    show ∃ w', bX12_next_89 n K (lX12_next_89 n K f) w = K w' ∧ _
    unfold bX12_next_89 letV
    dsimp only
    rw [h11, see_M h (by omega), ev_bO, seI_S h.2.1, decide_eq_true (show p < N by omega), Bool.true_and, nI_1]
    by_cases q : isS (b p) = true
    · have f1 : frP LxP w (sI w 205 11 (nI (p + 1))) := frP_sI _ _ (by unfold LxP; omega)
      obtain ⟨w', d1, d2, d3⟩ := ih (p + 1) f (sI w 205 11 (nI (p + 1))) (TpM_fr h f1) (by omega) (by omega) (ev_wIs _ _ _ _)
      rw [q, if_neg (show ¬ bI true = (0 : Int32) by decide)]
      exact ⟨w', d1, by rw [ru_y (by omega) q]; exact d2, frP_trans (frP_sI _ _ ⟨rfl, rfl⟩) d3⟩
    · rw [bfl q, if_pos (show bI false = (0 : Int32) from rfl)]
      exact ⟨w, rfl, by rw [ru_n (by omega) q]; exact h11, frP_refl _ _⟩
theorem nuB_sn : ∀ c p x, nuB b (c + 1) p x = 10 * nuB b c p x + b (p + c) - 48
  | 0, _, _ => rfl
  | c + 1, p, x => by
    show nuB b (c + 1) (p + 1) (10 * x + b p - 48) = 10 * nuB b c (p + 1) (10 * x + b p - 48) + b (p + (c + 1)) - 48
    rw [nuB_sn c (p + 1) _, show p + 1 + c = p + (c + 1) by omega]
theorem nd_M {n s : Nat} (K : jWd → Option jWd) : ∀ c p f (w : jWd), TpM b N w → p + c = N → c < f → s ≤ p → wI w 205 10 = nI s → wI w 205 11 = nI p → (p - s ≤ 3 → wI w 205 14 = nI (nuB b (p - s) s 0)) → ∃ w', lX12_next_146 n K f w = K w' ∧ wI w' 205 11 = nI (ru b N isD p) ∧ (ru b N isD p - s ≤ 3 → wI w' 205 14 = nI (nuB b (ru b N isD p - s) s 0)) ∧ frP (fun c k => c = 205 ∧ (k = 11 ∨ k = 14)) w w' := by
  intro c
  induction c with
  | zero =>
    intro p f w h hp hf hs h10 h11 h14
    have hN := h.1
    obtain ⟨f, rfl⟩ : ∃ g, f = g + 1 := ⟨f - 1, by omega⟩
    have ep : p = N := by omega
    have er : ru b N isD p = p := by rw [ep, ru_N]
    refine ⟨w, ?_, by rw [er]; exact h11, by rw [er]; exact h14, frP_refl _ _⟩
    show bX12_next_146 n K _ w = _
    unfold bX12_next_146
    rw [h11, see_M h (by omega), ev_bO, seI_D h.2.1, decide_eq_false (show ¬ p < N by omega), Bool.false_and, if_pos (show bI false = (0 : Int32) from rfl)]
  | succ c ih =>
    intro p f w h hp hf hs h10 h11 h14
    have hN := h.1
    obtain ⟨f, rfl⟩ : ∃ g, f = g + 1 := ⟨f - 1, by omega⟩
    show ∃ w', bX12_next_146 n K (lX12_next_146 n K f) w = K w' ∧ _
    unfold bX12_next_146 letV
    dsimp only
    rw [h11, see_M h (by omega), ev_bO, ev_bO, seI_D h.2.1, decide_eq_true (show p < N by omega), Bool.true_and, h10, ev_sub hs]
    by_cases q : isD (b p) = true
    · rw [q, if_neg (show ¬ bI true = (0 : Int32) by decide)]
      have qd := of_decide_eq_true q
      by_cases z : p - s < 3
      · have es : seI b N p = nI (b p) := if_pos (by omega)
        rw [if_neg (show ¬ (3 : Int32) ≤ nI (p - s) from nI_ge (b := 3) z (by decide)), h14 (by omega), es, show (10 : Int32) * nI (nuB b (p - s) s 0) = nI (10 * nuB b (p - s) s 0) from pk_mul 10 _, nI_add, show nI (10 * nuB b (p - s) s 0 + b p) - (48 : Int32) = nI (10 * nuB b (p - s) s 0 + b p - 48) from ev_sub (b := 48) (by omega), ev_wIn _ (by omega), h11, nI_1]
        have en : 10 * nuB b (p - s) s 0 + b p - 48 = nuB b (p + 1 - s) s 0 := by
          rw [show p + 1 - s = p - s + 1 by omega, nuB_sn, show s + (p - s) = p by omega]
        rw [en]
        have f1 : frP LxP w (sI (sI w 205 14 (nI (nuB b (p + 1 - s) s 0))) 205 11 (nI (p + 1))) := frP_trans (frP_sI _ _ (by unfold LxP; omega)) (frP_sI _ _ (by unfold LxP; omega))
        obtain ⟨w', d1, d2, d3, d4⟩ := ih (p + 1) f (sI (sI w 205 14 (nI (nuB b (p + 1 - s) s 0))) 205 11 (nI (p + 1))) (TpM_fr h f1) (by omega) (by omega) (by omega) (by rw [ev_wIn _ (by omega), ev_wIn _ (by omega)]; exact h10) (ev_wIs _ _ _ _) (fun _ => by rw [ev_wIn _ (by omega)]; exact ev_wIs _ _ _ _)
        exact ⟨w', d1, by rw [ru_y (by omega) q]; exact d2, by rw [ru_y (by omega) q]; exact d3, frP_trans (frP_trans (frP_sI _ _ ⟨rfl, .inr rfl⟩) (frP_sI _ _ ⟨rfl, .inl rfl⟩)) d4⟩
      · rw [if_pos (show (3 : Int32) ≤ nI (p - s) from nI_le (a := 3) (by omega) (by omega)), nI_1]
        have f1 : frP LxP w (sI w 205 11 (nI (p + 1))) := frP_sI _ _ (by unfold LxP; omega)
        obtain ⟨w', d1, d2, d3, d4⟩ := ih (p + 1) f (sI w 205 11 (nI (p + 1))) (TpM_fr h f1) (by omega) (by omega) (by omega) (by rw [ev_wIn _ (by omega)]; exact h10) (ev_wIs _ _ _ _) (fun y => absurd y (by omega))
        exact ⟨w', d1, by rw [ru_y (by omega) q]; exact d2, by rw [ru_y (by omega) q]; exact d3, frP_trans (frP_sI _ _ ⟨rfl, .inl rfl⟩) d4⟩
    · rw [bfl q, if_pos (show bI false = (0 : Int32) from rfl)]
      exact ⟨w, rfl, by rw [ru_n (by omega) q]; exact h11, by rw [ru_n (by omega) q]; exact h14, frP_refl _ _⟩
/-- where the reference's words stand in their row -/
def kpL : List Nat := [1, 8, 11, 15, 19, 22, 26, 31, 36, 41, 46, 53, 57, 61]
theorem kw_ok : ∀ m, m < 13 → (∀ i, i < (kwL.getD m []).length → strC 13 (nI (kpL.getD m 0 + i)) = nI ((kwL.getD m []).getD i 0) ∧ ¬ (kwL.getD m []).getD i 0 = 32 ∧ (kwL.getD m []).getD i 0 < 128) ∧ strC 13 (nI (kpL.getD m 0 + (kwL.getD m []).length)) = 32 ∧ kpL.getD (m + 1) 0 = kpL.getD m 0 + (kwL.getD m []).length + 1 ∧ 1 ≤ (kwL.getD m []).length ∧ kpL.getD (m + 1) 0 ≤ 61 := by decide +kernel
theorem s13 : strN 13 = 61 := by decide +kernel
theorem ki_M {n m s e : Nat} {l : List Nat} {P1 : Int32} (K : Int32 → Option Int32) (h : TpM b N w) (hm : m < 13) (hl : kwL.getD m [] = l) (hse : s ≤ e) (he : e ≤ N) (h10 : wI w 205 10 = nI s) (h11 : wI w 205 11 = nI e) : ∀ c i f, i + c = l.length → c < f → (∀ j, j < i → s + j < e ∧ b (s + j) = l.getD j 0) → ∃ z, z ≤ l.length ∧ lX12_keyAt_15 n P1 (nI (kpL.getD m 0)) K w f (nI i) = K (nI z) ∧ ((strC 13 (nI (kpL.getD m 0 + z)) = 32 ∧ s + z = e) ↔ blL b (e - s) s = l) := by
  obtain ⟨hN, hb, h12, ht⟩ := h
  have l3 : ln 213 = 400 := rfl
  obtain ⟨k1, k2, k3, k4, k5⟩ := kw_ok m hm
  rw [hl] at k1 k2 k3 k4
  intro c
  induction c with
  | zero =>
    intro i f hi hf hj
    obtain ⟨f, rfl⟩ : ∃ g, f = g + 1 := ⟨f - 1, by omega⟩
    have ei : i = l.length := by omega
    subst ei
    refine ⟨l.length, Nat.le_refl _, ?_, ?_⟩
    · show bX12_keyAt_15 n P1 (nI (kpL.getD m 0)) K w _ (nI l.length) = _
      unfold bX12_keyAt_15
      rw [nI_add, s13, grd_N (by omega) (by decide), if_pos k2]
    · constructor
      · intro z
        have := (bl_eq (b := b) (s := s) (l := l)).mp (fun j hj2 => (hj j hj2).2)
        rw [show e - s = l.length by omega]
        exact this
      · intro z
        have : (blL b (e - s) s).length = l.length := by rw [z]
        rw [bl_len] at this
        exact ⟨k2, by omega⟩
  | succ c ih =>
    intro i f hi hf hj
    obtain ⟨f, rfl⟩ : ∃ g, f = g + 1 := ⟨f - 1, by omega⟩
    obtain ⟨q1, q2, q3⟩ := k1 i (by omega)
    have q4 : ¬ nI (l.getD i 0) = (32 : Int32) := fun z => q2 ((nI_eq (b := 32) (by omega) (by decide)).mp z)
    show ∃ z, z ≤ l.length ∧ bX12_keyAt_15 n P1 (nI (kpL.getD m 0)) K w (lX12_keyAt_15 n P1 (nI (kpL.getD m 0)) K w f) (nI i) = K (nI z) ∧ _
    unfold bX12_keyAt_15 letV
    dsimp only
    rw [nI_add, s13, grd_N (by omega) (by decide), grd_N (by omega) (by decide), q1, if_neg q4, h11, h10, nI_add]
    have fin : (e ≤ s + i ∨ ¬ b (s + i) = l.getD i 0) → ∃ z, z ≤ l.length ∧ K (nI i) = K (nI z) ∧ ((strC 13 (nI (kpL.getD m 0 + z)) = 32 ∧ s + z = e) ↔ blL b (e - s) s = l) := by
      intro y
      refine ⟨i, by omega, rfl, fun z => ?_, fun z => ?_⟩
      · rw [q1] at z
        exact absurd z.1 q4
      · exfalso
        have len : (blL b (e - s) s).length = l.length := by rw [z]
        rw [bl_len] at len
        have at1 := bl_at b (e - s) s i (by omega)
        rw [z] at at1
        rcases y with y | y
        · omega
        · exact y at1.symm
    by_cases y1 : e ≤ s + i
    · rw [if_pos (nI_le y1 (by omega))]
      exact fin (.inl y1)
    · rw [if_neg (nI_ge (by omega) (by omega)), l3, grd_N (by omega) (by decide), nI_clamp (by omega), ht _ (by omega)]
      have := hb (s + i)
      by_cases y2 : b (s + i) = l.getD i 0
      · rw [if_pos (by rw [y2]), nI_1]
        exact ih (i + 1) f (by omega) (by omega) (fun j hj2 => by
          by_cases z : j = i
          · subst z; exact ⟨by omega, y2⟩
          · exact hj j (by omega))
      · rw [if_neg (fun z => y2 ((nI_eq (by omega) (by omega)).mp z))]
        exact fin (.inr y2)
theorem kb_M {n m : Nat} {l : List Nat} {P1 : Int32} (K : Int32 → Option Int32) (hm : m < 13) (hl : kwL.getD m [] = l) : ∀ c i f, i + c = l.length → c < f → lX12_keyAt_97 n P1 K w f (nI (kpL.getD m 0 + i)) = K (nI (kpL.getD m 0 + l.length)) := by
  obtain ⟨k1, k2, k3, k4, k5⟩ := kw_ok m hm
  rw [hl] at k1 k2 k3 k4
  intro c
  induction c with
  | zero =>
    intro i f hi hf
    obtain ⟨f, rfl⟩ : ∃ g, f = g + 1 := ⟨f - 1, by omega⟩
    have ei : i = l.length := by omega
    subst ei
    show bX12_keyAt_97 n P1 K w _ (nI (kpL.getD m 0 + l.length)) = _
    unfold bX12_keyAt_97
    rw [s13, grd_N (by omega) (by decide), if_pos k2]
  | succ c ih =>
    intro i f hi hf
    obtain ⟨f, rfl⟩ : ∃ g, f = g + 1 := ⟨f - 1, by omega⟩
    obtain ⟨q1, q2, q3⟩ := k1 i (by omega)
    show bX12_keyAt_97 n P1 K w (lX12_keyAt_97 n P1 K w f) (nI (kpL.getD m 0 + i)) = _
    unfold bX12_keyAt_97 letV
    dsimp only
    rw [s13, grd_N (by omega) (by decide), q1, if_neg (show ¬ nI (l.getD i 0) = (32 : Int32) from fun z => q2 ((nI_eq (b := 32) (by omega) (by decide)).mp z)), nI_1]
    exact ih (i + 1) f (by omega) (by omega)
theorem kk_M {n s e : Nat} (hn : 62 < n) (h : TpM b N w) (hse : s ≤ e) (he : e ≤ N) (h10 : wI w 205 10 = nI s) (h11 : wI w 205 11 = nI e) : ∀ c m f, m + c = 13 → c < f → lX12_keyAt_4 n w f (nI m) (nI (kpL.getD m 0)) = some (nI (kyF (blL b (e - s) s) (kwL.drop m) m)) := by
  have hN := h.1
  intro c
  induction c with
  | zero =>
    intro m f hm hf
    obtain ⟨f, rfl⟩ : ∃ g, f = g + 1 := ⟨f - 1, by omega⟩
    have em : m = 13 := by omega
    subst em
    show bX12_keyAt_4 n w _ (nI 13) (nI 61) = some (nI 13)
    unfold bX12_keyAt_4 strL
    rw [s13, if_pos (show nI 61 ≤ nI 61 from nI_le (Nat.le_refl _) (by decide))]
    rfl
  | succ c ih =>
    intro m f hm hf
    obtain ⟨f, rfl⟩ : ∃ g, f = g + 1 := ⟨f - 1, by omega⟩
    have hm13 : m < 13 := by omega
    obtain ⟨l, hl⟩ : ∃ l, kwL.getD m [] = l := ⟨_, rfl⟩
    obtain ⟨k1, k2, k3, k4, k5⟩ := kw_ok m hm13
    have ed : kwL.drop m = kwL.getD m [] :: kwL.drop (m + 1) := by
      have : ∀ m, m < 13 → kwL.drop m = kwL.getD m [] :: kwL.drop (m + 1) := by decide
      exact this m hm13
    have ih2 := ih (m + 1) f (by omega) (by omega)
    rw [ed, hl]
    rw [hl] at k1 k2 k3 k4
    rw [k3] at ih2 k5
    have c0 := (k1 0 (by omega))
    rw [Nat.add_zero] at c0
    have l6 : l.length < n := by omega
    have c32 : ¬ strC 13 (nI (kpL.getD m 0)) = (32 : Int32) := by
      rw [c0.1]
      exact fun z => c0.2.1 ((nI_eq (b := 32) (by omega) (by decide)).mp z)
    have hb97 := kb_M (w := w) (n := n) (m := m) (l := l) (P1 := nI m) (fun (z2_19 : Int32) => letV (z2_19 + (1 : Int32)) (fun (x2_20 : Int32) => letV (nI m + (1 : Int32)) (fun (x1_22 : Int32) => lX12_keyAt_4 n w f x1_22 x2_20))) hm13 hl (l.length - 1) 1 n (by omega) (by omega)
    obtain ⟨z, z1, z2, z3⟩ := ki_M (n := n) (m := m) (s := s) (e := e) (l := l) (P1 := nI m) (fun (z3_6 : Int32) => grd (nI (kpL.getD m 0) + z3_6) (strN 13) (letV (grd (nI (kpL.getD m 0)) (strN 13) (if (strC 13 (nI (kpL.getD m 0))) = (32 : Int32) then letV (nI (kpL.getD m 0) + (1 : Int32)) (fun (x2_10 : Int32) => letV (nI m + (1 : Int32)) (fun (x1_12 : Int32) => lX12_keyAt_4 n w f x1_12 x2_10)) else letV (nI (kpL.getD m 0) + (1 : Int32)) (fun (x2_14 : Int32) => lX12_keyAt_97 n (nI m) (fun (z2_19 : Int32) => letV (z2_19 + (1 : Int32)) (fun (x2_20 : Int32) => letV (nI m + (1 : Int32)) (fun (x1_22 : Int32) => lX12_keyAt_4 n w f x1_22 x2_20))) w n x2_14))) (fun (j97_8 : Option Int32) => if (strC 13 (nI (kpL.getD m 0) + z3_6)) = (32 : Int32) then if ((wI w 205 10) + z3_6) = (wI w 205 11) then some (nI m) else j97_8 else j97_8))) h hm13 hl hse he h10 h11 l.length 0 n (by omega) (by omega) (fun j hj => absurd hj (Nat.not_lt_zero j))
    show bX12_keyAt_4 n w (lX12_keyAt_4 n w f) (nI m) (nI (kpL.getD m 0)) = some (nI (if blL b (e - s) s = l then m else kyF (blL b (e - s) s) (kwL.drop (m + 1)) (m + 1)))
    unfold bX12_keyAt_4 strL
    rw [s13, if_neg (nI_ge (by omega) (by omega))]
    rw [s13] at z2
    refine z2.trans ?_
    dsimp only [letV]
    dsimp only [letV] at hb97
    rw [nI_add, grd_N (by omega) (by decide), grd_N (by omega) (by decide), if_neg c32, h10, h11, nI_add, nI_1 (kpL.getD m 0), hb97, nI_1, nI_1, ih2]
    by_cases q : blL b (e - s) s = l
    · rw [if_pos q, if_pos (z3.mpr q).1, if_pos (by rw [(z3.mpr q).2])]
    · rw [if_neg q]
      by_cases y1 : strC 13 (nI (kpL.getD m 0 + z)) = 32
      · rw [if_pos y1, if_neg (fun y2 => q (z3.mp ⟨y1, (nI_eq (by omega) (by omega)).mp y2⟩))]
      · rw [if_neg y1]
/-- the TOKEN that the reference stands at -/
def LxS (b : Nat → Nat) (N s : Nat) (w : jWd) : Prop := wI w 205 10 = nI s ∧ wI w 205 11 = nI (en b N s) ∧ wI w 205 13 = nI (knR b N s) ∧ (knR b N s = 14 → wI w 205 14 = nI (nuS b N s))
theorem nx_M {n p : Nat} (hn : 410 < n) (h : TpM b N w) (hp : p ≤ N) (h11 : wI w 205 11 = nI p) : ∃ w', fX12_next n w = some w' ∧ LxS b N (sk b N p) w' ∧ frP LxP w w' := by
  have hN := h.1
  have hb := h.2.1
  have hs := sk_b (b := b) hp
  obtain ⟨s, es⟩ : ∃ s, s = sk b N p := ⟨_, rfl⟩
  rw [← es] at hs ⊢
  have f0 : frP LxP w (sI w 205 10 (nI p)) := frP_sI _ _ (by unfold LxP; omega)
  obtain ⟨u1, a1, a2, a3⟩ := ns_M (b := b) (N := N) (n := n) (fun (w_10 : jWd) => letV (sI w_10 205 11 (wI w_10 205 10)) (fun (w_11 : jWd) => if (wI w_11 205 10) < (wI w_11 205 12) then bO (fX12_see (wI w_11 205 10) w_11) (fun (r_14 : Int32) => if (fX12_isSmall r_14) = 0 then bO (fX12_see (wI w_11 205 10) w_11) (fun (r_16 : Int32) => if (fX12_isDigit r_16) = 0 then letV (sI w_11 205 11 ((wI w_11 205 11) + (1 : Int32))) (fun (w_17 : jWd) => bO (fX12_see (wI w_17 205 10) w_17) (fun (r_20 : Int32) => letV (fun (s_21 : Int32) => letV (sI w_17 205 13 s_21) (fun (w_23 : jWd) => some w_23)) (fun (j303_22 : Int32 → Option jWd) => if r_20 = (59 : Int32) then j303_22 (15 : Int32) else bO (fX12_see (wI w_17 205 10) w_17) (fun (r_26 : Int32) => if r_26 = (40 : Int32) then j303_22 (16 : Int32) else bO (fX12_see (wI w_17 205 10) w_17) (fun (r_28 : Int32) => if r_28 = (41 : Int32) then j303_22 (17 : Int32) else j303_22 (19 : Int32)))))) else letV (sI w_11 205 14 (0 : Int32)) (fun (w_29 : jWd) => lX12_next_146 n (fun (w_41 : jWd) => letV (fun (s_42 : Int32) => letV (sI w_41 205 13 s_42) (fun (w_44 : jWd) => some w_44)) (fun (j230_43 : Int32 → Option jWd) => if ((wI w_41 205 11) - (wI w_41 205 10)) ≤ (3 : Int32) then j230_43 (14 : Int32) else j230_43 (19 : Int32))) n w_29)) else lX12_next_89 n (fun (w_50 : jWd) => bO (fX12_keyAt n w_50) (fun (r_52 : Int32) => letV (sI w_50 205 13 r_52) (fun (w_53 : jWd) => some w_53))) n w_11) else letV (sI w_11 205 13 (18 : Int32)) (fun (w_55 : jWd) => some w_55))) (N - p) p n (sI w 205 10 (nI p)) (TpM_fr h f0) (by omega) (by omega) (ev_wIs _ _ _ _)
  rw [← es] at a2
  have f1 : frP LxP w u1 := frP_trans f0 a3
  obtain ⟨u2, hu2⟩ : ∃ u2, u2 = sI u1 205 11 (nI s) := ⟨_, rfl⟩
  have f2 : frP LxP w u2 := by rw [hu2]; exact frP_trans f1 (frP_sI _ _ (by unfold LxP; omega))
  have t2 := TpM_fr h f2
  have u10 : wI u2 205 10 = nI s := by rw [hu2, ev_wIn _ (by omega)]; exact a2
  have u11 : wI u2 205 11 = nI s := by rw [hu2]; exact ev_wIs _ _ _ _
  unfold fX12_next
  rw [ev_letV, h11]
  have a1' := a1
  dsimp only [letV] at a1'
  rw [a2, ← hu2, u10, t2.2.2.1, see_M t2 (by omega), ev_bO, ev_bO, seI_S hb, seI_D hb] at a1'
  by_cases q0 : s < N
  · rw [if_pos (nI_lt q0 (by omega)), decide_eq_true q0, Bool.true_and, Bool.true_and] at a1'
    by_cases q1 : isS (b s) = true
    · rw [q1, if_neg (show ¬ bI true = (0 : Int32) by decide)] at a1'
      obtain ⟨u3, b1, b2, b3⟩ := nl_M (n := n) (fun (w_50 : jWd) => bO (fX12_keyAt n w_50) (fun (r_52 : Int32) => some (sI w_50 205 13 r_52))) (N - s) s n u2 t2 (by omega) (by omega) u11
      have ee : en b N s = ru b N isS s := by unfold en; rw [if_neg (by omega), if_pos q1]
      rw [← ee] at b2
      have f3 : frP LxP w u3 := frP_trans f2 (frP_mono (fun c k z => by unfold LxP; omega) b3)
      have t3 := TpM_fr h f3
      have v10 : wI u3 205 10 = nI s := by rw [frP_I b3 (by omega)]; exact u10
      have he := en_b (b := b) q0
      have ek : fX12_keyAt n u3 = some (nI (kyR (blL b (en b N s - s) s))) := kk_M (by omega) t3 (by omega) he.2 v10 b2 13 0 n (by omega) (by omega)
      have eK : knR b N s = kyR (blL b (en b N s - s) s) := by unfold knR; rw [if_neg (by omega), if_pos q1]
      refine ⟨sI u3 205 13 (nI (knR b N s)), a1'.trans (b1.trans ?_), ⟨by rw [ev_wIn _ (by omega)]; exact v10, by rw [ev_wIn _ (by omega)]; exact b2, ev_wIs _ _ _ _, fun z => ?_⟩, frP_trans f3 (frP_sI _ _ (by unfold LxP; omega))⟩
      · rw [ek, ev_bO, eK]
      · have := kyR_le (blL b (en b N s - s) s)
        omega
    · rw [bfl q1, if_pos (show bI false = (0 : Int32) from rfl)] at a1'
      by_cases q2 : isD (b s) = true
      · rw [q2, if_neg (show ¬ bI true = (0 : Int32) by decide)] at a1'
        have ee : en b N s = ru b N isD s := by unfold en; rw [if_neg (by omega), if_neg q1, if_pos q2]
        have f3 : frP LxP u2 (sI u2 205 14 (0 : Int32)) := frP_sI _ _ (by unfold LxP; omega)
        obtain ⟨u3, b1, b2, b3, b4⟩ := nd_M (s := s) (n := n) (fun (w_41 : jWd) => if ((wI w_41 205 11) - (wI w_41 205 10)) ≤ (3 : Int32) then some (sI w_41 205 13 (14 : Int32)) else some (sI w_41 205 13 (19 : Int32))) (N - s) s n (sI u2 205 14 (0 : Int32)) (TpM_fr t2 f3) (by omega) (by omega) (Nat.le_refl _) (by rw [ev_wIn _ (by omega)]; exact u10) (by rw [ev_wIn _ (by omega)]; exact u11) (fun _ => by rw [Nat.sub_self]; exact ev_wIs _ _ _ _)
        rw [← ee] at b2 b3
        have he := en_b (b := b) q0
        have v10 : wI u3 205 10 = nI s := by rw [frP_I b4 (by omega), ev_wIn _ (by omega)]; exact u10
        have fU : frP LxP w u3 := frP_trans f2 (frP_trans f3 (frP_mono (fun c k z => by unfold LxP; omega) b4))
        have eK : knR b N s = if en b N s - s ≤ 3 then 14 else 19 := by unfold knR; rw [if_neg (by omega), if_neg q1, if_pos q2]
        refine ⟨sI u3 205 13 (nI (knR b N s)), a1'.trans (b1.trans ?_), ⟨by rw [ev_wIn _ (by omega)]; exact v10, by rw [ev_wIn _ (by omega)]; exact b2, ev_wIs _ _ _ _, fun z => ?_⟩, frP_trans fU (frP_sI _ _ (by unfold LxP; omega))⟩
        · rw [b2, v10, ev_sub (by omega), eK]
          by_cases z : en b N s - s ≤ 3
          · rw [if_pos z, if_pos (show nI (en b N s - s) ≤ (3 : Int32) from nI_le (b := 3) z (by decide))]
            rfl
          · rw [if_neg z, if_neg (show ¬ nI (en b N s - s) ≤ (3 : Int32) from nI_ge (a := 3) (by omega) (by omega))]
            rfl
        · rw [eK] at z
          rw [ev_wIn _ (by omega)]
          by_cases y : en b N s - s ≤ 3
          · exact b3 y
          · rw [if_neg y] at z
            omega
      · rw [bfl q2, if_pos (show bI false = (0 : Int32) from rfl)] at a1'
        have ee : en b N s = s + 1 := by unfold en; rw [if_neg (by omega), if_neg q1, if_neg q2]
        obtain ⟨u3, hu3⟩ : ∃ u3, u3 = sI u2 205 11 (nI (s + 1)) := ⟨_, rfl⟩
        have f3 : frP LxP w u3 := by rw [hu3]; exact frP_trans f2 (frP_sI _ _ (by unfold LxP; omega))
        have t3 := TpM_fr h f3
        have v10 : wI u3 205 10 = nI s := by rw [hu3, ev_wIn _ (by omega)]; exact u10
        have v11 : wI u3 205 11 = nI (en b N s) := by rw [hu3, ee]; exact ev_wIs _ _ _ _
        rw [u11, nI_1, ← hu3, v10, see_M t3 (by omega), ev_bO, ev_bO, ev_bO] at a1'
        have es2 : seI b N s = nI (b s) := if_pos q0
        have bs := hb s
        have eK : knR b N s = if b s = 59 then 15 else if b s = 40 then 16 else if b s = 41 then 17 else 19 := by unfold knR; rw [if_neg (by omega), if_neg q1, if_neg q2]
        refine ⟨sI u3 205 13 (nI (knR b N s)), a1'.trans ?_, ⟨by rw [ev_wIn _ (by omega)]; exact v10, by rw [ev_wIn _ (by omega)]; exact v11, ev_wIs _ _ _ _, fun z => ?_⟩, frP_trans f3 (frP_sI _ _ (by unfold LxP; omega))⟩
        · rw [es2, eK]
          by_cases z1 : b s = 59
          · rw [if_pos z1, if_pos (show nI (b s) = (59 : Int32) by rw [z1]; rfl)]
            rfl
          rw [if_neg z1, if_neg (show ¬ nI (b s) = (59 : Int32) from fun y => z1 ((nI_eq (b := 59) (by omega) (by decide)).mp y))]
          by_cases z2 : b s = 40
          · rw [if_pos z2, if_pos (show nI (b s) = (40 : Int32) by rw [z2]; rfl)]
            rfl
          rw [if_neg z2, if_neg (show ¬ nI (b s) = (40 : Int32) from fun y => z2 ((nI_eq (b := 40) (by omega) (by decide)).mp y))]
          by_cases z3 : b s = 41
          · rw [if_pos z3, if_pos (show nI (b s) = (41 : Int32) by rw [z3]; rfl)]
            rfl
          rw [if_neg z3, if_neg (show ¬ nI (b s) = (41 : Int32) from fun y => z3 ((nI_eq (b := 41) (by omega) (by decide)).mp y))]
          rfl
        · rw [eK] at z
          split at z
          · omega
          split at z
          · omega
          split at z <;> omega
  · rw [if_neg (nI_nlt (by omega) (by omega))] at a1'
    have eK : knR b N s = 18 := by unfold knR; rw [if_pos (by omega)]
    refine ⟨sI u2 205 13 (nI (knR b N s)), a1'.trans (by rw [eK]; rfl), ⟨by rw [ev_wIn _ (by omega)]; exact u10, by rw [ev_wIn _ (by omega), en_N (by omega)]; exact u11, ev_wIs _ _ _ _, fun z => by omega⟩, frP_trans f2 (frP_sI _ _ (by unfold LxP; omega))⟩
end LXM
