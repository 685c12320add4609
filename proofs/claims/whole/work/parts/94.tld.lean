/-! told: the two tellings -/
section TLD
variable {A : Nat → Nat} {L : Nat → Int64} {F W : Nat → Nat} {w : jWd}
/-- what is TOLD ON: how many, which, and the number drawn last -/
def tlS (F W : Nat → Nat) (t : Nat) (ls : Nat → Int64) : Nat → Nat → Int32 → Nat → (Nat → Int64) → Nat × (Nat → Int64) × Int32
  | 0, _, x, m, lf => (m, lf, x)
  | c + 1, i, x, m, lf => if nI (W 1) ≤ fX3_drawn (fX3_next x) then tlS F W t ls c (i + 1) (fX3_next (fX3_next x)) (m + 1) (uN lf m (if nI (W 3) ≤ fX3_drawn (fX3_next (fX3_next x)) then spW W (ls i) else smS F t (spW W (ls i)))) else tlS F W t ls c (i + 1) (fX3_next x) m lf
theorem tlS_ok (hF : InF F) (hW : InW W) {t : Nat} {ls : Nat → Int64} : ∀ c i x m lf, (∀ j, i ≤ j → j < i + c → isL (ls j)) → m ≤ i → (∀ j, j < m → isL (lf j)) → (tlS F W t ls c i x m lf).1 ≤ i + c ∧ ∀ j, j < (tlS F W t ls c i x m lf).1 → isL ((tlS F W t ls c i x m lf).2.1 j)
  | 0, i, x, m, lf, _, hm, hl => ⟨hm, hl⟩
  | c + 1, i, x, m, lf, h, hm, hl => by
    unfold tlS
    have hs := spW_L hW (h i (by omega) (by omega))
    split
    · have := tlS_ok hF hW (t := t) (ls := ls) c (i + 1) (fX3_next (fX3_next x)) (m + 1) (uN lf m (if nI (W 3) ≤ fX3_drawn (fX3_next (fX3_next x)) then spW W (ls i) else smS F t (spW W (ls i)))) (fun j h1 h2 => h j (by omega) (by omega)) (by omega) (fun j hj => by
        by_cases e : j = m
        · subst e
          rw [uN_eq]
          split
          · exact hs
          · exact ⟨smS_C hF t hs.1, smS_nz hF t hs.1 hs.2⟩
        · rw [uN_ne e]
          exact hl j (by omega))
      exact ⟨by omega, this.2⟩
    · have := tlS_ok hF hW (t := t) (ls := ls) c (i + 1) (fX3_next x) m lf (fun j h1 h2 => h j (by omega) (by omega)) (by omega) hl
      exact ⟨by omega, this.2⟩
/-- how they are moved about -/
def mvS (W : Nat → Nat) : Nat → Nat → Int32 → (Nat → Int64) → (Nat → Int64)
  | 0, _, _, lf => lf
  | c + 1, k, x, lf => if nI (W 2) ≤ fX3_drawn (fX3_next x) then mvS W c (k + 1) (fX3_next x) lf else mvS W c (k + 1) (fX3_next x) (uN (uN lf k (lf (k + 1))) (k + 1) (lf k))
theorem mvS_ok {m : Nat} : ∀ c k x lf, k + c + 1 = m → (∀ j, j < m → isL (lf j)) → ∀ j, j < m → isL (mvS W c k x lf j)
  | 0, _, _, _, _, hl => hl
  | c + 1, k, x, lf, hk, hl => by
    unfold mvS
    split
    · exact mvS_ok c (k + 1) _ lf (by omega) hl
    · refine mvS_ok c (k + 1) _ _ (by omega) (fun j hj => ?_)
      by_cases e : j = k + 1
      · subst e
        rw [uN_eq]
        exact hl k (by omega)
      · rw [uN_ne e]
        by_cases e2 : j = k
        · subst e2
          rw [uN_eq]
          exact hl (j + 1) (by omega)
        · rw [uN_ne e2]
          exact hl j hj
theorem tl_X {n g : Nat} (hn : 300 < n) (hg : g < A 0) (K : Int32 → Int32 → jWd → Option (Int32 × jWd)) : ∀ c i f x m lf (w : jWd), RN A L F W w → i + c = A (121 + g) → c < f → m ≤ i → (∀ j, j < m → wJ w 203 j = lf j) → ∃ w', lX8_tellOn_22 n 1 (nI g) 203 K f x (nI m) (nI i) w = K (tlS F W (A (1 + g)) (fun j => L (12 * g + j)) c i x m lf).2.2 (nI (tlS F W (A (1 + g)) (fun j => L (12 * g + j)) c i x m lf).1) w' ∧ (∀ j, j < (tlS F W (A (1 + g)) (fun j => L (12 * g + j)) c i x m lf).1 → wJ w' 203 j = (tlS F W (A (1 + g)) (fun j => L (12 * g + j)) c i x m lf).2.1 j) ∧ frP (fun c _ => c = 203) w w' := by
  have l6 : ln (1 + 5) = 40 := rfl
  have l3 : ln (1 + 2) = 40 := rfl
  have l203 : ln 203 = 12 := rfl
  intro c
  induction c with
  | zero =>
    intro i f x m lf w h hi hf hm hl
    obtain ⟨f, rfl⟩ : ∃ g, f = g + 1 := ⟨f - 1, by omega⟩
    have h40 := h.1.1.2.1
    have hg12 := h.1.1.2.2.1 g (by omega)
    have e6 : wI w (1 + 5) g = nI (A (121 + g)) := (h.2.1.1.2 g hg).2.2.1
    refine ⟨w, ?_, hl, frP_refl _ _⟩
    show bX8_tellOn_22 n 1 (nI g) 203 K _ x (nI m) (nI i) w = _
    unfold bX8_tellOn_22
    rw [l6, grd_N (by omega) (by decide), nI_clamp (by omega), e6, if_pos (nI_le (by omega) (by omega))]
    rfl
  | succ c ih =>
    intro i f x m lf w h hi hf hm hl
    obtain ⟨f, rfl⟩ : ∃ g, f = g + 1 := ⟨f - 1, by omega⟩
    have h40 := h.1.1.2.1
    have hg12 := h.1.1.2.2.1 g (by omega)
    have t9 := h.1.1.1 (1 + g)
    have hW : InW W := h.1.2.2.2.2
    have hF : InF F := h.1.2.2.2.1
    obtain ⟨w0, w1, w2, w3, -, -⟩ := RN_lw h
    have e6 : wI w (1 + 5) g = nI (A (121 + g)) := (h.2.1.1.2 g hg).2.2.1
    have e3 : wI w (1 + 2) g = nI (A (1 + g)) := (h.2.1.1.2 g hg).1
    have hLi : isL (L (12 * g + i)) := h.1.2.2.1.1 g i hg (by omega)
    have hat : fX5_at 2 (nI g) (nI i) w = some (L (12 * g + i)) := at_X (k := 0) (g := g) h (by decide) (by decide) hg (show i < A (121 + g) by omega)
    have hs := spW_L hW hLi
    have hres := res_X (n := n) (by omega) h hLi.1
    have hsm : fX1_smooth n 32 (spW W (L (12 * g + i))) (nI (A (1 + g))) w = some (smS F (A (1 + g)) (spW W (L (12 * g + i)))) := sm_X (by omega) (by omega) h.2.1.2.2.2.2.2.1 hF hs.1
    have go : ∀ (u : Int64), ∃ w', lX8_tellOn_22 n 1 (nI g) 203 K f (fX3_next (fX3_next x)) (nI (m + 1)) (nI (i + 1)) (sJ w 203 m u) = K (tlS F W (A (1 + g)) (fun j => L (12 * g + j)) c (i + 1) (fX3_next (fX3_next x)) (m + 1) (uN lf m u)).2.2 (nI (tlS F W (A (1 + g)) (fun j => L (12 * g + j)) c (i + 1) (fX3_next (fX3_next x)) (m + 1) (uN lf m u)).1) w' ∧ (∀ j, j < (tlS F W (A (1 + g)) (fun j => L (12 * g + j)) c (i + 1) (fX3_next (fX3_next x)) (m + 1) (uN lf m u)).1 → wJ w' 203 j = (tlS F W (A (1 + g)) (fun j => L (12 * g + j)) c (i + 1) (fX3_next (fX3_next x)) (m + 1) (uN lf m u)).2.1 j) ∧ frP (fun c _ => c = 203) w w' := by
      intro u
      obtain ⟨w', d1, d2, d3⟩ := ih (i + 1) f (fX3_next (fX3_next x)) (m + 1) (uN lf m u) (sJ w 203 m u) (RN_fr (frP_sJ _ _ (by unfold Scr; omega)) h) (by omega) (by omega) (by omega) (fun j hj => by
        by_cases e : j = m
        · subst e
          rw [uN_eq]
          exact ev_wJs _ _ _ _
        · rw [uN_ne e, ev_wJn _ (by omega)]
          exact hl j (by omega))
      exact ⟨w', d1, d2, frP_trans (frP_sJ _ _ rfl) d3⟩
    show ∃ w', bX8_tellOn_22 n 1 (nI g) 203 K (lX8_tellOn_22 n 1 (nI g) 203 K f) x (nI m) (nI i) w = K (tlS F W (A (1 + g)) (fun j => L (12 * g + j)) (c + 1) i x m lf).2.2 (nI (tlS F W (A (1 + g)) (fun j => L (12 * g + j)) (c + 1) i x m lf).1) w' ∧ _
    unfold bX8_tellOn_22 letV tlS
    dsimp only
    rw [l6, l3, l203, grd_N (by omega) (by decide), nI_clamp (by omega), e6, if_neg (nI_ge (by omega) (by omega)), if_neg (show ¬ Int32.ofNat 12 ≤ nI m from nI_ge (b := 12) (by omega) (by decide)), show wI w (1 + 38) 1 = nI (W 1) from w1, show wI w (1 + 38) 3 = nI (W 3) from w3]
    by_cases q1 : nI (W 1) ≤ fX3_drawn (fX3_next x)
    · rw [if_pos q1, if_pos q1, show fX5_at (1 + 1) (nI g) (nI i) w = some (L (12 * g + i)) from hat, ev_bO, show fX3_respoken n (1 + 38) (L (12 * g + i)) w = some (spW W (L (12 * g + i))) from hres, ev_bO, e3, show fX1_smooth n (1 + 31) (spW W (L (12 * g + i))) (nI (A (1 + g))) w = some (smS F (A (1 + g)) (spW W (L (12 * g + i)))) from hsm, ev_bO, grd_N (by omega) (by decide), grd_N (by omega) (by decide), grd_N (by omega) (by decide), nI_clamp (by omega), nI_1, nI_1]
      by_cases q2 : nI (W 3) ≤ fX3_drawn (fX3_next (fX3_next x))
      · rw [if_pos q2, if_pos q2]
        exact go _
      · rw [if_neg q2, if_neg q2]
        exact go _
    · rw [if_neg q1, if_neg q1, nI_1]
      exact ih (i + 1) f (fX3_next x) m lf w h (by omega) (by omega) (by omega) hl
theorem mv_X {n m : Nat} (hm : m ≤ 12) : ∀ c k f x lf (w : jWd), wI w 39 2 = nI (W 2) → k + c + 1 = m → c < f → (∀ j, j < m → wJ w 203 j = lf j) → ∃ w', lX8_moveAbout_6 n 1 203 (nI m) f x (nI k) w = some w' ∧ (∀ j, j < m → wJ w' 203 j = mvS W c k x lf j) ∧ frP (fun c _ => c = 203) w w' := by
  have l203 : ln 203 = 12 := rfl
  intro c
  induction c with
  | zero =>
    intro k f x lf w h2 hk hf hl
    obtain ⟨f, rfl⟩ : ∃ g, f = g + 1 := ⟨f - 1, by omega⟩
    refine ⟨w, ?_, hl, frP_refl _ _⟩
    show bX8_moveAbout_6 n 1 203 (nI m) _ x (nI k) w = _
    unfold bX8_moveAbout_6
    rw [nI_1, if_pos (nI_le (by omega) (by omega))]
  | succ c ih =>
    intro k f x lf w h2 hk hf hl
    obtain ⟨f, rfl⟩ : ∃ g, f = g + 1 := ⟨f - 1, by omega⟩
    show ∃ w', bX8_moveAbout_6 n 1 203 (nI m) (lX8_moveAbout_6 n 1 203 (nI m) f) x (nI k) w = some w' ∧ (∀ j, j < m → wJ w' 203 j = (if nI (W 2) ≤ fX3_drawn (fX3_next x) then mvS W c (k + 1) (fX3_next x) lf else mvS W c (k + 1) (fX3_next x) (uN (uN lf k (lf (k + 1))) (k + 1) (lf k))) j) ∧ frP (fun c _ => c = 203) w w'
    unfold bX8_moveAbout_6 letV
    dsimp only
    rw [nI_1, l203, if_neg (nI_ge (by omega) (by omega)), if_neg (show ¬ Int32.ofNat 12 ≤ nI (k + 1) from nI_ge (b := 12) (by omega) (by decide)), show wI w (1 + 38) 2 = nI (W 2) from h2]
    by_cases q : nI (W 2) ≤ fX3_drawn (fX3_next x)
    · rw [if_pos q, if_pos q]
      exact ih (k + 1) f (fX3_next x) lf w h2 (by omega) (by omega) hl
    · rw [if_neg q, if_neg q, grd_N (by omega) (by decide), grd_N (by omega) (by decide), grd_N (by omega) (by decide), grd_N (by omega) (by decide), nI_clamp (by omega), nI_clamp (by omega), hl k (by omega), hl (k + 1) (by omega)]
      obtain ⟨w', d1, d2, d3⟩ := ih (k + 1) f (fX3_next x) (uN (uN lf k (lf (k + 1))) (k + 1) (lf k)) (sJ (sJ w 203 k (lf (k + 1))) 203 (k + 1) (lf k)) (by rw [wI_sJ, wI_sJ]; exact h2) (by omega) (by omega) (fun j hj => by
        by_cases e : j = k + 1
        · subst e
          rw [uN_eq]
          exact ev_wJs _ _ _ _
        · rw [uN_ne e, ev_wJn _ (by omega)]
          by_cases e2 : j = k
          · subst e2
            rw [uN_eq]
            exact ev_wJs _ _ _ _
          · rw [uN_ne e2, ev_wJn _ (by omega)]
            exact hl j hj)
      exact ⟨w', d1, d2, frP_trans (frP_trans (frP_sJ _ _ rfl) (frP_sJ _ _ rfl)) d3⟩
theorem dr_M (w : jWd) (x : Int32) (h : wI w 205 25 = x) : fX12_draw w = some (fX3_drawn (fX3_next x), sI w 205 25 (fX3_next x)) := by
  unfold fX12_draw letV
  rw [h]
  dsimp only
  rw [ev_wIs]
  rfl
theorem tl_M {n g : Nat} (hn : 300 < n) (hg : g < A 0) {P2 P3 : Int32} (K : Int32 → jWd → Option (Int32 × jWd)) : ∀ c i f x m lf (w : jWd), RMN A L F W w → wI w 205 25 = x → i + c = A (121 + g) → c < f → m ≤ i → (∀ j, j < m → wJ w 217 j = lf j) → ∃ w', lX12_told_91 n (nI g) P2 P3 K f (nI m) (nI i) w = K (nI (tlS F W (A (1 + g)) (fun j => L (12 * g + j)) c i x m lf).1) w' ∧ wI w' 205 25 = (tlS F W (A (1 + g)) (fun j => L (12 * g + j)) c i x m lf).2.2 ∧ (∀ j, j < (tlS F W (A (1 + g)) (fun j => L (12 * g + j)) c i x m lf).1 → wJ w' 217 j = (tlS F W (A (1 + g)) (fun j => L (12 * g + j)) c i x m lf).2.1 j) ∧ frS w w' := by
  have l7 : ln 207 = 3372 := rfl
  have l8 : ln 208 = 2352 := rfl
  have l217 : ln 217 = 12 := rfl
  have e121 : (121 : Int32) + nI g = nI (121 + g) := nI_add 121 g
  have e1 : (1 : Int32) + nI g = nI (1 + g) := nI_add 1 g
  intro c
  induction c with
  | zero =>
    intro i f x m lf w h hx hi hf hm hl
    obtain ⟨f, rfl⟩ : ∃ g, f = g + 1 := ⟨f - 1, by omega⟩
    have h40 := h.1.1.2.1
    have hg12 := h.1.1.2.2.1 g (by omega)
    refine ⟨w, ?_, hx, hl, frP_refl _ _⟩
    show bX12_told_91 n (nI g) P2 P3 K _ (nI m) (nI i) w = _
    unfold bX12_told_91
    rw [e121, l7, grd_N (by omega) (by decide), nI_clamp (by omega), RMN_A h (show 121 + g < 1124 by omega), if_pos (nI_le (by omega) (by omega))]
    rfl
  | succ c ih =>
    intro i f x m lf w h hx hi hf hm hl
    obtain ⟨f, rfl⟩ : ∃ g, f = g + 1 := ⟨f - 1, by omega⟩
    have h40 := h.1.1.2.1
    have hg12 := h.1.1.2.2.1 g (by omega)
    have t9 := h.1.1.1 (1 + g)
    have hW : InW W := h.1.2.2.2.2
    have hF : InF F := h.1.2.2.2.1
    have hLi : isL (L (12 * g + i)) := h.1.2.2.1.1 g i hg (by omega)
    have hs := spW_L hW hLi
    obtain ⟨u, hu⟩ : ∃ u, u = sI w 205 25 (fX3_next x) := ⟨_, rfl⟩
    have fu : frS w u := by rw [hu]; exact frP_sI _ _ (by unfold Scr; omega)
    have hU := RMN_fr fu h
    have ux : wI u 205 25 = fX3_next x := by rw [hu]; exact ev_wIs _ _ _ _
    obtain ⟨v, hv⟩ : ∃ v, v = sI u 205 25 (fX3_next (fX3_next x)) := ⟨_, rfl⟩
    have fv : frS u v := by rw [hv]; exact frP_sI _ _ (by unfold Scr; omega)
    have hV := RMN_fr fv hU
    have vx : wI v 205 25 = fX3_next (fX3_next x) := by rw [hv]; exact ev_wIs _ _ _ _
    have lv : ∀ j, j < m → wJ v 217 j = lf j := fun j hj => by rw [hv, hu, wJ_sI, wJ_sI]; exact hl j hj
    have lu : ∀ j, j < m → wJ u 217 j = lf j := fun j hj => by rw [hu, wJ_sI]; exact hl j hj
    obtain ⟨v2, s1, s2⟩ := sm_M (n := n) (by omega) hF (t := A (1 + g)) (by omega) (spW W (L (12 * g + i))) (RMN_F hV)
    rw [cln_id hs.1] at s1
    have s3 : frS v v2 := frP_mono (fun c k z => by unfold Psm at z; unfold Scr; omega) s2
    have go : ∀ (z : jWd) (y : Int64), frS u z → wI z 205 25 = fX3_next (fX3_next x) → (∀ j, j < m → wJ z 217 j = lf j) → ∃ w', lX12_told_91 n (nI g) P2 P3 K f (nI (m + 1)) (nI (i + 1)) (sJ z 217 m y) = K (nI (tlS F W (A (1 + g)) (fun j => L (12 * g + j)) c (i + 1) (fX3_next (fX3_next x)) (m + 1) (uN lf m y)).1) w' ∧ wI w' 205 25 = (tlS F W (A (1 + g)) (fun j => L (12 * g + j)) c (i + 1) (fX3_next (fX3_next x)) (m + 1) (uN lf m y)).2.2 ∧ (∀ j, j < (tlS F W (A (1 + g)) (fun j => L (12 * g + j)) c (i + 1) (fX3_next (fX3_next x)) (m + 1) (uN lf m y)).1 → wJ w' 217 j = (tlS F W (A (1 + g)) (fun j => L (12 * g + j)) c (i + 1) (fX3_next (fX3_next x)) (m + 1) (uN lf m y)).2.1 j) ∧ frS w w' := by
      intro z y fz zx lz
      have f2 : frS z (sJ z 217 m y) := frP_sJ _ _ (by unfold Scr; omega)
      obtain ⟨w', d1, d2, d3, d4⟩ := ih (i + 1) f (fX3_next (fX3_next x)) (m + 1) (uN lf m y) (sJ z 217 m y) (RMN_fr f2 (RMN_fr fz hU)) (by rw [wI_sJ]; exact zx) (by omega) (by omega) (by omega) (fun j hj => by
        by_cases e : j = m
        · subst e
          rw [uN_eq]
          exact ev_wJs _ _ _ _
        · rw [uN_ne e, ev_wJn _ (by omega)]
          exact lz j (by omega))
      exact ⟨w', d1, d2, d3, frP_trans fu (frP_trans fz (frP_trans f2 d4))⟩
    show ∃ w', bX12_told_91 n (nI g) P2 P3 K (lX12_told_91 n (nI g) P2 P3 K f) (nI m) (nI i) w = K (nI (tlS F W (A (1 + g)) (fun j => L (12 * g + j)) (c + 1) i x m lf).1) w' ∧ _
    unfold bX12_told_91 letV tlS
    dsimp only
    rw [e121, e1, l7, l8, l217, grd_N (by omega) (by decide), nI_clamp (by omega), RMN_A h (show 121 + g < 1124 by omega), if_neg (nI_ge (by omega) (by omega)), dr_M w x hx, ev_bO2, ← hu, RMN_W hU (show 1 < 29 by decide)]
    by_cases q1 : nI (W 1) ≤ fX3_drawn (fX3_next x)
    · rw [if_pos q1, if_pos q1, show (12 : Int32) * nI g = nI (12 * g) from pk_mul 12 g, nI_add, grd_N (by omega) (by decide), nI_clamp (by omega), RMN_L hU (show 12 * g + i < 784 by omega), said_M (by omega) hU, ev_bO, dr_M u _ ux, ev_bO2, ← hv, RMN_W hV (show 3 < 29 by decide), nI_1, nI_1]
      by_cases q2 : nI (W 3) ≤ fX3_drawn (fX3_next (fX3_next x))
      · rw [if_pos q2, if_pos q2, grd_N (by omega) (by decide), nI_clamp (by omega)]
        exact go v _ fv vx lv
      · rw [if_neg q2, if_neg q2, grd_N (by omega) (by decide), nI_clamp (by omega), RMN_A hV (show 1 + g < 1124 by omega), s1, ev_bO2, grd_N (by omega) (by decide), nI_clamp (by omega)]
        exact go v2 _ (frP_trans fv s3) (by rw [frP_I s2 (by unfold Psm; omega)]; exact vx) (fun j hj => by rw [frP_J s2 (by unfold Psm; omega)]; exact lv j hj)
    · rw [if_neg q1, if_neg q1, nI_1]
      obtain ⟨w', d1, d2, d3, d4⟩ := ih (i + 1) f (fX3_next x) m lf u hU ux (by omega) (by omega) (by omega) lu
      exact ⟨w', d1, d2, d3, frP_trans fu d4⟩
theorem mv_M {n m : Nat} (hm : m ≤ 12) {P1 P2 P3 : Int32} (K : jWd → Option (Int32 × jWd)) : ∀ c k f x lf (w : jWd), wI w 212 2 = nI (W 2) → wI w 205 25 = x → k + c + 1 = m → c < f → (∀ j, j < m → wJ w 217 j = lf j) → ∃ w', lX12_told_202 n P1 P2 P3 (nI m) K f (nI k) w = K w' ∧ (∀ j, j < m → wJ w' 217 j = mvS W c k x lf j) ∧ frP (fun c k => c = 217 ∨ (c = 205 ∧ k = 25)) w w' := by
  have l217 : ln 217 = 12 := rfl
  intro c
  induction c with
  | zero =>
    intro k f x lf w h2 hx hk hf hl
    obtain ⟨f, rfl⟩ : ∃ g, f = g + 1 := ⟨f - 1, by omega⟩
    refine ⟨w, ?_, hl, frP_refl _ _⟩
    show bX12_told_202 n P1 P2 P3 (nI m) K _ (nI k) w = _
    unfold bX12_told_202
    rw [nI_1, if_pos (nI_le (by omega) (by omega))]
  | succ c ih =>
    intro k f x lf w h2 hx hk hf hl
    obtain ⟨f, rfl⟩ : ∃ g, f = g + 1 := ⟨f - 1, by omega⟩
    obtain ⟨u, hu⟩ : ∃ u, u = sI w 205 25 (fX3_next x) := ⟨_, rfl⟩
    have fu : frP (fun c k => c = 217 ∨ (c = 205 ∧ k = 25)) w u := by rw [hu]; exact frP_sI _ _ (.inr ⟨rfl, rfl⟩)
    have u2 : wI u 212 2 = nI (W 2) := by rw [frP_I fu (by omega)]; exact h2
    have ux : wI u 205 25 = fX3_next x := by rw [hu]; exact ev_wIs _ _ _ _
    have lu : ∀ j, j < m → wJ u 217 j = lf j := fun j hj => by rw [hu, wJ_sI]; exact hl j hj
    show ∃ w', bX12_told_202 n P1 P2 P3 (nI m) K (lX12_told_202 n P1 P2 P3 (nI m) K f) (nI k) w = K w' ∧ (∀ j, j < m → wJ w' 217 j = (if nI (W 2) ≤ fX3_drawn (fX3_next x) then mvS W c (k + 1) (fX3_next x) lf else mvS W c (k + 1) (fX3_next x) (uN (uN lf k (lf (k + 1))) (k + 1) (lf k))) j) ∧ frP (fun c k => c = 217 ∨ (c = 205 ∧ k = 25)) w w'
    unfold bX12_told_202 letV
    dsimp only
    rw [nI_1, l217, if_neg (nI_ge (by omega) (by omega)), dr_M w x hx, ev_bO2, ← hu, u2]
    by_cases q : nI (W 2) ≤ fX3_drawn (fX3_next x)
    · rw [if_neg (Int32.not_lt.mpr q), if_pos q]
      obtain ⟨w', d1, d2, d3⟩ := ih (k + 1) f (fX3_next x) lf u u2 ux (by omega) (by omega) lu
      exact ⟨w', d1, d2, frP_trans fu d3⟩
    · rw [if_pos (Int32.not_le.mp q), if_neg q, grd_N (by omega) (by decide), grd_N (by omega) (by decide), grd_N (by omega) (by decide), grd_N (by omega) (by decide), nI_clamp (by omega), nI_clamp (by omega), lu k (by omega), lu (k + 1) (by omega)]
      obtain ⟨w', d1, d2, d3⟩ := ih (k + 1) f (fX3_next x) (uN (uN lf k (lf (k + 1))) (k + 1) (lf k)) (sJ (sJ u 217 k (lf (k + 1))) 217 (k + 1) (lf k)) (by rw [wI_sJ, wI_sJ]; exact u2) (by rw [wI_sJ, wI_sJ]; exact ux) (by omega) (by omega) (fun j hj => by
        by_cases e : j = k + 1
        · subst e
          rw [uN_eq]
          exact ev_wJs _ _ _ _
        · rw [uN_ne e, ev_wJn _ (by omega)]
          by_cases e2 : j = k
          · subst e2
            rw [uN_eq]
            exact ev_wJs _ _ _ _
          · rw [uN_ne e2, ev_wJn _ (by omega)]
            exact lu j hj)
      exact ⟨w', d1, d2, frP_trans fu (frP_trans (frP_trans (frP_sJ _ _ (.inl rfl)) (frP_sJ _ _ (.inl rfl))) d3)⟩
end TLD
