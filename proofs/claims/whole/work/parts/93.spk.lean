/-! told: what is spoken for a LINE -/
section SPK
variable {A : Nat → Nat} {L : Nat → Int64} {F W : Nat → Nat} {w : jWd}
/-- the reference's half of what both hold -/
def RMN (A : Nat → Nat) (L : Nat → Int64) (F W : Nat → Nat) (w : jWd) : Prop := In A L F W ∧ RM A L F W 0 w
def ScX (c k : Nat) : Prop := Scr c k ∨ (1 ≤ c ∧ c ≤ 57)
theorem RMN_of (h : RN A L F W w) : RMN A L F W w := ⟨h.1, h.2.2.2⟩
theorem RMN_A (h : RMN A L F W w) {k : Nat} (hk : k < 1124) : wI w 207 k = nI (A k) := by
  have := h.2.1 k hk
  rw [show 1124 * 0 + k = k by omega] at this
  exact this
theorem RMN_L (h : RMN A L F W w) {k : Nat} (hk : k < 784) : wJ w 208 k = L k := by
  have := h.2.2.1 k hk
  rw [show 784 * 0 + k = k by omega] at this
  exact this
theorem RMN_F (h : RMN A L F W w) : FM F w := fun k hk => by
  have := h.2.2.2.1 k hk
  rw [show 645 * 0 + k = k by omega] at this
  exact this
theorem RMN_W (h : RMN A L F W w) {k : Nat} (hk : k < 29) : wI w 212 k = nI (W k) := by
  have := h.2.2.2.2 k hk
  rw [show 29 * 0 + k = k by omega] at this
  exact this
theorem RMN_frX {w' : jWd} (hf : frP ScX w w') (h : RMN A L F W w) : RMN A L F W w' := ⟨h.1, RM_cg (fun k _ => frP_I hf (by unfold ScX Scr; omega)) (fun k _ => frP_J hf (by unfold ScX Scr; omega)) (fun k _ => frP_I hf (by unfold ScX Scr; omega)) (fun k _ => frP_I hf (by unfold ScX Scr; omega)) h.2⟩
theorem RMN_fr {w' : jWd} (hf : frS w w') (h : RMN A L F W w) : RMN A L F W w' := RMN_frX (frP_mono (fun _ _ => .inl) hf) h
def sdW (W : Nat → Nat) (v : Nat) : Nat := if v = 0 then 0 else if sayW W v (W 4) 0 = 0 then v else sayW W v (W 4) 0
def spW (W : Nat → Nat) (l : Int64) : Int64 := pkW (fun k => sdW W (bt l k)) (lnB l)
theorem sayW_b {v : Nat} (hW : InW W) : ∀ c i, i + c ≤ W 4 → sayW W v c i ≤ 255
  | 0, _, _ => Nat.zero_le _
  | c + 1, i, h => by
    show (if W (17 + i) = v then W (5 + i) else sayW W v c (i + 1)) ≤ 255
    split
    · exact (hW.2.2.2.2.2 i (by omega)).1.2
    · exact sayW_b hW c (i + 1) (by omega)
theorem sdW_b (hW : InW W) {v : Nat} (h1 : 1 ≤ v) (h2 : v < 256) : 1 ≤ sdW W v ∧ sdW W v < 256 := by
  have := sayW_b (v := v) hW (W 4) 0 (by omega)
  unfold sdW
  rw [if_neg (by omega)]
  split <;> omega
theorem sdW_l (hW : InW W) (v : Nat) (h2 : v < 256) : sdW W v < 256 := by
  by_cases e : v = 0
  · subst e; unfold sdW; rw [if_pos rfl]; decide
  · exact (sdW_b hW (by omega) h2).2
theorem bt_nz (l : Int64) {k : Nat} (h : k < lnB l) : 1 ≤ bt l k := Nat.one_le_iff_ne_zero.mpr (lnB_nz l h)
theorem spW_ln (hW : InW W) (l : Int64) : lnB (spW W l) = lnB l := lnB_pkW (lnB_le l) (fun k hk => sdW_b hW (bt_nz l hk) (bt_lt l k))
theorem isL_ln {l : Int64} (h : isL l) : lnB l ≠ 0 := fun e => h.2 ((cln_id h.1).symm.trans (cln_0.mpr e))
theorem spW_L (hW : InW W) {l : Int64} (h : isL l) : isL (spW W l) := by
  refine ⟨isC_pkW (lnB_le l) (fun k hk => sdW_b hW (bt_nz l hk) (bt_lt l k)), fun e => ?_⟩
  have := spW_ln hW l
  rw [e, lnB_0] at this
  exact isL_ln h this.symm
theorem shl_0 (y : Int64) : l_shl y (nI 0) = y := by
  apply Int64.toBitVec_inj.mp
  rw [shl_bv y (k := 0) (by decide)]
  exact BitVec.shiftLeft_zero _
theorem bt_lo {o q : Nat} (ho : o < 256) (hq : q < 8) : bt (nI o).toInt64 q = if q = 7 then o else 0 := by
  have := bt_at (b := o) (k := 7) (i := q) ho (by decide) hq
  rw [show 56 - 8 * 7 = 0 from rfl, shl_0] at this
  exact this
theorem rs_X {n : Nat} {l : Int64} (hW : InW W) (hw0 : wI w 40 0 = nI 0) (hw : ∀ v, 1 ≤ v → v < 256 → wI w 40 v = nI (sayW W v (W 4) 0)) : ∀ c i f x, i + c = 8 → c < f → (∀ q, q < 8 → bt x q = if 8 - i ≤ q then sdW W (bt l (q - (8 - i))) else 0) → ∃ y, lX3_respoken_5 n 39 l w f x (nI i) = some y ∧ ∀ q, q < 8 → bt y q = sdW W (bt l q) := by
  have l1 : ln (39 + 1) = 256 := rfl
  intro c
  induction c with
  | zero =>
    intro i f x hi hf hx
    obtain ⟨f, rfl⟩ : ∃ g, f = g + 1 := ⟨f - 1, by omega⟩
    refine ⟨x, ?_, fun q hq => by rw [hx q hq, if_pos (by omega), show q - (8 - i) = q by omega]⟩
    show bX3_respoken_5 n 39 l w _ x (nI i) = _
    unfold bX3_respoken_5
    rw [if_pos (show (8 : Int32) ≤ nI i from nI_le (a := 8) (by omega) (by omega))]
  | succ c ih =>
    intro i f x hi hf hx
    obtain ⟨f, rfl⟩ : ∃ g, f = g + 1 := ⟨f - 1, by omega⟩
    have bl := bt_lt l i
    have so := sdW_l hW (bt l i) bl
    obtain ⟨y, e1, e2⟩ := ih (i + 1) f (l_shl x (8 : Int32) ||| (nI (sdW W (bt l i))).toInt64) (by omega) (by omega) (fun q hq => by
      rw [bt_or, show (8 : Int32) = nI (8 * 1) from rfl, bt_shl x (k := 1) (by decide) hq, bt_lo so hq]
      by_cases e : q = 7
      · subst e
        rw [if_neg (by decide), if_pos rfl, Nat.zero_or, if_pos (by omega), show 7 - (8 - (i + 1)) = i by omega]
      · rw [if_pos (by omega), if_neg e, Nat.or_zero, hx (q + 1) (by omega)]
        by_cases e2 : 8 - i ≤ q + 1
        · rw [if_pos e2, if_pos (by omega), show q + 1 - (8 - i) = q - (8 - (i + 1)) by omega]
        · rw [if_neg e2, if_neg (by omega)])
    refine ⟨y, ?_, e2⟩
    have key : ∀ s : Int32, s = nI (sdW W (bt l i)) → lX3_respoken_5 n 39 l w f (l_shl x (8 : Int32) ||| s.toInt64) (nI (i + 1)) = some y := fun s hs => by rw [hs]; exact e1
    show bX3_respoken_5 n 39 l w (lX3_respoken_5 n 39 l w f) x (nI i) = _
    unfold bX3_respoken_5 letV
    dsimp only
    rw [if_neg (show ¬ (8 : Int32) ≤ nI i from nI_ge (b := 8) (by omega) (by decide)), word_X l (by omega), l1, grd_N bl (by decide), grd_N bl (by decide), nI_clamp (by omega), nI_1]
    by_cases e : bt l i = 0
    · rw [e, show wI w (39 + 1) 0 = nI 0 from hw0, if_pos (show nI 0 = (0 : Int32) from rfl)]
      exact key _ (by rw [e]; rfl)
    · have hv := hw (bt l i) (by omega) bl
      have sb := sayW_b (v := bt l i) hW (W 4) 0 (by omega)
      rw [show wI w (39 + 1) (bt l i) = nI (sayW W (bt l i) (W 4) 0) from hv]
      by_cases e2 : sayW W (bt l i) (W 4) 0 = 0
      · rw [if_pos (show nI (sayW W (bt l i) (W 4) 0) = (0 : Int32) by rw [e2]; rfl)]
        exact key _ (by unfold sdW; rw [if_neg e, if_pos e2])
      · rw [if_neg (nI_ne0 (by omega) (by omega))]
        exact key _ (by unfold sdW; rw [if_neg e, if_neg e2])
theorem RN_lw (h : RN A L F W w) : wI w 39 0 = nI (W 0) ∧ wI w 39 1 = nI (W 1) ∧ wI w 39 2 = nI (W 2) ∧ wI w 39 3 = nI (W 3) ∧ wI w 40 0 = nI 0 ∧ ∀ v, 1 ≤ v → v < 256 → wI w 40 v = nI (sayW W v (W 4) 0) := h.2.1.2.2.2.2.2.2.1
theorem res_X {n : Nat} (hn : 10 < n) (h : RN A L F W w) {l : Int64} (hl : isC l) : fX3_respoken n 39 l w = some (spW W l) := by
  have hW : InW W := h.1.2.2.2.2
  obtain ⟨a0, a1, a2, a3, a4, a5⟩ := RN_lw h
  obtain ⟨y, e1, e2⟩ := rs_X (n := n) (l := l) hW a4 a5 8 0 n 0 (by omega) (by omega) (fun q hq => by rw [bt_0, if_neg (by omega)])
  have ey : y = spW W l := by
    refine bt_ext (fun q hq => ?_)
    rw [e2 q hq]
    unfold spW
    rw [bt_pkW _ _ (lnB_le l) (fun k hk => sdW_l hW _ (bt_lt l k)) q hq]
    by_cases z : q < lnB l
    · rw [if_pos z]
    · rw [if_neg z, hl q hq (by omega)]
      rfl
  rw [← ey]
  exact e1
theorem sd_M {n v : Nat} {P1 P3 : Int64} {P5 P6 : Int32} (K : Int32 → Option Int64) (h : RMN A L F W w) (hv : v < 256) : ∀ c j f, j + c = W 4 → c < f → lX12_said_32 n P1 P3 P5 P6 K w f (nI v) (0 : Int32) (nI j) = K (nI (if sayW W v c j = 0 then v else sayW W v c j)) := by
  have hW : InW W := h.1.2.2.2.2
  have w4 := hW.2.2.2.2.1
  have l7 : ln 212 = 116 := rfl
  intro c
  induction c with
  | zero =>
    intro j f hj hf
    obtain ⟨f, rfl⟩ : ∃ g, f = g + 1 := ⟨f - 1, by omega⟩
    show bX12_said_32 n P1 P3 P5 P6 K w _ (nI v) (0 : Int32) (nI j) = _
    unfold bX12_said_32
    rw [RMN_W h (by decide), if_pos (nI_le (by omega) (by omega))]
    rfl
  | succ c ih =>
    intro j f hj hf
    obtain ⟨f, rfl⟩ : ∃ g, f = g + 2 := ⟨f - 2, by omega⟩
    have b := hW.2.2.2.2.2 j (by omega)
    show bX12_said_32 n P1 P3 P5 P6 K w (lX12_said_32 n P1 P3 P5 P6 K w (f + 1)) (nI v) (0 : Int32) (nI j) = K (nI (if (if W (17 + j) = v then W (5 + j) else sayW W v c (j + 1)) = 0 then v else (if W (17 + j) = v then W (5 + j) else sayW W v c (j + 1))))
    unfold bX12_said_32 letV
    dsimp only
    rw [RMN_W h (by decide), if_neg (nI_ge (by omega) (by omega)), if_pos rfl, show (17 : Int32) + nI j = nI (17 + j) from nI_add 17 j, show (5 : Int32) + nI j = nI (5 + j) from nI_add 5 j, l7, grd_N (by omega) (by decide), grd_N (by omega) (by decide), nI_clamp (by omega), nI_clamp (by omega), RMN_W h (by omega), RMN_W h (by omega), nI_1]
    by_cases q : W (17 + j) = v
    · rw [if_pos ((nI_eq (by omega) (by omega)).mpr q), if_pos q, if_neg (by omega)]
      show bX12_said_32 n P1 P3 P5 P6 K w (lX12_said_32 n P1 P3 P5 P6 K w f) (nI (W (5 + j))) (1 : Int32) (nI (j + 1)) = _
      unfold bX12_said_32
      rw [if_neg (show ¬ (1 : Int32) = 0 by decide)]
      split <;> rfl
    · rw [if_neg (fun z => q ((nI_eq (by omega) (by omega)).mp z)), if_neg q]
      exact ih (j + 1) (f + 1) (by omega) (by omega)
theorem si_M {n : Nat} {l : Int64} (hn : 20 < n) (h : RMN A L F W w) : ∀ c i f, i + c = lnB l → c < f → lX12_said_11 n l (nI (lnB l)) w f (pkW (fun k => sdW W (bt l k)) i) (nI i) = some (spW W l) := by
  have hW : InW W := h.1.2.2.2.2
  have w4 := hW.2.2.2.2.1
  have hL := lnB_le l
  intro c
  induction c with
  | zero =>
    intro i f hi hf
    obtain ⟨f, rfl⟩ : ∃ g, f = g + 1 := ⟨f - 1, by omega⟩
    show bX12_said_11 n l (nI (lnB l)) w _ (pkW (fun k => sdW W (bt l k)) i) (nI i) = _
    unfold bX12_said_11
    rw [if_pos (nI_le (by omega) (by omega)), show i = lnB l by omega]
    rfl
  | succ c ih =>
    intro i f hi hf
    obtain ⟨f, rfl⟩ : ∃ g, f = g + 1 := ⟨f - 1, by omega⟩
    have b1 := bt_nz l (k := i) (by omega)
    have e := sd_M (n := n) (P1 := l) (P3 := pkW (fun k => sdW W (bt l k)) i) (P5 := nI (lnB l)) (P6 := nI i) (fun (z7_13 : Int32) => lX12_said_11 n l (nI (lnB l)) w f (pkW (fun k => sdW W (bt l k)) i ||| (l_shl ((z7_13).toInt64) (nI (56 - 8 * i)))) (nI (i + 1))) h (bt_lt l i) (W 4) 0 n (by omega) (by omega)
    show bX12_said_11 n l (nI (lnB l)) w (lX12_said_11 n l (nI (lnB l)) w f) (pkW (fun k => sdW W (bt l k)) i) (nI i) = _
    unfold bX12_said_11 letV
    dsimp only
    rw [if_neg (nI_ge (by omega) (by omega)), word_M l (by omega), ix_8 (show i ≤ 7 by omega), nI_1]
    refine (show _ = _ from e).trans ?_
    have es : (if sayW W (bt l i) (W 4) 0 = 0 then bt l i else sayW W (bt l i) (W 4) 0) = sdW W (bt l i) := by
      unfold sdW
      rw [if_neg (show ¬ bt l i = 0 by omega)]
    rw [es]
    exact ih (i + 1) f (by omega) (by omega)
theorem said_M {n : Nat} (hn : 20 < n) (h : RMN A L F W w) (l : Int64) : fX12_said n l w = some (spW W l) := by
  have hL := lnB_le l
  unfold fX12_said
  rw [len_M (by omega), ev_bO]
  exact si_M hn h (lnB l) 0 n (by omega) (by omega)
end SPK
