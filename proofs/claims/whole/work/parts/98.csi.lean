/-! RULES, both readers -/
def PsM (t c k : Nat) : Prop := PnM c k ∨ (c = 211 ∧ t ≤ k ∧ k < t + 4)
def PfX (c k : Nat) : Prop := (c = 189 ∧ (k = 2 ∨ k = 3 ∨ k = 5)) ∨ (190 ≤ c ∧ c ≤ 196)
def PfM (c k : Nat) : Prop := (c = 205 ∧ (k = 10 ∨ k = 11 ∨ k = 13 ∨ k = 14 ∨ k = 15 ∨ k = 16 ∨ k = 17 ∨ k = 18)) ∨ (c = 211 ∧ 1935 ≤ k)
theorem pfx_n : ∀ c k, PnX c k → PfX c k := fun c k z => by unfold PnX at z; unfold PfX; omega
theorem pfm_n : ∀ c k, PnM c k → PfM c k := fun c k z => by unfold PnM at z; unfold PfM; omega
theorem pfx_t : ∀ c k, PtX c k → PfX c k := fun c k z => by unfold PtX at z; unfold PfX; omega
theorem pfm_t : ∀ c k, PtM c k → PfM c k := fun c k z => by unfold PtM at z; unfold PfM; omega
section RUL
variable {b : Nat → Nat} {N T d j n : Nat} {wX wM uX uM w : jWd} {cs : List (Nat × Nat)}
theorem pfm_s {t : Nat} (h : 1935 ≤ t) : ∀ c k, PsM t c k → PfM c k := fun c k z => by unfold PsM PnM at z; unfold PfM; omega
theorem BA_w {k : Nat} (v : Int32) (h : BA b N T d j cs wX wM) (hk : k < 2080) : BA b N T d j cs wX (sI wM 211 k v) := by
  obtain ⟨a1, a2, ⟨a3, b3⟩, a4, a5, a6⟩ := h
  refine ⟨⟨a1.1, MA_fr a1.2 (frP_sI _ _ (by omega))⟩, a2, ⟨by rw [ev_wIn _ (by omega)]; exact a3, fun i hi => ?_⟩, a4, by rw [ev_wIn _ (by omega)]; exact a5, a6⟩
  rw [ev_wIn _ (by omega), ev_wIn _ (by omega)]
  exact b3 i hi
theorem BA_p (h : BA b N T d j cs wX wM) (f : frP (fun c k => (c = 190 ∧ k = 0) ∨ (191 ≤ c ∧ c ≤ 194)) wX uX) : BA b N T d j cs uX wM := by
  obtain ⟨a1, ⟨a2, b2⟩, a3, a4, a5, a6⟩ := h
  refine ⟨⟨XA_fr a1.1 (frP_mono (fun c k z => by omega) f), a1.2⟩, ⟨by rw [frP_I f (by omega)]; exact a2, fun i hi => ?_⟩, a3, a4, a5, a6⟩
  rw [frP_I f (by omega), frP_I f (by omega)]
  exact b2 i hi
theorem pk_st {v i : Nat} (hv : v < 256) (hi : i < 8) (x : Int64) : x ||| fX4_behind (l_shl (nI v).toInt64 (56 : Int32)) (nI i) = x ||| l_shl (nI v).toInt64 (nI (56 - 8 * i)) := by
  refine bt_ext (fun q hq => ?_)
  have e : (56 : Int32) = nI (56 - 8 * 0) := rfl
  rw [bt_or, bt_or, bt_behind _ (by omega) hq, bt_at hv hi hq]
  by_cases z : q < i
  · rw [if_pos z, if_neg (show ¬ q = i by omega)]
  · rw [if_neg z, e, bt_at hv (by decide) (by omega)]
    by_cases y : q = i
    · rw [if_pos y, if_pos (show q - i = 0 by omega)]
    · rw [if_neg y, if_neg (show ¬ q - i = 0 by omega)]
theorem sx_D {f p g : Nat} {a y : Int32} {x : Int64} (h : XD f p w) (hg : 0 < g) : lX6_readSide_5 n a g x y w = some (x, w) := by
  obtain ⟨g, rfl⟩ : ∃ k, g = k + 1 := ⟨g - 1, by omega⟩
  show bX6_readSide_5 n a (lX6_readSide_5 n a g) x y w = _
  unfold bX6_readSide_5
  rw [if_neg (XD_0 h)]
  split <;> rfl
theorem sm_0 {g : Nat} {a p x : Int32} (hg : 0 < g) : lX12_side_5 n a p g x 0 w = some (x, w) := by
  obtain ⟨g, rfl⟩ : ∃ k, g = k + 1 := ⟨g - 1, by omega⟩
  show bX12_side_5 n a p (lX12_side_5 n a p g) x 0 w = _
  unfold bX12_side_5
  rw [if_pos rfl]
theorem hd_sX {p i f s : Nat} {x : Int64} (h : XA b N T j wX) (hi : i ≤ 4) (h14 : i = 0 ∨ kdT b N j = 14) (hs : (s = 1 ∧ (p = 1 ∨ i = 4)) ∨ (s = 0 ∧ p = 0 ∧ i < 4)) : lX6_readSide_5 n (nI p) (f + 1) x (nI i) wX = bO2 (fX6_readNumber (nI 1) (nI 255) (nI s) wX) (fun (r_6 : Int32) (w_5 : jWd) => lX6_readSide_5 n (nI p) f (x ||| fX4_behind (l_shl ((r_6).toInt64) (56 : Int32)) (nI i)) (nI (i + 1)) w_5) := by
  show bX6_readSide_5 n (nI p) (lX6_readSide_5 n (nI p) f) x (nI i) wX = _
  unfold bX6_readSide_5 letV
  dsimp only
  have h4 : ¬ (4 : Int32) < nI i := nI_nlt (a := 4) hi (by decide)
  rw [if_neg h4, if_pos (XA_0 h), nI_1]
  have key : (if nI p = 0 then if nI i = (4 : Int32) then bO2 (fX6_readNumber (1 : Int32) (255 : Int32) (1 : Int32) wX) (fun (r_6 : Int32) (w_5 : jWd) => lX6_readSide_5 n (nI p) f (x ||| fX4_behind (l_shl ((r_6).toInt64) (56 : Int32)) (nI i)) (nI (i + 1)) w_5) else bO2 (fX6_readNumber (1 : Int32) (255 : Int32) (0 : Int32) wX) (fun (r_6 : Int32) (w_5 : jWd) => lX6_readSide_5 n (nI p) f (x ||| fX4_behind (l_shl ((r_6).toInt64) (56 : Int32)) (nI i)) (nI (i + 1)) w_5) else bO2 (fX6_readNumber (1 : Int32) (255 : Int32) (1 : Int32) wX) (fun (r_6 : Int32) (w_5 : jWd) => lX6_readSide_5 n (nI p) f (x ||| fX4_behind (l_shl ((r_6).toInt64) (56 : Int32)) (nI i)) (nI (i + 1)) w_5)) = bO2 (fX6_readNumber (nI 1) (nI 255) (nI s) wX) (fun (r_6 : Int32) (w_5 : jWd) => lX6_readSide_5 n (nI p) f (x ||| fX4_behind (l_shl ((r_6).toInt64) (56 : Int32)) (nI i)) (nI (i + 1)) w_5) := by
    rcases hs with ⟨rfl, hs⟩ | ⟨rfl, rfl, h2⟩
    · rcases hs with rfl | rfl
      · rw [if_neg (show ¬ nI 1 = (0 : Int32) by decide)]
        rfl
      · rw [if_pos (show nI 4 = (4 : Int32) from rfl)]
        split <;> rfl
    · rw [if_pos (show nI 0 = (0 : Int32) from rfl), if_neg (show ¬ nI i = (4 : Int32) from fun e => by have := (nI_eq (b := 4) (by omega) (by decide)).mp e; omega)]
      rfl
  rcases h14 with rfl | q
  · rw [if_pos (show nI 0 ≤ (0 : Int32) from nI_le (Nat.le_refl 0) (by decide))]
    exact key
  · by_cases z : nI i ≤ (0 : Int32)
    · rw [if_pos z]
      exact key
    · rw [if_neg z, at_y h (k := 14) (c := 2) (by decide) rfl q, ev_bO, if_neg (by decide)]
      exact key
theorem hd_sM {t p i g s : Nat} {fl : Int32} (hfl : ¬ fl = 0) (hi : i ≤ 4) (hs : s = if i = 0 then p else if i = 4 then 1 else 0) : lX12_side_5 n (nI t) (nI p) (g + 1) (nI i) fl w = bO2 (fX12_reads n (nI 1) (nI 255) (nI s) w) (fun (r_5 : Int32) (w_4 : jWd) => if (wI w_4 205 15) = 0 then grd (nI t + nI i) (ln 211) (lX12_side_5 n (nI t) (nI p) g (nI (i + 1)) (fX12_is (14 : Int32) (sI w_4 211 ((nI t + nI i).toNatClampNeg) r_5)) (sI w_4 211 ((nI t + nI i).toNatClampNeg) r_5)) else lX12_side_5 n (nI t) (nI p) g (nI (i + 1)) (fX12_is (14 : Int32) w_4) w_4) := by
  show bX12_side_5 n (nI t) (nI p) (lX12_side_5 n (nI t) (nI p) g) (nI i) fl w = _
  unfold bX12_side_5 letV
  dsimp only
  rw [if_neg hfl, nI_1]
  by_cases z : i = 0
  · subst z
    rw [if_pos rfl] at hs
    subst hs
    rw [if_pos (show nI 0 = (0 : Int32) from rfl)]
    rfl
  · rw [if_neg z] at hs
    rw [if_neg (nI_ne0 (by omega) (by omega))]
    by_cases y : i = 4
    · subst y
      rw [if_pos rfl] at hs
      subst hs
      rw [if_pos (show nI 4 = (4 : Int32) from rfl)]
      rfl
    · rw [if_neg y] at hs
      subst hs
      rw [if_neg (show ¬ nI i = (4 : Int32) from fun e => y ((nI_eq (b := 4) (by omega) (by decide)).mp e))]
      rfl
theorem sl_J {t p : Nat} (hn : 410 < n) (hp : p ≤ 1) (h1 : 1936 ≤ t) (h2 : t + 4 ≤ 2032) : ∀ c i f g fl wX wM, i + c = 4 → (1 ≤ i → p = 0) → c + 1 < f → c + 1 < g → BA b N T 0 (j + i) cs wX wM → (i = 0 → fl = (1 : Int32)) → (1 ≤ i → fl = fX12_is (14 : Int32) wM) → (∀ k, k < i → 1 ≤ nuT b N (j + k) ∧ nuT b N (j + k) ≤ 255 ∧ wI wM 211 (t + k) = nI (nuT b N (j + k))) → ∃ x y uX uM, lX6_readSide_5 n (nI p) f (pkW (fun k => nuT b N (j + k)) i) (nI i) wX = some (x, uX) ∧ lX12_side_5 n (nI t) (nI p) g (nI i) fl wM = some (y, uM) ∧ frP PnX wX uX ∧ frP (PsM t) wM uM ∧ (BD uX uM ∨ (p = 0 ∧ ∃ m, 1 ≤ m ∧ m ≤ 4 ∧ x = pkW (fun k => nuT b N (j + k)) m ∧ y = nI m ∧ (∀ k, k < m → 1 ≤ nuT b N (j + k) ∧ nuT b N (j + k) ≤ 255 ∧ wI uM 211 (t + k) = nI (nuT b N (j + k))) ∧ BA b N T 0 (j + m) cs uX uM)) := by
  have l : ln 211 = 2580 := rfl
  have psm : ∀ c k, PnM c k → PsM t c k := fun c k z => .inl z
  intro c
  induction c with
  | zero =>
    intro i f g fl wX wM hi hp0 hf hg h hfl0 hfl1 hw
    obtain ⟨f, rfl⟩ : ∃ k, f = k + 1 := ⟨f - 1, by omega⟩
    obtain ⟨g, rfl⟩ : ∃ k, g = k + 1 := ⟨g - 1, by omega⟩
    have e4 : i = 4 := by omega
    subst e4
    have ep := hp0 (by decide)
    subst ep
    have hfl := hfl1 (by decide)
    subst hfl
    by_cases q : kdT b N (j + 4) = 14
    · rw [hd_sX (s := 1) h.1.1 (by decide) (.inr q) (.inl ⟨rfl, .inr rfl⟩), is_y h.1.2 (k := 14) (c := 14) rfl q, hd_sM (s := 1) (by decide) (by decide) rfl]
      obtain ⟨x, y, uX, uM, r1, r2, r3, r4, r5⟩ := rd_J (lo := 1) (hi := 255) (full := 1) hn h.1 (by decide) (by decide) (by decide)
      rw [r1, ev_bO2, r2, ev_bO2]
      rcases r5 with ⟨k, pp, d1, d2⟩ | ⟨z, -⟩
      · exact ⟨_, _, uX, uM, sx_D d1 (by omega), by rw [if_neg (MD_0 d2), is_D d2]; exact sm_0 (by omega), r3, frP_mono psm r4, .inl ⟨⟨k, pp, d1, d2⟩, BC_fr (BA_BC h) r3⟩⟩
      · omega
    · refine ⟨_, nI 4, wX, wM, ?_, by rw [is_n h.1.2 (k := 14) (c := 14) (by decide) rfl q]; exact sm_0 (by omega), frP_refl _ _, frP_refl _ _, .inr ⟨rfl, 4, by decide, Nat.le_refl _, rfl, rfl, hw, h⟩⟩
      show bX6_readSide_5 n (nI 0) (lX6_readSide_5 n (nI 0) f) _ (nI 4) wX = _
      unfold bX6_readSide_5 letV
      dsimp only
      rw [if_neg (show ¬ (4 : Int32) < nI 4 by decide), if_pos (XA_0 h.1.1), if_neg (show ¬ nI 4 ≤ (0 : Int32) by decide), at_n h.1.1 (k := 14) (c := 2) (by decide) rfl q, ev_bO, if_pos rfl]
  | succ c ih =>
    intro i f g fl wX wM hi hp0 hf hg h hfl0 hfl1 hw
    obtain ⟨f, rfl⟩ : ∃ k, f = k + 1 := ⟨f - 1, by omega⟩
    obtain ⟨g, rfl⟩ : ∃ k, g = k + 1 := ⟨g - 1, by omega⟩
    by_cases q : i = 0 ∨ kdT b N (j + i) = 14
    · have hfl : ¬ fl = 0 := by
        by_cases z : i = 0
        · rw [hfl0 z]; decide
        · rw [hfl1 (by omega), is_y h.1.2 (k := 14) (c := 14) rfl (q.resolve_left z)]; decide
      have hs1 : (p = 1 ∧ (p = 1 ∨ i = 4)) ∨ (p = 0 ∧ p = 0 ∧ i < 4) := by omega
      have hs2 : p = if i = 0 then p else if i = 4 then 1 else 0 := by
        by_cases z : i = 0
        · rw [if_pos z]
        · rw [if_neg z, if_neg (by omega)]
          exact hp0 (by omega)
      rw [hd_sX (s := p) h.1.1 (by omega) q hs1, hd_sM (s := p) hfl (by omega) hs2]
      obtain ⟨x, y, uX, uM, r1, r2, r3, r4, r5⟩ := rd_J (lo := 1) (hi := 255) (full := p) hn h.1 (by decide) (by decide) hp
      rw [r1, ev_bO2, r2, ev_bO2]
      rcases r5 with ⟨k, pp, d1, d2⟩ | ⟨rfl, q14, z1, z2, rfl, rfl, z3⟩
      · exact ⟨_, _, uX, uM, sx_D d1 (by omega), by rw [if_neg (MD_0 d2), is_D d2]; exact sm_0 (by omega), r3, frP_mono psm r4, .inl ⟨⟨k, pp, d1, d2⟩, BC_fr (BA_BC h) r3⟩⟩
      · have hb3 := kd_1 (b := b) (N := N) (j := j + i) (by omega)
        have o2 := BA_to h r3 r4 z3 (by omega)
        have o3 := BA_w (k := t + i) (nI (nuT b N (j + i))) o2 (by omega)
        have ex : pkW (fun k => nuT b N (j + k)) i ||| fX4_behind (l_shl (nI (nuT b N (j + i))).toInt64 (56 : Int32)) (nI i) = pkW (fun k => nuT b N (j + k)) (i + 1) := pk_st (by omega) (by omega) _
        have f3 : frP (PsM t) uM (sI uM 211 (t + i) (nI (nuT b N (j + i)))) := frP_sI _ _ (.inr ⟨rfl, by omega, by omega⟩)
        rw [if_pos (MA_0 o2.1.2), nI_add, l, grd_N (by omega) (by decide), nI_clamp (by omega), ex]
        obtain ⟨x2, y2, u2, v2, i1, i2, i3, i4, i5⟩ := ih (i + 1) f g (fX12_is (14 : Int32) (sI uM 211 (t + i) (nI (nuT b N (j + i))))) uX (sI uM 211 (t + i) (nI (nuT b N (j + i)))) (by omega) (fun _ => rfl) (by omega) (by omega) o3 (fun e => by omega) (fun _ => rfl) (fun k hk => by
          by_cases e : k = i
          · subst e
            exact ⟨z1, z2, ev_wIs _ _ _ _⟩
          · obtain ⟨w1, w2, w3⟩ := hw k (by omega)
            refine ⟨w1, w2, ?_⟩
            rw [ev_wIn _ (by omega), frP_I r4 (by unfold PnM; omega)]
            exact w3)
        exact ⟨x2, y2, u2, v2, i1, i2, frP_trans r3 i3, frP_trans (frP_mono psm r4) (frP_trans f3 i4), i5⟩
    · have q1 : ¬ i = 0 := fun e => q (.inl e)
      have q2 : ¬ kdT b N (j + i) = 14 := fun e => q (.inr e)
      have ep := hp0 (by omega)
      subst ep
      have hfl := hfl1 (by omega)
      subst hfl
      refine ⟨_, nI i, wX, wM, ?_, by rw [is_n h.1.2 (k := 14) (c := 14) (by decide) rfl q2]; exact sm_0 (by omega), frP_refl _ _, frP_refl _ _, .inr ⟨rfl, i, by omega, by omega, rfl, rfl, hw, h⟩⟩
      show bX6_readSide_5 n (nI 0) (lX6_readSide_5 n (nI 0) f) _ (nI i) wX = _
      unfold bX6_readSide_5 letV
      dsimp only
      rw [if_neg (show ¬ (4 : Int32) < nI i from nI_nlt (a := 4) (by omega) (by decide)), if_pos (XA_0 h.1.1), if_neg (show ¬ nI i ≤ (0 : Int32) from nI_ge (a := 0) (by omega) (by omega)), at_n h.1.1 (k := 14) (c := 2) (by decide) rfl q2, ev_bO, if_pos rfl]
theorem sd_J {t p : Nat} (hn : 410 < n) (hp : p ≤ 1) (h1 : 1936 ≤ t) (h2 : t + 4 ≤ 2032) (h : BA b N T 0 j cs wX wM) : ∃ x y uX uM, fX6_readSide n (nI p) wX = some (x, uX) ∧ fX12_side n (nI t) (nI p) wM = some (y, uM) ∧ frP PnX wX uX ∧ frP (PsM t) wM uM ∧ (BD uX uM ∨ (p = 0 ∧ ∃ m, 1 ≤ m ∧ m ≤ 4 ∧ x = pkW (fun k => nuT b N (j + k)) m ∧ y = nI m ∧ (∀ k, k < m → 1 ≤ nuT b N (j + k) ∧ nuT b N (j + k) ≤ 255 ∧ wI uM 211 (t + k) = nI (nuT b N (j + k))) ∧ BA b N T 0 (j + m) cs uX uM)) :=
  sl_J (b := b) (N := N) (T := T) (j := j) (cs := cs) hn hp h1 h2 4 0 n n (1 : Int32) wX wM rfl (fun e => by omega) (by omega) (by omega) h (fun _ => rfl) (fun e => by omega) (fun k hk => absurd hk (Nat.not_lt_zero k))
/-- a RULE that both hold -/
def FRi (cs : List (Nat × Nat)) (i : Nat) (wX wM : jWd) : Prop := ∃ (m1 m2 : Nat) (f g : Nat → Nat) (a e : Nat), (1 ≤ m1 ∧ m1 ≤ 4) ∧ (1 ≤ m2 ∧ m2 ≤ 4) ∧ (∀ k, k < m1 → 1 ≤ f k ∧ f k ≤ 255 ∧ wI wM 211 (1936 + 4 * i + k) = nI (f k)) ∧ (∀ k, k < m2 → 1 ≤ g k ∧ g k ≤ 255 ∧ wI wM 211 (1984 + 4 * i + k) = nI (g k)) ∧ a ≤ e ∧ e ≤ cs.length ∧ (wJ wX 191 i = pkW f m1 ∧ wJ wX 192 i = pkW g m2 ∧ wI wX 193 i = nI a ∧ wI wX 194 i = nI e) ∧ (wI wM 211 (2032 + i) = nI m1 ∧ wI wM 211 (2044 + i) = nI m2 ∧ wI wM 211 (2056 + i) = nI a ∧ wI wM 211 (2068 + i) = nI e) ∧ (a < e → ∃ l1 nw l3, cs = l1 ++ (nw ++ l3) ∧ l1.length = a ∧ nw.length + a = e ∧ htL nw 0 = some 1)
def RuC (i k : Nat) : Prop := k = 2032 + i ∨ k = 2044 + i ∨ k = 2056 + i ∨ k = 2068 + i ∨ (1936 + 4 * i ≤ k ∧ k < 1940 + 4 * i) ∨ (1984 + 4 * i ≤ k ∧ k < 1988 + 4 * i)
theorem FRi_fr {i : Nat} (nw : List (Nat × Nat)) (h : FRi cs i wX wM) (f1 : frP (fun c k => ¬ (191 ≤ c ∧ c ≤ 194 ∧ k = i)) wX uX) (f2 : frP (fun c k => ¬ (c = 211 ∧ RuC i k)) wM uM) : FRi (cs ++ nw) i uX uM := by
  obtain ⟨m1, m2, f, g, a, e, h1, h2, h3, h4, h5, h6, ⟨x1, x2, x3, x4⟩, ⟨y1, y2, y3, y4⟩, z⟩ := h
  refine ⟨m1, m2, f, g, a, e, h1, h2, fun k hk => ?_, fun k hk => ?_, h5, by rw [List.length_append]; omega, ⟨by rw [frP_J f1 (by omega)]; exact x1, by rw [frP_J f1 (by omega)]; exact x2, by rw [frP_I f1 (by omega)]; exact x3, by rw [frP_I f1 (by omega)]; exact x4⟩, ⟨by rw [frP_I f2 (by unfold RuC; omega)]; exact y1, by rw [frP_I f2 (by unfold RuC; omega)]; exact y2, by rw [frP_I f2 (by unfold RuC; omega)]; exact y3, by rw [frP_I f2 (by unfold RuC; omega)]; exact y4⟩, fun q => ?_⟩
  · rw [frP_I f2 (by unfold RuC; omega)]; exact h3 k hk
  · rw [frP_I f2 (by unfold RuC; omega)]; exact h4 k hk
  · obtain ⟨l1, n1, l3, q1, q2, q3, q4⟩ := z q
    exact ⟨l1, n1, l3 ++ nw, by rw [q1, List.append_assoc, List.append_assoc], q2, q3, q4⟩
def FI (r : Nat) (cs : List (Nat × Nat)) (wX wM : jWd) : Prop := wI wX 190 0 = nI r ∧ wI wM 211 1935 = nI r ∧ ∀ i, i < r → FRi cs i wX wM
/-- cells of RULES from r on, of steps -/
def RuF (r c k : Nat) : Prop := c ≠ 211 ∨ k < 1935 ∨ 2080 ≤ k ∨ ((∀ i, i < r → ¬ RuC i k) ∧ k ≠ 1935)
theorem FI_fr {r : Nat} (nw : List (Nat × Nat)) (hr : r ≤ 12) (h : FI r cs wX wM) (f1 : frP (fun c k => ¬ (190 ≤ c ∧ c ≤ 194 ∧ (c = 190 → k = 0) ∧ (c ≠ 190 → k < r))) wX uX) (f2 : frP (RuF r) wM uM) : FI r (cs ++ nw) uX uM := by
  obtain ⟨h1, h2, h3⟩ := h
  refine ⟨by rw [frP_I f1 (by omega)]; exact h1, by rw [frP_I f2 (by unfold RuF; omega)]; exact h2, fun i hi => FRi_fr nw (h3 i hi) (frP_mono (fun c k z => by omega) f1) (frP_mono (fun c k z => ?_) f2)⟩
  rintro ⟨e, q⟩
  rcases z with z | z | z | ⟨z, -⟩
  · exact z e
  · unfold RuC at q; omega
  · unfold RuC at q; omega
  · exact z i hi q
def tailX (x y : Int64) (a : Int32) (w : jWd) : Option jWd := bO (fX6_take (3 : Int32) w) (fun (w_18 : jWd) => if (wI w_18 189 2) = 0 then bO (fX1_put 190 x y a w_18) (fun (w_20 : jWd) => some w_20) else some w_18)
def tailM (n : Nat) (r : Int32) (w : jWd) : Option jWd := grd (((1935 : Int32) + (133 : Int32)) + r) (ln 211) (letV (sI w 211 (((((1935 : Int32) + (133 : Int32)) + r)).toNatClampNeg) (wI w 205 18)) (fun (w_29 : jWd) => bO (fX12_needs n (15 : Int32) w_29) (fun (w_33 : jWd) => letV (sI w_33 211 1935 ((wI w_33 211 1935) + (1 : Int32))) (fun (w_34 : jWd) => some w_34))))
def restM (n : Nat) (x r9 s12 : Int32) (w : jWd) : Option jWd := if (wI w 205 15) = 0 then grd (((1935 : Int32) + (97 : Int32)) + x) (ln 211) (letV (sI w 211 (((((1935 : Int32) + (97 : Int32)) + x)).toNatClampNeg) r9) (fun (w_15 : jWd) => grd (((1935 : Int32) + (109 : Int32)) + x) (ln 211) (letV (sI w_15 211 (((((1935 : Int32) + (109 : Int32)) + x)).toNatClampNeg) s12) (fun (w_18 : jWd) => grd (((1935 : Int32) + (121 : Int32)) + x) (ln 211) (letV (sI w_18 211 (((((1935 : Int32) + (121 : Int32)) + x)).toNatClampNeg) (wI w_18 205 18)) (fun (w_21 : jWd) => bO2 (fX12_eats n (1 : Int32) w_21) (fun (r_26 : Int32) (w_25 : jWd) => if r_26 = 0 then tailM n x w_25 else bO (fX12_test n w_25) (fun (w_37 : jWd) => tailM n x w_37)))))))) else some w
theorem put_R {r L : Nat} {x y : Int64} {a : Int32} (h : wI w 190 0 = nI r) (hr : r < 12) (h1 : wI w 190 1 = nI L) : fX1_put 190 x y a w = some (sI (sI (sI (sJ (sJ w 191 r x) 192 r y) 193 r a) 194 r (nI L)) 190 0 (nI (r + 1))) := by
  have l1 : ln (190 + 1) = 12 := rfl
  have l2 : ln (190 + 2) = 12 := rfl
  have l3 : ln (190 + 3) = 12 := rfl
  have l4 : ln (190 + 4) = 12 := rfl
  have e1 : wI (sJ w (190 + 1) r x) 190 0 = nI r := h
  have e2 : wI (sJ (sJ w (190 + 1) r x) (190 + 2) r y) 190 0 = nI r := h
  have e3 : wI (sI (sJ (sJ w (190 + 1) r x) (190 + 2) r y) (190 + 3) r a) 190 0 = nI r := by rw [ev_wIn _ (by omega)]; exact h
  have e4 : wI (sI (sJ (sJ w (190 + 1) r x) (190 + 2) r y) (190 + 3) r a) 190 1 = nI L := by rw [ev_wIn _ (by omega)]; exact h1
  have e5 : wI (sI (sI (sJ (sJ w (190 + 1) r x) (190 + 2) r y) (190 + 3) r a) (190 + 4) r (nI L)) 190 0 = nI r := by rw [ev_wIn _ (by omega)]; exact e3
  unfold fX1_put letV
  dsimp only
  rw [h, if_pos (show nI r < (12 : Int32) from nI_lt (b := 12) hr (by decide)), l1, grd_N hr (by decide), nI_clamp (by omega), e1, l2, grd_N hr (by decide), nI_clamp (by omega), e2, l3, grd_N hr (by decide), nI_clamp (by omega), e3, l4, grd_N hr (by decide), nI_clamp (by omega), e4, e5, nI_1] <;> rfl
theorem tl_D {f p r : Nat} (hr : r < 12) (h : MD f p wM) : ∃ uM, tailM n (nI r) wM = some uM ∧ MD f p uM ∧ frP PfM wM uM := by
  have l : ln 211 = 2580 := rfl
  have e : ((1935 : Int32) + (133 : Int32)) + nI r = nI (2068 + r) := nI_add 2068 r
  obtain ⟨u, hu⟩ : ∃ u, u = sI wM 211 (2068 + r) (wI wM 205 18) := ⟨_, rfl⟩
  have h1 : MD f p u := by rw [hu]; exact MD_fr h (frP_sI _ _ (by omega))
  refine ⟨sI u 211 1935 (wI u 211 1935 + (1 : Int32)), ?_, MD_fr h1 (frP_sI _ _ (by omega)), frP_trans (by rw [hu]; exact frP_sI _ _ (by unfold PfM; omega)) (frP_sI _ _ (by unfold PfM; omega))⟩
  unfold tailM letV
  dsimp only
  rw [e, l, grd_N (by omega) (by decide), nI_clamp (by omega), ← hu, tk_MD h1, ev_bO]
theorem tl_F {r m1 m2 a : Nat} {f g : Nat → Nat} (hn : 410 < n) (h : BA b N T 0 j cs wX wM) (hr : r < 12) (hF : FI r cs wX wM) (h1 : 1 ≤ m1 ∧ m1 ≤ 4) (h2 : 1 ≤ m2 ∧ m2 ≤ 4) (h3 : ∀ k, k < m1 → 1 ≤ f k ∧ f k ≤ 255 ∧ wI wM 211 (1936 + 4 * r + k) = nI (f k)) (h4 : ∀ k, k < m2 → 1 ≤ g k ∧ g k ≤ 255 ∧ wI wM 211 (1984 + 4 * r + k) = nI (g k)) (h5 : a ≤ cs.length) (h6 : wI wM 211 (2032 + r) = nI m1 ∧ wI wM 211 (2044 + r) = nI m2 ∧ wI wM 211 (2056 + r) = nI a) (h7 : a < cs.length → ∃ l1 nw, cs = l1 ++ nw ∧ l1.length = a ∧ htL nw 0 = some 1) : ∃ uX uM, tailX (pkW f m1) (pkW g m2) (nI a) wX = some uX ∧ tailM n (nI r) wM = some uM ∧ frP PfX wX uX ∧ frP PfM wM uM ∧ (BD uX uM ∨ ∃ j' cs', BA b N T 0 j' cs' uX uM ∧ FI (r + 1) cs' uX uM) := by
  have l : ln 211 = 2580 := rfl
  have e : ((1935 : Int32) + (133 : Int32)) + nI r = nI (2068 + r) := nI_add 2068 r
  obtain ⟨v, hv⟩ : ∃ u, u = sI wM 211 (2068 + r) (nI cs.length) := ⟨_, rfl⟩
  have hb : BA b N T 0 j cs wX v := by rw [hv]; exact BA_w _ h (by omega)
  have fv : frP (fun c k => c = 211 ∧ k = 2068 + r) wM v := by rw [hv]; exact frP_sI _ _ ⟨rfl, rfl⟩
  obtain ⟨uX, uM, t1, t2, t3, t4, t5⟩ := tk_J (k := 15) (cX := 3) (cM := 15) hn hb.1 (by decide) rfl rfl
  have eM : tailM n (nI r) wM = some (sI uM 211 1935 (wI uM 211 1935 + (1 : Int32))) := by
    unfold tailM letV
    dsimp only
    rw [e, l, grd_N (by omega) (by decide), nI_clamp (by omega), h.2.2.1.1, ← hv, t2, ev_bO]
  have fM : frP PfM wM (sI uM 211 1935 (wI uM 211 1935 + (1 : Int32))) := frP_trans (frP_mono (fun c k z => by unfold PfM; omega) fv) (frP_trans (frP_mono pfm_n t4) (frP_sI _ _ (by unfold PfM; omega)))
  have eX : tailX (pkW f m1) (pkW g m2) (nI a) wX = if (wI uX 189 2) = 0 then bO (fX1_put 190 (pkW f m1) (pkW g m2) (nI a) uX) (fun (w_20 : jWd) => some w_20) else some uX := by
    unfold tailX
    rw [t1, ev_bO]
  rw [eM, eX]
  rcases t5 with ⟨k, p, d1, d2⟩ | ⟨q15, t6⟩
  · exact ⟨uX, _, by rw [if_neg (XD_0 d1)], rfl, frP_mono pfx_n t3, fM, .inl ⟨⟨k, p, d1, MD_fr d2 (frP_sI _ _ (by omega))⟩, BC_fr (BA_BC h) t3⟩⟩
  · have hs := kd_1 (b := b) (N := N) (j := j) (by omega)
    have o1 := BA_to hb t3 t4 t6 (by omega)
    have g0 : wI uX 190 0 = nI r := by rw [frP_I t3 (by unfold PnX; omega)]; exact hF.1
    have gM : wI uM 211 1935 = nI r := by rw [frP_I t4 (by unfold PnM; omega), frP_I fv (by omega)]; exact hF.2.1
    rw [if_pos (XA_0 o1.1.1), put_R g0 hr o1.2.1.1, ev_bO, gM, nI_1]
    obtain ⟨z, hz⟩ : ∃ u, u = sI (sI (sI (sJ (sJ uX 191 r (pkW f m1)) 192 r (pkW g m2)) 193 r (nI a)) 194 r (nI cs.length)) 190 0 (nI (r + 1)) := ⟨_, rfl⟩
    rw [← hz]
    have fz : frP (fun c k => (c = 190 ∧ k = 0) ∨ (191 ≤ c ∧ c ≤ 194 ∧ k = r)) uX z := by
      rw [hz]
      exact frP_trans (frP_trans (frP_trans (frP_trans (frP_sJ _ _ (by omega)) (frP_sJ _ _ (by omega))) (frP_sI _ _ (by omega))) (frP_sI _ _ (by omega))) (frP_sI _ _ (by omega))
    have o2 := BA_w (k := 1935) (nI (r + 1)) (BA_p o1 (frP_mono (fun c k z => by omega) fz)) (by decide)
    have fw : frP (fun c k => (c = 211 ∧ (k = 1935 ∨ k = 2068 + r)) ∨ c = 205) wM (sI uM 211 1935 (nI (r + 1))) := frP_trans (frP_mono (fun c k z => by omega) fv) (frP_trans (frP_mono (fun c k z => by unfold PnM at z; omega) t4) (frP_sI _ _ (by omega)))
    have fx : frP (fun c k => c = 189 ∨ (c = 190 ∧ k = 0) ∨ (191 ≤ c ∧ c ≤ 194 ∧ k = r)) wX z := frP_trans (frP_mono (fun c k z => by unfold PnX at z; omega) t3) (frP_mono (fun c k z => by omega) fz)
    rw [gM, nI_1] at fM
    refine ⟨z, _, rfl, rfl, frP_trans (frP_mono pfx_n t3) (frP_mono (fun c k z => by unfold PfX; omega) fz), fM, .inr ⟨j + 1, cs, o2, by rw [hz]; exact ev_wIs _ _ _ _, ev_wIs _ _ _ _, fun i hi => ?_⟩⟩
    by_cases ei : i = r
    · subst ei
      refine ⟨m1, m2, f, g, a, cs.length, h1, h2, fun k hk => ?_, fun k hk => ?_, h5, Nat.le_refl _, ?_, ?_, fun q => ?_⟩
      · rw [frP_I fw (by omega)]; exact h3 k hk
      · rw [frP_I fw (by omega)]; exact h4 k hk
      · rw [hz]
        refine ⟨?_, ?_, ?_, ?_⟩
        · rw [wJ_sI, wJ_sI, wJ_sI, ev_wJn _ (by omega)]; exact ev_wJs _ _ _ _
        · rw [wJ_sI, wJ_sI, wJ_sI]; exact ev_wJs _ _ _ _
        · rw [ev_wIn _ (by omega), ev_wIn _ (by omega)]; exact ev_wIs _ _ _ _
        · rw [ev_wIn _ (by omega)]; exact ev_wIs _ _ _ _
      · refine ⟨by rw [frP_I fw (by omega)]; exact h6.1, by rw [frP_I fw (by omega)]; exact h6.2.1, by rw [frP_I fw (by omega)]; exact h6.2.2, ?_⟩
        rw [ev_wIn _ (by omega), frP_I t4 (by unfold PnM; omega), hv]
        exact ev_wIs _ _ _ _
      · obtain ⟨l1, nw, q1, q2, q3⟩ := h7 q
        have ql : cs.length = l1.length + nw.length := by rw [q1, List.length_append]
        exact ⟨l1, nw, [], by rw [List.append_nil]; exact q1, q2, by omega, q3⟩
    · have := FRi_fr [] (hF.2.2 i (by omega)) (frP_mono (fun c k z => by omega) fx) (frP_mono (fun c k z => by unfold RuC; omega) fw)
      rw [List.append_nil] at this
      exact this
end RUL
