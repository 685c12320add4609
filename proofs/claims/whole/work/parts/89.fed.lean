/-! feed -/
section FED
variable {w w' : jWd}
/-- THE TAPE, FAULT and what was refused anew -/
def TpS (c k : Nat) : Prop := Scr c k ∨ (c = 0 ∧ k = 8) ∨ c = 202 ∨ c = 213 ∨ (c = 205 ∧ (k = 9 ∨ k = 19 ∨ k = 20)) ∨ (c = 189 ∧ k ≤ 3) ∨ c = 204 ∨ c = 206
theorem rr_tp (hf : frP TpS w w') (hr : RRef w') (ht : RTape w') (hl : RFlt w') (h : RR w) : RR w' := by
  obtain ⟨⟨A, L, F, W, a0, b0, c0, d0⟩, b, c, d, e, -, -, -, j⟩ := h
  have hI : ∀ c k, ¬ TpS c k → wI w' c k = wI w c k := fun c k q => frP_I hf q
  have hJ : ∀ c k, ¬ TpS c k → wJ w' c k = wJ w c k := fun c k q => frP_J hf q
  have im : ∀ i, i ≤ 1 → RIm i w → RIm i w' := fun i hi h => RIm_cg hi (fun c k _ _ => hI c k (by unfold TpS Scr; omega)) (fun c k _ _ => hJ c k (by unfold TpS Scr; omega)) (hI _ _ (by unfold TpS Scr; omega)) (hI _ _ (by unfold TpS Scr; omega)) (fun k _ => hI _ _ (by unfold TpS Scr; omega)) (fun k _ => hJ _ _ (by unfold TpS Scr; omega)) (fun k _ _ => hI _ _ (by unfold TpS Scr; omega)) (fun k _ _ => hI _ _ (by unfold TpS Scr; omega)) h
  refine ⟨⟨A, L, F, W, a0, RX_cg a0.1 (fun c k h1 h2 => hI c k (by unfold TpS Scr; omega)) (fun c k h1 h2 => hJ c k (by unfold TpS Scr; omega)) b0, RCon_cg (fun c k h1 h2 _ => hI c k (by unfold TpS Scr; omega)) c0, RM_cg (fun k _ => hI _ _ (by unfold TpS Scr; omega)) (fun k _ => hJ _ _ (by unfold TpS Scr; omega)) (fun k _ => hI _ _ (by unfold TpS Scr; omega)) (fun k _ => hI _ _ (by unfold TpS Scr; omega)) d0⟩, im 0 (by omega) b, im 1 (by omega) c, RCon_cg (fun c k _ _ _ => hI c k (by unfold TpS Scr; omega)) d, RCon_cg (fun c k _ _ _ => hI c k (by unfold TpS Scr; omega)) e, hr, ht, hl, fun r hr => ?_⟩
  rw [hI 186 r (by unfold TpS Scr; omega), hI 221 r (by unfold TpS Scr; omega), hI 187 r (by unfold TpS Scr; omega), hI 222 r (by unfold TpS Scr; omega)]
  rcases j r hr with q | ⟨n, s, q1, q2, q3, q4, q5, q6, q7⟩
  · exact .inl q
  · exact .inr ⟨n, s, q1, q2, q3, q4, q5, q6, fun k hk => by rw [hJ _ _ (by unfold TpS Scr; omega), hJ _ _ (by unfold TpS Scr; omega)]; exact q7 k hk⟩
/-- the j-th byte of an int -/
def byN (a : Int32) (j : Nat) : Nat := a.toBitVec.toNat / 2 ^ (24 - 8 * j) % 256
theorem byN_lt (a : Int32) (j : Nat) : byN a j < 256 := Nat.mod_lt _ (by decide)
theorem i8_255 (y : Int32) : (y &&& (255 : Int32)).toInt8 = y.toInt8 := by
  rw [Int32.toInt8_and, show (255 : Int32).toInt8 = -1 by decide, Int8.and_neg_one]
theorem by_sh (a s : Int32) (k : Nat) (hk : k = 24 ∨ k = 16 ∨ k = 8 ∨ k = 0) (hs : ((s &&& 31).toBitVec.smod 32).toNat = k) : i_shr a s &&& (255 : Int32) = nI (a.toBitVec.toNat / 2 ^ k % 256) := by
  rw [pk_and _ 8 rfl]
  refine congrArg nI ?_
  have e := pk_shr a (s &&& 31) k hs
  unfold i_shr
  rw [Int.shiftRight_eq_div_pow] at e
  have e1 : (a >>> (s &&& 31)).toInt = (a >>> (s &&& 31)).toBitVec.toInt := rfl
  have e2 : a.toInt = a.toBitVec.toInt := rfl
  rw [e1, e2, BitVec.toInt_eq_toNat_cond, BitVec.toInt_eq_toNat_cond] at e
  have b1 := (a >>> (s &&& 31)).toBitVec.isLt
  have b2 := a.toBitVec.isLt
  generalize (a >>> (s &&& 31)).toBitVec.toNat = Y at e b1 ⊢
  generalize a.toBitVec.toNat = N at e b2 ⊢
  rcases hk with rfl | rfl | rfl | rfl <;> split at e <;> split at e <;> omega
theorem by_us (a s : Int32) (k : Nat) (hs : ((s.toUInt32 &&& Int32.toUInt32 31).toBitVec % 32).toNat = k) : (i_ushr a s).toInt8.toInt32 = (nI (a.toBitVec.toNat / 2 ^ k % 256)).toInt8.toInt32 := by
  rw [← i8_255 (i_ushr a s), pk_and _ 8 rfl]
  unfold i_ushr
  rw [pk_ushr a s k hs]
theorem fi_step {n m s : Nat} {a : Int32} {rec : Int32 → jWd → Option jWd} (hs : s ≤ 24) (hm : m < 400) (h : wI w 0 8 = nI m) : bX11_feedInt_3 n a rec (nI s) w = rec (nI s + (-8 : Int32)) (sI (sI w 202 m ((i_ushr a (nI s)).toInt8.toInt32)) 0 8 (nI (m + 1))) := by
  have l : ln 202 = 400 := rfl
  unfold bX11_feedInt_3 letV
  dsimp only
  rw [if_neg (nI_pos (by omega)), h, if_neg (show ¬ (400 : Int32) ≤ nI m from nI_ge (b := 400) hm (by decide)), l, grd_N hm (by decide), nI_clamp (by omega), pk_vb, ev_wIn _ (by omega), h, nI_1]
theorem fi_X {n m : Nat} {a : Int32} (hn : 5 ≤ n) (hm : m + 4 ≤ 400) (h : wI w 0 8 = nI m) : ∃ w', fX11_feedInt n a w = some w' ∧ wI w' 0 8 = nI (m + 4) ∧ (∀ j, j < 4 → wI w' 202 (m + j) = (nI (byN a j)).toInt8.toInt32) ∧ frP (fun c k => (c = 0 ∧ k = 8) ∨ (c = 202 ∧ m ≤ k ∧ k < m + 4)) w w' := by
  obtain ⟨f, rfl⟩ : ∃ f, n = f + 5 := ⟨n - 5, by omega⟩
  obtain ⟨w1, h1⟩ : ∃ x, x = sI (sI w 202 m ((i_ushr a (nI 24)).toInt8.toInt32)) 0 8 (nI (m + 1)) := ⟨_, rfl⟩
  obtain ⟨w2, h2⟩ : ∃ x, x = sI (sI w1 202 (m + 1) ((i_ushr a (nI 16)).toInt8.toInt32)) 0 8 (nI (m + 2)) := ⟨_, rfl⟩
  obtain ⟨w3, h3⟩ : ∃ x, x = sI (sI w2 202 (m + 2) ((i_ushr a (nI 8)).toInt8.toInt32)) 0 8 (nI (m + 3)) := ⟨_, rfl⟩
  obtain ⟨w4, h4⟩ : ∃ x, x = sI (sI w3 202 (m + 3) ((i_ushr a (nI 0)).toInt8.toInt32)) 0 8 (nI (m + 4)) := ⟨_, rfl⟩
  have g1 : wI w1 0 8 = nI (m + 1) := by rw [h1]; exact ev_wIs _ _ _ _
  have g2 : wI w2 0 8 = nI (m + 2) := by rw [h2]; exact ev_wIs _ _ _ _
  have g3 : wI w3 0 8 = nI (m + 3) := by rw [h3]; exact ev_wIs _ _ _ _
  have g4 : wI w4 0 8 = nI (m + 4) := by rw [h4]; exact ev_wIs _ _ _ _
  refine ⟨w4, ?_, g4, fun j hj => ?_, ?_⟩
  · show bX11_feedInt_3 (f + 5) a (lX11_feedInt_3 (f + 5) a (f + 4)) (nI 24) w = some w4
    rw [fi_step (by omega) (by omega) h, ← h1, show nI 24 + (-8 : Int32) = nI 16 by decide]
    show bX11_feedInt_3 (f + 5) a (lX11_feedInt_3 (f + 5) a (f + 3)) (nI 16) w1 = some w4
    rw [fi_step (by omega) (by omega) g1, ← h2, show nI 16 + (-8 : Int32) = nI 8 by decide]
    show bX11_feedInt_3 (f + 5) a (lX11_feedInt_3 (f + 5) a (f + 2)) (nI 8) w2 = some w4
    rw [fi_step (by omega) (by omega) g2, ← h3, show nI 8 + (-8 : Int32) = nI 0 by decide]
    show bX11_feedInt_3 (f + 5) a (lX11_feedInt_3 (f + 5) a (f + 1)) (nI 0) w3 = some w4
    rw [fi_step (by omega) (by omega) g3, ← h4, show nI 0 + (-8 : Int32) = -8 by decide]
    rfl
  · unfold byN
    rcases (show j = 0 ∨ j = 1 ∨ j = 2 ∨ j = 3 by omega) with rfl | rfl | rfl | rfl
    · rw [← by_us a (nI 24) 24 (by decide), h4, h3, h2, h1]
      simp (disch := omega) only [ev_wIn]
      exact ev_wIs _ _ _ _
    · rw [← by_us a (nI 16) 16 (by decide), h4, h3, h2]
      simp (disch := omega) only [ev_wIn]
      exact ev_wIs _ _ _ _
    · rw [← by_us a (nI 8) 8 (by decide), h4, h3]
      simp (disch := omega) only [ev_wIn]
      exact ev_wIs _ _ _ _
    · rw [← by_us a (nI 0) 0 (by decide), h4]
      simp (disch := omega) only [ev_wIn]
      exact ev_wIs _ _ _ _
  · have q : ∀ (u : jWd) (d : Nat) (x y : Int32), d < 4 → frP (fun c k => (c = 0 ∧ k = 8) ∨ (c = 202 ∧ m ≤ k ∧ k < m + 4)) u (sI (sI u 202 (m + d) x) 0 8 y) := fun u d x y hd => frP_trans (frP_sI _ _ (.inr ⟨rfl, by omega, by omega⟩)) (frP_sI _ _ (.inl ⟨rfl, rfl⟩))
    refine frP_trans (frP_trans (frP_trans (w1 := w1) ?_ (w2 := w2) ?_) (w2 := w3) ?_) ?_
    · rw [h1]; exact q w 0 _ _ (by omega)
    · rw [h2]; exact q w1 1 _ _ (by omega)
    · rw [h3]; exact q w2 2 _ _ (by omega)
    · rw [h4]; exact q w3 3 _ _ (by omega)
def pF (p1 p2 p3 p4 p5 : Int32) (i : Nat) : Int32 := if i < 4 then p1 else if i < 8 then p2 else if i < 12 then p3 else if i < 16 then p4 else p5
theorem fm_M {n m : Nat} {p1 p2 p3 p4 p5 : Int32} (K : jWd → Option (Int32 × jWd)) (hm : m + 20 ≤ 400) : ∀ c i f (w : jWd), i + c = 20 → c < f → wI w 205 9 = nI (m + i) → ∃ w', lX12_feed_28 n p1 p2 p3 p4 p5 K f (nI i) w = K w' ∧ wI w' 205 9 = nI (m + 20) ∧ (∀ j, i ≤ j → j < 20 → wI w' 213 (m + j) = nI (byN (pF p1 p2 p3 p4 p5 j) (j % 4))) ∧ frP (fun c k => (c = 205 ∧ k = 9) ∨ (c = 213 ∧ m + i ≤ k ∧ k < m + 20)) w w' := by
  have l : ln 213 = 400 := rfl
  intro c
  induction c with
  | zero =>
    intro i f w hi hf h
    obtain ⟨f, rfl⟩ : ∃ g, f = g + 1 := ⟨f - 1, by omega⟩
    refine ⟨w, ?_, by rw [h, show i = 20 by omega], fun j h1 h2 => absurd h1 (by omega), frP_refl _ _⟩
    show bX12_feed_28 n p1 p2 p3 p4 p5 K _ (nI i) w = _
    unfold bX12_feed_28
    rw [if_pos (show (20 : Int32) ≤ nI i from nI_le (a := 20) (by omega) (by omega))]
  | succ c ih =>
    intro i f w hi hf h
    obtain ⟨f, rfl⟩ : ∃ g, f = g + 1 := ⟨f - 1, by omega⟩
    have eb : i_shr (pF p1 p2 p3 p4 p5 i) ((24 : Int32) - ((8 : Int32) * (i_rem (nI i) (4 : Int32)))) &&& (255 : Int32) = nI (byN (pF p1 p2 p3 p4 p5 i) (i % 4)) := by
      have er : i_rem (nI i) (4 : Int32) = nI (i % 4) := pk_rem (d := 4) (by omega) (by decide) (by decide)
      rw [er, show (8 : Int32) = nI 8 from rfl, pk_mul, show (24 : Int32) = nI 24 from rfl, pk_sub (by omega)]
      unfold byN
      rcases (show i % 4 = 0 ∨ i % 4 = 1 ∨ i % 4 = 2 ∨ i % 4 = 3 by omega) with e | e | e | e <;> rw [e]
      · exact by_sh _ (nI 24) 24 (by omega) (by decide)
      · exact by_sh _ (nI 16) 16 (by omega) (by decide)
      · exact by_sh _ (nI 8) 8 (by omega) (by decide)
      · exact by_sh _ (nI 0) 0 (by omega) (by decide)
    obtain ⟨w', d1, d2, d3, d4⟩ := ih (i + 1) f (sI (sI w 213 (m + i) (nI (byN (pF p1 p2 p3 p4 p5 i) (i % 4)))) 205 9 (nI (m + i + 1))) (by omega) (by omega) (ev_wIs _ _ _ _)
    refine ⟨w', ?_, d2, fun j h1 h2 => ?_, frP_trans (frP_trans (frP_sI _ _ (.inr ⟨rfl, by omega, by omega⟩)) (frP_sI _ _ (.inl ⟨rfl, rfl⟩))) (frP_mono (fun c k z => by omega) d4)⟩
    · show bX12_feed_28 n p1 p2 p3 p4 p5 K (lX12_feed_28 n p1 p2 p3 p4 p5 K f) (nI i) w = _
      have key : ∀ s : Int32, s = pF p1 p2 p3 p4 p5 i → grd (wI w 205 9) (ln 213) (letV (sI w 213 (((wI w 205 9)).toNatClampNeg) ((i_shr s ((24 : Int32) - ((8 : Int32) * (i_rem (nI i) (4 : Int32))))) &&& (255 : Int32))) (fun (w_5 : jWd) => letV (sI w_5 205 9 ((wI w_5 205 9) + (1 : Int32))) (fun (w_8 : jWd) => letV (nI i + (1 : Int32)) (fun (x6_10 : Int32) => lX12_feed_28 n p1 p2 p3 p4 p5 K f x6_10 w_8)))) = K w' := by
        intro s hs
        subst hs
        unfold letV
        dsimp only
        rw [eb, h, l, grd_N (by omega) (by decide), nI_clamp (by omega), ev_wIn _ (by omega), h, nI_1, nI_1]
        exact d1
      unfold bX12_feed_28
      rw [if_neg (show ¬ (20 : Int32) ≤ nI i from nI_ge (b := 20) (by omega) (by decide)), ev_letV]
      unfold pF at key
      by_cases q1 : i < 4
      · rw [if_neg (show ¬ (4 : Int32) ≤ nI i from nI_ge (b := 4) q1 (by decide))]
        exact key _ (by rw [if_pos q1])
      rw [if_pos (show (4 : Int32) ≤ nI i from nI_le (a := 4) (by omega) (by omega))]
      by_cases q2 : i < 8
      · rw [if_neg (show ¬ (8 : Int32) ≤ nI i from nI_ge (b := 8) q2 (by decide))]
        exact key _ (by rw [if_neg q1, if_pos q2])
      rw [if_pos (show (8 : Int32) ≤ nI i from nI_le (a := 8) (by omega) (by omega))]
      by_cases q3 : i < 12
      · rw [if_neg (show ¬ (12 : Int32) ≤ nI i from nI_ge (b := 12) q3 (by decide))]
        exact key _ (by rw [if_neg q1, if_neg q2, if_pos q3])
      rw [if_pos (show (12 : Int32) ≤ nI i from nI_le (a := 12) (by omega) (by omega))]
      by_cases q4 : i < 16
      · rw [if_neg (show ¬ (16 : Int32) ≤ nI i from nI_ge (b := 16) q4 (by decide))]
        exact key _ (by rw [if_neg q1, if_neg q2, if_neg q3, if_pos q4])
      rw [if_pos (show (16 : Int32) ≤ nI i from nI_le (a := 16) (by omega) (by omega))]
      exact key _ (by rw [if_neg q1, if_neg q2, if_neg q3, if_neg q4])
    · by_cases e : j = i
      · subst e
        rw [frP_I d4 (by omega), ev_wIn _ (by omega)]
        exact ev_wIs _ _ _ _
      · exact d3 j (by omega) h2
theorem s_feed_n {n : Nat} (hn : 21 < n) (w : jWd) (a0 a1 a2 a3 a4 : Int32) (hw : RR w) : ∃ (v : Int32) (w1 w2 : jWd), fX11_feed n a0 a1 a2 a3 a4 w = some (v, w1) ∧ fX12_feed n a0 a1 a2 a3 a4 w1 = some (v, w2) ∧ RR w2 := by
  obtain ⟨-, -, -, -, -, hrf, ⟨m, hm, t1, t2, t3⟩, hfl, -⟩ := id hw
  have e20 : nI m + (20 : Int32) = nI (m + 20) := nI_add m 20
  by_cases hq : m + 20 ≤ 400
  · obtain ⟨u1, e1, g1, b1, f1⟩ := fi_X (n := n) (a := a0) (by omega) (by omega) t1
    obtain ⟨u2, e2, g2, b2, f2⟩ := fi_X (n := n) (a := a1) (by omega) (by omega) g1
    obtain ⟨u3, e3, g3, b3, f3⟩ := fi_X (n := n) (a := a2) (by omega) (by omega) g2
    obtain ⟨u4, e4, g4, b4, f4⟩ := fi_X (n := n) (a := a3) (by omega) (by omega) g3
    obtain ⟨u5, e5, g5, b5, f5⟩ := fi_X (n := n) (a := a4) (by omega) (by omega) g4
    have fX : frP (fun c k => (c = 0 ∧ k = 8) ∨ (c = 202 ∧ m ≤ k)) w u5 := frP_trans (frP_trans (frP_trans (frP_trans (frP_mono (fun c k z => by omega) f1) (frP_mono (fun c k z => by omega) f2)) (frP_mono (fun c k z => by omega) f3)) (frP_mono (fun c k z => by omega) f4)) (frP_mono (fun c k z => by omega) f5)
    have bX : ∀ j, j < 20 → wI u5 202 (m + j) = (nI (byN (pF a0 a1 a2 a3 a4 j) (j % 4))).toInt8.toInt32 := by
      intro j hj
      unfold pF
      by_cases q1 : j < 4
      · rw [if_pos q1, frP_I f5 (by omega), frP_I f4 (by omega), frP_I f3 (by omega), frP_I f2 (by omega), b1 j q1, Nat.mod_eq_of_lt q1]
      by_cases q2 : j < 8
      · rw [if_neg q1, if_pos q2, frP_I f5 (by omega), frP_I f4 (by omega), frP_I f3 (by omega), show m + j = m + 4 + (j - 4) by omega, b2 (j - 4) (by omega), show j % 4 = j - 4 by omega]
      by_cases q3 : j < 12
      · rw [if_neg q1, if_neg q2, if_pos q3, frP_I f5 (by omega), frP_I f4 (by omega), show m + j = m + 4 + 4 + (j - 8) by omega, b3 (j - 8) (by omega), show j % 4 = j - 8 by omega]
      by_cases q4 : j < 16
      · rw [if_neg q1, if_neg q2, if_neg q3, if_pos q4, frP_I f5 (by omega), show m + j = m + 4 + 4 + 4 + (j - 12) by omega, b4 (j - 12) (by omega), show j % 4 = j - 12 by omega]
      · rw [if_neg q1, if_neg q2, if_neg q3, if_neg q4, show m + j = m + 4 + 4 + 4 + 4 + (j - 16) by omega, b5 (j - 16) (by omega), show j % 4 = j - 16 by omega]
    have tU : wI (sI u5 205 0 (0 : Int32)) 205 9 = nI (m + 0) := by
      rw [ev_wIn _ (by omega), frP_I fX (by omega)]
      exact t2
    obtain ⟨U, d1, d2, d3, d4⟩ := fm_M (n := n) (p1 := a0) (p2 := a1) (p3 := a2) (p4 := a3) (p5 := a4) (fun (w_12 : jWd) => some ((wI w_12 205 9), w_12)) hq 20 0 n (sI u5 205 0 (0 : Int32)) (by omega) (by omega) tU
    have fA : frP (fun c k => (c = 0 ∧ k = 8) ∨ (c = 202 ∧ m ≤ k) ∨ (c = 205 ∧ (k = 9 ∨ k = 0)) ∨ (c = 213 ∧ m ≤ k)) w U := frP_trans (frP_trans (frP_mono (fun c k z => by omega) fX) (frP_sI _ _ (by omega))) (frP_mono (fun c k z => by omega) d4)
    refine ⟨nI (m + 20), u5, U, ?_, ?_, rr_tp (frP_mono (fun c k z => by unfold TpS Scr; omega) fA) (fun k h1 h2 => ?_) ⟨m + 20, hq, ?_, d2, fun k hk => ?_⟩ ?_ hw⟩
    · unfold fX11_feed
      rw [t1, e20, if_pos (show nI (m + 20) ≤ (400 : Int32) from nI_le (b := 400) hq (by decide)), e1, ev_bO, e2, ev_bO, e3, ev_bO, e4, ev_bO, e5, ev_bO, g5]
    · unfold fX12_feed letV
      dsimp only
      rw [tU, Nat.add_zero, e20, if_pos (show nI (m + 20) ≤ (400 : Int32) from nI_le (b := 400) hq (by decide))]
      refine (show _ = _ from d1).trans ?_
      rw [d2]
    · rw [frP_I fA (by omega), frP_I fA (by omega)]
      exact hrf k h1 h2
    · rw [frP_I d4 (by omega), ev_wIn _ (by omega)]
      exact g5
    · by_cases hk2 : k < m
      · obtain ⟨b, x1, x2, x3⟩ := t3 k hk2
        exact ⟨b, x1, by rw [frP_I fA (by omega)]; exact x2, by rw [frP_I fA (by omega)]; exact x3⟩
      · obtain ⟨j, rfl⟩ : ∃ j, k = m + j := ⟨k - m, by omega⟩
        exact ⟨byN (pF a0 a1 a2 a3 a4 j) (j % 4), byN_lt _ _, d3 j (by omega) (by omega), by rw [frP_I d4 (by omega), ev_wIn _ (by omega)]; exact bX j (by omega)⟩
    · unfold RFlt
      rw [frP_I fA (by omega), frP_I fA (by omega), frP_I fA (by omega), frP_I fA (by omega)]
      exact hfl
  · refine rr_call hw (.inr ⟨-4, 4, by decide, by decide, ⟨w, ?_, frP_refl _ _⟩, fun w1 f1 => ⟨sI w1 205 0 (0 : Int32), ?_, frS_0 w1⟩⟩)
    · unfold fX11_feed
      rw [t1, e20, if_neg (show ¬ nI (m + 20) ≤ (400 : Int32) from nI_ge (b := m + 20) (a := 400) (by omega) (by omega)), rx_id4]
    · unfold fX12_feed letV
      dsimp only
      rw [ev_wIn _ (by omega), frP_I f1 (by unfold Scr2 Scr; omega), t2, e20, if_neg (show ¬ nI (m + 20) ≤ (400 : Int32) from nI_ge (b := m + 20) (a := 400) (by omega) (by omega)), no_id4]
theorem s_feed : fS_feed RR := fun w a0 a1 a2 a3 a4 hw => ⟨20000, s_feed_n (by decide) w a0 a1 a2 a3 a4 hw⟩
end FED
