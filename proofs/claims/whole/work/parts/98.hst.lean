/-! text -/
section HST
variable {A : Nat → Nat} {L : Nat → Int64} {F W : Nat → Nat} {w w' : jWd} {b : Nat → Nat} {N T m n : Nat}
theorem cp_L {w : jWd} : ∃ w', fX3_copy 39 197 w = some w' ∧ frP (fun c _ => 39 ≤ c ∧ c ≤ 40) w w' ∧ (∀ i k, (i = 0 ∧ k = 0) ∨ (i = 0 ∧ k = 1) ∨ (i = 0 ∧ k = 2) ∨ (i = 0 ∧ k = 3) ∨ (i = 1 ∧ k < 256) → wI w' (39 + i) k = wI w (197 + i) k) := by
  obtain ⟨w', e, -, q⟩ := cp_X3 (t := 39) (a := 197) (w := w) (by omega) ⟨by decide, by decide⟩
  refine ⟨w', e, ?_, q⟩
  have z0 : ((0 : Int32)).toNatClampNeg = 0 := by decide
  have z256 : ((256 : Int32)).toNatClampNeg = 256 := by decide
  have f0 : wI (sI w 39 0 (wI w 197 0)) 197 1 = wI w 197 1 := by simp (disch := omega) only [ev_wIn]
  have f1 : wI (sI (sI w 39 0 (wI w 197 0)) 39 1 (wI w 197 1)) 197 2 = wI w 197 2 := by simp (disch := omega) only [ev_wIn]
  have f2 : wI (sI (sI (sI w 39 0 (wI w 197 0)) 39 1 (wI w 197 1)) 39 2 (wI w 197 2)) 197 3 = wI w 197 3 := by simp (disch := omega) only [ev_wIn]
  have e2 : fX3_copy 39 197 w = some (cpI (sI (sI (sI (sI w 39 0 (wI w 197 0)) 39 1 (wI w 197 1)) 39 2 (wI w 197 2)) 39 3 (wI w 197 3)) (197 + 1) 0 (39 + 1) 0 256) := by
    unfold fX3_copy letV
    dsimp only
    rw [f0, f1, f2, z0, z256, grc_L (by decide) z256 (by decide) (by decide)]
  have := Option.some.inj (e.symm.trans e2)
  rw [this]
  exact frP_trans (frP_trans (frP_trans (frP_trans (frP_sI _ _ (by omega)) (frP_sI _ _ (by omega))) (frP_sI _ _ (by omega))) (frP_sI _ _ (by omega))) (frP_cI (fun _ => by omega))
theorem law_X {V : Nat → Nat} (h : RXN A L F W w) (hV : InW V) (hl : RLaw V 159 w) : ∃ w', fX3_copy 39 197 w = some w' ∧ RXN A L F V w' ∧ wI w' 39 0 = nI (V 0) ∧ frP (fun c _ => 39 ≤ c ∧ c ≤ 40) w w' := by
  obtain ⟨⟨hA, hB, hL, hF, hW⟩, hx, hc⟩ := h
  obtain ⟨w', e1, fr, e3⟩ := cp_L (w := w)
  obtain ⟨a0, a1, a2, a3, a4, a5, a6, a7, a8, a9, b1, b2, b3⟩ := hA
  obtain ⟨x0, x1, x2, x3, x4, x5, x6, x7, x8, x9, y0⟩ := hx
  obtain ⟨l0, l1, l2, l3, l4, l5⟩ := hl
  have k0 : wI w' 39 0 = nI (V 0) := (e3 0 0 (by omega)).trans l0
  refine ⟨w', e1, ⟨⟨⟨a0, a1, a2, a3, a4, a5, a6, a7, a8, a9, b1, b2, b3⟩, hB, hL, hF, hV⟩, ⟨?_, ?_, ?_, ?_, ?_, ?_, ⟨k0, (e3 0 1 (by omega)).trans l1, (e3 0 2 (by omega)).trans l2, (e3 0 3 (by omega)).trans l3, (e3 1 0 (by omega)).trans l4, fun v v1 v2 => (e3 1 v (by omega)).trans (l5 v v1 v2)⟩, ?_, ?_, ?_, ?_⟩, ?_⟩, k0, fr⟩
  · exact RSong_cg a1 a2 (fun _ _ => rfl) (fun _ _ => rfl) (fun c k _ _ => frP_I fr (by omega)) (fun c k _ => frP_J fr (by omega)) x0
  · exact RBook_cg a4 a5 (fun _ _ _ => rfl) (fun _ _ _ => rfl) (fun c k _ _ => frP_I fr (by omega)) (fun c k _ => frP_J fr (by omega)) x1
  · exact RPrint_cg a3 (fun _ _ _ => rfl) (fun _ _ _ => rfl) (fun c k _ _ => frP_I fr (by omega)) (fun c k _ => frP_J fr (by omega)) x2
  · exact RVers_cg a7 (fun _ _ _ => rfl) (fun _ _ _ => rfl) (fun c k _ _ => frP_I fr (by omega)) (fun c k _ => frP_J fr (by omega)) x3
  · exact RYear_cg (fun _ _ _ => rfl) (fun k => frP_I fr (by omega)) x4
  · exact FX_cg (fun c k _ _ => frP_I fr (by omega)) (fun c k _ _ => frP_J fr (by omega)) x5
  · exact RAns_cg a8 (fun _ _ _ => rfl) (fun _ _ _ => rfl) (fun c k _ _ => frP_I fr (by omega)) (fun c k _ => frP_J fr (by omega)) x7
  · exact RWork_cg a9 b1 b2 (fun _ _ _ => rfl) (fun c k _ _ => frP_I fr (by omega)) x8
  · exact RWorld_cg b3 (fun _ _ _ => rfl) (fun c k _ _ => frP_I fr (by omega)) x9
  · exact RBnd_cg (fun _ _ _ => rfl) (fun k _ _ => frP_I fr (by omega)) y0
  · exact RCon_cg (fun c k _ _ _ => frP_I fr (by omega)) hc
theorem cl_X (hn : 410 < n) : ∃ u, fX3_clear n 197 w = some u ∧ RLaw (fun _ => 0) 159 u ∧ frP (fun c _ => c = 197 ∨ c = 198) w u := by
  have l : ln (197 + 1) = 256 := rfl
  obtain ⟨v, hv⟩ : ∃ v, v = sI (sI (sI (sI w 197 0 (0 : Int32)) 197 1 (0 : Int32)) 197 2 (0 : Int32)) 197 3 (0 : Int32) := ⟨_, rfl⟩
  have fv : frP (fun c _ => c = 197) w v := by
    rw [hv]
    exact frP_trans (frP_trans (frP_trans (frP_sI _ _ rfl) (frP_sI _ _ rfl)) (frP_sI _ _ rfl)) (frP_sI _ _ rfl)
  obtain ⟨u, e1, e2, e3⟩ := fill_X (n := n) (p := 197 + 1) (by rw [l]; omega) (by rw [l]; decide) (0 : Int32) v
  refine ⟨u, ?_, ⟨?_, ?_, ?_, ?_, ?_, fun q q1 q2 => ?_⟩, frP_trans (frP_mono (fun c k z => .inl z) fv) (frP_mono (fun c k z => .inr z.1) e3)⟩
  · unfold fX3_clear letV
    dsimp only
    rw [← hv, e1, ev_bO]
  · show wI u 197 0 = nI 0
    rw [frP_I e3 (by omega), hv, ev_wIn _ (by omega), ev_wIn _ (by omega), ev_wIn _ (by omega)]
    exact ev_wIs _ _ _ _
  · show wI u 197 1 = nI 0
    rw [frP_I e3 (by omega), hv, ev_wIn _ (by omega), ev_wIn _ (by omega)]
    exact ev_wIs _ _ _ _
  · show wI u 197 2 = nI 0
    rw [frP_I e3 (by omega), hv, ev_wIn _ (by omega)]
    exact ev_wIs _ _ _ _
  · show wI u 197 3 = nI 0
    rw [frP_I e3 (by omega), hv]
    exact ev_wIs _ _ _ _
  · exact e2 0 (by rw [l]; decide)
  · exact e2 q (by rw [l]; exact q2)
/-- the whole of FASHION, the reference from any world that holds THE TAPE -/
theorem run_F {u0 : jWd} (hn : 1200 < n) (hm : m ≤ 400) (hN : N ≤ m) (hb : ∀ k, b k < 256) (hx : XA b N T 0 u0) (v1 : jWd) (h9 : wI v1 205 9 = nI m) (ht : ∀ k, k < N → wI v1 213 k = nI (b k)) : ∃ uX uM, fX6_readFashion n u0 = some uX ∧ fX12_text n (nI 0) (nI N) v1 = KM n (nI 0) uM ∧ frP (fun c k => c = 189 ∨ (190 ≤ c ∧ c ≤ 201)) u0 uX ∧ frP (fun c k => c = 205 ∨ (c = 211 ∧ 1935 ≤ k) ∨ (c = 212 ∧ 87 ≤ k)) v1 uM ∧ wI uM 205 9 = nI 0 ∧ (BD uX uM ∨ ∃ r j cs, r ≤ 12 ∧ BA b N T 0 j cs uX uM ∧ FI r cs uX uM) := by
  obtain ⟨v, i1, i2, i3, i4, i5, i6, i7, i8⟩ := init_M (n := n) (what := 0) (by omega) (by decide) hm hN hb h9 ht
  obtain ⟨z, hz⟩ : ∃ z, z = sI (sI u0 190 0 (0 : Int32)) 190 1 (0 : Int32) := ⟨_, rfl⟩
  have fz : frP (fun c _ => c = 190) u0 z := by
    rw [hz]
    exact frP_trans (frP_sI _ _ rfl) (frP_sI _ _ rfl)
  have z0 : wI z 190 0 = nI 0 := by rw [hz, ev_wIn _ (by omega)]; exact ev_wIs _ _ _ _
  have z1 : wI z 190 1 = nI 0 := by rw [hz]; exact ev_wIs _ _ _ _
  have hB : BA b N T 0 0 [] z v := ⟨⟨XA_fr hx (frP_mono (fun c k y => by omega) fz), i2⟩, ⟨z1, fun i hi => absurd hi (Nat.not_lt_zero i)⟩, ⟨i4, fun i hi => absurd hi (Nat.not_lt_zero i)⟩, Csm_0, i3, Nat.zero_le _⟩
  obtain ⟨uX, uM, a1, a2, a3, a4, a5⟩ := fa_J (n := n) (by omega) (KM n (nI 0)) 12 0 n n 0 [] z v rfl (by omega) (by omega) hB ⟨z0, i5, fun i hi => absurd hi (Nat.not_lt_zero i)⟩
  have e : fX6_readFashion n u0 = some uX := by
    have ec : fX1_clear 190 u0 = some z := by
      rw [hz]
      rfl
    unfold fX6_readFashion
    rw [ec, ev_bO]
    exact a1
  refine ⟨uX, uM, e, i1.trans a2, frP_trans (frP_mono (fun c k y => by omega) fz) (frP_mono (fun c k y => by unfold PfX at y; omega) a3), frP_trans (frP_mono (fun c k y => by unfold PiM at y; omega) i8) (frP_mono (fun c k y => by unfold PfM at y; omega) a4), by rw [frP_I a4 (by unfold PfM; omega)]; exact i7, ?_⟩
  rcases a5 with a5 | ⟨r, j, cs, k1, k2, k3⟩
  · exact .inl a5
  · exact .inr ⟨r, j, cs, k1, k2, k3⟩
theorem run_L {u0 : jWd} (hn : 1200 < n) (hm : m ≤ 400) (hN : N ≤ m) (hb : ∀ k, b k < 256) (hx : XA b N T 0 u0) (v1 : jWd) (h9 : wI v1 205 9 = nI m) (ht : ∀ k, k < N → wI v1 213 k = nI (b k)) : ∃ uX uM, fX6_readLaw n u0 = some uX ∧ fX12_text n (nI 1) (nI N) v1 = KM n (nI 1) uM ∧ frP (fun c k => c = 189 ∨ (190 ≤ c ∧ c ≤ 201)) u0 uX ∧ frP (fun c k => c = 205 ∨ (c = 211 ∧ 1935 ≤ k) ∨ (c = 212 ∧ 87 ≤ k)) v1 uM ∧ wI uM 205 9 = nI 0 ∧ (JD uX uM ∨ ∃ V j, JA b N T j uX uM ∧ LJ V uX uM) := by
  obtain ⟨v, i1, i2, i3, i4, i5, i6, i7, i8⟩ := init_M (n := n) (what := 1) (by omega) (by decide) hm hN hb h9 ht
  obtain ⟨z, z1, z2, z3⟩ := cl_X (w := u0) (n := n) (by omega)
  have hJ : JA b N T 0 z v := ⟨XA_fr hx (frP_mono (fun c k y => by omega) z3), i2⟩
  have hL : LJ (fun _ => 0) z v := ⟨⟨by decide, by decide, by decide, by decide, by decide, fun i hi => absurd hi (Nat.not_lt_zero i)⟩, fun k hk => i6 k hk, z2⟩
  obtain ⟨uX, uM, a1, a2, a3, a4, a5⟩ := la_J (n := n) (by omega) (KM n (nI 1)) 12 n n 0 (fun _ => 0) z v rfl (by omega) (by omega) hJ hL (Nat.le_refl _)
  have e : fX6_readLaw n u0 = some uX := by
    unfold fX6_readLaw
    rw [z1, ev_bO]
    exact a1
  refine ⟨uX, uM, e, i1.trans a2, frP_trans (frP_mono (fun c k y => by omega) z3) (frP_mono (fun c k y => by unfold PlX at y; omega) a3), frP_trans (frP_mono (fun c k y => by unfold PiM at y; omega) i8) (frP_mono (fun c k y => by unfold PlM at y; omega) a4), by rw [frP_I a4 (by unfold PlM; omega)]; exact i7, ?_⟩
  rcases a5 with a5 | ⟨V, j, k1, k2⟩
  · exact .inl a5
  · exact .inr ⟨V, j, k1, k2⟩
theorem s_text_n {n : Nat} (hn : 1200 < n) (w : jWd) (a0 a1 : Int32) (hw : RR w) : ∃ (v : Int32) (w1 w2 : jWd), fX11_text n a0 a1 w = some (v, w1) ∧ fX12_text n a0 a1 w1 = some (v, w2) ∧ RR w2 := by
  obtain ⟨⟨A, L, F, W, h⟩, -, -, -, -, hrf, ⟨m, hm, t1, t2, t3⟩, hfl, -⟩ := id hw
  rcases hf_cs a0 with ⟨hh1, hh2⟩ | ⟨what, hwh, rfl, hh1, hh2⟩
  · have z0 : ¬ a0 = 0 := fun e => by
      subst e
      exact absurd hh2 (by decide)
    have z1 : ¬ a0 = 1 := fun e => by
      subst e
      exact absurd hh2 (by decide)
    refine rr_call hw (.inr ⟨-2, 2, by decide, by decide, ⟨w, ?_, frP_refl _ _⟩, fun w1 f1 => ⟨sI w1 205 0 (0 : Int32), ?_, frS_0 w1⟩⟩)
    · unfold fX11_text
      rw [ev_letV, if_neg z0, if_neg z1, rx_id2]
    · unfold fX12_text letV
      dsimp only
      rw [if_pos hh2, no_id2]
  rcases wi_cs a1 0 m (a := 0) (b := (nI m).toInt64) rfl (nI_l (by omega)) (by omega) (by omega) with ⟨q1, q2⟩ | ⟨N, -, hN, rfl, q1, q2⟩
  · refine rr_call hw (.inr ⟨-3, 3, by decide, by decide, ⟨w, ?_, frP_refl _ _⟩, fun w1 f1 => ⟨sI w1 205 0 (0 : Int32), ?_, frS_0 w1⟩⟩)
    · unfold fX11_text
      rw [ev_letV, t1, if_pos q1, rx_id3]
      rcases (show what = 0 ∨ what = 1 by omega) with rfl | rfl
      · rw [if_pos (show nI 0 = (0 : Int32) from rfl)]
      · rw [if_neg (show ¬ nI 1 = (0 : Int32) by decide), if_pos (show nI 1 = (1 : Int32) from rfl)]
    · unfold fX12_text letV
      dsimp only
      rw [if_neg hh2, ev_wIn _ (by omega), frP_I f1 (by unfold Scr2 Scr; omega), t2, if_pos q2, no_id3]
  obtain ⟨b, eb⟩ : ∃ b : Nat → Nat, b = fun k => if k < m then (wI w 213 k).toBitVec.toNat else 0 := ⟨_, rfl⟩
  have tb : ∀ k, k < m → b k < 256 ∧ wI w 213 k = nI (b k) ∧ wI w 202 k = sB (b k) := fun k hk => by
    obtain ⟨b0, x1, x2, x3⟩ := t3 k hk
    have e : b k = b0 := by
      rw [eb]
      show (if k < m then (wI w 213 k).toBitVec.toNat else 0) = b0
      rw [if_pos hk, x2, tn_nI (by omega)]
    rw [e]
    exact ⟨x1, x2, x3⟩
  have hb : ∀ k, b k < 256 := fun k => by
    by_cases hk : k < m
    · exact (tb k hk).1
    · rw [eb]
      show (if k < m then (wI w 213 k).toBitVec.toNat else 0) < 256
      rw [if_neg hk]
      decide
  have tM : ∀ k, k < N → wI w 213 k = nI (b k) := fun k hk => (tb k (by omega)).2.1
  obtain ⟨u0, T, s1, s2, s3⟩ := scan_X (n := n) (b := b) (N := N) (w := sI w 0 8 (0 : Int32)) (by omega) ⟨by omega, hb, fun k hk => by rw [ev_wIn _ (by omega)]; exact (tb k (by omega)).2.2⟩
  have head := hdX (n := n) (N := N) (w := w) hwh (by rw [t1]; exact q1)
  rw [s1, ev_bO] at head
  have f00 : frP (fun c k => (c = 0 ∧ k = 8) ∨ c = 189 ∨ (190 ≤ c ∧ c ≤ 201)) w u0 := frP_trans (frP_sI _ _ (by omega)) (frP_mono (fun c k z => by omega) s3)
  have u08 : wI u0 0 8 = nI 0 := by rw [frP_I s3 (by omega)]; exact ev_wIs _ _ _ _
  rw [head]
  rcases (show what = 0 ∨ what = 1 by omega) with rfl | rfl
  · rw [if_pos (show nI 0 = (0 : Int32) from rfl)]
    have run := run_F (n := n) hn hm hN hb s2
    obtain ⟨uX, uM0, e1, -, fx, -, -, o1⟩ := run w t2 tM
    have fX : frP (fun c k => (c = 0 ∧ k = 8) ∨ c = 189 ∨ (190 ≤ c ∧ c ≤ 201)) w uX := frP_trans f00 (frP_mono (fun c k z => by omega) fx)
    have uX8 : wI uX 0 8 = nI 0 := by rw [frP_I fx (by omega)]; exact u08
    rw [e1, ev_bO]
    rcases o1 with ⟨⟨f, p, d1, d2⟩, d3⟩ | ⟨r, j, cs, k1, k2, k3⟩
    · obtain ⟨uX', uM, e1', e2, fx', fm, h9, o⟩ := run (rfX uX 1) (by unfold rfX; rw [ev_wIn _ (by omega), frP_I fX (by omega)]; exact t2) (fun k hk => by unfold rfX; rw [ev_wIn _ (by omega), frP_I fX (by omega)]; exact tM k hk)
      have eu : uX' = uX := Option.some.inj (e1'.symm.trans e1)
      subst eu
      rcases o with ⟨⟨f', p', g1, g2⟩, g3⟩ | ⟨r, j, cs, k1, k2, k3⟩
      · exact ⟨_, _, _, KX_D g1, e2.trans (KM_D g2), tx_D hw fX g1 uX8 rfl fm g2 h9 rfl⟩
      · exact absurd (XA_0 k2.1.1) (XD_0 d1)
    · obtain ⟨g1, g2, g3⟩ := FI_out k1 k2 k3
      have hR : RXN A L F W uX := RXN_cg (RXN_of h) (fun c k _ _ => ⟨frP_I fX (by omega), frP_J fX (by omega)⟩)
      obtain ⟨w1, y1, -, -, fr1⟩ := follow_X (n := n) (by omega) hR g1 g2
      obtain ⟨uX', uM, e1', e2, fx', fm, h9, o⟩ := run w1 (by rw [frP_I fr1 (by omega), frP_I fX (by omega)]; exact t2) (fun k hk => by rw [frP_I fr1 (by omega), frP_I fX (by omega)]; exact tM k hk)
      have eu : uX' = uX := Option.some.inj (e1'.symm.trans e1)
      subst eu
      rcases o with ⟨⟨f', p', i1, i2⟩, i3⟩ | ⟨r', j', cs', l1, l2, l3⟩
      · exact absurd (XA_0 k2.1.1) (XD_0 i1)
      · obtain ⟨i1, i2, i3⟩ := FI_out l1 l2 l3
        obtain ⟨w1', y1', hR1, y3, fr1'⟩ := follow_X (n := n) (by omega) hR i1 i2
        have ew : w1' = w1 := Option.some.inj (y1'.symm.trans y1)
        subst ew
        obtain ⟨w2, c1, c2, c3, c4, c5⟩ := KM_F (n := n) hn (show wI uM 205 15 = nI 0 from MA_0 l2.1.2)
        refine ⟨nI (mF uM 0), w1', w2, ?_, ?_, tx_A (V := W) hw h fX (XA_0 k2.1.1) uX8 (frP_mono (fun c k z => by omega) fr1) fm h9 (frP_mono (fun c k z => by omega) c5) c3 c4 hR1 (fun k hk => by rw [c2 k hk]; exact (mF_c uM k).symm) (fun k hk => ?_)⟩
        · unfold KX
          rw [if_pos (XA_0 k2.1.1), if_pos (show nI 0 = (0 : Int32) from rfl), y1, ev_bO, y3]
        · rw [e2, c1, c2 0 (by decide), ← mF_c]
        · have := h.2.2.2.2.2.2 k hk
          rw [show 29 * 0 + k = k by omega] at this
          rw [frP_I c5 (by omega), frP_I fm (by omega), frP_I fr1 (by omega), frP_I fX (by omega)]
          exact this
  · rw [if_neg (show ¬ nI 1 = (0 : Int32) by decide)]
    have run := run_L (n := n) hn hm hN hb s2
    obtain ⟨uX, uM0, e1, -, fx, -, -, o1⟩ := run w t2 tM
    have fX : frP (fun c k => (c = 0 ∧ k = 8) ∨ c = 189 ∨ (190 ≤ c ∧ c ≤ 201)) w uX := frP_trans f00 (frP_mono (fun c k z => by omega) fx)
    have uX8 : wI uX 0 8 = nI 0 := by rw [frP_I fx (by omega)]; exact u08
    rw [e1, ev_bO]
    rcases o1 with ⟨f, p, d1, d2⟩ | ⟨V, j, k1, k2⟩
    · obtain ⟨uX', uM, e1', e2, fx', fm, h9, o⟩ := run (rfX uX 1) (by unfold rfX; rw [ev_wIn _ (by omega), frP_I fX (by omega)]; exact t2) (fun k hk => by unfold rfX; rw [ev_wIn _ (by omega), frP_I fX (by omega)]; exact tM k hk)
      have eu : uX' = uX := Option.some.inj (e1'.symm.trans e1)
      subst eu
      rcases o with ⟨f', p', g1, g2⟩ | ⟨V, j, k1, k2⟩
      · exact ⟨_, _, _, KX_D g1, e2.trans (KM_D g2), tx_D hw fX g1 uX8 rfl fm g2 h9 rfl⟩
      · exact absurd (XA_0 k1.1) (XD_0 d1)
    · have hR : RXN A L F W uX := RXN_cg (RXN_of h) (fun c k _ _ => ⟨frP_I fX (by omega), frP_J fX (by omega)⟩)
      obtain ⟨w1, y1, -, -, fr1⟩ := law_X hR k2.1 k2.2.2
      obtain ⟨uX', uM, e1', e2, fx', fm, h9, o⟩ := run w1 (by rw [frP_I fr1 (by omega), frP_I fX (by omega)]; exact t2) (fun k hk => by rw [frP_I fr1 (by omega), frP_I fX (by omega)]; exact tM k hk)
      have eu : uX' = uX := Option.some.inj (e1'.symm.trans e1)
      subst eu
      rcases o with ⟨f', p', i1, i2⟩ | ⟨V', j', l1, l2⟩
      · exact absurd (XA_0 k1.1) (XD_0 i1)
      · obtain ⟨w1', y1', hR1, y3, fr1'⟩ := law_X hR l2.1 l2.2.2
        have ew : w1' = w1 := Option.some.inj (y1'.symm.trans y1)
        subst ew
        obtain ⟨w2, c1, c2, c3, c4, c5⟩ := KM_L (n := n) hn (show wI uM 205 15 = nI 0 from MA_0 l1.2)
        refine ⟨nI (V' 0), w1', w2, ?_, ?_, tx_A (G := F) hw h fX (XA_0 k1.1) uX8 (frP_mono (fun c k z => by omega) fr1) fm h9 (frP_mono (fun c k z => by omega) c5) c3 c4 hR1 (fun k hk => ?_) (fun k hk => by rw [c2 k hk]; exact l2.2.1 k hk)⟩
        · unfold KX
          rw [if_pos (XA_0 k1.1), if_neg (show ¬ nI 1 = (0 : Int32) by decide), y1, ev_bO, y3]
        · rw [e2, c1, c2 0 (by decide)]
          exact congrArg (fun x => some (x, w2)) (l2.2.1 0 (by decide))
        · have := h.2.2.2.2.2.1 k hk
          rw [show 645 * 0 + k = k by omega] at this
          rw [frP_I c5 (by omega), frP_I fm (by omega), frP_I fr1 (by omega), frP_I fX (by omega)]
          exact this
theorem s_text : fS_text RR := fun w a0 a1 hw => ⟨20000, s_text_n (by decide) w a0 a1 hw⟩
end HST
