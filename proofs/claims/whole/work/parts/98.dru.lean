/-! RULES and FASHION, both readers -/
def sx2 (n : Nat) (r5 r10 : Int64) (w : jWd) : Option jWd := bO (fX6_isAt (7 : Int32) w) (fun (r_14 : Int32) => if r_14 = 0 then tailX r5 r10 (wI w 190 1) w else bO (fX6_readTest n (0 : Int32) (sI w 189 5 ((wI w 189 5) + (1 : Int32)))) (fun (w_24 : jWd) => tailX r5 r10 (wI w 190 1) w_24))
def sx1 (n : Nat) (r5 : Int64) (w : jWd) : Option jWd := bO (fX6_take (6 : Int32) w) (fun (w_7 : jWd) => bO2 (fX6_readSide n (0 : Int32) w_7) (fun (r_10 : Int64) (w_9 : jWd) => sx2 n r5 r_10 w_9))
def sm1 (n : Nat) (x r9 : Int32) (w : jWd) : Option jWd := bO (fX12_needs n (0 : Int32) w) (fun (w_11 : jWd) => if (wI w_11 205 15) = 0 then bO2 (fX12_side n (((1935 : Int32) + (49 : Int32)) + ((4 : Int32) * x)) (0 : Int32) w_11) (fun (r_40 : Int32) (w_39 : jWd) => restM n x r9 r_40 w_39) else restM n x r9 (0 : Int32) w_11)
section FAS
variable {b : Nat → Nat} {N T d j n r : Nat} {wX wM uX uM w : jWd} {cs : List (Nat × Nat)}
theorem tX_D {f p : Nat} {x y : Int64} {a : Int32} (h : XD f p w) : tailX x y a w = some w := by
  unfold tailX
  rw [tk_XD h, ev_bO, if_neg (XD_0 h)]
theorem sx2_D {f p : Nat} {x y : Int64} (h : XD f p w) : sx2 n x y w = some w := by
  unfold sx2
  rw [at_D h, ev_bO, if_pos rfl, tX_D h]
theorem rsX_D {f p : Nat} {a : Int32} (hn : 0 < n) (h : XD f p w) : fX6_readSide n a w = some (0, w) := sx_D h hn
theorem sx1_D {f p : Nat} {x : Int64} (hn : 0 < n) (h : XD f p w) : sx1 n x w = some w := by
  unfold sx1
  rw [tk_XD h, ev_bO, rsX_D hn h, ev_bO2, sx2_D h]
theorem rm_D {f p : Nat} {x y z : Int32} (h : MD f p w) : restM n x y z w = some w := by
  unfold restM
  rw [if_neg (MD_0 h)]
theorem sm1_D {f p : Nat} {x y : Int32} (h : MD f p w) : sm1 n x y w = some w := by
  unfold sm1
  rw [tk_MD h, ev_bO, if_neg (MD_0 h), rm_D h]
theorem ruX_h {p : Nat} (h0 : wI w 190 0 = nI r) (hp : (p = 0 ∧ r < 12) ∨ (p = 1 ∧ r = 12)) : fX6_readRule n w = bO2 (fX6_readSide n (nI p) w) (fun (r_5 : Int64) (w_4 : jWd) => sx1 n r_5 w_4) := by
  unfold fX6_readRule
  rw [ev_letV, h0]
  rcases hp with ⟨rfl, h⟩ | ⟨rfl, rfl⟩
  · rw [if_pos (show nI r < (12 : Int32) from nI_lt (b := 12) h (by decide))]
    rfl
  · rw [if_neg (show ¬ nI 12 < (12 : Int32) by decide)]
    rfl
theorem ruM_h {p t : Nat} (h0 : wI w 211 1935 = nI r) (hp : (p = 0 ∧ r < 12 ∧ t = 1936 + 4 * r) ∨ (p = 1 ∧ r = 12 ∧ t = 1936)) : fX12_readRule n w = bO2 (fX12_side n (nI t) (nI p) w) (fun (r_9 : Int32) (w_8 : jWd) => sm1 n (nI r) r_9 w_8) := by
  unfold fX12_readRule
  rw [ev_letV, h0, ev_letV]
  rcases hp with ⟨rfl, h, rfl⟩ | ⟨rfl, rfl, rfl⟩
  · rw [if_neg (show ¬ nI r = (12 : Int32) from fun e => by have := (nI_eq (b := 12) (by omega) (by decide)).mp e; omega)]
    dsimp only
    rw [ev_letV, if_pos rfl]
    dsimp only
    have e : ((1935 : Int32) + (1 : Int32)) + ((4 : Int32) * nI r) = nI (1936 + 4 * r) := by
      rw [show (4 : Int32) * nI r = nI (4 * r) from pk_mul 4 r]
      exact nI_add 1936 _
    rw [e]
    rfl
  · rw [if_pos (show nI 12 = (12 : Int32) from rfl)]
    dsimp only
    rw [ev_letV, if_neg (show ¬ (1 : Int32) = 0 by decide)]
    dsimp only
    have e : ((1935 : Int32) + (1 : Int32)) + ((4 : Int32) * (0 : Int32)) = nI 1936 := by decide
    rw [e]
    rfl
theorem ruf_n : ∀ c k, PnM c k → RuF r c k := fun c k z => by
  unfold PnM at z
  exact .inl (by omega)
theorem ruf_t : ∀ c k, PtM c k → RuF r c k := fun c k z => by
  unfold PtM at z
  rcases z with z | z
  · exact .inl (by omega)
  · exact .inr (.inr (.inl z.2))
theorem ruf_s (hr : r < 12) : ∀ c k, PsM (1936 + 4 * r) c k → RuF r c k := fun c k z => by
  rcases z with z | ⟨e, z1, z2⟩
  · exact ruf_n c k z
  · exact .inr (.inr (.inr ⟨fun i hi => by unfold RuC; omega, by omega⟩))
theorem ruf_s2 (hr : r < 12) : ∀ c k, PsM (1984 + 4 * r) c k → RuF r c k := fun c k z => by
  rcases z with z | ⟨e, z1, z2⟩
  · exact ruf_n c k z
  · exact .inr (.inr (.inr ⟨fun i hi => by unfold RuC; omega, by omega⟩))
theorem ruf_w (hr : r < 12) : ∀ c k, (c = 211 ∧ (k = 2032 + r ∨ k = 2044 + r ∨ k = 2056 + r)) → RuF r c k := fun c k z => by
  exact .inr (.inr (.inr ⟨fun i hi => by unfold RuC; omega, by omega⟩))
theorem fif_n : ∀ c k, PnX c k → ¬ (190 ≤ c ∧ c ≤ 194 ∧ (c = 190 → k = 0) ∧ (c ≠ 190 → k < r)) := fun c k z => by unfold PnX at z; omega
theorem fif_t : ∀ c k, PtX c k → ¬ (190 ≤ c ∧ c ≤ 194 ∧ (c = 190 → k = 0) ∧ (c ≠ 190 → k < r)) := fun c k z => by unfold PtX at z; omega
theorem FI_f0 (hr : r ≤ 12) (h : FI r cs wX wM) (f1 : frP (fun c k => ¬ (190 ≤ c ∧ c ≤ 194 ∧ (c = 190 → k = 0) ∧ (c ≠ 190 → k < r))) wX uX) (f2 : frP (RuF r) wM uM) : FI r cs uX uM := by
  have := FI_fr [] hr h f1 f2
  rw [List.append_nil] at this
  exact this
theorem rs_M {m1 m2 : Nat} (h : BA b N T d j cs wX wM) (hr : r < 12) : ∃ v, restM n (nI r) (nI m1) (nI m2) wM = bO2 (fX12_eats n (1 : Int32) v) (fun (r_26 : Int32) (w_25 : jWd) => if r_26 = 0 then tailM n (nI r) w_25 else bO (fX12_test n w_25) (fun (w_37 : jWd) => tailM n (nI r) w_37)) ∧ BA b N T d j cs wX v ∧ wI v 211 (2032 + r) = nI m1 ∧ wI v 211 (2044 + r) = nI m2 ∧ wI v 211 (2056 + r) = nI cs.length ∧ frP (fun c k => c = 211 ∧ (k = 2032 + r ∨ k = 2044 + r ∨ k = 2056 + r)) wM v := by
  have l : ln 211 = 2580 := rfl
  have e1 : ((1935 : Int32) + (97 : Int32)) + nI r = nI (2032 + r) := nI_add 2032 r
  have e2 : ((1935 : Int32) + (109 : Int32)) + nI r = nI (2044 + r) := nI_add 2044 r
  have e3 : ((1935 : Int32) + (121 : Int32)) + nI r = nI (2056 + r) := nI_add 2056 r
  have b1 := BA_w (k := 2032 + r) (nI m1) h (by omega)
  have b2 := BA_w (k := 2044 + r) (nI m2) b1 (by omega)
  have b3 := BA_w (k := 2056 + r) (nI cs.length) b2 (by omega)
  refine ⟨_, ?_, b3, ?_, ?_, ev_wIs _ _ _ _, frP_trans (frP_trans (frP_sI _ _ (by omega)) (frP_sI _ _ (by omega))) (frP_sI _ _ (by omega))⟩
  · unfold restM letV
    dsimp only
    rw [if_pos (MA_0 h.1.2), e1, l, grd_N (by omega) (by decide), nI_clamp (by omega), e2, grd_N (by omega) (by decide), nI_clamp (by omega), e3, grd_N (by omega) (by decide), nI_clamp (by omega), b2.2.2.1.1]
  · rw [ev_wIn _ (by omega), ev_wIn _ (by omega)]; exact ev_wIs _ _ _ _
  · rw [ev_wIn _ (by omega)]; exact ev_wIs _ _ _ _
theorem ru_J (hn : 410 < n) (hr : r ≤ 12) (h : BA b N T 0 j cs wX wM) (hF : FI r cs wX wM) : ∃ uX uM, fX6_readRule n wX = some uX ∧ fX12_readRule n wM = some uM ∧ frP PfX wX uX ∧ frP PfM wM uM ∧ (BD uX uM ∨ (r < 12 ∧ ∃ j' cs', BA b N T 0 j' cs' uX uM ∧ FI (r + 1) cs' uX uM)) := by
  rcases (show r = 12 ∨ r < 12 by omega) with rfl | hlt
  · obtain ⟨x, y, uX, uM, s1, s2, s3, s4, s5⟩ := sd_J (t := 1936) (p := 1) hn (by decide) (by decide) (by decide) h
    rcases s5 with hd | ⟨z, -⟩
    · obtain ⟨⟨k, pp, d1, d2⟩, d3⟩ := id hd
      refine ⟨uX, uM, ?_, ?_, frP_mono pfx_n s3, frP_mono (pfm_s (by decide)) s4, .inl hd⟩
      · rw [ruX_h (p := 1) hF.1 (.inr ⟨rfl, rfl⟩), s1, ev_bO2, sx1_D (by omega) d1]
      · rw [ruM_h (p := 1) (t := 1936) hF.2.1 (.inr ⟨rfl, rfl, rfl⟩), s2, ev_bO2, sm1_D d2]
    · omega
  · obtain ⟨x1, y1, u1, v1, a1, a2, a3, a4, a5⟩ := sd_J (t := 1936 + 4 * r) (p := 0) hn (by decide) (by omega) (by omega) h
    have g1 := frP_mono pfx_n a3
    have g2 : frP PfM wM v1 := frP_mono (pfm_s (by omega)) a4
    rw [ruX_h (p := 0) hF.1 (.inl ⟨rfl, hlt⟩), a1, ev_bO2, ruM_h (p := 0) (t := 1936 + 4 * r) hF.2.1 (.inl ⟨rfl, hlt, rfl⟩), a2, ev_bO2]
    rcases a5 with hd | ⟨-, m1, p1, p2, rfl, rfl, p3, p4⟩
    · obtain ⟨⟨k, pp, d1, d2⟩, d3⟩ := id hd
      exact ⟨u1, v1, sx1_D (by omega) d1, sm1_D d2, g1, g2, .inl hd⟩
    obtain ⟨u2, v2, b1, b2, b3, b4, b5⟩ := tk_J (k := 0) (cX := 6) (cM := 0) hn p4.1 (by decide) rfl rfl
    have g3 := frP_trans g1 (frP_mono pfx_n b3)
    have g4 := frP_trans g2 (frP_mono pfm_n b4)
    have e84 : ((1935 : Int32) + (49 : Int32)) + ((4 : Int32) * nI r) = nI (1984 + 4 * r) := by
      rw [show (4 : Int32) * nI r = nI (4 * r) from pk_mul 4 r]
      exact nI_add 1984 _
    unfold sx1 sm1
    rw [b1, ev_bO, b2, ev_bO, e84]
    rcases b5 with ⟨k, pp, d1, d2⟩ | ⟨q0, b6⟩
    · exact ⟨u2, v2, by rw [rsX_D (by omega) d1, ev_bO2, sx2_D d1], by rw [if_neg (MD_0 d2), rm_D d2], g3, g4, .inl ⟨⟨k, pp, d1, d2⟩, BC_fr (BA_BC p4) b3⟩⟩
    have hk0 := kd_1 (b := b) (N := N) (j := j + m1) (by omega)
    have o1 := BA_to p4 b3 b4 b6 (by omega)
    obtain ⟨x2, y2, u3, v3, c1, c2, c3, c4, c5⟩ := sd_J (t := 1984 + 4 * r) (p := 0) hn (by decide) (by omega) (by omega) o1
    have g5 := frP_trans g3 (frP_mono pfx_n c3)
    have g6 := frP_trans g4 (frP_mono (pfm_s (show 1935 ≤ 1984 + 4 * r by omega)) c4)
    rw [show (0 : Int32) = nI 0 from rfl, c1, ev_bO2, if_pos (show wI v2 205 15 = nI 0 from MA_0 o1.1.2), c2, ev_bO2]
    rcases c5 with hd | ⟨-, m2, q1, q2, rfl, rfl, q3, q4⟩
    · obtain ⟨⟨k, pp, d1, d2⟩, d3⟩ := id hd
      exact ⟨u3, v3, sx2_D d1, rm_D d2, g5, g6, .inl hd⟩
    obtain ⟨v4, r1, r2, r3, r4, r5, r6⟩ := rs_M (n := n) (m1 := m1) (m2 := m2) q4 hlt
    have g7 : frP PfM wM v4 := frP_trans g6 (frP_mono (fun c k z => by unfold PfM; omega) r6)
    have fi1 := FI_f0 hr hF (frP_mono fif_n a3) (frP_mono (ruf_s hlt) a4)
    have fi2 := FI_f0 hr fi1 (frP_mono fif_n b3) (frP_mono ruf_n b4)
    have fi3 := FI_f0 hr fi2 (frP_mono fif_n c3) (frP_mono (ruf_s2 hlt) c4)
    have fi4 := FI_f0 hr fi3 (frP_refl _ _) (frP_mono (ruf_w hlt) r6)
    have w1 : ∀ k, k < m1 → 1 ≤ nuT b N (j + k) ∧ nuT b N (j + k) ≤ 255 ∧ wI v4 211 (1936 + 4 * r + k) = nI (nuT b N (j + k)) := fun k hk => by
      obtain ⟨z1, z2, z3⟩ := p3 k hk
      refine ⟨z1, z2, ?_⟩
      rw [frP_I r6 (by omega), frP_I c4 (by unfold PsM PnM; omega), frP_I b4 (by unfold PnM; omega)]
      exact z3
    have w2 : ∀ k, k < m2 → 1 ≤ nuT b N (j + m1 + 1 + k) ∧ nuT b N (j + m1 + 1 + k) ≤ 255 ∧ wI v4 211 (1984 + 4 * r + k) = nI (nuT b N (j + m1 + 1 + k)) := fun k hk => by
      obtain ⟨z1, z2, z3⟩ := q3 k hk
      refine ⟨z1, z2, ?_⟩
      rw [frP_I r6 (by omega)]
      exact z3
    rw [r1]
    unfold sx2
    by_cases qif : kdT b N (j + m1 + 1 + m2) = 1
    · have hk1 := kd_1 (b := b) (N := N) (j := j + m1 + 1 + m2) (by omega)
      obtain ⟨v5, n1, n2, n3, n4, n5⟩ := BA_adv (n := n) hn r2 (by omega)
      obtain ⟨u6, v6, t1, t2, t3, t4, t5⟩ := tst_J hn n3
      rw [at_y r2.1.1 (k := 1) (c := 7) (by decide) rfl qif, ev_bO, if_neg (show ¬ (1 : Int32) = 0 by decide), n2, t1, ev_bO, ea_nx r2.1.2 (k := 1) (c := 1) rfl qif n1, ev_bO2, if_neg (show ¬ (1 : Int32) = 0 by decide), t2, ev_bO]
      have g8 := frP_trans g5 (frP_trans (frP_mono pfx_n n4) (frP_mono pfx_t t3))
      have g9 := frP_trans g7 (frP_trans (frP_mono pfm_n n5) (frP_mono pfm_t t4))
      rcases t5 with ⟨⟨k, pp, d1, d2⟩, d3⟩ | ⟨j3, nw, o2, o3, o4, o5⟩
      · obtain ⟨v7, z1, z2, z3⟩ := tl_D (n := n) hlt d2
        exact ⟨u6, v7, tX_D d1, z1, g8, frP_trans g9 z3, .inl ⟨⟨k, pp, d1, z2⟩, d3⟩⟩
      · have fi5 := FI_f0 hr fi4 (frP_mono fif_n n4) (frP_mono ruf_n n5)
        have fi6 := FI_fr nw hr fi5 (frP_mono fif_t t3) (frP_mono ruf_t t4)
        have f46 : frP (fun c k => c = 205 ∨ (c = 211 ∧ 2080 ≤ k)) v4 v6 := frP_trans (frP_mono (fun c k z => by unfold PnM at z; omega) n5) (frP_mono (fun c k z => by unfold PtM at z; omega) t4)
        have el : (cs ++ nw).length = cs.length + nw.length := List.length_append
        obtain ⟨u7, v7, s1, s2, s3, s4, s5⟩ := tl_F (r := r) (m1 := m1) (m2 := m2) (a := cs.length) (f := fun k => nuT b N (j + k)) (g := fun k => nuT b N (j + m1 + 1 + k)) hn o3 hlt fi6 ⟨p1, p2⟩ ⟨q1, q2⟩ (fun k hk => by
          obtain ⟨z1, z2, z3⟩ := w1 k hk
          exact ⟨z1, z2, by rw [frP_I f46 (by omega)]; exact z3⟩) (fun k hk => by
          obtain ⟨z1, z2, z3⟩ := w2 k hk
          exact ⟨z1, z2, by rw [frP_I f46 (by omega)]; exact z3⟩) (by omega) ⟨by rw [frP_I f46 (by omega)]; exact r3, by rw [frP_I f46 (by omega)]; exact r4, by rw [frP_I f46 (by omega)]; exact r5⟩ (fun _ => ⟨cs, nw, rfl, rfl, o5 0 (Nat.le_refl 0)⟩)
        rw [r2.2.1.1]
        refine ⟨u7, v7, s1, s2, frP_trans g8 s3, frP_trans g9 s4, ?_⟩
        rcases s5 with s5 | s5
        · exact .inl s5
        · exact .inr ⟨hlt, s5⟩
    · obtain ⟨u7, v7, s1, s2, s3, s4, s5⟩ := tl_F (r := r) (m1 := m1) (m2 := m2) (a := cs.length) (f := fun k => nuT b N (j + k)) (g := fun k => nuT b N (j + m1 + 1 + k)) hn r2 hlt fi4 ⟨p1, p2⟩ ⟨q1, q2⟩ w1 w2 (Nat.le_refl _) ⟨r3, r4, r5⟩ (fun z => absurd z (Nat.lt_irrefl _))
      rw [at_n r2.1.1 (k := 1) (c := 7) (by decide) rfl qif, ev_bO, if_pos (show (0 : Int32) = 0 from rfl), ea_n r2.1.2 (k := 1) (c := 1) (by decide) rfl qif, ev_bO2, if_pos (show (0 : Int32) = 0 from rfl), r2.2.1.1]
      refine ⟨u7, v7, s1, s2, frP_trans g5 s3, frP_trans g7 s4, ?_⟩
      rcases s5 with s5 | s5
      · exact .inl s5
      · exact .inr ⟨hlt, s5⟩
theorem lf_D {f p g : Nat} {x : Int32} (h : XD f p w) (hg : 0 < g) : lX6_readFashion_9 n g x w = some w := by
  obtain ⟨g, rfl⟩ : ∃ k, g = k + 1 := ⟨g - 1, by omega⟩
  show bX6_readFashion_9 n (lX6_readFashion_9 n g) x w = _
  unfold bX6_readFashion_9
  rw [if_neg (XD_0 h)]
  split <;> rfl
theorem lt_D {f p g : Nat} {x : Int32} (K : jWd → Option (Int32 × jWd)) (h : MD f p w) (hg : 0 < g) : lX12_text_110 n x K g w = K w := by
  obtain ⟨g, rfl⟩ : ∃ k, g = k + 1 := ⟨g - 1, by omega⟩
  show bX12_text_110 n x K (lX12_text_110 n x K g) w = _
  unfold bX12_text_110
  rw [if_neg (MD_0 h)]
theorem fa_J (hn : 410 < n) (K : jWd → Option (Int32 × jWd)) : ∀ c r f g j cs wX wM, r + c = 12 → c + 1 < f → c + 1 < g → BA b N T 0 j cs wX wM → FI r cs wX wM → ∃ uX uM, lX6_readFashion_9 n f (nI r) wX = some uX ∧ lX12_text_110 n (0 : Int32) K g wM = K uM ∧ frP PfX wX uX ∧ frP PfM wM uM ∧ (BD uX uM ∨ ∃ r' j' cs', r' ≤ 12 ∧ BA b N T 0 j' cs' uX uM ∧ FI r' cs' uX uM) := by
  intro c
  induction c with
  | zero =>
    intro r f g j cs wX wM hc hf hg h hF
    obtain ⟨f, rfl⟩ : ∃ k, f = k + 1 := ⟨f - 1, by omega⟩
    obtain ⟨g, rfl⟩ : ∃ k, g = k + 1 := ⟨g - 1, by omega⟩
    have h13 : wI wM 205 13 = nI (kdT b N j) := h.1.2.2.1.2.2.1
    have kl := kd_le b N j
    show ∃ uX uM, bX6_readFashion_9 n (lX6_readFashion_9 n f) (nI r) wX = some uX ∧ bX12_text_110 n (0 : Int32) K (lX12_text_110 n (0 : Int32) K g) wM = K uM ∧ _
    unfold bX6_readFashion_9 bX12_text_110 letV
    dsimp only
    rw [if_neg (show ¬ (12 : Int32) < nI r from nI_nlt (a := 12) (by omega) (by decide)), if_pos (XA_0 h.1.1), if_pos (MA_0 h.1.2), h13]
    by_cases q : kdT b N j = 18
    · rw [at_y h.1.1 (k := 18) (c := 0) (by decide) rfl q, ev_bO, if_neg (by decide), q, if_pos (show nI 18 = (18 : Int32) from rfl)]
      exact ⟨wX, wM, rfl, rfl, frP_refl _ _, frP_refl _ _, .inr ⟨r, j, cs, by omega, h, hF⟩⟩
    · obtain ⟨uX, uM, s1, s2, s3, s4, s5⟩ := ru_J hn (by omega) h hF
      rw [at_n h.1.1 (k := 18) (c := 0) (by decide) rfl q, ev_bO, if_pos rfl, s1, ev_bO, if_neg (show ¬ nI (kdT b N j) = (18 : Int32) from fun e => q ((nI_eq (b := 18) (by omega) (by decide)).mp e)), s2]
      rcases s5 with ⟨⟨k, p, d1, d2⟩, d3⟩ | ⟨z, -⟩
      · refine ⟨uX, uM, lf_D d1 (by omega), ?_, s3, s4, .inl ⟨⟨k, p, d1, d2⟩, d3⟩⟩
        exact lt_D K d2 (by omega)
      · omega
  | succ c ih =>
    intro r f g j cs wX wM hc hf hg h hF
    obtain ⟨f, rfl⟩ : ∃ k, f = k + 1 := ⟨f - 1, by omega⟩
    obtain ⟨g, rfl⟩ : ∃ k, g = k + 1 := ⟨g - 1, by omega⟩
    have h13 : wI wM 205 13 = nI (kdT b N j) := h.1.2.2.1.2.2.1
    have kl := kd_le b N j
    show ∃ uX uM, bX6_readFashion_9 n (lX6_readFashion_9 n f) (nI r) wX = some uX ∧ bX12_text_110 n (0 : Int32) K (lX12_text_110 n (0 : Int32) K g) wM = K uM ∧ _
    unfold bX6_readFashion_9 bX12_text_110 letV
    dsimp only
    rw [if_neg (show ¬ (12 : Int32) < nI r from nI_nlt (a := 12) (by omega) (by decide)), if_pos (XA_0 h.1.1), if_pos (MA_0 h.1.2), h13]
    by_cases q : kdT b N j = 18
    · rw [at_y h.1.1 (k := 18) (c := 0) (by decide) rfl q, ev_bO, if_neg (by decide), q, if_pos (show nI 18 = (18 : Int32) from rfl)]
      exact ⟨wX, wM, rfl, rfl, frP_refl _ _, frP_refl _ _, .inr ⟨r, j, cs, by omega, h, hF⟩⟩
    · obtain ⟨uX, uM, s1, s2, s3, s4, s5⟩ := ru_J hn (by omega) h hF
      rw [at_n h.1.1 (k := 18) (c := 0) (by decide) rfl q, ev_bO, if_pos rfl, s1, ev_bO, if_neg (show ¬ nI (kdT b N j) = (18 : Int32) from fun e => q ((nI_eq (b := 18) (by omega) (by decide)).mp e)), s2, nI_1]
      rcases s5 with ⟨⟨k, p, d1, d2⟩, d3⟩ | ⟨z, j1, cs1, o1, o2⟩
      · refine ⟨uX, uM, lf_D d1 (by omega), ?_, s3, s4, .inl ⟨⟨k, p, d1, d2⟩, d3⟩⟩
        exact lt_D K d2 (by omega)
      · obtain ⟨u2, v2, i1, i2, i3, i4, i5⟩ := ih (r + 1) f g j1 cs1 uX uM (by omega) (by omega) (by omega) o1 o2
        exact ⟨u2, v2, i1, i2, frP_trans s3 i3, frP_trans s4 i4, i5⟩
/-! what was read, as numbers -/
def mF (w : jWd) (k : Nat) : Nat := (wI w 211 (1935 + k)).toBitVec.toNat
theorem nI_tn (x : Int32) : nI x.toBitVec.toNat = x := by
  apply Int32.toBitVec_inj.mp
  show BitVec.ofNat 32 x.toBitVec.toNat = x.toBitVec
  exact BitVec.eq_of_toNat_eq (by rw [BitVec.toNat_ofNat]; exact Nat.mod_eq_of_lt x.toBitVec.isLt)
theorem tn_nI {v : Nat} (h : v < 2147483648) : (nI v).toBitVec.toNat = v := by
  show (BitVec.ofNat 32 v).toNat = v
  rw [BitVec.toNat_ofNat]
  exact Nat.mod_eq_of_lt (by omega)
theorem mF_c (w : jWd) (k : Nat) : nI (mF w k) = wI w 211 (1935 + k) := nI_tn _
theorem mF_n {k c v : Nat} (hc : 1935 + k = c) (h : wI w 211 c = nI v) (hv : v < 2147483648) : mF w k = v := by
  unfold mF
  rw [hc, h, tn_nI hv]
theorem htF_L {F : Nat → Nat} : ∀ (l : List (Nat × Nat)) i h, (∀ k, k < l.length → F (145 + 2 * (i + k)) = (cdL l k).1 ∧ F (146 + 2 * (i + k)) = (cdL l k).2) → htF F l.length i h = htL l h
  | [], _, _, _ => rfl
  | p :: l, i, h, q => by
    have q0 := q 0 (Nat.succ_pos _)
    rw [Nat.add_zero] at q0
    have e1 : F (145 + 2 * i) = p.1 := q0.1
    have e2 : F (146 + 2 * i) = p.2 := q0.2
    have ih : ∀ h, htF F l.length (i + 1) h = htL l h := fun h => htF_L l (i + 1) h (fun k hk => by
      have := q (k + 1) (Nat.succ_lt_succ hk)
      rw [show i + 1 + k = i + (k + 1) by omega]
      exact this)
    show (if F (145 + 2 * i) = 2 then (if 1 ≤ h then htF F l.length (i + 1) h else none) else if F (145 + 2 * i) = 3 ∨ F (145 + 2 * i) = 4 then (if 2 ≤ h then htF F l.length (i + 1) (h - 1) else none) else if (5 ≤ F (145 + 2 * i) ∧ F (145 + 2 * i) ≤ 7 ∧ F (146 + 2 * i) ≤ 255 ∧ (F (145 + 2 * i) = 5 → 1 ≤ F (146 + 2 * i)) ∧ h < 60) then htF F l.length (i + 1) (h + 1) else none) = htL (p :: l) h
    rw [e1, e2, ih, ih, ih]
    rfl
theorem pkW_cg {f g : Nat → Nat} : ∀ m, (∀ k, k < m → f k = g k) → pkW f m = pkW g m
  | 0, _ => rfl
  | m + 1, h => by
    show pkW f m ||| _ = pkW g m ||| _
    rw [pkW_cg m (fun k hk => h k (by omega)), h m (by omega)]
theorem FI_out (hr : r ≤ 12) (h : BA b N T 0 j cs wX wM) (hF : FI r cs wX wM) : InF (mF wM) ∧ FX (mF wM) 190 wX ∧ mF wM 0 = r := by
  obtain ⟨a1, ⟨a2, b2⟩, ⟨a3, b3⟩, a4, a5, a6⟩ := h
  have h1 := st_b (b := b) (N := N) j
  have h2 := a1.1.1.2.1
  have e0 : mF wM 0 = r := mF_n rfl hF.2.1 (by omega)
  have ec : ∀ i, i < cs.length → mF wM (145 + 2 * i) = (cdL cs i).1 ∧ mF wM (146 + 2 * i) = (cdL cs i).2 := fun i hi => by
    have := a4 i
    exact ⟨mF_n (by omega) (b3 i hi).1 (by omega), mF_n (by omega) (b3 i hi).2 (by omega)⟩
  refine ⟨⟨by omega, fun i hi => ?_⟩, ⟨by rw [e0]; exact hF.1, fun i hi => ?_⟩, e0⟩
  · rw [e0] at hi
    obtain ⟨m1, m2, f, g, a, e, k1, k2, k3, k4, k5, k6, -, ⟨y1, y2, y3, y4⟩, z⟩ := hF.2.2 i hi
    have f1 : mF wM (97 + i) = m1 := mF_n (by omega) y1 (by omega)
    have f2 : mF wM (109 + i) = m2 := mF_n (by omega) y2 (by omega)
    have f3 : mF wM (121 + i) = a := mF_n (by omega) y3 (by omega)
    have f4 : mF wM (133 + i) = e := mF_n (by omega) y4 (by omega)
    rw [f1, f2, f3, f4]
    refine ⟨k1, k2, fun k hk => ?_, fun k hk => ?_, k5, by omega, fun q => ?_⟩
    · obtain ⟨z1, z2, z3⟩ := k3 k hk
      rw [mF_n (k := 1 + 4 * i + k) (by omega) z3 (by omega)]
      exact ⟨z1, z2⟩
    · obtain ⟨z1, z2, z3⟩ := k4 k hk
      rw [mF_n (k := 49 + 4 * i + k) (by omega) z3 (by omega)]
      exact ⟨z1, z2⟩
    · obtain ⟨l1, nw, l3, q1, q2, q3, q4⟩ := z q
      rw [show e - a = nw.length by omega, htF_L nw a 0 (fun k hk => ?_), q4]
      have e1 : cdL cs (a + k) = cdL nw k := by rw [q1, ← q2, cdL_r, cdL_l nw l3 k hk]
      have e2 := ec (a + k) (by omega)
      rw [e1] at e2
      exact e2
  · rw [e0] at hi
    obtain ⟨m1, m2, f, g, a, e, k1, k2, k3, k4, k5, k6, ⟨x1, x2, x3, x4⟩, ⟨y1, y2, y3, y4⟩, z⟩ := hF.2.2 i hi
    have f1 : mF wM (97 + i) = m1 := mF_n (by omega) y1 (by omega)
    have f2 : mF wM (109 + i) = m2 := mF_n (by omega) y2 (by omega)
    have f3 : mF wM (121 + i) = a := mF_n (by omega) y3 (by omega)
    have f4 : mF wM (133 + i) = e := mF_n (by omega) y4 (by omega)
    rw [f1, f2, f3, f4]
    refine ⟨x1.trans (pkW_cg m1 (fun k hk => ?_)), x2.trans (pkW_cg m2 (fun k hk => ?_)), x3, x4, fun q q1 q2 => ?_⟩
    · obtain ⟨z1, z2, z3⟩ := k3 k hk
      exact (mF_n (k := 1 + 4 * i + k) (by omega) z3 (by omega)).symm
    · obtain ⟨z1, z2, z3⟩ := k4 k hk
      exact (mF_n (k := 49 + 4 * i + k) (by omega) z3 (by omega)).symm
    · rw [(ec q (by omega)).1, (ec q (by omega)).2]
      exact b2 q (by omega)
end FAS
