/-! texts: both readers, step by step -/
def kdT (b : Nat → Nat) (N j : Nat) : Nat := knR b N (stT b N j)
def nuT (b : Nat → Nat) (N j : Nat) : Nat := nuS b N (stT b N j)
def flT (b : Nat → Nat) (N j f : Nat) : Nat := if kdT b N j = 19 then 1 else f
def TkA (b : Nat → Nat) (N T : Nat) (w : jWd) : Prop := T ≤ N ∧ N ≤ 400 ∧ (∀ k, b k < 256) ∧ stT b N T = N ∧ (∀ k, k < T → stT b N k < N) ∧ wI w 189 4 = nI (T + 1) ∧ ∀ j, j ≤ T → wI w 199 j = nI (cmK (kdT b N j)) ∧ wI w 201 j = nI (stT b N j) ∧ (kdT b N j = 14 → wI w 200 j = nI (nuT b N j))
/-- the class at TOKEN j, without a FAULT; with one -/
def XA (b : Nat → Nat) (N T j : Nat) (w : jWd) : Prop := TkA b N T w ∧ wI w 189 2 = nI 0 ∧ wI w 189 5 = nI j ∧ j ≤ T
def XD (f p : Nat) (w : jWd) : Prop := 1 ≤ f ∧ f ≤ 5 ∧ p ≤ 400 ∧ wI w 189 2 = nI f ∧ wI w 189 3 = nI p
/-- the reference likewise -/
def MA (b : Nat → Nat) (N j : Nat) (w : jWd) : Prop := TpM b N w ∧ LxS b N (stT b N j) w ∧ wI w 205 15 = nI 0
def MD (f p : Nat) (w : jWd) : Prop := 1 ≤ f ∧ f ≤ 5 ∧ p ≤ 400 ∧ wI w 205 15 = nI f ∧ wI w 205 16 = nI p
def JA (b : Nat → Nat) (N T j : Nat) (wX wM : jWd) : Prop := XA b N T j wX ∧ MA b N j wM
def JD (wX wM : jWd) : Prop := ∃ f p, XD f p wX ∧ MD f p wM
def PnX (c k : Nat) : Prop := c = 189 ∧ (k = 2 ∨ k = 3 ∨ k = 5)
def PnM (c k : Nat) : Prop := c = 205 ∧ (k = 10 ∨ k = 11 ∨ k = 13 ∨ k = 14 ∨ k = 15 ∨ k = 16)
section PRS
variable {b : Nat → Nat} {N T j n : Nat} {wX wM w w' : jWd}
theorem kd_le (b : Nat → Nat) (N j : Nat) : kdT b N j ≤ 19 := knR_le b N (stT b N j)
theorem kd_T (h : stT b N T = N) : kdT b N T = 18 := by
  unfold kdT knR
  rw [h, if_pos (Nat.le_refl N)]
theorem kd_ltT (h : TkA b N T w) (hj : j ≤ T) (hk : kdT b N j ≠ 18) : j < T := by
  rcases Nat.lt_or_ge j T with q | q
  · exact q
  · have e : j = T := by omega
    rw [e] at hk
    exact absurd (kd_T h.2.2.2.1) hk
theorem kd_s (hk : kdT b N j ≠ 18) : stT b N j < N := by
  rcases Nat.lt_or_ge (stT b N j) N with q | q
  · exact q
  · refine absurd ?_ hk
    unfold kdT knR
    rw [if_pos q]
theorem kd_1 (hk : kdT b N j ≠ 18) : stT b N j < stT b N (j + 1) := (st_s (kd_s hk)).1
theorem kd_2 {k : Nat} (hk : kdT b N j = k) (h : k < 13) : stT b N j + 2 ≤ stT b N (j + 1) := by
  obtain ⟨a, e⟩ := knR_len (b := b) (N := N) (s := stT b N j) hk h
  have h1 := (st_s (b := b) (N := N) (j := j) a).2
  have l : ∀ k, k < 13 → 2 ≤ (kwL.getD k []).length := by decide
  have h2 := l k h
  omega
theorem nuB_le (hb : ∀ k, b k < 256) : ∀ c p x, nuB b c p x ≤ 10 ^ c * (x + 30)
  | 0, p, x => by
    show x ≤ 10 ^ 0 * (x + 30)
    rw [Nat.pow_zero]
    omega
  | c + 1, p, x => by
    have h := nuB_le hb c (p + 1) (10 * x + b p - 48)
    have h2 := hb p
    show nuB b c (p + 1) (10 * x + b p - 48) ≤ _
    refine Nat.le_trans h ?_
    rw [Nat.pow_succ, Nat.mul_assoc]
    exact Nat.mul_le_mul_left _ (by omega)
theorem kn14 {s : Nat} (q : knR b N s = 14) : en b N s - s ≤ 3 := by
  unfold knR at q
  have := kyR_le (blL b (en b N s - s) s)
  split at q
  · omega
  split at q
  · omega
  split at q
  · split at q
    · assumption
    · omega
  repeat' split at q
  all_goals omega
theorem nuT_le (hb : ∀ k, b k < 256) (q : kdT b N j = 14) : nuT b N j ≤ 30000 := by
  have h := nuB_le hb (en b N (stT b N j) - stT b N j) (stT b N j) 0
  have h3 := kn14 q
  refine Nat.le_trans h ?_
  have : ∀ c, c ≤ 3 → 10 ^ c * (0 + 30) ≤ 30000 := by decide
  exact this _ h3
theorem TkA_fr (h : TkA b N T w) (f : frP (fun c k => (c = 189 ∧ k ≠ 4) ∨ (190 ≤ c ∧ c ≤ 198)) w w') : TkA b N T w' := by
  obtain ⟨h1, h2, h3, h4, h5, h6, h7⟩ := h
  refine ⟨h1, h2, h3, h4, h5, by rw [frP_I f (by omega)]; exact h6, fun j hj => ?_⟩
  rw [frP_I f (by omega), frP_I f (by omega), frP_I f (by omega)]
  exact h7 j hj
theorem XA_fr (h : XA b N T j w) (f : frP (fun c _ => 190 ≤ c ∧ c ≤ 198) w w') : XA b N T j w' := by
  obtain ⟨h1, h2, h3, h4⟩ := h
  exact ⟨TkA_fr h1 (frP_mono (fun c k z => .inr z) f), by rw [frP_I f (by omega)]; exact h2, by rw [frP_I f (by omega)]; exact h3, h4⟩
theorem MA_fr (h : MA b N j w) (f : frP (fun c k => (c = 205 ∧ (k = 16 ∨ k = 17 ∨ k = 18)) ∨ c = 211 ∨ c = 212) w w') : MA b N j w' := by
  obtain ⟨⟨h1, h2, h3, h4⟩, ⟨h5, h6, h7, h8⟩, h9⟩ := h
  refine ⟨⟨h1, h2, by rw [frP_I f (by omega)]; exact h3, fun k hk => by rw [frP_I f (by omega)]; exact h4 k hk⟩, ⟨by rw [frP_I f (by omega)]; exact h5, by rw [frP_I f (by omega)]; exact h6, by rw [frP_I f (by omega)]; exact h7, fun q => by rw [frP_I f (by omega)]; exact h8 q⟩, by rw [frP_I f (by omega)]; exact h9⟩
theorem XD_fr {f p : Nat} (h : XD f p w) (q : frP (fun c k => ¬ (c = 189 ∧ (k = 2 ∨ k = 3))) w w') : XD f p w' := by
  obtain ⟨h1, h2, h3, h4, h5⟩ := h
  exact ⟨h1, h2, h3, by rw [frP_I q (by omega)]; exact h4, by rw [frP_I q (by omega)]; exact h5⟩
theorem MD_fr {f p : Nat} (h : MD f p w) (q : frP (fun c k => ¬ (c = 205 ∧ (k = 15 ∨ k = 16))) w w') : MD f p w' := by
  obtain ⟨h1, h2, h3, h4, h5⟩ := h
  exact ⟨h1, h2, h3, by rw [frP_I q (by omega)]; exact h4, by rw [frP_I q (by omega)]; exact h5⟩
/-! the class's steps -/
theorem XA_0 (h : XA b N T j w) : wI w 189 2 = 0 := h.2.1
theorem XD_0 {f p : Nat} (h : XD f p w) : ¬ wI w 189 2 = 0 := by
  rw [h.2.2.2.1]
  exact nI_ne0 (by have := h.1; omega) (by have := h.2.1; omega)
theorem tk_at {k : Nat} {c : Int32} (h : XA b N T j w) (hk : k < 20) (hc : c = nI (cmK k)) : fX6_isAt c w = some (bI (decide (kdT b N j = k))) := by
  obtain ⟨⟨hT, hN, hb, t1, t2, t4, t5⟩, h2, h5, hj⟩ := h
  have l9 : ln 199 = 401 := rfl
  obtain ⟨e1, e2, e3⟩ := t5 j hj
  have b1 : ∀ a, a < 20 → cmK a < 20 := by decide
  have b2 : ∀ a, a < 20 → ∀ c, c < 20 → cmK a = cmK c → a = c := by decide +kernel
  have kl := kd_le b N j
  have c1 := b1 (kdT b N j) (by omega)
  have c2 := b1 k hk
  unfold fX6_isAt
  rw [h2, if_pos (show nI 0 = (0 : Int32) from rfl), h5, if_neg (nI_pos (by omega)), t4, if_neg (nI_ge (by omega) (by omega)), l9, grd_N (by omega) (by decide), nI_clamp (by omega), e1, hc]
  by_cases q : kdT b N j = k
  · rw [decide_eq_true q, if_pos (by rw [q])]
    rfl
  · rw [decide_eq_false q, if_neg (fun z => q (b2 _ (by omega) _ hk ((nI_eq (by omega) (by omega)).mp z)))]
    rfl
theorem at_y {k : Nat} {c : Int32} (h : XA b N T j w) (hk : k < 20) (hc : c = nI (cmK k)) (q : kdT b N j = k) : fX6_isAt c w = some (1 : Int32) := by
  rw [tk_at h hk hc, decide_eq_true q]
  rfl
theorem at_n {k : Nat} {c : Int32} (h : XA b N T j w) (hk : k < 20) (hc : c = nI (cmK k)) (q : ¬ kdT b N j = k) : fX6_isAt c w = some (0 : Int32) := by
  rw [tk_at h hk hc, decide_eq_false q]
  rfl
theorem at_D {f p : Nat} {c : Int32} (h : XD f p w) : fX6_isAt c w = some (0 : Int32) := by
  unfold fX6_isAt
  rw [if_neg (XD_0 h)]
theorem bl_D {f p : Nat} {c : Int32} (h : XD f p w) : fX6_blame c w = some w := by
  unfold fX6_blame
  rw [if_neg (XD_0 h)]
theorem bl_X {f : Nat} (h : XA b N T j w) (h1 : 1 ≤ f) (hf : f ≤ 5) : ∃ u, fX6_blame (nI f) w = some u ∧ XD (flT b N j f) (stT b N j) u ∧ frP (fun c k => c = 189 ∧ (k = 2 ∨ k = 3)) w u := by
  obtain ⟨⟨hT, hN, hb, t1, t2, t4, t5⟩, h2, h5, hj⟩ := h
  have l9 : ln 199 = 401 := rfl
  have l1 : ln 201 = 401 := rfl
  obtain ⟨e1, e2, e3⟩ := t5 j hj
  have kl := kd_le b N j
  have hst := st_b (b := b) (N := N) j
  have key : ∀ s : Nat, 1 ≤ s → s ≤ 5 → XD s (stT b N j) (sI (sI w 189 2 (nI s)) 189 3 (nI (stT b N j))) ∧ frP (fun c k => c = 189 ∧ (k = 2 ∨ k = 3)) w (sI (sI w 189 2 (nI s)) 189 3 (nI (stT b N j))) := fun s s1 s2 => ⟨⟨s1, s2, by omega, by rw [ev_wIn _ (by omega)]; exact ev_wIs _ _ _ _, ev_wIs _ _ _ _⟩, frP_trans (frP_sI _ _ (by omega)) (frP_sI _ _ (by omega))⟩
  have b1 : ∀ a, a < 20 → cmK a < 20 := by decide
  have b2 : ∀ a, a < 20 → (cmK a = 1 ↔ a = 19) := by decide
  have c1 := b1 (kdT b N j) (by omega)
  have c2 := b2 (kdT b N j) (by omega)
  unfold fX6_blame letV
  dsimp only
  rw [h2, if_pos (show nI 0 = (0 : Int32) from rfl), h5, if_neg (nI_pos (by omega)), t4, if_pos (nI_lt (by omega) (by omega)), l9, grd_N (by omega) (by decide), nI_clamp (by omega), e1]
  unfold flT
  by_cases q : kdT b N j = 19
  · rw [if_pos q, if_pos (show nI (cmK (kdT b N j)) = (1 : Int32) by rw [c2.mpr q]; rfl), ev_wIn _ (by omega), h5, l1, grd_N (by omega) (by decide), nI_clamp (by omega), ev_wIn _ (by omega), e2]
    exact ⟨_, rfl, key 1 (by decide) (by decide)⟩
  · rw [if_neg q, if_neg (show ¬ nI (cmK (kdT b N j)) = (1 : Int32) from fun z => q (c2.mp ((nI_eq (b := 1) (by omega) (by decide)).mp z))), ev_wIn _ (by omega), h5, l1, grd_N (by omega) (by decide), nI_clamp (by omega), ev_wIn _ (by omega), e2]
    exact ⟨_, rfl, key f h1 hf⟩
theorem tk_ad (h : XA b N T j w) (hk : kdT b N j ≠ 18) : sI w 189 5 (wI w 189 5 + (1 : Int32)) = sI w 189 5 (nI (j + 1)) ∧ XA b N T (j + 1) (sI w 189 5 (nI (j + 1))) := by
  obtain ⟨h1, h2, h3, h4⟩ := h
  have hj := kd_ltT h1 h4 hk
  exact ⟨by rw [h3, nI_1], TkA_fr h1 (frP_sI _ _ (.inl ⟨rfl, by decide⟩)), by rw [ev_wIn _ (by omega)]; exact h2, ev_wIs _ _ _ _, hj⟩
/-! the reference's steps -/
theorem MA_0 (h : MA b N j w) : wI w 205 15 = 0 := h.2.2
theorem MD_0 {f p : Nat} (h : MD f p w) : ¬ wI w 205 15 = 0 := by
  rw [h.2.2.2.1]
  exact nI_ne0 (by have := h.1; omega) (by have := h.2.1; omega)
theorem is_y {k : Nat} {c : Int32} (h : MA b N j w) (hc : c = nI k) (q : kdT b N j = k) : fX12_is c w = 1 := by
  unfold fX12_is
  rw [if_pos (MA_0 h), h.2.1.2.2.1, hc, if_pos (show nI (knR b N (stT b N j)) = nI k by rw [← q]; rfl)]
theorem is_n {k : Nat} {c : Int32} (h : MA b N j w) (hk : k < 20) (hc : c = nI k) (q : ¬ kdT b N j = k) : fX12_is c w = 0 := by
  have kl := kd_le b N j
  unfold fX12_is
  rw [if_pos (MA_0 h), h.2.1.2.2.1, hc, if_neg (show ¬ nI (knR b N (stT b N j)) = nI k from fun z => q ((nI_eq (a := kdT b N j) (by omega) (by omega)).mp z))]
theorem is_D {f p : Nat} {c : Int32} (h : MD f p w) : fX12_is c w = 0 := by
  unfold fX12_is
  rw [if_neg (MD_0 h)]
theorem nx_J (hn : 410 < n) (h : MA b N j w) : ∃ u, fX12_next n w = some u ∧ MA b N (j + 1) u ∧ frP LxP w u := by
  obtain ⟨h1, h2, h3⟩ := h
  have hs := st_b (b := b) (N := N) j
  have he : en b N (stT b N j) ≤ N := by
    rcases Nat.lt_or_ge (stT b N j) N with q | q
    · exact (en_b q).2
    · rw [en_N q]; exact hs
  obtain ⟨u, a1, a2, a3⟩ := nx_M hn h1 he h2.2.1
  exact ⟨u, a1, ⟨TpM_fr h1 a3, a2, by rw [frP_I a3 (by unfold LxP; omega)]; exact h3⟩, a3⟩
theorem ea_y {k : Nat} {c : Int32} (hn : 410 < n) (h : MA b N j w) (hc : c = nI k) (q : kdT b N j = k) : ∃ u, fX12_eats n c w = some (1, u) ∧ MA b N (j + 1) u ∧ frP LxP w u := by
  obtain ⟨u, a1, a2, a3⟩ := nx_J hn h
  refine ⟨u, ?_, a2, a3⟩
  unfold fX12_eats
  rw [is_y h hc q, if_neg (by decide), a1, ev_bO]
theorem ea_n {k : Nat} {c : Int32} (h : MA b N j w) (hk : k < 20) (hc : c = nI k) (q : ¬ kdT b N j = k) : fX12_eats n c w = some (0, w) := by
  unfold fX12_eats
  rw [is_n h hk hc q, if_pos rfl]
theorem ea_D {f p : Nat} {c : Int32} (h : MD f p w) : fX12_eats n c w = some (0, w) := by
  unfold fX12_eats
  rw [is_D h, if_pos rfl]
theorem fl_D {f p : Nat} {c : Int32} (h : MD f p w) : fX12_fails c w = some w := by
  unfold fX12_fails
  rw [if_neg (MD_0 h)]
theorem fl_M {f : Nat} (h : MA b N j w) (h1 : 1 ≤ f) (hf : f ≤ 5) : ∃ u, fX12_fails (nI f) w = some u ∧ MD (flT b N j f) (stT b N j) u ∧ frP (fun c k => c = 205 ∧ (k = 15 ∨ k = 16)) w u := by
  obtain ⟨⟨hN, hb, -⟩, ⟨h10, h11, h13, -⟩, h15⟩ := h
  have kl := kd_le b N j
  have hst := st_b (b := b) (N := N) j
  have h13 : wI w 205 13 = nI (kdT b N j) := h13
  have key : ∀ s : Nat, 1 ≤ s → s ≤ 5 → MD s (stT b N j) (sI (sI w 205 15 (nI s)) 205 16 (nI (stT b N j))) ∧ frP (fun c k => c = 205 ∧ (k = 15 ∨ k = 16)) w (sI (sI w 205 15 (nI s)) 205 16 (nI (stT b N j))) := fun s s1 s2 => ⟨⟨s1, s2, by omega, by rw [ev_wIn _ (by omega)]; exact ev_wIs _ _ _ _, ev_wIs _ _ _ _⟩, frP_trans (frP_sI _ _ (by omega)) (frP_sI _ _ (by omega))⟩
  unfold fX12_fails letV
  dsimp only
  rw [h15, if_pos (show nI 0 = (0 : Int32) from rfl), h13]
  unfold flT
  by_cases q : kdT b N j = 19
  · rw [if_pos q, if_pos (show nI (kdT b N j) = (19 : Int32) by rw [q]; rfl), ev_wIn _ (by omega), h10]
    exact ⟨_, rfl, key 1 (by decide) (by decide)⟩
  · rw [if_neg q, if_neg (show ¬ nI (kdT b N j) = (19 : Int32) from fun z => q ((nI_eq (b := 19) (by omega) (by decide)).mp z)), ev_wIn _ (by omega), h10]
    exact ⟨_, rfl, key f h1 hf⟩
/-- a FAULT of both -/
theorem bad_J {f : Nat} (h : JA b N T j wX wM) (h1 : 1 ≤ f) (hf : f ≤ 5) : ∃ uX uM, fX6_blame (nI f) wX = some uX ∧ fX12_fails (nI f) wM = some uM ∧ JD uX uM ∧ frP (fun c k => c = 189 ∧ (k = 2 ∨ k = 3)) wX uX ∧ frP (fun c k => c = 205 ∧ (k = 15 ∨ k = 16)) wM uM := by
  obtain ⟨uX, a1, a2, a3⟩ := bl_X h.1 h1 hf
  obtain ⟨uM, c1, c2, c3⟩ := fl_M h.2 h1 hf
  exact ⟨uX, uM, a1, c1, ⟨_, _, a2, c2⟩, a3, c3⟩
theorem pnx_b : ∀ c k, (c = 189 ∧ (k = 2 ∨ k = 3)) → PnX c k := fun c k z => by unfold PnX; omega
theorem pnm_b : ∀ c k, (c = 205 ∧ (k = 15 ∨ k = 16)) → PnM c k := fun c k z => by unfold PnM; omega
theorem pnm_l : ∀ c k, LxP c k → PnM c k := fun c k z => by unfold LxP at z; unfold PnM; omega
theorem rd_XD {f p : Nat} {a0 a1 a2 : Int32} (h : XD f p w) : fX6_readNumber a0 a1 a2 w = some (0, w) := by
  unfold fX6_readNumber
  rw [at_D h, ev_bO, if_pos rfl, bl_D h, ev_bO]
theorem rd_MD {f p : Nat} {a0 a1 a2 : Int32} (h : MD f p w) : fX12_reads n a0 a1 a2 w = some (wI w 205 14, w) := by
  unfold fX12_reads letV
  dsimp only
  rw [is_D h, if_pos rfl, fl_D h, ev_bO, if_neg (MD_0 h)]
theorem rd_J {lo hi full : Nat} (hn : 410 < n) (h : JA b N T j wX wM) (hh : hi ≤ 255) (hlo : lo ≤ hi) (hfu : full ≤ 1) : ∃ x y uX uM, fX6_readNumber (nI lo) (nI hi) (nI full) wX = some (x, uX) ∧ fX12_reads n (nI lo) (nI hi) (nI full) wM = some (y, uM) ∧ frP PnX wX uX ∧ frP PnM wM uM ∧ (JD uX uM ∨ (full = 0 ∧ kdT b N j = 14 ∧ lo ≤ nuT b N j ∧ nuT b N j ≤ hi ∧ x = nI (nuT b N j) ∧ y = nI (nuT b N j) ∧ JA b N T (j + 1) uX uM)) := by
  obtain ⟨hx, hm⟩ := id h
  have l0 : ln 200 = 401 := rfl
  by_cases q : kdT b N j = 14
  · have hb := hx.1.2.2.1
    have hv := nuT_le hb q
    have hN := hx.1.2.1
    have hT := hx.1.1
    have hj := hx.2.2.2
    have eX : wI wX 200 j = nI (nuT b N j) := (hx.1.2.2.2.2.2.2 j hj).2.2 q
    have eM : wI wM 205 14 = nI (nuT b N j) := hm.2.1.2.2.2 q
    obtain ⟨v, ev⟩ : ∃ v, v = nuT b N j := ⟨_, rfl⟩
    rw [← ev] at eX eM hv ⊢
    have headX : fX6_readNumber (nI lo) (nI hi) (nI full) wX = if nI v < nI lo then bO (fX6_blame (3 : Int32) wX) (fun u => some (nI v, sI u 189 5 (wI u 189 5 + (1 : Int32)))) else if nI v ≤ nI hi then if nI full = 0 then some (nI v, sI wX 189 5 (wI wX 189 5 + (1 : Int32))) else bO (fX6_blame (4 : Int32) wX) (fun u => some (nI v, sI u 189 5 (wI u 189 5 + (1 : Int32)))) else bO (fX6_blame (3 : Int32) wX) (fun u => some (nI v, sI u 189 5 (wI u 189 5 + (1 : Int32)))) := by
      unfold fX6_readNumber letV
      dsimp only
      rw [at_y hx (k := 14) (c := 2) (by decide) rfl q, ev_bO, if_neg (by decide), hx.2.2.1, l0, grd_N (by omega) (by decide), nI_clamp (by omega), eX]
    have headM : fX12_reads n (nI lo) (nI hi) (nI full) wM = if ¬ (lo ≤ v ∧ v ≤ hi) then bO (fX12_fails (3 : Int32) wM) (fun u => if wI u 205 15 = 0 then bO (fX12_next n u) (fun u2 => some (wI u 205 14, u2)) else some (wI u 205 14, u)) else if nI full = 0 then (if wI wM 205 15 = 0 then bO (fX12_next n wM) (fun u2 => some (wI wM 205 14, u2)) else some (wI wM 205 14, wM)) else bO (fX12_fails (4 : Int32) wM) (fun u => if wI u 205 15 = 0 then bO (fX12_next n u) (fun u2 => some (wI u 205 14, u2)) else some (wI u 205 14, u)) := by
      unfold fX12_reads letV
      dsimp only
      rw [is_y hm (k := 14) (c := 14) rfl q, if_neg (show ¬ (1 : Int32) = 0 by decide), nI_l (by omega), nI_l (by omega)]
      rw [eM, nI_l (by omega)]
      have ei := ev_inM (k := v) (lo := lo) (hi := hi) (by omega) (by omega) (by omega)
      by_cases z : lo ≤ v ∧ v ≤ hi
      · rw [if_neg (show ¬ ¬ (lo ≤ v ∧ v ≤ hi) from fun y => y z), if_neg (show ¬ fX12_within (lN v) (lN lo) (lN hi) = 0 from fun y => (ei.mp y) z)]
      · rw [if_pos z, if_pos (show fX12_within (lN v) (lN lo) (lN hi) = 0 from ei.mpr z)]
    have bad : ∀ f, 1 ≤ f → f ≤ 5 → ∃ uX uM, (bO (fX6_blame (nI f) wX) (fun u => some (nI v, sI u 189 5 (wI u 189 5 + (1 : Int32)))) = some (nI v, uX)) ∧ (bO (fX12_fails (nI f) wM) (fun u => if wI u 205 15 = 0 then bO (fX12_next n u) (fun u2 => some (wI u 205 14, u2)) else some (wI u 205 14, u)) = some (nI v, uM)) ∧ frP PnX wX uX ∧ frP PnM wM uM ∧ JD uX uM := by
      intro f f1 f2
      obtain ⟨uX, uM, a1, a2, ⟨k, p, a3, a4⟩, a5, a6⟩ := bad_J h f1 f2
      refine ⟨sI uX 189 5 (wI uX 189 5 + (1 : Int32)), uM, by rw [a1, ev_bO], by rw [a2, ev_bO, if_neg (MD_0 a4), frP_I a6 (by omega), eM], frP_trans (frP_mono pnx_b a5) (frP_sI _ _ (by unfold PnX; omega)), frP_mono pnm_b a6, ⟨k, p, XD_fr a3 (frP_sI _ _ (by omega)), a4⟩⟩
    by_cases z : lo ≤ v ∧ v ≤ hi
    · rcases (show full = 0 ∨ full = 1 by omega) with rfl | rfl
      · obtain ⟨e1, e2⟩ := tk_ad hx (by omega)
        obtain ⟨uM, c1, c2, c3⟩ := nx_J hn hm
        refine ⟨nI v, nI v, sI wX 189 5 (nI (j + 1)), uM, ?_, ?_, frP_sI _ _ (by unfold PnX; omega), frP_mono pnm_l c3, .inr ⟨rfl, q, z.1, z.2, rfl, rfl, e2, c2⟩⟩
        · rw [headX, if_neg (nI_nlt z.1 (by omega)), if_pos (nI_le z.2 (by omega)), if_pos (show nI 0 = (0 : Int32) from rfl), e1]
        · rw [headM, if_neg (fun y => y z), if_pos (show nI 0 = (0 : Int32) from rfl), if_pos (MA_0 hm), c1, ev_bO, eM]
      · obtain ⟨uX, uM, a1, a2, a3, a4, a5⟩ := bad 4 (by decide) (by decide)
        refine ⟨nI v, nI v, uX, uM, ?_, ?_, a3, a4, .inl a5⟩
        · rw [headX, if_neg (nI_nlt z.1 (by omega)), if_pos (nI_le z.2 (by omega)), if_neg (show ¬ nI 1 = (0 : Int32) by decide)]
          exact a1
        · rw [headM, if_neg (fun y => y z), if_neg (show ¬ nI 1 = (0 : Int32) by decide)]
          exact a2
    · obtain ⟨uX, uM, a1, a2, a3, a4, a5⟩ := bad 3 (by decide) (by decide)
      refine ⟨nI v, nI v, uX, uM, ?_, ?_, a3, a4, .inl a5⟩
      · rw [headX]
        by_cases y : v < lo
        · rw [if_pos (nI_lt y (by omega))]
          exact a1
        · rw [if_neg (nI_nlt (by omega) (by omega)), if_neg (nI_ge (by omega) (by omega))]
          exact a1
      · rw [headM, if_pos z]
        exact a2
  · obtain ⟨uX, uM, a1, a2, ⟨k, p, a3, a4⟩, a5, a6⟩ := bad_J (f := 2) h (by decide) (by decide)
    refine ⟨0, wI uM 205 14, uX, uM, ?_, ?_, frP_mono pnx_b a5, frP_mono pnm_b a6, .inl ⟨k, p, a3, a4⟩⟩
    · unfold fX6_readNumber
      rw [at_n hx (k := 14) (c := 2) (by decide) rfl q, ev_bO, if_pos rfl, show (2 : Int32) = nI 2 from rfl, a1, ev_bO]
    · unfold fX12_reads letV
      dsimp only
      rw [is_n hm (k := 14) (c := 14) (by decide) rfl q, if_pos rfl, show (2 : Int32) = nI 2 from rfl, a2, ev_bO, if_neg (MD_0 a4)]
theorem tk_XD {f p : Nat} {c : Int32} (h : XD f p w) : fX6_take c w = some w := by
  unfold fX6_take
  rw [at_D h, ev_bO, if_pos rfl, bl_D h, ev_bO]
theorem tk_MD {f p : Nat} {c : Int32} (h : MD f p w) : fX12_needs n c w = some w := by
  unfold fX12_needs
  rw [ea_D h, ev_bO2, if_pos rfl, fl_D h, ev_bO]
theorem tk_J {k : Nat} {cX cM : Int32} (hn : 410 < n) (h : JA b N T j wX wM) (hk : k < 18) (hX : cX = nI (cmK k)) (hM : cM = nI k) : ∃ uX uM, fX6_take cX wX = some uX ∧ fX12_needs n cM wM = some uM ∧ frP PnX wX uX ∧ frP PnM wM uM ∧ (JD uX uM ∨ (kdT b N j = k ∧ JA b N T (j + 1) uX uM)) := by
  obtain ⟨hx, hm⟩ := id h
  by_cases q : kdT b N j = k
  · obtain ⟨e1, e2⟩ := tk_ad hx (by omega)
    obtain ⟨uM, c1, c2, c3⟩ := ea_y (n := n) hn hm hM q
    refine ⟨sI wX 189 5 (nI (j + 1)), uM, ?_, ?_, frP_sI _ _ (by unfold PnX; omega), frP_mono pnm_l c3, .inr ⟨q, e2, c2⟩⟩
    · unfold fX6_take letV
      dsimp only
      rw [at_y hx (by omega) hX q, ev_bO, if_neg (by decide), e1]
    · unfold fX12_needs
      rw [c1, ev_bO2, if_neg (by decide)]
  · obtain ⟨uX, uM, a1, a2, a3, a5, a6⟩ := bad_J (f := 2) h (by decide) (by decide)
    refine ⟨uX, uM, ?_, ?_, frP_mono pnx_b a5, frP_mono pnm_b a6, .inl a3⟩
    · unfold fX6_take
      rw [at_n hx (by omega) hX q, ev_bO, if_pos rfl, show (2 : Int32) = nI 2 from rfl, a1, ev_bO]
    · unfold fX12_needs
      rw [ea_n hm (by omega) hM q, ev_bO2, if_pos rfl, show (2 : Int32) = nI 2 from rfl, a2, ev_bO]
end PRS
