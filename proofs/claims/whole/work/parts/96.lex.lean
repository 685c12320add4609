/-! TOKENS -/
/-- bytes that are letters, digits -/
def isS (v : Nat) : Bool := decide (97 ≤ v ∧ v ≤ 122)
def isD (v : Nat) : Bool := decide (48 ≤ v ∧ v ≤ 57)
/-- behind what is blank -/
def skB (b : Nat → Nat) : Nat → Nat → Nat
  | 0, p => p
  | c + 1, p => if b p = 10 ∨ b p = 32 then skB b c (p + 1) else p
def sk (b : Nat → Nat) (N p : Nat) : Nat := skB b (N - p) p
/-- behind a run -/
def ruB (b : Nat → Nat) (P : Nat → Bool) : Nat → Nat → Nat
  | 0, p => p
  | c + 1, p => if P (b p) = true then ruB b P c (p + 1) else p
def ru (b : Nat → Nat) (N : Nat) (P : Nat → Bool) (p : Nat) : Nat := ruB b P (N - p) p
def en (b : Nat → Nat) (N s : Nat) : Nat := if N ≤ s then s else if isS (b s) = true then ru b N isS s else if isD (b s) = true then ru b N isD s else s + 1
def blL (b : Nat → Nat) : Nat → Nat → List Nat
  | 0, _ => []
  | c + 1, s => b s :: blL b c (s + 1)
/-- the words, by the reference's numbers -/
def kwL : List (List Nat) := [[98, 101, 99, 111, 109, 101], [105, 102], [110, 111, 116], [97, 110, 100], [111, 114], [104, 97, 115], [108, 111, 110, 103], [116, 97, 108, 101], [108, 111, 115, 101], [109, 111, 118, 101], [115, 109, 111, 111, 116, 104], [115, 97, 121], [102, 111, 114]]
def kyF (l : List Nat) : List (List Nat) → Nat → Nat
  | [], n => n
  | w :: r, n => if l = w then n else kyF l r (n + 1)
def kyR (l : List Nat) : Nat := kyF l kwL 0
def knR (b : Nat → Nat) (N s : Nat) : Nat := if N ≤ s then 18 else if isS (b s) = true then kyR (blL b (en b N s - s) s) else if isD (b s) = true then (if en b N s - s ≤ 3 then 14 else 19) else if b s = 59 then 15 else if b s = 40 then 16 else if b s = 41 then 17 else 19
def nuB (b : Nat → Nat) : Nat → Nat → Nat → Nat
  | 0, _, x => x
  | c + 1, p, x => nuB b c (p + 1) (10 * x + b p - 48)
def nuS (b : Nat → Nat) (N s : Nat) : Nat := nuB b (en b N s - s) s 0
/-- where the TOKENS begin -/
def stT (b : Nat → Nat) (N : Nat) : Nat → Nat
  | 0 => sk b N 0
  | j + 1 => sk b N (en b N (stT b N j))
theorem skB_b (b : Nat → Nat) : ∀ c p, p ≤ skB b c p ∧ skB b c p ≤ p + c
  | 0, p => ⟨Nat.le_refl _, Nat.le_refl _⟩
  | c + 1, p => by
    have := skB_b b c (p + 1)
    unfold skB
    split <;> omega
theorem ruB_b (b : Nat → Nat) (P : Nat → Bool) : ∀ c p, p ≤ ruB b P c p ∧ ruB b P c p ≤ p + c
  | 0, p => ⟨Nat.le_refl _, Nat.le_refl _⟩
  | c + 1, p => by
    have := ruB_b b P c (p + 1)
    unfold ruB
    split <;> omega
theorem sk_b {b : Nat → Nat} {N p : Nat} (h : p ≤ N) : p ≤ sk b N p ∧ sk b N p ≤ N := by
  have := skB_b b (N - p) p
  unfold sk
  omega
theorem sk_N {b : Nat → Nat} {N : Nat} : sk b N N = N := by
  unfold sk
  rw [Nat.sub_self]
  rfl
theorem sk_w {b : Nat → Nat} {N p : Nat} (h : p < N) (hw : b p = 10 ∨ b p = 32) : sk b N p = sk b N (p + 1) := by
  unfold sk
  rw [show N - p = N - (p + 1) + 1 by omega]
  show (if b p = 10 ∨ b p = 32 then skB b (N - (p + 1)) (p + 1) else p) = _
  rw [if_pos hw]
theorem sk_n {b : Nat → Nat} {N p : Nat} (h : p < N) (hw : ¬ (b p = 10 ∨ b p = 32)) : sk b N p = p := by
  unfold sk
  rw [show N - p = N - (p + 1) + 1 by omega]
  show (if b p = 10 ∨ b p = 32 then skB b (N - (p + 1)) (p + 1) else p) = _
  rw [if_neg hw]
theorem ru_y {b : Nat → Nat} {N p : Nat} {P : Nat → Bool} (h : p < N) (hw : P (b p) = true) : ru b N P p = ru b N P (p + 1) := by
  unfold ru
  rw [show N - p = N - (p + 1) + 1 by omega]
  show (if P (b p) = true then ruB b P (N - (p + 1)) (p + 1) else p) = _
  rw [if_pos hw]
theorem ru_n {b : Nat → Nat} {N p : Nat} {P : Nat → Bool} (h : p < N) (hw : ¬ P (b p) = true) : ru b N P p = p := by
  unfold ru
  rw [show N - p = N - (p + 1) + 1 by omega]
  show (if P (b p) = true then ruB b P (N - (p + 1)) (p + 1) else p) = _
  rw [if_neg hw]
theorem ru_N {b : Nat → Nat} {N : Nat} {P : Nat → Bool} : ru b N P N = N := by
  unfold ru
  rw [Nat.sub_self]
  rfl
theorem ru_b {b : Nat → Nat} {N p : Nat} {P : Nat → Bool} (h : p ≤ N) : p ≤ ru b N P p ∧ ru b N P p ≤ N := by
  have := ruB_b b P (N - p) p
  unfold ru
  omega
theorem ru_all {b : Nat → Nat} {N : Nat} {P : Nat → Bool} : ∀ c p, p + c = N → ∀ i, p ≤ i → i < ru b N P p → P (b i) = true
  | 0, p, h, i, h1, h2 => by
    rw [show p = N by omega, ru_N] at h2
    omega
  | c + 1, p, h, i, h1, h2 => by
    by_cases q : P (b p) = true
    · rw [ru_y (by omega) q] at h2
      by_cases e : i = p
      · subst e; exact q
      · exact ru_all c (p + 1) (by omega) i (by omega) h2
    · rw [ru_n (by omega) q] at h2
      omega
theorem en_b {b : Nat → Nat} {N s : Nat} (h : s < N) : s < en b N s ∧ en b N s ≤ N := by
  unfold en
  rw [if_neg (by omega)]
  by_cases q : isS (b s) = true
  · rw [if_pos q, ru_y h q]
    exact ru_b (p := s + 1) (by omega)
  · rw [if_neg q]
    by_cases q2 : isD (b s) = true
    · rw [if_pos q2, ru_y h q2]
      exact ru_b (p := s + 1) (by omega)
    · rw [if_neg q2]; omega
theorem en_N {b : Nat → Nat} {N s : Nat} (h : N ≤ s) : en b N s = s := by
  unfold en
  rw [if_pos h]
theorem st_b {b : Nat → Nat} {N : Nat} : ∀ j, stT b N j ≤ N
  | 0 => (sk_b (Nat.zero_le N)).2
  | j + 1 => by
    have := st_b (b := b) (N := N) j
    show sk b N (en b N (stT b N j)) ≤ N
    by_cases h : stT b N j < N
    · exact (sk_b (en_b h).2).2
    · rw [en_N (by omega)]
      exact (sk_b this).2
theorem st_s {b : Nat → Nat} {N j : Nat} (h : stT b N j < N) : stT b N j < stT b N (j + 1) ∧ en b N (stT b N j) ≤ stT b N (j + 1) := by
  have e := en_b (b := b) h
  have := (sk_b (b := b) e.2).1
  show stT b N j < sk b N (en b N (stT b N j)) ∧ en b N (stT b N j) ≤ sk b N (en b N (stT b N j))
  omega
theorem bl_len (b : Nat → Nat) : ∀ c s, (blL b c s).length = c
  | 0, _ => rfl
  | c + 1, s => by
    show (blL b c (s + 1)).length + 1 = c + 1
    rw [bl_len b c (s + 1)]
theorem bl_at (b : Nat → Nat) : ∀ c s i, i < c → (blL b c s).getD i 0 = b (s + i)
  | 0, _, i, h => absurd h (Nat.not_lt_zero i)
  | c + 1, s, 0, _ => rfl
  | c + 1, s, i + 1, h => by
    show (blL b c (s + 1)).getD i 0 = _
    rw [bl_at b c (s + 1) i (by omega), show s + 1 + i = s + (i + 1) by omega]
/-- the class's number of a kind -/
def cmK (k : Nat) : Nat := [6, 7, 10, 9, 8, 11, 12, 13, 14, 15, 16, 17, 18, 19, 2, 3, 4, 5, 0, 1].getD k 1
theorem kyF_le (l : List Nat) : ∀ r n, kyF l r n ≤ n + r.length
  | [], n => Nat.le_refl _
  | w :: r, n => by
    have := kyF_le l r (n + 1)
    unfold kyF
    split
    · omega
    · show _ ≤ n + (r.length + 1)
      omega
theorem kyR_le (l : List Nat) : kyR l ≤ 13 := kyF_le l kwL 0
theorem knR_le (b : Nat → Nat) (N s : Nat) : knR b N s ≤ 19 := by
  unfold knR
  have := kyR_le (blL b (en b N s - s) s)
  repeat' split
  all_goals omega
theorem kyF_eq {l : List Nat} : ∀ r n, kyF l r n < n + r.length → r.getD (kyF l r n - n) [] = l
  | [], n, h => absurd h (by show ¬ n < n + 0; omega)
  | w :: r, n, h => by
    by_cases e : l = w
    · have e1 : kyF l (w :: r) n = n := if_pos e
      rw [e1, Nat.sub_self]
      exact e.symm
    · have e1 : kyF l (w :: r) n = kyF l r (n + 1) := if_neg e
      rw [e1] at h ⊢
      have h2 : kyF l r (n + 1) < n + 1 + r.length := by
        have : n + (w :: r).length = n + (r.length + 1) := rfl
        omega
      have ih := kyF_eq r (n + 1) h2
      have hb : n + 1 ≤ kyF l r (n + 1) := by
        have : ∀ (r : List (List Nat)) m, m ≤ kyF l r m := by
          intro r
          induction r with
          | nil => intro m; exact Nat.le_refl _
          | cons w r ih =>
            intro m
            have := ih (m + 1)
            unfold kyF
            split <;> omega
        exact this r (n + 1)
      rw [show kyF l r (n + 1) - n = kyF l r (n + 1) - (n + 1) + 1 by omega]
      exact ih
theorem kyR_eq {l : List Nat} (h : kyR l < 13) : kwL.getD (kyR l) [] = l := kyF_eq kwL 0 h
theorem knR_len {b : Nat → Nat} {N s k : Nat} (hk : knR b N s = k) (h13 : k < 13) : s < N ∧ en b N s = s + (kwL.getD k []).length := by
  unfold knR at hk
  split at hk
  · omega
  rename_i hN
  split at hk
  · have hb := bl_len b (en b N s - s) s
    have he := en_b (b := b) (N := N) (s := s) (by omega)
    refine ⟨by omega, ?_⟩
    have := kyR_eq (l := blL b (en b N s - s) s) (by omega)
    rw [hk] at this
    rw [this]
    omega
  · repeat' split at hk
    all_goals omega
/-! lexing, the class -/
section LXX
variable {w u : jWd} {b : Nat → Nat} {N : Nat}
/-- a byte as the class holds it -/
def sB (v : Nat) : Int32 := (nI v).toInt8.toInt32
theorem sB_S : ∀ v, v < 256 → fX6_isLetter (sB v) = bI (isS v) := by decide +kernel
theorem sB_D : ∀ v, v < 256 → fX6_isDigit (sB v) = bI (isD v) := by decide +kernel
theorem sB_lo : ∀ v, v < 128 → sB v = nI v := by decide +kernel
theorem sB_hi : ∀ v, v < 256 → 128 ≤ v → sB v < 0 := by decide +kernel
theorem sB_eq {v c : Nat} (hv : v < 256) (hc : c < 128) : sB v = nI c ↔ v = c := by
  by_cases h : v < 128
  · rw [sB_lo v h]
    exact nI_eq (by omega) (by omega)
  · refine ⟨fun e => ?_, fun e => absurd e (by omega)⟩
    have := sB_hi v hv (by omega)
    rw [e] at this
    exact absurd this (nI_pos (by omega))
/-- THE TAPE as the class holds it -/
def TpX (b : Nat → Nat) (N : Nat) (w : jWd) : Prop := N ≤ 400 ∧ (∀ k, b k < 256) ∧ ∀ k, k < N → wI w 202 k = sB (b k)
theorem bfl {q : Bool} (h : ¬ q = true) : q = false := by cases q <;> simp_all
theorem et_X {n s : Nat} {P : Nat → Bool} (K : Int32 → Option Int32) (h : TpX b N w) (hs : s < N) (hP : (P = isS ∧ isS (b s) = true) ∨ (P = isD ∧ ¬ isS (b s) = true ∧ isD (b s) = true)) (hK : ∀ z, K z = some (imax z (nI s + (1 : Int32)))) : ∀ c i f, i + c = N → c < f → s ≤ i → (i = s ∨ s + 1 ≤ i) → lX6_endOfToken_14 n 202 (nI s) (nI N) K w f (nI i) = some (nI (ru b N P i)) ∨ (i = s ∧ False) := by
  obtain ⟨hN, hb, ht⟩ := h
  have l2 : ln 202 = 400 := rfl
  intro c
  induction c with
  | zero =>
    intro i f hi hf h1 h2
    obtain ⟨f, rfl⟩ : ∃ g, f = g + 1 := ⟨f - 1, by omega⟩
    left
    show bX6_endOfToken_14 n 202 (nI s) (nI N) K w _ (nI i) = _
    unfold bX6_endOfToken_14
    rw [if_pos (nI_le (by omega) (by omega)), show i = N by omega, ru_N]
  | succ c ih =>
    intro i f hi hf h1 h2
    obtain ⟨f, rfl⟩ : ∃ g, f = g + 1 := ⟨f - 1, by omega⟩
    left
    have hr := ih (i + 1) f (by omega) (by omega) (by omega) (by omega)
    have hr : lX6_endOfToken_14 n 202 (nI s) (nI N) K w f (nI (i + 1)) = some (nI (ru b N P (i + 1))) := by
      rcases hr with q | q
      · exact q
      · exact q.2.elim
    have hPs : P (b s) = true := by
      rcases hP with ⟨e, q⟩ | ⟨e, q1, q2⟩
      · rw [e]; exact q
      · rw [e]; exact q2
    show bX6_endOfToken_14 n 202 (nI s) (nI N) K w (lX6_endOfToken_14 n 202 (nI s) (nI N) K w f) (nI i) = _
    unfold bX6_endOfToken_14 letV
    dsimp only
    rw [if_neg (nI_ge (by omega) (by omega)), l2, grd_N (by omega) (by decide), grd_N (by omega) (by decide), grd_N (by omega) (by decide), grd_N (by omega) (by decide), nI_clamp (by omega), nI_clamp (by omega), ht s hs, ht i (by omega), sB_S _ (hb s), sB_S _ (hb i), sB_D _ (hb s), sB_D _ (hb i), nI_1 i]
    have fin : K (nI i) = some (nI (ru b N P i)) ∨ P (b i) = true := by
      by_cases q : P (b i) = true
      · exact .inr q
      · left
        rw [hK, nI_1, imax_N (by omega) (by omega), ru_n (by omega) q]
        have : i ≠ s := fun e => q (by rw [e]; exact hPs)
        rw [Nat.max_eq_left (by omega)]
    rcases hP with ⟨e, q⟩ | ⟨e, q1, q2⟩
    · rw [q, if_neg (show ¬ bI true = (0 : Int32) by decide)]
      rw [e] at fin hr ⊢
      by_cases z : isS (b i) = true
      · rw [z, if_neg (show ¬ bI true = (0 : Int32) by decide), ru_y (by omega) z]
        exact hr
      · rw [bfl z, if_pos (show bI false = (0 : Int32) from rfl)]
        exact fin.resolve_right z
    · rw [bfl q1, if_pos (show bI false = (0 : Int32) from rfl), q2, if_neg (show ¬ bI true = (0 : Int32) by decide)]
      rw [e] at fin hr ⊢
      by_cases z : isD (b i) = true
      · rw [z, if_neg (show ¬ bI true = (0 : Int32) by decide), if_neg (show ¬ (1 : Int32) = 0 by decide), ru_y (by omega) z]
        exact hr
      · rw [bfl z, if_pos (show bI false = (0 : Int32) from rfl), if_pos rfl]
        exact fin.resolve_right z
theorem et_o {n s : Nat} (K : Int32 → Option Int32) (h : TpX b N w) (hs : s < N) (hK : ∀ z, K z = some (imax z (nI s + (1 : Int32)))) (q : ¬ isS (b s) = true) (q2 : ¬ isD (b s) = true) {f : Nat} (hf : 0 < f) : lX6_endOfToken_14 n 202 (nI s) (nI N) K w f (nI s) = some (nI (s + 1)) := by
  obtain ⟨hN, hb, ht⟩ := h
  have l2 : ln 202 = 400 := rfl
  obtain ⟨f, rfl⟩ : ∃ g, f = g + 1 := ⟨f - 1, by omega⟩
  show bX6_endOfToken_14 n 202 (nI s) (nI N) K w _ (nI s) = _
  unfold bX6_endOfToken_14 letV
  dsimp only
  rw [if_neg (nI_ge (by omega) (by omega)), l2, grd_N (by omega) (by decide), grd_N (by omega) (by decide), nI_clamp (by omega), ht s hs, sB_S _ (hb s), sB_D _ (hb s), bfl q, bfl q2, if_pos (show bI false = (0 : Int32) from rfl), if_pos (show bI false = (0 : Int32) from rfl), if_pos rfl, hK, nI_1, imax_N (by omega) (by omega), Nat.max_eq_right (by omega)]
theorem eot_X {n s : Nat} (hn : 402 < n) (h : TpX b N w) (hs : s < N) : fX6_endOfToken n 202 (nI s) (nI N) w = some (nI (en b N s)) := by
  obtain ⟨hN, hb, ht⟩ := id h
  have l2 : ln 202 = 400 := rfl
  unfold fX6_endOfToken
  rw [if_neg (nI_pos (by omega)), l2, if_pos (show nI N ≤ Int32.ofNat 400 from nI_le (b := 400) hN (by decide))]
  unfold en
  rw [if_neg (by omega)]
  by_cases q : isS (b s) = true
  · rw [if_pos q]
    rcases et_X (n := n) (P := isS) (fun (z3_10 : Int32) => some (imax z3_10 (nI s + (1 : Int32)))) h hs (.inl ⟨rfl, q⟩) (fun _ => rfl) (N - s) s n (by omega) (by omega) (by omega) (.inl rfl) with z | z
    · exact z
    · exact z.2.elim
  · rw [if_neg q]
    by_cases q2 : isD (b s) = true
    · rw [if_pos q2]
      rcases et_X (n := n) (P := isD) (fun (z3_10 : Int32) => some (imax z3_10 (nI s + (1 : Int32)))) h hs (.inr ⟨rfl, q, q2⟩) (fun _ => rfl) (N - s) s n (by omega) (by omega) (by omega) (.inl rfl) with z | z
      · exact z
      · exact z.2.elim
    · rw [if_neg q2]
      exact et_o _ h hs (fun _ => rfl) q q2 (by omega)
/-- a word of the class against the bytes -/
def cwL : List (List Nat) := [kwL.getD 0 [], kwL.getD 1 [], kwL.getD 4 [], kwL.getD 3 [], kwL.getD 2 [], kwL.getD 5 [], kwL.getD 6 [], kwL.getD 7 [], kwL.getD 8 [], kwL.getD 9 [], kwL.getD 10 [], kwL.getD 11 [], kwL.getD 12 []]
theorem cw_ok : ∀ p, p < 13 → strN p = (cwL.getD p []).length ∧ ∀ i, i < (cwL.getD p []).length → strC p (nI i) = nI ((cwL.getD p []).getD i 0) ∧ (cwL.getD p []).getD i 0 < 128 := by decide +kernel
theorem sp_L {n s p : Nat} {l : List Nat} (h : TpX b N w) (hp : p < 13) (hl : cwL.getD p [] = l) (hs : s + l.length ≤ N) : ∀ c i f, i + c = l.length → c < f → (∀ j, j < i → b (s + j) = l.getD j 0) → lX6_spells_25 n 202 (nI s) (nI (s + l.length)) p w f (nI (s + i)) = some (bI (decide (∀ j, j < l.length → b (s + j) = l.getD j 0))) := by
  obtain ⟨hN, hb, ht⟩ := h
  have l2 : ln 202 = 400 := rfl
  obtain ⟨q1, q2⟩ := cw_ok p hp
  rw [hl] at q1 q2
  intro c
  induction c with
  | zero =>
    intro i f hi hf hj
    obtain ⟨f, rfl⟩ : ∃ g, f = g + 1 := ⟨f - 1, by omega⟩
    show bX6_spells_25 n 202 (nI s) (nI (s + l.length)) p w _ (nI (s + i)) = _
    unfold bX6_spells_25
    rw [if_pos (nI_le (by omega) (by omega)), decide_eq_true (fun j hj2 => hj j (by omega))]
    rfl
  | succ c ih =>
    intro i f hi hf hj
    obtain ⟨f, rfl⟩ : ∃ g, f = g + 1 := ⟨f - 1, by omega⟩
    obtain ⟨q3, q4⟩ := q2 i (by omega)
    show bX6_spells_25 n 202 (nI s) (nI (s + l.length)) p w (lX6_spells_25 n 202 (nI s) (nI (s + l.length)) p w f) (nI (s + i)) = _
    unfold bX6_spells_25 letV
    dsimp only
    rw [if_neg (nI_ge (by omega) (by omega)), l2, grd_N (by omega) (by decide), ev_sub (by omega), show s + i - s = i by omega, q1, grd_N (by omega) (by omega), nI_clamp (by omega), ht _ (by omega), q3, nI_1]
    by_cases z : b (s + i) = l.getD i 0
    · rw [if_pos ((sB_eq (hb _) q4).mpr z)]
      exact ih (i + 1) f (by omega) (by omega) (fun j hj2 => by
        by_cases e : j = i
        · subst e; exact z
        · exact hj j (by omega))
    · rw [if_neg (fun y => z ((sB_eq (hb _) q4).mp y)), decide_eq_false (fun y => z (y i (by omega)))]
      rfl
theorem bl_eq {s : Nat} {l : List Nat} : (∀ j, j < l.length → b (s + j) = l.getD j 0) ↔ blL b l.length s = l := by
  induction l generalizing s with
  | nil => exact ⟨fun _ => rfl, fun _ j hj => absurd hj (Nat.not_lt_zero j)⟩
  | cons x l ih =>
    show _ ↔ b s :: blL b l.length (s + 1) = x :: l
    rw [List.cons.injEq, ← ih]
    constructor
    · intro h
      refine ⟨h 0 (Nat.succ_pos _), fun j hj => ?_⟩
      have := h (j + 1) (Nat.succ_lt_succ hj)
      rw [show s + 1 + j = s + (j + 1) by omega]
      exact this
    · intro h j hj
      cases j with
      | zero => exact h.1
      | succ j =>
        have := h.2 j (Nat.lt_of_succ_lt_succ hj)
        rw [show s + 1 + j = s + (j + 1) by omega] at this
        exact this
theorem spl_X {n s e p : Nat} (hn : 10 < n) (h : TpX b N w) (hp : p < 13) (hse : s ≤ e) (he : e ≤ N) : fX6_spells n 202 (nI s) (nI e) p w = some (bI (decide (blL b (e - s) s = cwL.getD p []))) := by
  obtain ⟨hN, hb, ht⟩ := id h
  have l2 : ln 202 = 400 := rfl
  obtain ⟨l, hl⟩ : ∃ l, cwL.getD p [] = l := ⟨_, rfl⟩
  obtain ⟨q1, q2⟩ := cw_ok p hp
  rw [hl] at q1
  have q3 : ∀ p, p < 13 → (cwL.getD p []).length ≤ 6 := by decide
  have q3 := q3 p hp
  rw [hl] at q3 ⊢
  unfold fX6_spells
  rw [if_neg (nI_pos (by omega)), l2, if_neg (show ¬ Int32.ofNat 400 < nI e from nI_nlt (a := 400) (by omega) (by decide)), ev_sub hse]
  unfold strL
  rw [q1]
  by_cases z : e - s = l.length
  · rw [if_pos (by rw [z])]
    have := sp_L (n := n) (s := s) (p := p) (l := l) h hp hl (by omega) l.length 0 n (by omega) (by omega) (fun j hj => absurd hj (Nat.not_lt_zero j))
    rw [show s + l.length = e by omega, Nat.add_zero] at this
    rw [this, z]
    exact congrArg (fun x => some (bI x)) (decide_eq_decide.mpr bl_eq)
  · rw [if_neg (fun y => z ((nI_eq (by omega) (by omega)).mp y)), decide_eq_false (fun y => z (by rw [← y, bl_len]))]
    rfl
theorem ky_cs (l : List Nat) : (∃ k, k < 13 ∧ l = kwL.getD k [] ∧ kyR l = k) ∨ ((∀ k, k < 13 → ¬ l = kwL.getD k []) ∧ kyR l = 13) := by
  by_cases h : kyR l < 13
  · exact .inl ⟨kyR l, h, (kyR_eq h).symm, rfl⟩
  · have e := kyR_le l
    refine .inr ⟨fun k hk z => ?_, by omega⟩
    subst z
    revert h
    have : ∀ k, k < 13 → kyR (kwL.getD k []) < 13 := by decide
    exact fun h => h (this k hk)
theorem cw_kw : ∀ p, p < 13 → ∃ k, k < 13 ∧ cwL.getD p [] = kwL.getD k [] := by
  intro p hp
  have : ∀ p, p < 13 → cwL.getD p [] = kwL.getD ([0, 1, 4, 3, 2, 5, 6, 7, 8, 9, 10, 11, 12].getD p 0) [] ∧ [0, 1, 4, 3, 2, 5, 6, 7, 8, 9, 10, 11, 12].getD p 0 < 13 := by decide
  exact ⟨_, (this p hp).2, (this p hp).1⟩
theorem wk_X {n s e : Nat} (hn : 10 < n) (h : TpX b N w) (hse : s ≤ e) (he : e ≤ N) : fX6_wordKind n 202 (nI s) (nI e) w = some (nI (cmK (kyR (blL b (e - s) s)))) := by
  have q := fun p hp => spl_X (n := n) (p := p) hn h hp hse he
  unfold fX6_wordKind
  rw [q 0 (by decide), q 1 (by decide), q 2 (by decide), q 3 (by decide), q 4 (by decide), q 5 (by decide), q 6 (by decide), q 7 (by decide), q 8 (by decide), q 9 (by decide), q 10 (by decide), q 11 (by decide), q 12 (by decide)]
  generalize blL b (e - s) s = l
  rcases ky_cs l with ⟨k, hk, rfl, hk2⟩ | ⟨hk, hk2⟩
  · rw [hk2]
    have : k = 0 ∨ k = 1 ∨ k = 2 ∨ k = 3 ∨ k = 4 ∨ k = 5 ∨ k = 6 ∨ k = 7 ∨ k = 8 ∨ k = 9 ∨ k = 10 ∨ k = 11 ∨ k = 12 := by omega
    rcases this with rfl | rfl | rfl | rfl | rfl | rfl | rfl | rfl | rfl | rfl | rfl | rfl | rfl <;> rfl
  · rw [hk2]
    have z : ∀ p, p < 13 → decide (l = cwL.getD p []) = false := fun p hp => by
      obtain ⟨k, k1, k2⟩ := cw_kw p hp
      rw [k2]
      exact decide_eq_false (hk k k1)
    rw [z 0 (by decide), z 1 (by decide), z 2 (by decide), z 3 (by decide), z 4 (by decide), z 5 (by decide), z 6 (by decide), z 7 (by decide), z 8 (by decide), z 9 (by decide), z 10 (by decide), z 11 (by decide), z 12 (by decide)]
    rfl
theorem kd_X {n s : Nat} (hn : 10 < n) (h : TpX b N w) (hs : s < N) : fX6_kindOf n 202 (nI s) (nI (en b N s)) w = some (nI (cmK (knR b N s))) := by
  obtain ⟨hN, hb, ht⟩ := id h
  have he := en_b (b := b) hs
  have l2 : ln 202 = 400 := rfl
  unfold fX6_kindOf letV
  dsimp only
  rw [if_neg (nI_pos (by omega)), l2, if_neg (show ¬ Int32.ofNat 400 ≤ nI s from nI_ge (b := 400) (by omega) (by decide)), grd_N (by omega) (by decide), nI_clamp (by omega), ht s hs, sB_S _ (hb s), sB_D _ (hb s)]
  unfold knR
  rw [if_neg (show ¬ N ≤ s by omega)]
  have ex : isS (b s) = true → isD (b s) = false := by
    intro q
    have q := of_decide_eq_true q
    exact decide_eq_false (fun z => by omega)
  by_cases q : isS (b s) = true
  · rw [if_pos q, ex q, q, if_pos (show bI false = (0 : Int32) from rfl), if_neg (show ¬ bI true = (0 : Int32) by decide), wk_X hn h (by omega) he.2, ev_bO]
  · rw [if_neg q]
    by_cases q2 : isD (b s) = true
    · rw [if_pos q2, q2, if_neg (show ¬ bI true = (0 : Int32) by decide), ev_sub (by omega)]
      by_cases z : en b N s - s ≤ 3
      · rw [if_pos z, if_pos (show nI (en b N s - s) ≤ (3 : Int32) from nI_le (b := 3) z (by decide))]
        rfl
      · rw [if_neg z, if_neg (show ¬ nI (en b N s - s) ≤ (3 : Int32) from nI_ge (a := 3) (by omega) (by omega))]
        rfl
    · rw [if_neg q2, bfl q2, bfl q, if_pos (show bI false = (0 : Int32) from rfl), if_pos (show bI false = (0 : Int32) from rfl)]
      by_cases z1 : b s = 59
      · rw [if_pos z1, if_pos (show sB (b s) = (59 : Int32) from (sB_eq (c := 59) (hb s) (by decide)).mpr z1)]
        rfl
      rw [if_neg z1, if_neg (show ¬ sB (b s) = (59 : Int32) from fun y => z1 ((sB_eq (c := 59) (hb s) (by decide)).mp y))]
      by_cases z2 : b s = 40
      · rw [if_pos z2, if_pos (show sB (b s) = (40 : Int32) from (sB_eq (c := 40) (hb s) (by decide)).mpr z2)]
        rfl
      rw [if_neg z2, if_neg (show ¬ sB (b s) = (40 : Int32) from fun y => z2 ((sB_eq (c := 40) (hb s) (by decide)).mp y))]
      by_cases z3 : b s = 41
      · rw [if_pos z3, if_pos (show sB (b s) = (41 : Int32) from (sB_eq (c := 41) (hb s) (by decide)).mpr z3)]
        rfl
      rw [if_neg z3, if_neg (show ¬ sB (b s) = (41 : Int32) from fun y => z3 ((sB_eq (c := 41) (hb s) (by decide)).mp y))]
      rfl
theorem nu_L {n e : Nat} (h : TpX b N w) (he : e ≤ N) : ∀ c i f x, i + c = e → c < f → (∀ j, i ≤ j → j < e → isD (b j) = true) → lX6_numberOf_24 n 202 (nI e) w f (nI x) (nI i) = some (nI (nuB b c i x)) := by
  obtain ⟨hN, hb, ht⟩ := h
  have l2 : ln 202 = 400 := rfl
  intro c
  induction c with
  | zero =>
    intro i f x hi hf hd
    obtain ⟨f, rfl⟩ : ∃ g, f = g + 1 := ⟨f - 1, by omega⟩
    show bX6_numberOf_24 n 202 (nI e) w _ (nI x) (nI i) = _
    unfold bX6_numberOf_24
    rw [if_pos (nI_le (by omega) (by omega))]
    rfl
  | succ c ih =>
    intro i f x hi hf hd
    obtain ⟨f, rfl⟩ : ∃ g, f = g + 1 := ⟨f - 1, by omega⟩
    have q := hd i (by omega) (by omega)
    have q2 := of_decide_eq_true q
    show bX6_numberOf_24 n 202 (nI e) w (lX6_numberOf_24 n 202 (nI e) w f) (nI x) (nI i) = _
    unfold bX6_numberOf_24 letV
    dsimp only
    rw [if_neg (nI_ge (by omega) (by omega)), l2, grd_N (by omega) (by decide), grd_N (by omega) (by decide), nI_clamp (by omega), ht i (by omega), sB_D _ (hb i), q, if_neg (show ¬ bI true = (0 : Int32) by decide), sB_lo _ (by omega), show (10 : Int32) * nI x = nI (10 * x) from pk_mul 10 x, nI_add, show nI (10 * x + b i) - (48 : Int32) = nI (10 * x + b i - 48) from ev_sub (b := 48) (by omega), nI_1]
    exact ih (i + 1) f _ (by omega) (by omega) (fun j h1 h2 => hd j (by omega) h2)
theorem nu_E {n e : Nat} (h : TpX b N w) (he : e ≤ N) : ∀ c i f x, i + c = e → c < f → ∃ y, lX6_numberOf_24 n 202 (nI e) w f x (nI i) = some y := by
  obtain ⟨hN, hb, ht⟩ := h
  have l2 : ln 202 = 400 := rfl
  intro c
  induction c with
  | zero =>
    intro i f x hi hf
    obtain ⟨f, rfl⟩ : ∃ g, f = g + 1 := ⟨f - 1, by omega⟩
    refine ⟨x, ?_⟩
    show bX6_numberOf_24 n 202 (nI e) w _ x (nI i) = _
    unfold bX6_numberOf_24
    rw [if_pos (nI_le (by omega) (by omega))]
  | succ c ih =>
    intro i f x hi hf
    obtain ⟨f, rfl⟩ : ∃ g, f = g + 1 := ⟨f - 1, by omega⟩
    show ∃ y, bX6_numberOf_24 n 202 (nI e) w (lX6_numberOf_24 n 202 (nI e) w f) x (nI i) = some y
    unfold bX6_numberOf_24 letV
    dsimp only
    rw [if_neg (nI_ge (by omega) (by omega)), l2, grd_N (by omega) (by decide), grd_N (by omega) (by decide), nI_1]
    split
    · exact ih (i + 1) f _ (by omega) (by omega)
    · exact ih (i + 1) f _ (by omega) (by omega)
theorem num_X {n s : Nat} (hn : 402 < n) (h : TpX b N w) (hs : s < N) : ∃ y, fX6_numberOf n 202 (nI s) (nI (en b N s)) w = some y ∧ (knR b N s = 14 → y = nI (nuS b N s)) := by
  obtain ⟨hN, hb, ht⟩ := id h
  have he := en_b (b := b) hs
  have l2 : ln 202 = 400 := rfl
  unfold fX6_numberOf
  rw [if_neg (nI_pos (by omega)), l2, if_neg (show ¬ Int32.ofNat 400 < nI (en b N s) from nI_nlt (a := 400) (by omega) (by decide)), ev_sub (by omega)]
  by_cases z : en b N s - s ≤ 3
  · rw [if_pos (show nI (en b N s - s) ≤ (3 : Int32) from nI_le (b := 3) z (by decide))]
    by_cases q : knR b N s = 14
    · refine ⟨_, nu_L h he.2 (en b N s - s) s n 0 (by omega) (by omega) (fun j h1 h2 => ?_), fun _ => rfl⟩
      have q' := q
      unfold knR at q'
      rw [if_neg (show ¬ N ≤ s by omega)] at q'
      have := kyR_le (blL b (en b N s - s) s)
      by_cases q1 : isS (b s) = true
      · rw [if_pos q1] at q'; omega
      · rw [if_neg q1] at q'
        by_cases q2 : isD (b s) = true
        · unfold en at h2
          rw [if_neg (show ¬ N ≤ s by omega), if_neg q1, if_pos q2] at h2
          exact ru_all (N - s) s (by omega) j h1 h2
        · rw [if_neg q2] at q'
          repeat' split at q'
          all_goals omega
    · obtain ⟨y, hy⟩ := nu_E (n := n) h he.2 (en b N s - s) s n (0 : Int32) (by omega) (by omega)
      exact ⟨y, hy, fun e => absurd e q⟩
  · rw [if_neg (show ¬ nI (en b N s - s) ≤ (3 : Int32) from nI_ge (a := 3) (by omega) (by omega))]
    refine ⟨0, rfl, fun q => ?_⟩
    unfold knR at q
    rw [if_neg (show ¬ N ≤ s by omega)] at q
    have := kyR_le (blL b (en b N s - s) s)
    by_cases q1 : isS (b s) = true
    · rw [if_pos q1] at q; omega
    · rw [if_neg q1] at q
      by_cases q2 : isD (b s) = true
      · rw [if_pos q2, if_neg z] at q; omega
      · rw [if_neg q2] at q
        repeat' split at q
        all_goals omega
/-- the TOKENS put so far, the class's -/
def TkX (b : Nat → Nat) (N T : Nat) (w : jWd) : Prop := wI w 189 4 = nI T ∧ ∀ j, j < T → wI w 199 j = nI (cmK (knR b N (stT b N j))) ∧ wI w 201 j = nI (stT b N j) ∧ (knR b N (stT b N j) = 14 → wI w 200 j = nI (nuS b N (stT b N j)))
theorem put_T {T : Nat} {a v c : Int32} (hT : T ≤ 400) (h : wI w 189 4 = nI T) : fX6_putToken a v c w = some (sI (sI (sI (sI w 199 T a) 200 T v) 201 T c) 189 4 (nI (T + 1))) := by
  have l9 : ln 199 = 401 := rfl
  have l0 : ln 200 = 401 := rfl
  have l1 : ln 201 = 401 := rfl
  unfold fX6_putToken letV
  dsimp only
  simp (disch := omega) only [ev_wIn, h, nI_1, l9, l0, l1]
  rw [if_pos (show nI T ≤ (400 : Int32) from nI_le (b := 400) hT (by decide)), grd_N (by omega) (by decide), grd_N (by omega) (by decide), grd_N (by omega) (by decide), nI_clamp (by omega)]
/-- what scanning writes -/
def ScP (c k : Nat) : Prop := (c = 199 ∨ c = 200 ∨ c = 201) ∨ (c = 189 ∧ k = 4)
theorem sc_X {n : Nat} {p2 : Int32} (K : jWd → Option jWd) (hn : 410 < n) : ∀ c i f e j (w : jWd), TpX b N w → i + c = N → c < f → e ≤ N → j ≤ i → (∀ k, k < j → stT b N k < N) → stT b N j = sk b N (max i e) → TkX b N j w → ∃ w' T, lX6_scan_33 n 202 p2 (nI N) K f (nI e) (nI i) w = K w' ∧ T ≤ N ∧ TkX b N T w' ∧ stT b N T = N ∧ (∀ k, k < T → stT b N k < N) ∧ frP ScP w w' := by
  have l2 : ln 202 = 400 := rfl
  intro c
  induction c with
  | zero =>
    intro i f e j w h hi hf he hj hk hst ht
    obtain ⟨hN, hb, htp⟩ := id h
    obtain ⟨f, rfl⟩ : ∃ g, f = g + 1 := ⟨f - 1, by omega⟩
    refine ⟨w, j, ?_, by omega, ht, by rw [hst, show max i e = N by omega, sk_N], hk, frP_refl _ _⟩
    show bX6_scan_33 n 202 p2 (nI N) K _ (nI e) (nI i) w = _
    unfold bX6_scan_33
    rw [if_pos (nI_le (by omega) (by omega))]
  | succ c ih =>
    intro i f e j w h hi hf he hj hk hst ht
    obtain ⟨hN, hb, htp⟩ := id h
    obtain ⟨f, rfl⟩ : ∃ g, f = g + 1 := ⟨f - 1, by omega⟩
    show ∃ w' T, bX6_scan_33 n 202 p2 (nI N) K (lX6_scan_33 n 202 p2 (nI N) K f) (nI e) (nI i) w = K w' ∧ _
    unfold bX6_scan_33 letV
    dsimp only
    rw [if_neg (nI_ge (by omega) (by omega)), nI_1]
    by_cases q : i < e
    · rw [if_pos (nI_lt q (by omega))]
      exact ih (i + 1) f e j w h (by omega) (by omega) he (by omega) hk (by rw [hst, show max (i + 1) e = max i e by omega]) ht
    rw [if_neg (nI_nlt (by omega) (by omega)), l2, grd_N (by omega) (by decide), grd_N (by omega) (by decide), nI_clamp (by omega), htp i (by omega)]
    have em : max i e = i := by omega
    rw [em] at hst
    by_cases q1 : b i = 10
    · rw [if_pos (show sB (b i) = (10 : Int32) from (sB_eq (c := 10) (hb i) (by decide)).mpr q1)]
      exact ih (i + 1) f e j w h (by omega) (by omega) he (by omega) hk (by rw [hst, show max (i + 1) e = i + 1 by omega, sk_w (by omega) (.inl q1)]) ht
    rw [if_neg (show ¬ sB (b i) = (10 : Int32) from fun y => q1 ((sB_eq (c := 10) (hb i) (by decide)).mp y))]
    by_cases q2 : b i = 32
    · rw [if_pos (show sB (b i) = (32 : Int32) from (sB_eq (c := 32) (hb i) (by decide)).mpr q2)]
      exact ih (i + 1) f e j w h (by omega) (by omega) he (by omega) hk (by rw [hst, show max (i + 1) e = i + 1 by omega, sk_w (by omega) (.inr q2)]) ht
    rw [if_neg (show ¬ sB (b i) = (32 : Int32) from fun y => q2 ((sB_eq (c := 32) (hb i) (by decide)).mp y))]
    have es : stT b N j = i := by rw [hst, sk_n (by omega) (by omega)]
    have hie := en_b (b := b) (N := N) (s := i) (by omega)
    obtain ⟨y, y1, y2⟩ := num_X (n := n) (by omega) h (show i < N by omega)
    rw [eot_X (by omega) h (by omega), ev_bO, kd_X (by omega) h (by omega), ev_bO, y1, ev_bO, put_T (by omega) ht.1, ev_bO]
    obtain ⟨u, hu⟩ : ∃ u, u = sI (sI (sI (sI w 199 j (nI (cmK (knR b N i)))) 200 j y) 201 j (nI i)) 189 4 (nI (j + 1)) := ⟨_, rfl⟩
    rw [← hu]
    have fu : frP ScP w u := by
      rw [hu]
      exact frP_trans (frP_trans (frP_trans (frP_sI _ _ (by unfold ScP; omega)) (frP_sI _ _ (by unfold ScP; omega))) (frP_sI _ _ (by unfold ScP; omega))) (frP_sI _ _ (by unfold ScP; omega))
    obtain ⟨w', T, d1, d2, d3, d4, d5, d6⟩ := ih (i + 1) f (en b N i) (j + 1) u ⟨hN, hb, fun k hk => by rw [frP_I fu (by unfold ScP; omega)]; exact htp k hk⟩ (by omega) (by omega) hie.2 (by omega) (fun k hk2 => by
      by_cases e : k = j
      · subst e; omega
      · exact hk k (by omega)) (by
      show sk b N (en b N (stT b N j)) = _
      rw [es, show max (i + 1) (en b N i) = en b N i by omega]) (by
      refine ⟨by rw [hu]; exact ev_wIs _ _ _ _, fun k hk2 => ?_⟩
      by_cases e : k = j
      · subst e
        rw [hu, es]
        refine ⟨?_, ?_, fun q => ?_⟩
        · simp (disch := omega) only [ev_wIn]; exact ev_wIs _ _ _ _
        · simp (disch := omega) only [ev_wIn]; exact ev_wIs _ _ _ _
        · simp (disch := omega) only [ev_wIn]; rw [ev_wIs]; exact y2 q
      · obtain ⟨a1, a2, a3⟩ := ht.2 k (by omega)
        rw [hu]
        refine ⟨?_, ?_, fun q => ?_⟩
        · simp (disch := omega) only [ev_wIn]; exact a1
        · simp (disch := omega) only [ev_wIn]; exact a2
        · simp (disch := omega) only [ev_wIn]; exact a3 q)
    exact ⟨w', T, d1, d2, d3, d4, d5, frP_trans fu d6⟩
end LXX
