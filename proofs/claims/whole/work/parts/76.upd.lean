/-! WHAT A CALL WRITES: the State that is now, anew -/
def uN {α : Type} (A : Nat → α) (k : Nat) (v : α) : Nat → α := fun j => if j = k then v else A j
theorem uN_ne {α : Type} {A : Nat → α} {k j : Nat} {v : α} (h : j ≠ k) : uN A k v j = A j := if_neg h
theorem uN_eq {α : Type} {A : Nat → α} {k : Nat} {v : α} : uN A k v k = v := if_pos rfl
theorem uN_9 {A : Nat → Nat} {k v : Nat} (h : ∀ j, A j ≤ 9999) (hv : v ≤ 9999) : ∀ j, uN A k v j ≤ 9999 := fun j => by
  unfold uN
  split
  · exact hv
  · exact h j
/-- cells of the State that is now, on both sides -/
def NowS (c k : Nat) : Prop := Scr c k ∨ (1 ≤ c ∧ c ≤ 57) ∨ (c = 207 ∧ k < 1124) ∨ (c = 208 ∧ k < 784) ∨ (c = 211 ∧ k < 645) ∨ (c = 212 ∧ k < 29)
theorem rr_now {w w' : jWd} (hf : frP NowS w w') (h : RR w) (hn : ∃ A L F W, RN A L F W w') : RR w' := by
  obtain ⟨-, b, c, d, e, f, ⟨n, g1, g2, g3, g4⟩, i, j⟩ := h
  have hI : ∀ c k, ¬ NowS c k → wI w' c k = wI w c k := fun c k q => frP_I hf q
  have hJ : ∀ c k, ¬ NowS c k → wJ w' c k = wJ w c k := fun c k q => frP_J hf q
  have im : ∀ i, i ≤ 1 → RIm i w → RIm i w' := fun i hi h => RIm_cg hi (fun c k _ _ => hI c k (by unfold NowS Scr; omega)) (fun c k _ _ => hJ c k (by unfold NowS Scr; omega)) (hI _ _ (by unfold NowS Scr; omega)) (hI _ _ (by unfold NowS Scr; omega)) (fun k _ => hI _ _ (by unfold NowS Scr; omega)) (fun k _ => hJ _ _ (by unfold NowS Scr; omega)) (fun k _ _ => hI _ _ (by unfold NowS Scr; omega)) (fun k _ _ => hI _ _ (by unfold NowS Scr; omega)) h
  refine ⟨hn, im 0 (by omega) b, im 1 (by omega) c, RCon_cg (fun c k _ _ _ => hI c k (by unfold NowS Scr; omega)) d, RCon_cg (fun c k _ _ _ => hI c k (by unfold NowS Scr; omega)) e, fun k h1 h2 => ?_, ⟨n, g1, ?_, ?_, fun k hk => ?_⟩, ?_, fun r hr => ?_⟩
  · rw [hI _ _ (by unfold NowS Scr; omega), hI _ _ (by unfold NowS Scr; omega)]; exact f k h1 h2
  · rw [hI _ _ (by unfold NowS Scr; omega)]; exact g2
  · rw [hI _ _ (by unfold NowS Scr; omega)]; exact g3
  · rw [hI _ _ (by unfold NowS Scr; omega), hI _ _ (by unfold NowS Scr; omega)]; exact g4 k hk
  · unfold RFlt
    rw [hI 189 2 (by unfold NowS Scr; omega), hI 205 19 (by unfold NowS Scr; omega), hI 205 20 (by unfold NowS Scr; omega), hI 189 3 (by unfold NowS Scr; omega)]
    exact i
  · rw [hI 186 r (by unfold NowS Scr; omega), hI 221 r (by unfold NowS Scr; omega), hI 187 r (by unfold NowS Scr; omega), hI 222 r (by unfold NowS Scr; omega)]
    rcases j r hr with q | ⟨n, s, q1, q2, q3, q4, q5, q6, q7⟩
    · exact .inl q
    · exact .inr ⟨n, s, q1, q2, q3, q4, q5, q6, fun k hk => by rw [hJ _ _ (by unfold NowS Scr; omega), hJ _ _ (by unfold NowS Scr; omega)]; exact q7 k hk⟩
theorem now_s : ∀ c k, Scr c k → NowS c k := fun _ _ => .inl
section UP
variable {A A' : Nat → Nat} {L L' : Nat → Int64} {F W : Nat → Nat} {w w' : jWd}
theorem RM_A (h : RM A L F W 0 w) {k : Nat} (v : Nat) : RM (uN A k v) L F W 0 (sI w 207 k (nI v)) := by
  obtain ⟨a, b, c, d⟩ := h
  refine ⟨fun j hj => ?_, fun j hj => b j hj, fun j hj => ?_, fun j hj => ?_⟩
  · have e := a j hj
    rw [show 1124 * 0 + j = j by omega] at e ⊢
    unfold uN
    rw [wI_sI]
    by_cases q : j = k
    · rw [if_pos ⟨rfl, q⟩, if_pos q]
    · rw [if_neg (fun z => q z.2), if_neg q, e]
  · rw [ev_wIn _ (by omega)]; exact c j hj
  · rw [ev_wIn _ (by omega)]; exact d j hj
theorem RM_L (h : RM A L F W 0 w) {k : Nat} (v : Int64) : RM A (uN L k v) F W 0 (sJ w 208 k v) := by
  obtain ⟨a, b, c, d⟩ := h
  refine ⟨fun j hj => a j hj, fun j hj => ?_, fun j hj => c j hj, fun j hj => d j hj⟩
  have e := b j hj
  rw [show 784 * 0 + j = j by omega] at e ⊢
  unfold uN
  rw [wJ_sJ]
  by_cases q : j = k
  · rw [if_pos ⟨rfl, q⟩, if_pos q]
  · rw [if_neg (fun z => q z.2), if_neg q, e]
theorem RM_I (h : RM A L F W 0 w) {c k : Nat} (v : Int32) (hc : c ≠ 207 ∧ c ≠ 211 ∧ c ≠ 212) : RM A L F W 0 (sI w c k v) :=
  RM_cg (fun k _ => ev_wIn _ (by omega)) (fun k _ => rfl) (fun k _ => ev_wIn _ (by omega)) (fun k _ => ev_wIn _ (by omega)) h
theorem RM_J (h : RM A L F W 0 w) {c k : Nat} (v : Int64) (hc : c ≠ 208) : RM A L F W 0 (sJ w c k v) :=
  RM_cg (fun _ _ => wI_sJ _ _ _ _ _ _) (fun k _ => ev_wJn _ (by omega)) (fun _ _ => wI_sJ _ _ _ _ _ _) (fun _ _ => wI_sJ _ _ _ _ _ _) h
/-- the reference's cells, the class's cells: neither touches the other -/
theorem RX_I (hA : InA A) (h : RX A L F W 1 w) {c k : Nat} (v : Int32) (hc : 58 ≤ c ∨ c = 0) : RX A L F W 1 (sI w c k v) :=
  RX_cg hA (fun a b _ _ => ev_wIn _ (by omega)) (fun a b _ _ => rfl) h
theorem RX_J (hA : InA A) (h : RX A L F W 1 w) {c k : Nat} (v : Int64) (hc : 58 ≤ c ∨ c = 0) : RX A L F W 1 (sJ w c k v) :=
  RX_cg hA (fun _ _ _ _ => wI_sJ _ _ _ _ _ _) (fun a b _ _ => ev_wJn _ (by omega)) h
theorem RCon_c (hI : ∀ c k, (c = 2 ∨ c = 9 ∨ c = 16 ∨ c = 23) → (k ≤ 1 ∨ c = 16) → wI w' c k = wI w c k) (h : RCon 1 w) : RCon 1 w' := by
  obtain ⟨a, b, c, d, e, f, g, i, j⟩ := h
  exact ⟨(hI 2 0 (by omega) (by omega)).trans a, (hI 2 1 (by omega) (by omega)).trans b, (hI 9 0 (by omega) (by omega)).trans c, (hI 9 1 (by omega) (by omega)).trans d, (hI 16 0 (by omega) (by omega)).trans e, (hI 16 1 (by omega) (by omega)).trans f, (hI 16 2 (by omega) (by omega)).trans g, (hI 23 0 (by omega) (by omega)).trans i, (hI 23 1 (by omega) (by omega)).trans j⟩
def okA (k v : Nat) : Prop := v ≤ 9999 ∧ (k = 0 → v ≤ 40) ∧ (121 ≤ k ∧ k < 161 → v ≤ 12) ∧ (k = 162 → v ≤ 60) ∧ (k = 223 → v ≤ 12) ∧ (236 ≤ k ∧ k < 248 → v ≤ 12) ∧ k ≠ 248 ∧ k ≠ 249 ∧ (k = 506 → v ≤ 20) ∧ (k = 547 → v ≤ 60) ∧ (k = 848 → v ≤ 20) ∧ (k = 889 → v ≤ 40) ∧ (k = 970 → v ≤ 8) ∧ (k = 987 → v ≤ 8)
theorem uN_c {A : Nat → Nat} {k v j b : Nat} (h : A j ≤ b) (hv : j = k → v ≤ b) : uN A k v j ≤ b := by
  unfold uN
  split
  · rename_i e; exact hv e
  · exact h
theorem InA_up (h : InA A) {k v : Nat} (ho : okA k v) : InA (uN A k v) := by
  obtain ⟨a0, a1, a2, a3, a4, a5, ⟨a6, a6b, a6c⟩, a7, a8, a9, b1, b2, b3⟩ := h
  unfold okA at ho
  refine ⟨uN_9 a0 (by omega), uN_c a1 (by omega), fun i hi => uN_c (a2 i hi) (by omega), uN_c a3 (by omega), uN_c a4 (by omega), fun i hi => uN_c (a5 i hi) (by omega), ?_, uN_c a7 (by omega), uN_c a8 (by omega), uN_c a9 (by omega), uN_c b1 (by omega), uN_c b2 (by omega), uN_c b3 (by omega)⟩
  rw [uN_ne (by omega), uN_ne (by omega)]
  exact ⟨a6, a6b, a6c⟩
theorem InB_up (h : InB A) {k v : Nat} (ho : k < 987 ∧ k ≠ 547 ∧ ¬ (668 ≤ k ∧ k < 728) ∧ ¬ (970 ≤ k ∧ k < 987) ∧ k ≠ 250) (hA : A 987 ≤ 8 ∧ A 547 ≤ 60 ∧ A 970 ≤ 8) : InB (uN A k v) := by
  obtain ⟨a, b, c, d, e⟩ := h
  have e1 : uN A k v 987 = A 987 := uN_ne (by omega)
  have e2 : uN A k v 547 = A 547 := uN_ne (by omega)
  have e3 : uN A k v 970 = A 970 := uN_ne (by omega)
  refine ⟨fun i hi => ?_, fun i g hi hg => ?_, fun i hi => ?_, fun i hi => ?_, ?_⟩
  · rw [e1] at hi; rw [uN_ne (by omega)]; exact a i hi
  · rw [e1] at hi; rw [uN_ne (by omega)]; exact b i g hi hg
  · rw [e2] at hi; rw [uN_ne (by omega)]; exact c i hi
  · rw [e3] at hi; rw [uN_ne (by omega), uN_ne (by omega)]; exact d i hi
  · rw [uN_ne (by omega)]; exact e
theorem InL_up (h : InL A L) (hA : InA A) {k v : Nat} (ho : k ≠ 0 ∧ ¬ (121 ≤ k ∧ k < 161) ∧ k ≠ 162 ∧ k ≠ 223 ∧ ¬ (236 ≤ k ∧ k < 248) ∧ k ≠ 506 ∧ k ≠ 547) : InL (uN A k v) L := by
  obtain ⟨a, b, c, d, e⟩ := h
  obtain ⟨a0, a1, a2, a3, a4, a5, -, a7, a8, -⟩ := hA
  have e1 : uN A k v 0 = A 0 := uN_ne (by omega)
  have e2 : uN A k v 223 = A 223 := uN_ne (by omega)
  have e3 : uN A k v 162 = A 162 := uN_ne (by omega)
  have e4 : uN A k v 506 = A 506 := uN_ne (by omega)
  have e5 : uN A k v 547 = A 547 := uN_ne (by omega)
  refine ⟨fun i j hi hj => ?_, fun i j hi hj => ?_, fun p hp => ?_, fun v hv => ?_, fun i hi => ?_⟩
  · rw [e1] at hi; rw [uN_ne (by omega)] at hj; exact a i j hi hj
  · rw [e2] at hi; rw [uN_ne (by omega)] at hj; exact b i j hi hj
  · rw [e3] at hp; exact c p hp
  · rw [e4] at hv; exact d v hv
  · rw [e5] at hi; exact e i hi
theorem RX_RSong (hA : InA A) (h : RX A L F W 1 w) (eA : ∀ k, ¬ (k < 161) → A' k = A k) (eL : ∀ k, ¬ (k < 480) → L' k = L k) (eI : ∀ c k, 1 ≤ c → c ≤ 57 → ¬ ((2 ≤ c ∧ c ≤ 8) ∨ c = 30) → wI w' c k = wI w c k) (eJ : ∀ c k, 1 ≤ c → c ≤ 57 → ¬ ((2 ≤ c ∧ c ≤ 8) ∨ c = 30) → wJ w' c k = wJ w c k) (nw : RSong A' L' F 1 w') : RX A' L' F W 1 w' := by
  obtain ⟨a0, a1, a2, a3, a4, a5, a6, a7, a8, a9, b1, b2, b3⟩ := hA
  obtain ⟨x0, x1, x2, x3, x4, x5, x6, x7, x8, x9, y0⟩ := h
  exact ⟨nw,
    RBook_cg a4 a5 (fun k _ _ => eA k (by omega)) (fun k _ _ => eL k (by omega)) (fun c k _ _ => eI c k (by omega) (by omega) (by omega)) (fun c k _ => eJ c k (by omega) (by omega) (by omega)) x1,
    RPrint_cg a3 (fun k _ _ => eA k (by omega)) (fun k _ _ => eL k (by omega)) (fun c k _ _ => eI c k (by omega) (by omega) (by omega)) (fun c k _ => eJ c k (by omega) (by omega) (by omega)) x2,
    RVers_cg a7 (fun k _ _ => eA k (by omega)) (fun k _ _ => eL k (by omega)) (fun c k _ _ => eI c k (by omega) (by omega) (by omega)) (fun c k _ => eJ c k (by omega) (by omega) (by omega)) x3,
    RYear_cg (fun k _ _ => eA k (by omega)) (fun k => eI _ k (by omega) (by omega) (by omega)) x4,
    FX_cg (fun c k _ _ => eI c k (by omega) (by omega) (by omega)) (fun c k _ _ => eJ c k (by omega) (by omega) (by omega)) x5,
    RLaw_cg (fun c k _ _ => eI c k (by omega) (by omega) (by omega)) x6,
    RAns_cg a8 (fun k _ _ => eA k (by omega)) (fun k _ _ => eL k (by omega)) (fun c k _ _ => eI c k (by omega) (by omega) (by omega)) (fun c k _ => eJ c k (by omega) (by omega) (by omega)) x7,
    RWork_cg a9 b1 b2 (fun k _ _ => eA k (by omega)) (fun c k _ _ => eI c k (by omega) (by omega) (by omega)) x8,
    RWorld_cg b3 (fun k _ _ => eA k (by omega)) (fun c k _ _ => eI c k (by omega) (by omega) (by omega)) x9,
    RBnd_cg (fun k _ _ => eA k (by omega)) (fun k _ _ => eI _ k (by omega) (by omega) (by omega)) y0⟩
theorem RX_RBook (hA : InA A) (h : RX A L F W 1 w) (eA : ∀ k, ¬ (223 ≤ k ∧ k < 248) → A' k = A k) (eL : ∀ k, ¬ (540 ≤ k ∧ k < 684) → L' k = L k) (eI : ∀ c k, 1 ≤ c → c ≤ 57 → ¬ (9 ≤ c ∧ c ≤ 15) → wI w' c k = wI w c k) (eJ : ∀ c k, 1 ≤ c → c ≤ 57 → ¬ (9 ≤ c ∧ c ≤ 15) → wJ w' c k = wJ w c k) (nw : RBook A' L' 1 w') : RX A' L' F W 1 w' := by
  obtain ⟨a0, a1, a2, a3, a4, a5, a6, a7, a8, a9, b1, b2, b3⟩ := hA
  obtain ⟨x0, x1, x2, x3, x4, x5, x6, x7, x8, x9, y0⟩ := h
  exact ⟨RSong_cg a1 a2 (fun k _ => eA k (by omega)) (fun k _ => eL k (by omega)) (fun c k _ _ => eI c k (by omega) (by omega) (by omega)) (fun c k _ => eJ c k (by omega) (by omega) (by omega)) x0,
    nw,
    RPrint_cg a3 (fun k _ _ => eA k (by omega)) (fun k _ _ => eL k (by omega)) (fun c k _ _ => eI c k (by omega) (by omega) (by omega)) (fun c k _ => eJ c k (by omega) (by omega) (by omega)) x2,
    RVers_cg a7 (fun k _ _ => eA k (by omega)) (fun k _ _ => eL k (by omega)) (fun c k _ _ => eI c k (by omega) (by omega) (by omega)) (fun c k _ => eJ c k (by omega) (by omega) (by omega)) x3,
    RYear_cg (fun k _ _ => eA k (by omega)) (fun k => eI _ k (by omega) (by omega) (by omega)) x4,
    FX_cg (fun c k _ _ => eI c k (by omega) (by omega) (by omega)) (fun c k _ _ => eJ c k (by omega) (by omega) (by omega)) x5,
    RLaw_cg (fun c k _ _ => eI c k (by omega) (by omega) (by omega)) x6,
    RAns_cg a8 (fun k _ _ => eA k (by omega)) (fun k _ _ => eL k (by omega)) (fun c k _ _ => eI c k (by omega) (by omega) (by omega)) (fun c k _ => eJ c k (by omega) (by omega) (by omega)) x7,
    RWork_cg a9 b1 b2 (fun k _ _ => eA k (by omega)) (fun c k _ _ => eI c k (by omega) (by omega) (by omega)) x8,
    RWorld_cg b3 (fun k _ _ => eA k (by omega)) (fun c k _ _ => eI c k (by omega) (by omega) (by omega)) x9,
    RBnd_cg (fun k _ _ => eA k (by omega)) (fun k _ _ => eI _ k (by omega) (by omega) (by omega)) y0⟩
theorem RX_RPrint (hA : InA A) (h : RX A L F W 1 w) (eA : ∀ k, ¬ (161 ≤ k ∧ k < 223) → A' k = A k) (eL : ∀ k, ¬ (480 ≤ k ∧ k < 540) → L' k = L k) (eI : ∀ c k, 1 ≤ c → c ≤ 57 → ¬ (16 ≤ c ∧ c ≤ 22) → wI w' c k = wI w c k) (eJ : ∀ c k, 1 ≤ c → c ≤ 57 → ¬ (16 ≤ c ∧ c ≤ 22) → wJ w' c k = wJ w c k) (nw : RPrint A' L' 1 w') : RX A' L' F W 1 w' := by
  obtain ⟨a0, a1, a2, a3, a4, a5, a6, a7, a8, a9, b1, b2, b3⟩ := hA
  obtain ⟨x0, x1, x2, x3, x4, x5, x6, x7, x8, x9, y0⟩ := h
  exact ⟨RSong_cg a1 a2 (fun k _ => eA k (by omega)) (fun k _ => eL k (by omega)) (fun c k _ _ => eI c k (by omega) (by omega) (by omega)) (fun c k _ => eJ c k (by omega) (by omega) (by omega)) x0,
    RBook_cg a4 a5 (fun k _ _ => eA k (by omega)) (fun k _ _ => eL k (by omega)) (fun c k _ _ => eI c k (by omega) (by omega) (by omega)) (fun c k _ => eJ c k (by omega) (by omega) (by omega)) x1,
    nw,
    RVers_cg a7 (fun k _ _ => eA k (by omega)) (fun k _ _ => eL k (by omega)) (fun c k _ _ => eI c k (by omega) (by omega) (by omega)) (fun c k _ => eJ c k (by omega) (by omega) (by omega)) x3,
    RYear_cg (fun k _ _ => eA k (by omega)) (fun k => eI _ k (by omega) (by omega) (by omega)) x4,
    FX_cg (fun c k _ _ => eI c k (by omega) (by omega) (by omega)) (fun c k _ _ => eJ c k (by omega) (by omega) (by omega)) x5,
    RLaw_cg (fun c k _ _ => eI c k (by omega) (by omega) (by omega)) x6,
    RAns_cg a8 (fun k _ _ => eA k (by omega)) (fun k _ _ => eL k (by omega)) (fun c k _ _ => eI c k (by omega) (by omega) (by omega)) (fun c k _ => eJ c k (by omega) (by omega) (by omega)) x7,
    RWork_cg a9 b1 b2 (fun k _ _ => eA k (by omega)) (fun c k _ _ => eI c k (by omega) (by omega) (by omega)) x8,
    RWorld_cg b3 (fun k _ _ => eA k (by omega)) (fun c k _ _ => eI c k (by omega) (by omega) (by omega)) x9,
    RBnd_cg (fun k _ _ => eA k (by omega)) (fun k _ _ => eI _ k (by omega) (by omega) (by omega)) y0⟩
theorem RX_RVers (hA : InA A) (h : RX A L F W 1 w) (eA : ∀ k, ¬ (506 ≤ k ∧ k < 547) → A' k = A k) (eL : ∀ k, ¬ (684 ≤ k ∧ k < 724) → L' k = L k) (eI : ∀ c k, 1 ≤ c → c ≤ 57 → ¬ (23 ≤ c ∧ c ≤ 29) → wI w' c k = wI w c k) (eJ : ∀ c k, 1 ≤ c → c ≤ 57 → ¬ (23 ≤ c ∧ c ≤ 29) → wJ w' c k = wJ w c k) (nw : RVers A' L' 1 w') : RX A' L' F W 1 w' := by
  obtain ⟨a0, a1, a2, a3, a4, a5, a6, a7, a8, a9, b1, b2, b3⟩ := hA
  obtain ⟨x0, x1, x2, x3, x4, x5, x6, x7, x8, x9, y0⟩ := h
  exact ⟨RSong_cg a1 a2 (fun k _ => eA k (by omega)) (fun k _ => eL k (by omega)) (fun c k _ _ => eI c k (by omega) (by omega) (by omega)) (fun c k _ => eJ c k (by omega) (by omega) (by omega)) x0,
    RBook_cg a4 a5 (fun k _ _ => eA k (by omega)) (fun k _ _ => eL k (by omega)) (fun c k _ _ => eI c k (by omega) (by omega) (by omega)) (fun c k _ => eJ c k (by omega) (by omega) (by omega)) x1,
    RPrint_cg a3 (fun k _ _ => eA k (by omega)) (fun k _ _ => eL k (by omega)) (fun c k _ _ => eI c k (by omega) (by omega) (by omega)) (fun c k _ => eJ c k (by omega) (by omega) (by omega)) x2,
    nw,
    RYear_cg (fun k _ _ => eA k (by omega)) (fun k => eI _ k (by omega) (by omega) (by omega)) x4,
    FX_cg (fun c k _ _ => eI c k (by omega) (by omega) (by omega)) (fun c k _ _ => eJ c k (by omega) (by omega) (by omega)) x5,
    RLaw_cg (fun c k _ _ => eI c k (by omega) (by omega) (by omega)) x6,
    RAns_cg a8 (fun k _ _ => eA k (by omega)) (fun k _ _ => eL k (by omega)) (fun c k _ _ => eI c k (by omega) (by omega) (by omega)) (fun c k _ => eJ c k (by omega) (by omega) (by omega)) x7,
    RWork_cg a9 b1 b2 (fun k _ _ => eA k (by omega)) (fun c k _ _ => eI c k (by omega) (by omega) (by omega)) x8,
    RWorld_cg b3 (fun k _ _ => eA k (by omega)) (fun c k _ _ => eI c k (by omega) (by omega) (by omega)) x9,
    RBnd_cg (fun k _ _ => eA k (by omega)) (fun k _ _ => eI _ k (by omega) (by omega) (by omega)) y0⟩
theorem RX_RYear (hA : InA A) (h : RX A L F W 1 w) (eA : ∀ k, ¬ (250 ≤ k ∧ k < 506) → A' k = A k)  (eI : ∀ c k, 1 ≤ c → c ≤ 57 → ¬ (c = 31) → wI w' c k = wI w c k) (eJ : ∀ c k, 1 ≤ c → c ≤ 57 → ¬ (c = 31) → wJ w' c k = wJ w c k) (nw : RYear A' 1 w') : RX A' L F W 1 w' := by
  obtain ⟨a0, a1, a2, a3, a4, a5, a6, a7, a8, a9, b1, b2, b3⟩ := hA
  obtain ⟨x0, x1, x2, x3, x4, x5, x6, x7, x8, x9, y0⟩ := h
  exact ⟨RSong_cg a1 a2 (fun k _ => eA k (by omega)) (fun _ _ => rfl) (fun c k _ _ => eI c k (by omega) (by omega) (by omega)) (fun c k _ => eJ c k (by omega) (by omega) (by omega)) x0,
    RBook_cg a4 a5 (fun k _ _ => eA k (by omega)) (fun _ _ _ => rfl) (fun c k _ _ => eI c k (by omega) (by omega) (by omega)) (fun c k _ => eJ c k (by omega) (by omega) (by omega)) x1,
    RPrint_cg a3 (fun k _ _ => eA k (by omega)) (fun _ _ _ => rfl) (fun c k _ _ => eI c k (by omega) (by omega) (by omega)) (fun c k _ => eJ c k (by omega) (by omega) (by omega)) x2,
    RVers_cg a7 (fun k _ _ => eA k (by omega)) (fun _ _ _ => rfl) (fun c k _ _ => eI c k (by omega) (by omega) (by omega)) (fun c k _ => eJ c k (by omega) (by omega) (by omega)) x3,
    nw,
    FX_cg (fun c k _ _ => eI c k (by omega) (by omega) (by omega)) (fun c k _ _ => eJ c k (by omega) (by omega) (by omega)) x5,
    RLaw_cg (fun c k _ _ => eI c k (by omega) (by omega) (by omega)) x6,
    RAns_cg a8 (fun k _ _ => eA k (by omega)) (fun _ _ _ => rfl) (fun c k _ _ => eI c k (by omega) (by omega) (by omega)) (fun c k _ => eJ c k (by omega) (by omega) (by omega)) x7,
    RWork_cg a9 b1 b2 (fun k _ _ => eA k (by omega)) (fun c k _ _ => eI c k (by omega) (by omega) (by omega)) x8,
    RWorld_cg b3 (fun k _ _ => eA k (by omega)) (fun c k _ _ => eI c k (by omega) (by omega) (by omega)) x9,
    RBnd_cg (fun k _ _ => eA k (by omega)) (fun k _ _ => eI _ k (by omega) (by omega) (by omega)) y0⟩
theorem RX_RAns (hA : InA A) (h : RX A L F W 1 w) (eA : ∀ k, ¬ (547 ≤ k ∧ k < 848) → A' k = A k) (eL : ∀ k, ¬ (724 ≤ k ∧ k < 784) → L' k = L k) (eI : ∀ c k, 1 ≤ c → c ≤ 57 → ¬ (41 ≤ c ∧ c ≤ 47) → wI w' c k = wI w c k) (eJ : ∀ c k, 1 ≤ c → c ≤ 57 → ¬ (41 ≤ c ∧ c ≤ 47) → wJ w' c k = wJ w c k) (nw : RAns A' L' 1 w') : RX A' L' F W 1 w' := by
  obtain ⟨a0, a1, a2, a3, a4, a5, a6, a7, a8, a9, b1, b2, b3⟩ := hA
  obtain ⟨x0, x1, x2, x3, x4, x5, x6, x7, x8, x9, y0⟩ := h
  exact ⟨RSong_cg a1 a2 (fun k _ => eA k (by omega)) (fun k _ => eL k (by omega)) (fun c k _ _ => eI c k (by omega) (by omega) (by omega)) (fun c k _ => eJ c k (by omega) (by omega) (by omega)) x0,
    RBook_cg a4 a5 (fun k _ _ => eA k (by omega)) (fun k _ _ => eL k (by omega)) (fun c k _ _ => eI c k (by omega) (by omega) (by omega)) (fun c k _ => eJ c k (by omega) (by omega) (by omega)) x1,
    RPrint_cg a3 (fun k _ _ => eA k (by omega)) (fun k _ _ => eL k (by omega)) (fun c k _ _ => eI c k (by omega) (by omega) (by omega)) (fun c k _ => eJ c k (by omega) (by omega) (by omega)) x2,
    RVers_cg a7 (fun k _ _ => eA k (by omega)) (fun k _ _ => eL k (by omega)) (fun c k _ _ => eI c k (by omega) (by omega) (by omega)) (fun c k _ => eJ c k (by omega) (by omega) (by omega)) x3,
    RYear_cg (fun k _ _ => eA k (by omega)) (fun k => eI _ k (by omega) (by omega) (by omega)) x4,
    FX_cg (fun c k _ _ => eI c k (by omega) (by omega) (by omega)) (fun c k _ _ => eJ c k (by omega) (by omega) (by omega)) x5,
    RLaw_cg (fun c k _ _ => eI c k (by omega) (by omega) (by omega)) x6,
    nw,
    RWork_cg a9 b1 b2 (fun k _ _ => eA k (by omega)) (fun c k _ _ => eI c k (by omega) (by omega) (by omega)) x8,
    RWorld_cg b3 (fun k _ _ => eA k (by omega)) (fun c k _ _ => eI c k (by omega) (by omega) (by omega)) x9,
    RBnd_cg (fun k _ _ => eA k (by omega)) (fun k _ _ => eI _ k (by omega) (by omega) (by omega)) y0⟩
theorem RX_RWork (hA : InA A) (h : RX A L F W 1 w) (eA : ∀ k, ¬ (848 ≤ k ∧ k < 987) → A' k = A k)  (eI : ∀ c k, 1 ≤ c → c ≤ 57 → ¬ (48 ≤ c ∧ c ≤ 54) → wI w' c k = wI w c k) (eJ : ∀ c k, 1 ≤ c → c ≤ 57 → ¬ (48 ≤ c ∧ c ≤ 54) → wJ w' c k = wJ w c k) (nw : RWork A' 1 w') : RX A' L F W 1 w' := by
  obtain ⟨a0, a1, a2, a3, a4, a5, a6, a7, a8, a9, b1, b2, b3⟩ := hA
  obtain ⟨x0, x1, x2, x3, x4, x5, x6, x7, x8, x9, y0⟩ := h
  exact ⟨RSong_cg a1 a2 (fun k _ => eA k (by omega)) (fun _ _ => rfl) (fun c k _ _ => eI c k (by omega) (by omega) (by omega)) (fun c k _ => eJ c k (by omega) (by omega) (by omega)) x0,
    RBook_cg a4 a5 (fun k _ _ => eA k (by omega)) (fun _ _ _ => rfl) (fun c k _ _ => eI c k (by omega) (by omega) (by omega)) (fun c k _ => eJ c k (by omega) (by omega) (by omega)) x1,
    RPrint_cg a3 (fun k _ _ => eA k (by omega)) (fun _ _ _ => rfl) (fun c k _ _ => eI c k (by omega) (by omega) (by omega)) (fun c k _ => eJ c k (by omega) (by omega) (by omega)) x2,
    RVers_cg a7 (fun k _ _ => eA k (by omega)) (fun _ _ _ => rfl) (fun c k _ _ => eI c k (by omega) (by omega) (by omega)) (fun c k _ => eJ c k (by omega) (by omega) (by omega)) x3,
    RYear_cg (fun k _ _ => eA k (by omega)) (fun k => eI _ k (by omega) (by omega) (by omega)) x4,
    FX_cg (fun c k _ _ => eI c k (by omega) (by omega) (by omega)) (fun c k _ _ => eJ c k (by omega) (by omega) (by omega)) x5,
    RLaw_cg (fun c k _ _ => eI c k (by omega) (by omega) (by omega)) x6,
    RAns_cg a8 (fun k _ _ => eA k (by omega)) (fun _ _ _ => rfl) (fun c k _ _ => eI c k (by omega) (by omega) (by omega)) (fun c k _ => eJ c k (by omega) (by omega) (by omega)) x7,
    nw,
    RWorld_cg b3 (fun k _ _ => eA k (by omega)) (fun c k _ _ => eI c k (by omega) (by omega) (by omega)) x9,
    RBnd_cg (fun k _ _ => eA k (by omega)) (fun k _ _ => eI _ k (by omega) (by omega) (by omega)) y0⟩
theorem RX_RWorld (hA : InA A) (h : RX A L F W 1 w) (eA : ∀ k, ¬ (987 ≤ k ∧ k < 1124) → A' k = A k)  (eI : ∀ c k, 1 ≤ c → c ≤ 57 → ¬ (55 ≤ c ∧ c ≤ 57) → wI w' c k = wI w c k) (eJ : ∀ c k, 1 ≤ c → c ≤ 57 → ¬ (55 ≤ c ∧ c ≤ 57) → wJ w' c k = wJ w c k) (nw : RWorld A' 1 w') : RX A' L F W 1 w' := by
  obtain ⟨a0, a1, a2, a3, a4, a5, a6, a7, a8, a9, b1, b2, b3⟩ := hA
  obtain ⟨x0, x1, x2, x3, x4, x5, x6, x7, x8, x9, y0⟩ := h
  exact ⟨RSong_cg a1 a2 (fun k _ => eA k (by omega)) (fun _ _ => rfl) (fun c k _ _ => eI c k (by omega) (by omega) (by omega)) (fun c k _ => eJ c k (by omega) (by omega) (by omega)) x0,
    RBook_cg a4 a5 (fun k _ _ => eA k (by omega)) (fun _ _ _ => rfl) (fun c k _ _ => eI c k (by omega) (by omega) (by omega)) (fun c k _ => eJ c k (by omega) (by omega) (by omega)) x1,
    RPrint_cg a3 (fun k _ _ => eA k (by omega)) (fun _ _ _ => rfl) (fun c k _ _ => eI c k (by omega) (by omega) (by omega)) (fun c k _ => eJ c k (by omega) (by omega) (by omega)) x2,
    RVers_cg a7 (fun k _ _ => eA k (by omega)) (fun _ _ _ => rfl) (fun c k _ _ => eI c k (by omega) (by omega) (by omega)) (fun c k _ => eJ c k (by omega) (by omega) (by omega)) x3,
    RYear_cg (fun k _ _ => eA k (by omega)) (fun k => eI _ k (by omega) (by omega) (by omega)) x4,
    FX_cg (fun c k _ _ => eI c k (by omega) (by omega) (by omega)) (fun c k _ _ => eJ c k (by omega) (by omega) (by omega)) x5,
    RLaw_cg (fun c k _ _ => eI c k (by omega) (by omega) (by omega)) x6,
    RAns_cg a8 (fun k _ _ => eA k (by omega)) (fun _ _ _ => rfl) (fun c k _ _ => eI c k (by omega) (by omega) (by omega)) (fun c k _ => eJ c k (by omega) (by omega) (by omega)) x7,
    RWork_cg a9 b1 b2 (fun k _ _ => eA k (by omega)) (fun c k _ _ => eI c k (by omega) (by omega) (by omega)) x8,
    nw,
    RBnd_cg (fun k _ _ => eA k (by omega)) (fun k _ _ => eI _ k (by omega) (by omega) (by omega)) y0⟩
theorem RX_RBnd (hA : InA A) (h : RX A L F W 1 w) (eA : ∀ k, ¬ (248 ≤ k ∧ k < 250) → A' k = A k)  (eI : ∀ c k, 1 ≤ c → c ≤ 57 → ¬ (c = 1) → wI w' c k = wI w c k) (eJ : ∀ c k, 1 ≤ c → c ≤ 57 → ¬ (c = 1) → wJ w' c k = wJ w c k) (nw : RBnd A' 1 w') : RX A' L F W 1 w' := by
  obtain ⟨a0, a1, a2, a3, a4, a5, a6, a7, a8, a9, b1, b2, b3⟩ := hA
  obtain ⟨x0, x1, x2, x3, x4, x5, x6, x7, x8, x9, y0⟩ := h
  exact ⟨RSong_cg a1 a2 (fun k _ => eA k (by omega)) (fun _ _ => rfl) (fun c k _ _ => eI c k (by omega) (by omega) (by omega)) (fun c k _ => eJ c k (by omega) (by omega) (by omega)) x0,
    RBook_cg a4 a5 (fun k _ _ => eA k (by omega)) (fun _ _ _ => rfl) (fun c k _ _ => eI c k (by omega) (by omega) (by omega)) (fun c k _ => eJ c k (by omega) (by omega) (by omega)) x1,
    RPrint_cg a3 (fun k _ _ => eA k (by omega)) (fun _ _ _ => rfl) (fun c k _ _ => eI c k (by omega) (by omega) (by omega)) (fun c k _ => eJ c k (by omega) (by omega) (by omega)) x2,
    RVers_cg a7 (fun k _ _ => eA k (by omega)) (fun _ _ _ => rfl) (fun c k _ _ => eI c k (by omega) (by omega) (by omega)) (fun c k _ => eJ c k (by omega) (by omega) (by omega)) x3,
    RYear_cg (fun k _ _ => eA k (by omega)) (fun k => eI _ k (by omega) (by omega) (by omega)) x4,
    FX_cg (fun c k _ _ => eI c k (by omega) (by omega) (by omega)) (fun c k _ _ => eJ c k (by omega) (by omega) (by omega)) x5,
    RLaw_cg (fun c k _ _ => eI c k (by omega) (by omega) (by omega)) x6,
    RAns_cg a8 (fun k _ _ => eA k (by omega)) (fun _ _ _ => rfl) (fun c k _ _ => eI c k (by omega) (by omega) (by omega)) (fun c k _ => eJ c k (by omega) (by omega) (by omega)) x7,
    RWork_cg a9 b1 b2 (fun k _ _ => eA k (by omega)) (fun c k _ _ => eI c k (by omega) (by omega) (by omega)) x8,
    RWorld_cg b3 (fun k _ _ => eA k (by omega)) (fun c k _ _ => eI c k (by omega) (by omega) (by omega)) x9,
    nw⟩
end UP
theorem RN_lim {A : Nat → Nat} (h : InA A) : A 987 ≤ 8 ∧ A 547 ≤ 60 ∧ A 970 ≤ 8 := ⟨h.2.2.2.2.2.2.2.2.2.2.2.2, h.2.2.2.2.2.2.2.2.1, h.2.2.2.2.2.2.2.2.2.2.2.1⟩
theorem rr_print : fS_print RR := by
  refine s_print rr_ref (fun w hw => ?_) (fun w k hw hk => ?_)
  · obtain ⟨⟨A, L, F, W, h⟩, -⟩ := hw
    rw [RN_pd h, RN_A h (show 161 < 1124 by decide)]
  · obtain ⟨⟨A, L, F, W, ⟨⟨i1, i2, i3, i4, i5⟩, x, c, m⟩⟩, -⟩ := id hw
    refine rr_now (frP_trans (frP_trans (frP_sI _ _ (by unfold NowS; omega)) (frP_sI _ _ (by unfold NowS Scr; omega))) (frP_sI _ _ (by unfold NowS; omega))) hw ⟨uN A 161 k, L, F, W, ⟨InA_up i1 (by unfold okA; omega), InB_up i2 (by omega) (RN_lim i1), InL_up i3 i1 (by omega), i4, i5⟩, ?_, ?_, RM_A (RM_I (RM_I m _ (by omega)) _ (by omega)) k⟩
    · have h1 : InA (uN A 161 k) := InA_up i1 (by unfold okA; omega)
      refine RX_I h1 (RX_I h1 ?_ _ (by omega)) _ (by omega)
      refine RX_RPrint i1 x (fun j hj => uN_ne (by omega)) (fun _ _ => rfl) (fun c j _ _ hc => ev_wIn _ (by omega)) (fun _ _ _ _ _ => rfl) ?_
      obtain ⟨p1, p2, p3⟩ := x.2.2.1
      have e162 : uN A 161 k 162 = A 162 := uN_ne (by omega)
      have h60 := i1.2.2.2.1
      refine ⟨by rw [uN_eq]; exact ev_wIs _ _ _ _, by rw [e162, ev_wIn _ (by omega)]; exact p2, fun p hp => ?_⟩
      rw [e162] at hp
      rw [uN_ne (by omega), ev_wIn _ (by omega)]
      exact p3 p hp
    · exact RCon_c (fun c j _ _ => by rw [ev_wIn _ (by omega), ev_wIn _ (by omega), ev_wIn _ (by omega)]) c
theorem rr_bounds : fS_bounds RR := by
  refine s_bounds rr_ref (fun w a b hw h1 h2 h3 => ?_)
  obtain ⟨⟨A, L, F, W, ⟨⟨i1, i2, i3, i4, i5⟩, x, c, m⟩⟩, -⟩ := id hw
  have hA : InA (uN (uN A 248 a) 249 b) := by
    obtain ⟨a0, a1, a2, a3, a4, a5, a6, a7, a8, a9, b1, b2, b3⟩ := i1
    refine ⟨uN_9 (uN_9 a0 (by omega)) (by omega), ?_, fun i hi => ?_, ?_, ?_, fun i hi => ?_, ⟨?_, ?_, ?_⟩, ?_, ?_, ?_, ?_, ?_, ?_⟩ <;> simp (disch := omega) only [uN_ne, uN_eq] <;> first | assumption | omega | exact a2 i hi | exact a5 i hi
  have lim := RN_lim i1
  refine rr_now (frP_trans (frP_trans (frP_trans (frP_trans (frP_sI _ _ (by unfold NowS; omega)) (frP_sI _ _ (by unfold NowS; omega))) (frP_sI _ _ (by unfold NowS Scr; omega))) (frP_sI _ _ (by unfold NowS; omega))) (frP_sI _ _ (by unfold NowS; omega))) hw ⟨uN (uN A 248 a) 249 b, L, F, W, ⟨hA, InB_up (InB_up i2 (by omega) lim) (by omega) (by rw [uN_ne (by omega), uN_ne (by omega), uN_ne (by omega)]; exact lim), ?_, i4, i5⟩, ?_, ?_, RM_A (RM_A (RM_I (RM_I (RM_I m _ (by omega)) _ (by omega)) _ (by omega)) a) b⟩
  · obtain ⟨a1, a2, a3, a4, a5⟩ := i3
    obtain ⟨b0, b1, b2, b3, b4, b5, -, b7, b8, -⟩ := i1
    refine ⟨fun i k hi hk => ?_, fun i k hi hk => ?_, fun p hp => ?_, fun v hv => ?_, fun i hi => ?_⟩
    · rw [uN_ne (by omega), uN_ne (by omega)] at hi; rw [uN_ne (by omega), uN_ne (by omega)] at hk; exact a1 i k hi hk
    · rw [uN_ne (by omega), uN_ne (by omega)] at hi; rw [uN_ne (by omega), uN_ne (by omega)] at hk; exact a2 i k hi hk
    · rw [uN_ne (by omega), uN_ne (by omega)] at hp; exact a3 p hp
    · rw [uN_ne (by omega), uN_ne (by omega)] at hv; exact a4 v hv
    · rw [uN_ne (by omega), uN_ne (by omega)] at hi; exact a5 i hi
  · refine RX_I hA (RX_I hA (RX_I hA ?_ _ (by omega)) _ (by omega)) _ (by omega)
    refine RX_RBnd i1 x (fun j hj => by rw [uN_ne (by omega), uN_ne (by omega)]) (fun c j _ _ hc => by rw [ev_wIn _ (by omega), ev_wIn _ (by omega)]) (fun _ _ _ _ _ => rfl) ⟨?_, ?_⟩
    · rw [ev_wIn _ (by omega), ev_wIs, uN_ne (by omega), uN_eq]
    · rw [ev_wIs, uN_eq]
  · exact RCon_c (fun c j _ _ => by rw [ev_wIn _ (by omega), ev_wIn _ (by omega), ev_wIn _ (by omega), ev_wIn _ (by omega), ev_wIn _ (by omega)]) c
theorem rr_year : fS_year RR := by
  refine s_year rr_ref (fun w k hw h1 h2 => ?_) (fun w k v hw h1 h2 h3 => ?_)
  · obtain ⟨⟨A, L, F, W, h⟩, -⟩ := hw
    rw [RN_A h (show 250 + k < 1124 by omega)]
    exact h.2.1.2.2.2.2.1 k (by omega)
  · obtain ⟨⟨A, L, F, W, ⟨⟨i1, i2, i3, i4, i5⟩, x, c, m⟩⟩, -⟩ := id hw
    have hA : InA (uN A (250 + k) v) := InA_up i1 (by unfold okA; omega)
    refine rr_now (frP_trans (frP_trans (frP_sI _ _ (by unfold NowS; omega)) (frP_sI _ _ (by unfold NowS Scr; omega))) (frP_sI _ _ (by unfold NowS; omega))) hw ⟨uN A (250 + k) v, L, F, W, ⟨hA, InB_up i2 (by omega) (RN_lim i1), InL_up i3 i1 (by omega), i4, i5⟩, ?_, ?_, RM_A (RM_I (RM_I m _ (by omega)) _ (by omega)) v⟩
    · refine RX_I hA (RX_I hA ?_ _ (by omega)) _ (by omega)
      refine RX_RYear i1 x (fun j hj => uN_ne (by omega)) (fun c j _ _ hc => ev_wIn _ (by omega)) (fun _ _ _ _ _ => rfl) (fun j hj => ?_)
      by_cases e : j = k
      · subst e
        rw [uN_eq]
        exact ev_wIs _ _ _ _
      · rw [uN_ne (by omega), ev_wIn _ (by omega)]
        exact x.2.2.2.2.1 j hj
    · exact RCon_c (fun c j _ _ => by rw [ev_wIn _ (by omega), ev_wIn _ (by omega), ev_wIn _ (by omega)]) c
theorem rr_paid : fS_paid RR := by
  refine s_paid rr_ref (fun w hw => ?_) ?_
  · obtain ⟨⟨A, L, F, W, h⟩, -⟩ := hw
    obtain ⟨k0, k1, k2, -⟩ := RN_wk h
    obtain ⟨m1, m2, m3⟩ := RN_wl h
    exact ⟨A 848, by omega, by assumption, RN_A h (by decide)⟩
  · intro w k a b hw hk hk2 h1 h2 h3
    obtain ⟨⟨A, L, F, W, h⟩, -⟩ := id hw
    have hkA : k = A 848 := by
      obtain ⟨k0, k1, k2, -⟩ := RN_wk h
      obtain ⟨m1, m2, m3⟩ := RN_wl h
      have e : nI k = nI (A 848) := by rw [← hk]; assumption
      exact (nI_eq (by omega) (by omega)).mp e
    obtain ⟨⟨i1, i2, i3, i4, i5⟩, x, c, m⟩ := h
    have lim := RN_lim i1
    have hA1 : InA (uN A (849 + k) a) := InA_up i1 (by unfold okA; omega)
    have hA2 : InA (uN (uN A (849 + k) a) (869 + k) b) := InA_up hA1 (by unfold okA; omega)
    have hA : InA (uN (uN (uN A (849 + k) a) (869 + k) b) 848 (k + 1)) := InA_up hA2 (by unfold okA; omega)
    unfold apM_paid apX_paid
    refine rr_now (frP_trans (frP_trans (frP_trans (frP_trans (frP_trans (frP_trans (frP_sI _ _ (by unfold NowS; omega)) (frP_sI _ _ (by unfold NowS; omega))) (frP_sI _ _ (by unfold NowS; omega))) (frP_sI _ _ (by unfold NowS Scr; omega))) (frP_sI _ _ (by unfold NowS; omega))) (frP_sI _ _ (by unfold NowS; omega))) (frP_sI _ _ (by unfold NowS; omega))) hw ⟨uN (uN (uN A (849 + k) a) (869 + k) b) 848 (k + 1), L, F, W, ⟨hA, ?_, InL_up (InL_up (InL_up i3 i1 (by omega)) hA1 (by omega)) hA2 (by omega), i4, i5⟩, ?_, ?_, RM_A (RM_A (RM_A (RM_I (RM_I (RM_I (RM_I m _ (by omega)) _ (by omega)) _ (by omega)) _ (by omega)) a) b) (k + 1)⟩
    · exact InB_up (InB_up (InB_up i2 (by omega) lim) (by omega) (RN_lim hA1)) (by omega) (RN_lim hA2)
    · refine RX_I hA (RX_I hA (RX_I hA (RX_I hA ?_ _ (by omega)) _ (by omega)) _ (by omega)) _ (by omega)
      refine RX_RWork i1 x (fun j hj => by rw [uN_ne (by omega), uN_ne (by omega), uN_ne (by omega)]) (fun c j _ _ hc => by rw [ev_wIn _ (by omega), ev_wIn _ (by omega), ev_wIn _ (by omega)]) (fun _ _ _ _ _ => rfl) ?_
      obtain ⟨w0, w1, w2, w3, w4, w5⟩ := x.2.2.2.2.2.2.2.2.1
      have d1 := i1.2.2.2.2.2.2.2.2.2.1
      have d2 := i1.2.2.2.2.2.2.2.2.2.2.1
      have d3 := i1.2.2.2.2.2.2.2.2.2.2.2.1
      refine ⟨?_, ?_, ?_, ?_, ?_, ?_⟩
      · show _ = nI (uN _ _ _ _); rw [uN_eq]; exact ev_wIs _ _ _ _
      · rw [uN_ne (by omega), uN_ne (by omega), uN_ne (by omega), ev_wIn _ (by omega), ev_wIn _ (by omega), ev_wIn _ (by omega)]; exact w1
      · rw [uN_ne (by omega), uN_ne (by omega), uN_ne (by omega), ev_wIn _ (by omega), ev_wIn _ (by omega), ev_wIn _ (by omega)]; exact w2
      · intro i hi
        rw [uN_eq] at hi
        by_cases e : i = k
        · subst e
          exact ⟨by rw [ev_wIn _ (by omega), ev_wIn _ (by omega)]; refine (ev_wIs _ _ _ _).trans ?_; rw [uN_ne (by omega), uN_ne (by omega), uN_eq], by rw [ev_wIn _ (by omega)]; refine (ev_wIs _ _ _ _).trans ?_; rw [uN_ne (by omega), uN_eq]⟩
        · rw [uN_ne (by omega), uN_ne (by omega), uN_ne (by omega), uN_ne (by omega), uN_ne (by omega), uN_ne (by omega), ev_wIn _ (by omega), ev_wIn _ (by omega), ev_wIn _ (by omega), ev_wIn _ (by omega), ev_wIn _ (by omega), ev_wIn _ (by omega)]
          exact w3 i (by omega)
      · intro i hi
        rw [uN_ne (by omega), uN_ne (by omega), uN_ne (by omega)] at hi
        rw [uN_ne (by omega), uN_ne (by omega), uN_ne (by omega), uN_ne (by omega), uN_ne (by omega), uN_ne (by omega), ev_wIn _ (by omega), ev_wIn _ (by omega), ev_wIn _ (by omega), ev_wIn _ (by omega), ev_wIn _ (by omega), ev_wIn _ (by omega)]
        exact w4 i hi
      · intro i hi
        rw [uN_ne (by omega), uN_ne (by omega), uN_ne (by omega)] at hi
        rw [uN_ne (by omega), uN_ne (by omega), uN_ne (by omega), uN_ne (by omega), uN_ne (by omega), uN_ne (by omega), ev_wIn _ (by omega), ev_wIn _ (by omega), ev_wIn _ (by omega), ev_wIn _ (by omega), ev_wIn _ (by omega), ev_wIn _ (by omega)]
        exact w5 i hi
    · exact RCon_c (fun c j _ _ => by rw [ev_wIn _ (by omega), ev_wIn _ (by omega), ev_wIn _ (by omega), ev_wIn _ (by omega), ev_wIn _ (by omega), ev_wIn _ (by omega), ev_wIn _ (by omega)]) c
theorem rr_pages : fS_pages RR := by
  refine s_pages rr_ref (fun w hw => ?_) ?_
  · obtain ⟨⟨A, L, F, W, h⟩, -⟩ := hw
    obtain ⟨k0, k1, k2, -⟩ := RN_wk h
    obtain ⟨m1, m2, m3⟩ := RN_wl h
    exact ⟨A 889, by omega, by assumption, RN_A h (by decide)⟩
  · intro w k a b hw hk hk2 h1 h2 h3
    obtain ⟨⟨A, L, F, W, h⟩, -⟩ := id hw
    have hkA : k = A 889 := by
      obtain ⟨k0, k1, k2, -⟩ := RN_wk h
      obtain ⟨m1, m2, m3⟩ := RN_wl h
      have e : nI k = nI (A 889) := by rw [← hk]; assumption
      exact (nI_eq (by omega) (by omega)).mp e
    obtain ⟨⟨i1, i2, i3, i4, i5⟩, x, c, m⟩ := h
    have lim := RN_lim i1
    have hA1 : InA (uN A (890 + k) a) := InA_up i1 (by unfold okA; omega)
    have hA2 : InA (uN (uN A (890 + k) a) (930 + k) b) := InA_up hA1 (by unfold okA; omega)
    have hA : InA (uN (uN (uN A (890 + k) a) (930 + k) b) 889 (k + 1)) := InA_up hA2 (by unfold okA; omega)
    unfold apM_pages apX_pages
    refine rr_now (frP_trans (frP_trans (frP_trans (frP_trans (frP_trans (frP_trans (frP_sI _ _ (by unfold NowS; omega)) (frP_sI _ _ (by unfold NowS; omega))) (frP_sI _ _ (by unfold NowS; omega))) (frP_sI _ _ (by unfold NowS Scr; omega))) (frP_sI _ _ (by unfold NowS; omega))) (frP_sI _ _ (by unfold NowS; omega))) (frP_sI _ _ (by unfold NowS; omega))) hw ⟨uN (uN (uN A (890 + k) a) (930 + k) b) 889 (k + 1), L, F, W, ⟨hA, ?_, InL_up (InL_up (InL_up i3 i1 (by omega)) hA1 (by omega)) hA2 (by omega), i4, i5⟩, ?_, ?_, RM_A (RM_A (RM_A (RM_I (RM_I (RM_I (RM_I m _ (by omega)) _ (by omega)) _ (by omega)) _ (by omega)) a) b) (k + 1)⟩
    · exact InB_up (InB_up (InB_up i2 (by omega) lim) (by omega) (RN_lim hA1)) (by omega) (RN_lim hA2)
    · refine RX_I hA (RX_I hA (RX_I hA (RX_I hA ?_ _ (by omega)) _ (by omega)) _ (by omega)) _ (by omega)
      refine RX_RWork i1 x (fun j hj => by rw [uN_ne (by omega), uN_ne (by omega), uN_ne (by omega)]) (fun c j _ _ hc => by rw [ev_wIn _ (by omega), ev_wIn _ (by omega), ev_wIn _ (by omega)]) (fun _ _ _ _ _ => rfl) ?_
      obtain ⟨w0, w1, w2, w3, w4, w5⟩ := x.2.2.2.2.2.2.2.2.1
      have d1 := i1.2.2.2.2.2.2.2.2.2.1
      have d2 := i1.2.2.2.2.2.2.2.2.2.2.1
      have d3 := i1.2.2.2.2.2.2.2.2.2.2.2.1
      refine ⟨?_, ?_, ?_, ?_, ?_, ?_⟩
      · rw [uN_ne (by omega), uN_ne (by omega), uN_ne (by omega), ev_wIn _ (by omega), ev_wIn _ (by omega), ev_wIn _ (by omega)]; exact w0
      · show _ = nI (uN _ _ _ _); rw [uN_eq]; exact ev_wIs _ _ _ _
      · rw [uN_ne (by omega), uN_ne (by omega), uN_ne (by omega), ev_wIn _ (by omega), ev_wIn _ (by omega), ev_wIn _ (by omega)]; exact w2
      · intro i hi
        rw [uN_ne (by omega), uN_ne (by omega), uN_ne (by omega)] at hi
        rw [uN_ne (by omega), uN_ne (by omega), uN_ne (by omega), uN_ne (by omega), uN_ne (by omega), uN_ne (by omega), ev_wIn _ (by omega), ev_wIn _ (by omega), ev_wIn _ (by omega), ev_wIn _ (by omega), ev_wIn _ (by omega), ev_wIn _ (by omega)]
        exact w3 i hi
      · intro i hi
        rw [uN_eq] at hi
        by_cases e : i = k
        · subst e
          exact ⟨by rw [ev_wIn _ (by omega), ev_wIn _ (by omega)]; refine (ev_wIs _ _ _ _).trans ?_; rw [uN_ne (by omega), uN_ne (by omega), uN_eq], by rw [ev_wIn _ (by omega)]; refine (ev_wIs _ _ _ _).trans ?_; rw [uN_ne (by omega), uN_eq]⟩
        · rw [uN_ne (by omega), uN_ne (by omega), uN_ne (by omega), uN_ne (by omega), uN_ne (by omega), uN_ne (by omega), ev_wIn _ (by omega), ev_wIn _ (by omega), ev_wIn _ (by omega), ev_wIn _ (by omega), ev_wIn _ (by omega), ev_wIn _ (by omega)]
          exact w4 i (by omega)
      · intro i hi
        rw [uN_ne (by omega), uN_ne (by omega), uN_ne (by omega)] at hi
        rw [uN_ne (by omega), uN_ne (by omega), uN_ne (by omega), uN_ne (by omega), uN_ne (by omega), uN_ne (by omega), ev_wIn _ (by omega), ev_wIn _ (by omega), ev_wIn _ (by omega), ev_wIn _ (by omega), ev_wIn _ (by omega), ev_wIn _ (by omega)]
        exact w5 i hi
    · exact RCon_c (fun c j _ _ => by rw [ev_wIn _ (by omega), ev_wIn _ (by omega), ev_wIn _ (by omega), ev_wIn _ (by omega), ev_wIn _ (by omega), ev_wIn _ (by omega), ev_wIn _ (by omega)]) c
theorem rr_free : fS_free RR := by
  refine s_free rr_ref (fun w hw => ?_) ?_
  · obtain ⟨⟨A, L, F, W, h⟩, -⟩ := hw
    obtain ⟨k0, k1, k2, -⟩ := RN_wk h
    obtain ⟨m1, m2, m3⟩ := RN_wl h
    exact ⟨A 970, by omega, by assumption, RN_A h (by decide)⟩
  · intro w k a b hw hk hk2 h1 h2
    obtain ⟨⟨A, L, F, W, h⟩, -⟩ := id hw
    have hkA : k = A 970 := by
      obtain ⟨k0, k1, k2, -⟩ := RN_wk h
      obtain ⟨m1, m2, m3⟩ := RN_wl h
      have e : nI k = nI (A 970) := by rw [← hk]; assumption
      exact (nI_eq (by omega) (by omega)).mp e
    obtain ⟨⟨i1, i2, i3, i4, i5⟩, x, c, m⟩ := h
    have lim := RN_lim i1
    have hA1 : InA (uN A (971 + k) a) := InA_up i1 (by unfold okA; omega)
    have hA2 : InA (uN (uN A (971 + k) a) (979 + k) b) := InA_up hA1 (by unfold okA; omega)
    have hA : InA (uN (uN (uN A (971 + k) a) (979 + k) b) 970 (k + 1)) := InA_up hA2 (by unfold okA; omega)
    unfold apM_free apX_free
    refine rr_now (frP_trans (frP_trans (frP_trans (frP_trans (frP_trans (frP_trans (frP_sI _ _ (by unfold NowS; omega)) (frP_sI _ _ (by unfold NowS; omega))) (frP_sI _ _ (by unfold NowS; omega))) (frP_sI _ _ (by unfold NowS Scr; omega))) (frP_sI _ _ (by unfold NowS; omega))) (frP_sI _ _ (by unfold NowS; omega))) (frP_sI _ _ (by unfold NowS; omega))) hw ⟨uN (uN (uN A (971 + k) a) (979 + k) b) 970 (k + 1), L, F, W, ⟨hA, ?_, InL_up (InL_up (InL_up i3 i1 (by omega)) hA1 (by omega)) hA2 (by omega), i4, i5⟩, ?_, ?_, RM_A (RM_A (RM_A (RM_I (RM_I (RM_I (RM_I m _ (by omega)) _ (by omega)) _ (by omega)) _ (by omega)) a) b) (k + 1)⟩
    · obtain ⟨q1, q2, q3, q4, q5⟩ := i2
      refine ⟨fun i hi => ?_, fun i g hi hg => ?_, fun i hi => ?_, fun i hi => ?_, ?_⟩
      · rw [uN_ne (by omega), uN_ne (by omega), uN_ne (by omega)] at hi ⊢; exact q1 i hi
      · rw [uN_ne (by omega), uN_ne (by omega), uN_ne (by omega)] at hi; rw [uN_ne (by omega), uN_ne (by omega), uN_ne (by omega)]; exact q2 i g hi hg
      · rw [uN_ne (by omega), uN_ne (by omega), uN_ne (by omega)] at hi; rw [uN_ne (by omega), uN_ne (by omega), uN_ne (by omega)]; exact q3 i hi
      · rw [uN_eq] at hi
        by_cases e : i = k
        · subst e
          rw [uN_ne (by omega), uN_ne (by omega), uN_eq, uN_ne (by omega), uN_eq]; exact h1
        · rw [uN_ne (by omega), uN_ne (by omega), uN_ne (by omega), uN_ne (by omega), uN_ne (by omega), uN_ne (by omega)]; exact q4 i (by omega)
      · rw [uN_ne (by omega), uN_ne (by omega), uN_ne (by omega)]; exact q5
    · refine RX_I hA (RX_I hA (RX_I hA (RX_I hA ?_ _ (by omega)) _ (by omega)) _ (by omega)) _ (by omega)
      refine RX_RWork i1 x (fun j hj => by rw [uN_ne (by omega), uN_ne (by omega), uN_ne (by omega)]) (fun c j _ _ hc => by rw [ev_wIn _ (by omega), ev_wIn _ (by omega), ev_wIn _ (by omega)]) (fun _ _ _ _ _ => rfl) ?_
      obtain ⟨w0, w1, w2, w3, w4, w5⟩ := x.2.2.2.2.2.2.2.2.1
      have d1 := i1.2.2.2.2.2.2.2.2.2.1
      have d2 := i1.2.2.2.2.2.2.2.2.2.2.1
      have d3 := i1.2.2.2.2.2.2.2.2.2.2.2.1
      refine ⟨?_, ?_, ?_, ?_, ?_, ?_⟩
      · rw [uN_ne (by omega), uN_ne (by omega), uN_ne (by omega), ev_wIn _ (by omega), ev_wIn _ (by omega), ev_wIn _ (by omega)]; exact w0
      · rw [uN_ne (by omega), uN_ne (by omega), uN_ne (by omega), ev_wIn _ (by omega), ev_wIn _ (by omega), ev_wIn _ (by omega)]; exact w1
      · show _ = nI (uN _ _ _ _); rw [uN_eq]; exact ev_wIs _ _ _ _
      · intro i hi
        rw [uN_ne (by omega), uN_ne (by omega), uN_ne (by omega)] at hi
        rw [uN_ne (by omega), uN_ne (by omega), uN_ne (by omega), uN_ne (by omega), uN_ne (by omega), uN_ne (by omega), ev_wIn _ (by omega), ev_wIn _ (by omega), ev_wIn _ (by omega), ev_wIn _ (by omega), ev_wIn _ (by omega), ev_wIn _ (by omega)]
        exact w3 i hi
      · intro i hi
        rw [uN_ne (by omega), uN_ne (by omega), uN_ne (by omega)] at hi
        rw [uN_ne (by omega), uN_ne (by omega), uN_ne (by omega), uN_ne (by omega), uN_ne (by omega), uN_ne (by omega), ev_wIn _ (by omega), ev_wIn _ (by omega), ev_wIn _ (by omega), ev_wIn _ (by omega), ev_wIn _ (by omega), ev_wIn _ (by omega)]
        exact w4 i hi
      · intro i hi
        rw [uN_eq] at hi
        by_cases e : i = k
        · subst e
          exact ⟨by rw [ev_wIn _ (by omega), ev_wIn _ (by omega)]; refine (ev_wIs _ _ _ _).trans ?_; rw [uN_ne (by omega), uN_ne (by omega), uN_eq], by rw [ev_wIn _ (by omega)]; refine (ev_wIs _ _ _ _).trans ?_; rw [uN_ne (by omega), uN_eq]⟩
        · rw [uN_ne (by omega), uN_ne (by omega), uN_ne (by omega), uN_ne (by omega), uN_ne (by omega), uN_ne (by omega), ev_wIn _ (by omega), ev_wIn _ (by omega), ev_wIn _ (by omega), ev_wIn _ (by omega), ev_wIn _ (by omega), ev_wIn _ (by omega)]
          exact w5 i (by omega)
    · exact RCon_c (fun c j _ _ => by rw [ev_wIn _ (by omega), ev_wIn _ (by omega), ev_wIn _ (by omega), ev_wIn _ (by omega), ev_wIn _ (by omega), ev_wIn _ (by omega), ev_wIn _ (by omega)]) c
