/-! what each piece of a State depends on -/
section CG
variable {A A' : Nat → Nat} {L L' : Nat → Int64} {F W : Nat → Nat} {s : Nat} {w w' : jWd}
theorem RSong_cg (h40 : A 0 ≤ 40) (h12 : ∀ i, i < 40 → A (121 + i) ≤ 12) (h1 : ∀ k, k < 161 → A' k = A k) (h2 : ∀ k, k < 480 → L' k = L k) (hI : ∀ c k, s + 1 ≤ c → c ≤ s + 5 → wI w' c k = wI w c k) (hJ : ∀ c k, (c = s + 7 ∨ c = s + 29) → wJ w' c k = wJ w c k) (h : RSong A L F s w) : RSong A' L' F s w' := by
  refine ⟨by rw [hI _ _ (by omega) (by omega), h1 0 (by omega)]; exact h.1, fun i hi => ?_⟩
  rw [h1 0 (by omega)] at hi
  obtain ⟨a, b, c, d⟩ := h.2 i hi
  have := h12 i (by omega)
  refine ⟨by rw [hI _ _ (by omega) (by omega), h1 _ (by omega)]; exact a, by rw [hI _ _ (by omega) (by omega), h1 _ (by omega)]; exact b, by rw [hI _ _ (by omega) (by omega), h1 _ (by omega)]; exact c, fun k hk => ?_⟩
  rw [h1 _ (by omega)] at hk
  obtain ⟨e, f⟩ := d k hk
  exact ⟨by rw [hJ _ _ (.inl rfl), h2 _ (by omega)]; exact e, by rw [hJ _ _ (.inr rfl), h2 _ (by omega), h1 _ (by omega)]; exact f⟩
theorem RBook_cg (h40 : A 223 ≤ 12) (h12 : ∀ i, i < 12 → A (236 + i) ≤ 12) (h1 : ∀ k, 223 ≤ k → k < 248 → A' k = A k) (h2 : ∀ k, 540 ≤ k → k < 684 → L' k = L k) (hI : ∀ c k, s + 8 ≤ c → c ≤ s + 12 → wI w' c k = wI w c k) (hJ : ∀ c k, c = s + 14 → wJ w' c k = wJ w c k) (h : RBook A L s w) : RBook A' L' s w' := by
  refine ⟨by rw [hI _ _ (by omega) (by omega), h1 _ (by omega) (by omega)]; exact h.1, fun i hi => ?_⟩
  rw [h1 _ (by omega) (by omega)] at hi
  obtain ⟨a, b, c⟩ := h.2 i hi
  have := h12 i (by omega)
  refine ⟨by rw [hI _ _ (by omega) (by omega), h1 _ (by omega) (by omega)]; exact a, by rw [hI _ _ (by omega) (by omega), h1 _ (by omega) (by omega)]; exact b, fun k hk => ?_⟩
  rw [h1 _ (by omega) (by omega)] at hk
  rw [hJ _ _ rfl, h2 _ (by omega) (by omega)]; exact c k hk
theorem RPrint_cg (h60 : A 162 ≤ 60) (h1 : ∀ k, 161 ≤ k → k < 223 → A' k = A k) (h2 : ∀ k, 480 ≤ k → k < 540 → L' k = L k) (hI : ∀ c k, s + 18 ≤ c → c ≤ s + 20 → wI w' c k = wI w c k) (hJ : ∀ c k, c = s + 21 → wJ w' c k = wJ w c k) (h : RPrint A L s w) : RPrint A' L' s w' := by
  refine ⟨by rw [hI _ _ (by omega) (by omega), h1 _ (by omega) (by omega)]; exact h.1, by rw [hI _ _ (by omega) (by omega), h1 _ (by omega) (by omega)]; exact h.2.1, fun p hp => ?_⟩
  rw [h1 _ (by omega) (by omega)] at hp
  obtain ⟨a, b⟩ := h.2.2 p hp
  exact ⟨by rw [hI _ _ (by omega) (by omega), h1 _ (by omega) (by omega)]; exact a, by rw [hJ _ _ rfl, h2 _ (by omega) (by omega)]; exact b⟩
theorem RVers_cg (h20 : A 506 ≤ 20) (h1 : ∀ k, 506 ≤ k → k < 547 → A' k = A k) (h2 : ∀ k, 684 ≤ k → k < 724 → L' k = L k) (hI : ∀ c k, s + 22 ≤ c → c ≤ s + 26 → wI w' c k = wI w c k) (hJ : ∀ c k, c = s + 28 → wJ w' c k = wJ w c k) (h : RVers A L s w) : RVers A' L' s w' := by
  refine ⟨by rw [hI _ _ (by omega) (by omega), h1 _ (by omega) (by omega)]; exact h.1, fun v hv => ?_⟩
  rw [h1 _ (by omega) (by omega)] at hv
  obtain ⟨a, b, c, d, e⟩ := h.2 v hv
  exact ⟨by rw [hI _ _ (by omega) (by omega), h1 _ (by omega) (by omega)]; exact a, by rw [hI _ _ (by omega) (by omega), h1 _ (by omega) (by omega)]; exact b, by rw [hI _ _ (by omega) (by omega)]; exact c, by rw [hJ _ _ rfl, h2 _ (by omega) (by omega)]; exact d, by rw [hJ _ _ rfl, h2 _ (by omega) (by omega)]; exact e⟩
theorem RYear_cg (h1 : ∀ k, 250 ≤ k → k < 506 → A' k = A k) (hI : ∀ k, wI w' (s + 30) k = wI w (s + 30) k) (h : RYear A s w) : RYear A' s w' := fun k hk => by rw [hI, h1 _ (by omega) (by omega)]; exact h k hk
theorem FX_cg {f : Nat} (hI : ∀ c k, f ≤ c → c ≤ f + 6 → wI w' c k = wI w c k) (hJ : ∀ c k, f + 1 ≤ c → c ≤ f + 2 → wJ w' c k = wJ w c k) (h : FX F f w) : FX F f w' := by
  refine ⟨by rw [hI _ _ (by omega) (by omega)]; exact h.1, fun r hr => ?_⟩
  obtain ⟨a, b, c, d, e⟩ := h.2 r hr
  exact ⟨by rw [hJ _ _ (by omega) (by omega)]; exact a, by rw [hJ _ _ (by omega) (by omega)]; exact b, by rw [hI _ _ (by omega) (by omega)]; exact c, by rw [hI _ _ (by omega) (by omega)]; exact d, fun i h1 h2 => ⟨by rw [hI _ _ (by omega) (by omega)]; exact (e i h1 h2).1, by rw [hI _ _ (by omega) (by omega)]; exact (e i h1 h2).2⟩⟩
theorem RLaw_cg (hI : ∀ c k, s + 38 ≤ c → c ≤ s + 39 → wI w' c k = wI w c k) (h : RLaw W s w) : RLaw W s w' := by
  obtain ⟨a, b, c, d, e, f⟩ := h
  exact ⟨by rw [hI _ _ (by omega) (by omega)]; exact a, by rw [hI _ _ (by omega) (by omega)]; exact b, by rw [hI _ _ (by omega) (by omega)]; exact c, by rw [hI _ _ (by omega) (by omega)]; exact d, by rw [hI _ _ (by omega) (by omega)]; exact e, fun v h1 h2 => by rw [hI _ _ (by omega) (by omega)]; exact f v h1 h2⟩
theorem RAns_cg (h60 : A 547 ≤ 60) (h1 : ∀ k, 547 ≤ k → k < 848 → A' k = A k) (h2 : ∀ k, 724 ≤ k → k < 784 → L' k = L k) (hI : ∀ c k, s + 40 ≤ c → c ≤ s + 45 → wI w' c k = wI w c k) (hJ : ∀ c k, c = s + 46 → wJ w' c k = wJ w c k) (h : RAns A L s w) : RAns A' L' s w' := by
  refine ⟨by rw [hI _ _ (by omega) (by omega), h1 _ (by omega) (by omega)]; exact h.1, fun i hi => ?_⟩
  rw [h1 _ (by omega) (by omega)] at hi
  obtain ⟨a, b, c, d, e, f⟩ := h.2 i hi
  exact ⟨by rw [hI _ _ (by omega) (by omega), h1 _ (by omega) (by omega)]; exact a, by rw [hI _ _ (by omega) (by omega), h1 _ (by omega) (by omega)]; exact b, by rw [hI _ _ (by omega) (by omega), h1 _ (by omega) (by omega)]; exact c, by rw [hI _ _ (by omega) (by omega), h1 _ (by omega) (by omega)]; exact d, by rw [hI _ _ (by omega) (by omega), h1 _ (by omega) (by omega)]; exact e, by rw [hJ _ _ rfl, h2 _ (by omega) (by omega)]; exact f⟩
theorem RWork_cg (h20 : A 848 ≤ 20) (h40 : A 889 ≤ 40) (h8 : A 970 ≤ 8) (h1 : ∀ k, 848 ≤ k → k < 987 → A' k = A k) (hI : ∀ c k, s + 47 ≤ c → c ≤ s + 53 → wI w' c k = wI w c k) (h : RWork A s w) : RWork A' s w' := by
  obtain ⟨a, b, c, d, e, f⟩ := h
  refine ⟨by rw [hI _ _ (by omega) (by omega), h1 _ (by omega) (by omega)]; exact a, by rw [hI _ _ (by omega) (by omega), h1 _ (by omega) (by omega)]; exact b, by rw [hI _ _ (by omega) (by omega), h1 _ (by omega) (by omega)]; exact c, fun i hi => ?_, fun i hi => ?_, fun i hi => ?_⟩
  · rw [h1 _ (by omega) (by omega)] at hi
    exact ⟨by rw [hI _ _ (by omega) (by omega), h1 _ (by omega) (by omega)]; exact (d i hi).1, by rw [hI _ _ (by omega) (by omega), h1 _ (by omega) (by omega)]; exact (d i hi).2⟩
  · rw [h1 _ (by omega) (by omega)] at hi
    exact ⟨by rw [hI _ _ (by omega) (by omega), h1 _ (by omega) (by omega)]; exact (e i hi).1, by rw [hI _ _ (by omega) (by omega), h1 _ (by omega) (by omega)]; exact (e i hi).2⟩
  · rw [h1 _ (by omega) (by omega)] at hi
    exact ⟨by rw [hI _ _ (by omega) (by omega), h1 _ (by omega) (by omega)]; exact (f i hi).1, by rw [hI _ _ (by omega) (by omega), h1 _ (by omega) (by omega)]; exact (f i hi).2⟩
theorem RWorld_cg (h8 : A 987 ≤ 8) (h1 : ∀ k, 987 ≤ k → k < 1124 → A' k = A k) (hI : ∀ c k, s + 54 ≤ c → c ≤ s + 56 → wI w' c k = wI w c k) (h : RWorld A s w) : RWorld A' s w' := by
  obtain ⟨a, b, c⟩ := h
  refine ⟨by rw [hI _ _ (by omega) (by omega), h1 _ (by omega) (by omega)]; exact a, fun i hi => ?_, fun i hi => ?_⟩
  · rw [h1 _ (by omega) (by omega)] at hi
    exact ⟨by rw [hI _ _ (by omega) (by omega), h1 _ (by omega) (by omega)]; exact (b i hi).1, fun g hg => by rw [hI _ _ (by omega) (by omega), h1 _ (by omega) (by omega)]; exact (b i hi).2 g hg⟩
  · rw [h1 _ (by omega) (by omega)] at hi
    exact fun h8 g hg => by rw [hI _ _ (by omega) (by omega)]; exact c i hi h8 g hg
theorem RBnd_cg (h1 : ∀ k, 248 ≤ k → k < 250 → A' k = A k) (hI : ∀ k, 11 ≤ k → k ≤ 12 → wI w' s k = wI w s k) (h : RBnd A s w) : RBnd A' s w' := ⟨by rw [hI _ (by omega) (by omega), h1 _ (by omega) (by omega)]; exact h.1, by rw [hI _ (by omega) (by omega), h1 _ (by omega) (by omega)]; exact h.2⟩
theorem RCon_cg (hI : ∀ c k, s + 1 ≤ c → c ≤ s + 22 → k ≤ 2 → wI w' c k = wI w c k) (h : RCon s w) : RCon s w' := by
  obtain ⟨a, b, c, d, e, f, g, i, j⟩ := h
  exact ⟨by rw [hI _ _ (by omega) (by omega) (by omega)]; exact a, by rw [hI _ _ (by omega) (by omega) (by omega)]; exact b, by rw [hI _ _ (by omega) (by omega) (by omega)]; exact c, by rw [hI _ _ (by omega) (by omega) (by omega)]; exact d, by rw [hI _ _ (by omega) (by omega) (by omega)]; exact e, by rw [hI _ _ (by omega) (by omega) (by omega)]; exact f, by rw [hI _ _ (by omega) (by omega) (by omega)]; exact g, by rw [hI _ _ (by omega) (by omega) (by omega)]; exact i, by rw [hI _ _ (by omega) (by omega) (by omega)]; exact j⟩
/-- a State's cells unchanged -/
theorem RX_cg (hA : InA A) (hI : ∀ c k, s ≤ c → c ≤ s + 56 → wI w' c k = wI w c k) (hJ : ∀ c k, s ≤ c → c ≤ s + 56 → wJ w' c k = wJ w c k) (h : RX A L F W s w) : RX A L F W s w' := by
  obtain ⟨a0, a1, a2, a3, a4, a5, a6, a7, a8, a9, b1, b2, b3⟩ := hA
  obtain ⟨x1, x2, x3, x4, x5, x6, x7, x8, x9, y1, y2⟩ := h
  have tt : ∀ k : Nat, A k = A k := fun _ => rfl
  exact ⟨RSong_cg a1 a2 (fun _ _ => rfl) (fun _ _ => rfl) (fun c k _ _ => hI c k (by omega) (by omega)) (fun c k _ => hJ c k (by omega) (by omega)) x1,
    RBook_cg a4 a5 (fun _ _ _ => rfl) (fun _ _ _ => rfl) (fun c k _ _ => hI c k (by omega) (by omega)) (fun c k _ => hJ c k (by omega) (by omega)) x2,
    RPrint_cg a3 (fun _ _ _ => rfl) (fun _ _ _ => rfl) (fun c k _ _ => hI c k (by omega) (by omega)) (fun c k _ => hJ c k (by omega) (by omega)) x3,
    RVers_cg a7 (fun _ _ _ => rfl) (fun _ _ _ => rfl) (fun c k _ _ => hI c k (by omega) (by omega)) (fun c k _ => hJ c k (by omega) (by omega)) x4,
    RYear_cg (fun _ _ _ => rfl) (fun k => hI _ k (by omega) (by omega)) x5,
    FX_cg (fun c k _ _ => hI c k (by omega) (by omega)) (fun c k _ _ => hJ c k (by omega) (by omega)) x6,
    RLaw_cg (fun c k _ _ => hI c k (by omega) (by omega)) x7,
    RAns_cg a8 (fun _ _ _ => rfl) (fun _ _ _ => rfl) (fun c k _ _ => hI c k (by omega) (by omega)) (fun c k _ => hJ c k (by omega) (by omega)) x8,
    RWork_cg a9 b1 b2 (fun _ _ _ => rfl) (fun c k _ _ => hI c k (by omega) (by omega)) x9,
    RWorld_cg b3 (fun _ _ _ => rfl) (fun c k _ _ => hI c k (by omega) (by omega)) y1,
    RBnd_cg (fun _ _ _ => rfl) (fun k _ _ => hI _ k (by omega) (by omega)) y2⟩
theorem RM_cg {o : Nat} (hI : ∀ k, k < 1124 → wI w' 207 (1124 * o + k) = wI w 207 (1124 * o + k)) (hJ : ∀ k, k < 784 → wJ w' 208 (784 * o + k) = wJ w 208 (784 * o + k)) (hF : ∀ k, k < 645 → wI w' 211 (645 * o + k) = wI w 211 (645 * o + k)) (hW : ∀ k, k < 29 → wI w' 212 (29 * o + k) = wI w 212 (29 * o + k)) (h : RM A L F W o w) : RM A L F W o w' :=
  ⟨fun k hk => (hI k hk).trans (h.1 k hk), fun k hk => (hJ k hk).trans (h.2.1 k hk), fun k hk => (hF k hk).trans (h.2.2.1 k hk), fun k hk => (hW k hk).trans (h.2.2.2 k hk)⟩
theorem RIm_cg {i : Nat} (hi : i ≤ 1) (hI : ∀ c k, 61 ≤ c → c ≤ 180 → wI w' c k = wI w c k) (hJ : ∀ c k, 61 ≤ c → c ≤ 180 → wJ w' c k = wJ w c k) (h1 : wI w' 181 i = wI w 181 i) (h2 : wI w' 209 i = wI w 209 i) (hA : ∀ k, 1124 ≤ k → wI w' 207 k = wI w 207 k) (hL : ∀ k, 784 ≤ k → wJ w' 208 k = wJ w 208 k) (hF : ∀ k, 645 ≤ k → k < 1935 → wI w' 211 k = wI w 211 k) (hW : ∀ k, 29 ≤ k → k < 87 → wI w' 212 k = wI w 212 k) (h : RIm i w) : RIm i w' := by
  unfold RIm at h ⊢
  rw [h1, h2]
  rcases h with h | ⟨a, b, A, L, F, W, c, d, e⟩
  · exact .inl h
  · exact .inr ⟨a, b, A, L, F, W, c, RX_cg c.1 (fun c k _ _ => hI c k (by omega) (by omega)) (fun c k _ _ => hJ c k (by omega) (by omega)) d, RM_cg (fun k _ => hA _ (by omega)) (fun k _ => hL _ (by omega)) (fun k _ => hF _ (by omega) (by omega)) (fun k _ => hW _ (by omega) (by omega)) e⟩
/-- scratch may change -/
theorem sI_ns {c k : Nat} (hf : frS w w') (h : ¬ Scr c k) : wI w' c k = wI w c k := frP_I hf h
theorem RN_fr (hf : frS w w') (h : RN A L F W w) : RN A L F W w' := by
  obtain ⟨a, b, c, d⟩ := h
  refine ⟨a, RX_cg a.1 (fun c k h1 h2 => frP_I hf (by unfold Scr; omega)) (fun c k h1 h2 => frP_J hf (by unfold Scr; omega)) b, RCon_cg (fun c k h1 h2 _ => frP_I hf (by unfold Scr; omega)) c, RM_cg (fun k _ => frP_I hf (by unfold Scr; omega)) (fun k _ => frP_J hf (by unfold Scr; omega)) (fun k _ => frP_I hf (by unfold Scr; omega)) (fun k _ => frP_I hf (by unfold Scr; omega)) d⟩
theorem RR_fr (hf : frS w w') (h : RR w) : RR w' := by
  obtain ⟨⟨A, L, F, W, a⟩, b, c, d, e, f, ⟨n, g1, g2, g3, g4⟩, i, j⟩ := h
  have hI : ∀ c k, ¬ Scr c k → wI w' c k = wI w c k := fun c k q => frP_I hf q
  have hJ : ∀ c k, ¬ Scr c k → wJ w' c k = wJ w c k := fun c k q => frP_J hf q
  have im : ∀ i, i ≤ 1 → RIm i w → RIm i w' := fun i hi h => RIm_cg hi (fun c k _ _ => hI c k (by unfold Scr; omega)) (fun c k _ _ => hJ c k (by unfold Scr; omega)) (hI _ _ (by unfold Scr; omega)) (hI _ _ (by unfold Scr; omega)) (fun k _ => hI _ _ (by unfold Scr; omega)) (fun k _ => hJ _ _ (by unfold Scr; omega)) (fun k _ _ => hI _ _ (by unfold Scr; omega)) (fun k _ _ => hI _ _ (by unfold Scr; omega)) h
  refine ⟨⟨A, L, F, W, RN_fr hf a⟩, im 0 (by omega) b, im 1 (by omega) c, RCon_cg (fun c k _ _ _ => hI c k (by unfold Scr; omega)) d, RCon_cg (fun c k _ _ _ => hI c k (by unfold Scr; omega)) e, fun k h1 h2 => ?_, ⟨n, g1, ?_, ?_, fun k hk => ?_⟩, ?_, fun r hr => ?_⟩
  · rw [hI _ _ (by unfold Scr; omega), hI _ _ (by unfold Scr; omega)]; exact f k h1 h2
  · rw [hI _ _ (by unfold Scr; omega)]; exact g2
  · rw [hI _ _ (by unfold Scr; omega)]; exact g3
  · rw [hI _ _ (by unfold Scr; omega), hI _ _ (by unfold Scr; omega)]; exact g4 k hk
  · unfold RFlt
    rw [hI 189 2 (by unfold Scr; omega), hI 205 19 (by unfold Scr; omega), hI 205 20 (by unfold Scr; omega), hI 189 3 (by unfold Scr; omega)]
    exact i
  · rw [hI 186 r (by unfold Scr; omega), hI 221 r (by unfold Scr; omega), hI 187 r (by unfold Scr; omega), hI 222 r (by unfold Scr; omega)]
    rcases j r hr with q | ⟨n, s, q1, q2, q3, q4, q5, q6, q7⟩
    · exact .inl q
    · exact .inr ⟨n, s, q1, q2, q3, q4, q5, q6, fun k hk => by rw [hJ _ _ (by unfold Scr; omega), hJ _ _ (by unfold Scr; omega)]; exact q7 k hk⟩
end CG
