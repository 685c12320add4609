/-! whole_start out of a relation that every call keeps -/
theorem vk_S_congr {N : Nat} {len : List Nat} {byt : List (List Int32)} {adK adV adK' adV' : Nat → Nat} {A : Nat → Prop} {U : State} {H : Heap} (h : vk_S N len byt adK adV A U H) (e1 : ∀ i, i < N → adK' i = adK i) (e2 : ∀ i, i < N → adV' i = adV i) : vk_S N len byt adK' adV' A U H :=
  ⟨fun i hi => by rw [e1 i hi, e2 i hi]; exact h.1 i hi, fun i j hi hj e => h.2 i j hi hj (by rw [← e1 i hi, ← e1 j hj]; exact e)⟩
theorem jIn_0 : jIn jw0 0 (fun _ _ => false) := ⟨fun _ _ _ => ⟨rfl, rfl, rfl⟩, fun c hc => absurd hc (Nat.not_lt_zero c)⟩
set_option maxHeartbeats 4000000 in
set_option maxRecDepth 100000 in
theorem jx_start {R : jWd → Prop} (hR : jSteps R) (h0 : R jwF) {p : Program} {e : Env} {s : State} {m : MethodId} {below : List Frame} {meth : Method} {c : Code} (l : Launch) {b L : Nat} {xs : Nat → Int32} (hL : L ≤ 4096) (C0 : lw_At p s m meth c b L xs) : W p l e room_1 s m #[Value.ref b] below meth c s.heap [] 0 0 (lw_Z below #[Value.ref b] s) (entryFrame m ([Value.ref b] : List Value).toArray 4) := by
  obtain ⟨hx, hb, hr, hml, hown, hts, hX, hbl, hlocks, hgv⟩ := id C0
  have hT : ∀ x ∈ jT, x.before #[Value.ref b] s = true := fun x hx => hts x (List.mem_filter.mp hx).1
  have hc : ∀ {w : Cond}, lw_tbl.contains w = true → w.before #[Value.ref b] s = true := fun h => hts _ (List.contains_iff_mem.mp h)
  obtain ⟨A, hAe⟩ : ∃ A : Nat → Prop, A = fun q => s.heap.size ≤ q := ⟨_, rfl⟩
  have hA : ∀ q, s.heap.size ≤ q → A q := fun q h => by rw [hAe]; exact h
  have hA' : ∀ a : Nat, a < s.heap.size → ¬ A a := fun a h1 h2 => by rw [hAe] at h2; exact absurd h1 (Nat.not_lt.mpr h2)
  have hown' : s.vm.findClass RL = some m.cls := hown
  obtain ⟨D, hD0⟩ := jx_known hts
  obtain ⟨cy, hcy⟩ := jx_cy hT
  have hK : va_K D jcl (jty cy) s := ⟨hD0, hcy⟩
  obtain ⟨adK, adV, hS1, hS2⟩ := jx_strings (A := A) hgv hA'
  have hCS : va_Z "java/lang/String" "COMPACT_STRINGS" "Z" (.int 1) A s s.heap := va_Zof (hc jx_ls1) (hc jx_in1) (va_eqt (jx_flat hgv jx_cs)) hA'
  have hSI0 : va_Zq "jdk/internal/util/Preconditions" "SIOOBE_FORMATTER" "Ljava/util/function/BiFunction;" A s s.heap := va_Zqof (hc jx_ls2) (hc jx_in2) (jx_flat hgv jx_sio) hA'
  obtain ⟨t0, hSI⟩ : ∃ t0 : Nat, va_Z "jdk/internal/util/Preconditions" "SIOOBE_FORMATTER" "Ljava/util/function/BiFunction;" .null A s s.heap ∨ va_Z "jdk/internal/util/Preconditions" "SIOOBE_FORMATTER" "Ljava/util/function/BiFunction;" (.ref t0) A s s.heap := by
    rcases hSI0 with h | ⟨t, h⟩
    · exact ⟨0, Or.inl h⟩
    · exact ⟨t, Or.inr h⟩
  have hNo : jNo s := by
    intro q hq
    obtain ⟨i, hi⟩ := List.getElem?_of_mem hq
    have hi8 : i < 8 := (List.getElem?_eq_some_iff.mp hi).1
    have h1 := hc (jx_nw i hi8)
    rw [List.getD_eq_getElem?_getD, hi] at h1
    exact va_Nw.of rfl h1
  have hl := lv_entry ([.ref b]) (n := 4) (Nat.le_of_ble_eq_true rfl)
  rw [lg_entry_eq]
  generalize (lg_sl ([.ref b]) ++ List.replicate (4 - (lg_sl ([.ref b])).length) Slot.unset).toArray = ls at hl ⊢
  have hl : lv_has ls 4 [(0, .ref b)] := hl
  have hS0 : va_S A s.heap s.heap [] := va_S.rf
  have hP0 : va_P D jcl [] s.heap := fun k q h => by simp at h
  have hDd : va_D A [] := ⟨fun i j p q h => by simp at h, fun k q h => by simp at h⟩
  have hb' : c.code = cL_law := hb
  -- new NobodysBard
  refine va_new (ci := 10) (fs := jflm (fun _ => 0) jw0 0 (fun _ _ => false) 10) (C := RX11) (T := TX11) (N := 11) hx hb' hT in_X11 tyX11 tyX11_ok hown' (hT _ xCL_L_X11) (hT _ xIN_X11) (hT _ wIN_X11) hK hP0 hDd hS0 hA rfl (nz_10 jw0 _ _ (fun _ => rfl) (fun _ => rfl)) (Nat.le_of_ble_eq_true rfl) (Nat.le_of_ble_eq_true rfl) dL_law_0 (fun q0 H1 hP1 hD1 hS1' => ?_)
  have e1 : wAl (fun a => if a = 0 then q0 else (fun _ => 0) a) cy jw0 (0 + 1) (fun _ _ => false) = wAl (fun _ => 0) cy jw0 0 (fun _ _ => false) ++ [(q0, .inr (10, jflm (fun _ => 0) jw0 0 (fun _ _ => false) 10))] := wAl_push jIn_0 rfl
  have e1' : ([] : va_W) ++ [(q0, .inr (10, jflm (fun _ => 0) jw0 0 (fun _ _ => false) 10))] = wAl (fun a => if a = 0 then q0 else (fun _ => 0) a) cy jw0 1 (fun _ _ => false) := e1.symm
  rw [e1'] at hP1 hD1
  have hI1 : jIn jw0 1 (fun _ _ => false) := jIn_new jIn_0
  refine lv_dup hx hb' dL_law_3 rfl ?_
  obtain ⟨h2, h3, h4, h5⟩ := jLn_X11_init
  have hcb := callB_of (R := room_1) (own := RL) (index := 9) (ret := none) (rm := jRN 4 204 16042) (mc := 204) (ms := 16042) 0 (jn_ts h3 hT) (jT_good h3) rfl rfl rfl (hT _ h2) (hT _ xML_L_9) h5 ⟨Nat.le_of_ble_eq_true rfl, Nat.le_of_ble_eq_true rfl⟩
  refine jn_after (K1 := (none, wCX11_init_0 jw0, 205, mCX11_init_0 (fun _ _ => false), 1, "<init>")) (va_runI (b := q0) (As := []) (rest := [.ref q0]) (n := 0) ⟨hx, hb', hml, hown', hT⟩ (cX11_init_0 rfl rfl rfl l A (fun a => if a = 0 then q0 else (fun _ => 0) a) D cy) ⟨hcb, rfl, hT _ wIM_X11_init⟩ ⟨jn_blind, fun U hU hW => ⟨rfl, jn_pre hK hA hNo hI1 hP1 hD1 hS1' hU hW⟩⟩ rfl rfl hl.1 rfl (lv_room (Nat.le_of_ble_eq_true rfl)) dL_law_4 ⟨Nat.le_of_ble_eq_true rfl, Nat.le_of_ble_eq_true rfl⟩) hS1' (fun ρ2 H2 locs2 hag2 hin2 hP2 hD2 hS2' => ?_)
  have hρ2 : ρ2 0 = q0 := hag2 0 (Nat.lt_succ_self 0)
  refine lv_astore_n (lv' := [(1, .ref q0), (0, .ref b)]) hx hb' dL_law_7 rfl hl (by decide) rfl (fun ls hl => ?_)
  -- new NobodysBardModel
  refine va_new (ci := 11) (fs := jflm ρ2 (wCX11_init_0 jw0) 205 (mCX11_init_0 (fun _ _ => false)) 11) (C := RX12) (T := TX12) (N := 38) hx hb' hT in_X12 tyX12 tyX12_ok hown' (hT _ xCL_L_X12) (hT _ xIN_X12) (hT _ wIN_X12) hK hP2 hD2 hS2' hA rfl (nz_11 _ _ _ (fun k => (hin2.1 205 (Nat.le_refl _) k).1) (fun k => (hin2.1 205 (Nat.le_refl _) k).2.2)) (Nat.le_of_ble_eq_true rfl) (Nat.le_of_ble_eq_true rfl) dL_law_8 (fun q1 H3 hP3 hD3 hS3 => ?_)
  have ef : jflm (fun a => if a = 205 then q1 else ρ2 a) (wCX11_init_0 jw0) 205 (mCX11_init_0 (fun _ _ => false)) 11 = jflm ρ2 (wCX11_init_0 jw0) 205 (mCX11_init_0 (fun _ _ => false)) 11 := by
    unfold jflm
    apply List.ext_getElem?
    intro k
    rw [List.getElem?_mapIdx, List.getElem?_mapIdx]
    cases hf : (jfT 11)[k]? with
    | none => rfl
    | some f =>
      cases f with
      | none => rfl
      | some off =>
        have hz : mCX11_init_0 (fun _ _ => false) 205 k = false := (hin2.1 205 (Nat.le_refl _) k).2.2
        simp only [Option.map_some, jfm, hz]
        rfl
  have e3 := wAl_push (ρ := ρ2) (cy := cy) (w := wCX11_init_0 jw0) (n := 205) (mk := mCX11_init_0 (fun _ _ => false)) (q := q1) hin2 ((jckm_o (q := 11) (by decide +kernel) (by decide)).trans (by rw [ef]))
  rw [← e3] at hP3 hD3
  have hI3 := jIn_new hin2
  refine lv_dup hx hb' dL_law_11 rfl ?_
  obtain ⟨g2, g3, g4, g5⟩ := jLn_X12_init
  have hcb2 := callB_of (R := room_1) (own := RL) (index := 12) (ret := none) (rm := jRN 1 18 10193) (mc := 18) (ms := 10193) 0 (jn_ts g3 hT) (jT_good g3) rfl rfl rfl (hT _ g2) (hT _ xML_L_12) g5 ⟨Nat.le_of_ble_eq_true rfl, Nat.le_of_ble_eq_true rfl⟩
  refine jn_after (K1 := (none, jwF, 224, jmF, 206, "<init>")) (va_runI (b := q1) (As := []) (rest := [.ref q1]) (n := 0) ⟨hx, hb', hml, hown', hT⟩ (cX12_init_205 l A (fun a => if a = 205 then q1 else ρ2 a) D cy) ⟨hcb2, rfl, hT _ wIM_X12_init⟩ ⟨jn_blind, fun U hU hW => ⟨rfl, jn_pre hK hA hNo hI3 hP3 hD3 hS3 hU hW⟩⟩ rfl rfl hl.1 rfl (lv_room (Nat.le_of_ble_eq_true rfl)) dL_law_12 ⟨Nat.le_of_ble_eq_true rfl, Nat.le_of_ble_eq_true rfl⟩) hS3 (fun ρ4 H4 locs4 hag4 hin4 hP4 hD4 hS4 => ?_)
  have hρ4 : ρ4 0 = q0 := (hag4 0 (Nat.le_of_ble_eq_true rfl)).trans ((if_neg (show ¬ (0 : Nat) = 205 by decide)).trans hρ2)
  have hρ5 : ρ4 205 = q1 := (hag4 205 (Nat.le_of_ble_eq_true rfl)).trans (if_pos rfl)
  refine lv_astore_n (lv' := [(2, .ref q1), (1, .ref q0), (0, .ref b)]) hx hb' dL_law_15 rfl hl (by decide) rfl (fun ls hl => ?_)
  refine lv_iconst (v := 0) hx hb' dL_law_16 (by decide) ?_
  refine lv_istore_n (lv' := [(3, .int 0), (2, .ref q1), (1, .ref q0), (0, .ref b)]) hx hb' dL_law_17 rfl hl (by decide) rfl (fun ls hl => ?_)
  have hl : lv_has ls 4 [(0, .ref b), (1, .ref q0), (2, .ref q1), (3, .int 0)] := lv_sub hl [3, 2, 1, 0] rfl
  obtain ⟨ρF, hρF⟩ : ∃ ρF : Nat → Nat, ρF = fun a => if a < 224 then ρ4 a else if a = 3001 then b else if a = 3000 then t0 else if 2000 ≤ a then adV (a - 2000) else adK (a - 1000) := ⟨_, rfl⟩
  have r1 : ∀ a, a < 224 → ρF a = ρ4 a := fun a ha => by rw [hρF]; exact if_pos ha
  have r2 : ρF 3001 = b := by rw [hρF]; exact (if_neg (by decide)).trans (if_pos rfl)
  have r3 : ρF 3000 = t0 := by rw [hρF]; exact (if_neg (by decide)).trans ((if_neg (by decide)).trans (if_pos rfl))
  have r4 : ∀ i, i < jsN → ρF (1000 + i) = adK i := fun i hi => by
    have hi : i < 14 := hi
    obtain ⟨z, hz⟩ : ∃ z, z = 1000 + i := ⟨_, rfl⟩
    have hz1 : z - 1000 = i := by omega
    rw [← hz, hρF]
    exact (if_neg (by omega)).trans ((if_neg (by omega)).trans ((if_neg (by omega)).trans ((if_neg (by omega)).trans (congrArg adK hz1))))
  have r5 : ∀ i, i < jsN → ρF (2000 + i) = adV i := fun i hi => by
    have hi : i < 14 := hi
    obtain ⟨z, hz⟩ : ∃ z, z = 2000 + i := ⟨_, rfl⟩
    have hz1 : z - 2000 = i := by omega
    rw [← hz, hρF]
    exact (if_neg (by omega)).trans ((if_neg (by omega)).trans ((if_neg (by omega)).trans ((if_pos (by omega)).trans (congrArg adV hz1))))
  have eW : wAl ρ4 cy jwF 224 jmF = wAt ρF cy jwF := (wAl_agree hin4 r1).symm.trans (wAl_full jmF_full)
  have hP4 : va_P D jcl (wAl ρ4 cy jwF 224 jmF) H4 := hP4
  have hD4 : va_D A (wAl ρ4 cy jwF 224 jmF) := hD4
  rw [eW] at hP4 hD4
  have hjS : jS A ρF s s.heap := by
    refine ⟨vk_S_congr hS1 r4 r5, fun i q hq => ?_, hCS, ?_⟩
    · have hi : i < jsN := (List.getElem?_eq_some_iff.mp hq).1
      have h1 := hc (jx_sr i hi)
      have h2 := hS2 i hi
      unfold jtm at h2
      rw [List.getD_eq_getElem?_getD, hq] at h1 h2
      rw [r4 i hi]
      exact vk_R.of h1 h2
    · rw [r3]
      exact hSI
  have K := jx_loop hR hL (xs := xs) (L + 1) 0 jwF h0 (Nat.zero_le L) (by omega)
  have K := K p l e s m #[Value.ref b] below meth c A ρF D cy H4 locs4 ls ⟨hx, hb, hml, hown', hT, hr, hlocks, hK, hjS, by rw [r2]; exact hX, by rw [r2]; exact hbl, by rw [r2]; exact hA' b hbl, by rw [r2], hAe⟩ hP4 hD4 hS4 (by
    show lv_has ls 4 [(0, .ref (ρF 3001)), (1, .ref (ρF 0)), (2, .ref (ρF 205)), (3, .int (nI 0))]
    rw [r2, r1 0 (by decide), r1 205 (by decide), hρ4, hρ5]
    exact hl)
  exact K
