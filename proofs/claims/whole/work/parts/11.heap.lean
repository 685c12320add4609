/-! ROWS for fields, arrays and calls, for the judgement J -/
theorem jck_o {ρ : Nat → Nat} {cy : Nat → ClassId} {w : jWd} {c q : Nat} (h : kd c = q) (hq : q < 12) : jck ρ cy w c = .inr (q, jfl ρ w c q) := by
  subst h
  simp [jck, hq]
theorem jck_l {ρ : Nat → Nat} {cy : Nat → ClassId} {w : jWd} {c : Nat} (h : kd c = 14) : jck ρ cy w c = .inl (cy 2, ln c, .inr (.inl (wJ w c))) := by
  simp [jck, h]
theorem jck_i {ρ : Nat → Nat} {cy : Nat → ClassId} {w : jWd} {c : Nat} (h : kd c = 13) : jck ρ cy w c = .inl (cy 1, ln c, .inl (wI w c)) := by
  simp [jck, h]
theorem jck_b {ρ : Nat → Nat} {cy : Nat → ClassId} {w : jWd} {c : Nat} (h : kd c = 12) : jck ρ cy w c = .inl (cy 0, ln c, .inl (wI w c)) := by
  simp [jck, h]
theorem jck_z {ρ : Nat → Nat} {cy : Nat → ClassId} {w : jWd} {c : Nat} (h : kd c = 15) : jck ρ cy w c = .inl (cy 3, ln c, .inl (wI w c)) := by
  simp [jck, h]
theorem wI_up (w : jWd) (c k : Nat) (v : Int32) : wI (sI w c k v) c = upd (wI w c) k v := by
  funext j
  simp [wI_sI, upd]
theorem wJ_up (w : jWd) (c k : Nat) (v : Int64) : wJ (sJ w c k v) c = vp_updL (wJ w c) k v := by
  funext j
  simp [wJ_sJ, vp_updL]
theorem wI_off {w : jWd} {c k a : Nat} {v : Int32} (h : a ≠ c) (j : Nat) : wI w a j = wI (sI w c k v) a j := by
  rw [wI_sI, if_neg (fun q => h q.1)]
theorem wJ_off {w : jWd} {c k a : Nat} {v : Int64} (h : a ≠ c) (j : Nat) : wJ w a j = wJ (sJ w c k v) a j := by
  rw [wJ_sJ, if_neg (fun q => h q.1)]
section JROWS
variable {M : jMM} {d : Nat} {w w' : jWd} {pc : Nat} {lv : List (Nat × Value)} {st : List Value} {o : Option Value}
theorem jr_get {c index q k N : Nat} {K : String} {T : u_T} {v : Value} (hkd : kd c = q) (hq : q < 12) (hcl : jcl[q]? = some (K, T, N)) (hk : k < N) (hin : ∀ x ∈ u_ws K T N, x ∈ jT) (hT : (T k).1 = K) (hlink : Cond.fieldLink M.1 index K (T k).2.1 (T k).2.2.1 ∈ jT)
    (hv : ∀ ρ, (jfl ρ w c q)[k]? = some (jv ρ v)) (hdg : decode M.2.1 pc = .ok (.getfield index, 3)) (kk : J M d w (pc + 3) lv (v :: st) o w') : J M d w pc lv (.ref c :: st) o w' := by
  intro p l e s m args below meth c0 A ρ D cy H locs ls C hP hD hS hl
  exact va_get (ref := K) C.1 C.2.1 C.2.2.2.2.1 hin C.2.2.2.1 C.2.2.2.2.2.2.2.1 hP c ((wAt_get (kd_lt hkd (by omega))).trans (by rw [jck_o hkd hq])) hcl k hk (C.2.2.2.2.1 _ hlink) (fun x hx => by rw [hT] at hx; exact hx) (hv ρ) hdg (kk p l e s m args below meth c0 A ρ D cy H locs ls C hP hD hS hl)
theorem jr_put {c index q k N : Nat} {K : String} {T : u_T} {ty0 : Nat → FieldType} {x : Int32} (hkd : kd c = q) (hq : q < 12) (hcl : jcl[q]? = some (K, T, N)) (hk : k < N) (hin : ∀ x ∈ u_ws K T N, x ∈ jT) (hty : ∀ k, k < N → parseFieldDescriptor (T k).2.2.1 = some (ty0 k)) (hnm : ∀ a, a < N → ∀ b, b < N → a ≠ b → (T a).2.1 ≠ (T b).2.1) (hT : (T k).1 = K) (hfin : (T k).2.2.2 = false) (ht : ty0 k = .int) (hlink : Cond.fieldLink M.1 index K (T k).2.1 (T k).2.2.1 ∈ jT)
    (hv : ∀ ρ, jfl ρ (sI w c k x) c q = (jfl ρ w c q).set k (.int x)) (hln : ∀ ρ, k < (jfl ρ w c q).length) (hdg : decode M.2.1 pc = .ok (.putfield index, 3)) (kk : J M d (sI w c k x) (pc + 3) lv st o w') : J M d w pc lv (.int x :: .ref c :: st) o w' := by
  intro p l e0 s m args below meth c0 A ρ D cy H locs ls C hP hD hS hl
  have hc : c < jNC := kd_lt hkd (by omega)
  refine va_put (ref := K) (v := .int x) (ty := .int) C.1 C.2.1 C.2.2.2.2.1 hin ty0 hty hnm C.2.2.2.1 C.2.2.2.2.2.2.2.1 hP hD hS c ((wAt_get hc).trans (by rw [jck_o hkd hq])) hcl k hk (C.2.2.2.2.1 _ hlink) (fun x hx => by rw [hT] at hx; exact hx) hfin (by rw [hty k hk, ht]) rfl rfl (hln ρ) hdg (fun H1 locs1 hP1 hD1 hS1 => ?_)
  have e := wAt_set (ρ := ρ) (cy := cy) (w := w) (w' := sI w c k x) hc (fun a ha j => wI_off ha j) (fun a _ j => rfl) ((jck_o hkd hq).trans (by rw [hv]))
  rw [e] at hP1 hD1
  exact kk p l e0 s m args below meth c0 A ρ D cy H1 locs1 ls C hP1 hD1 hS1 hl
theorem jr_iald {c : Nat} {i : Int32} (hkd : kd c = 13) (hin : vp_in i (ln c)) (hdg : decode M.2.1 pc = .ok (.iaload, 1)) (kk : J M d w (pc + 1) lv (.int (wI w c i.toNatClampNeg) :: st) o w') : J M d w pc lv (.int i :: .ref c :: st) o w' := by
  intro p l e s m args below meth c0 A ρ D cy H locs ls C hP hD hS hl
  exact va_iald C.1 C.2.1 C.2.2.2.2.2.2.2.1 hP c 1 ((wAt_get (kd_lt hkd (by decide))).trans (by rw [jck_i hkd])) rfl hin hdg (kk p l e s m args below meth c0 A ρ D cy H locs ls C hP hD hS hl)
theorem jr_bald {c : Nat} {i : Int32} (hkd : kd c = 12) (hin : vp_in i (ln c)) (hdg : decode M.2.1 pc = .ok (.baload, 1)) (kk : J M d w (pc + 1) lv (.int (wI w c i.toNatClampNeg) :: st) o w') : J M d w pc lv (.int i :: .ref c :: st) o w' := by
  intro p l e s m args below meth c0 A ρ D cy H locs ls C hP hD hS hl
  exact va_bald C.1 C.2.1 C.2.2.2.2.2.2.2.1 hP c 0 ((wAt_get (kd_lt hkd (by decide))).trans (by rw [jck_b hkd])) rfl hin hdg (kk p l e s m args below meth c0 A ρ D cy H locs ls C hP hD hS hl)
theorem jr_zald {c : Nat} {i : Int32} (hkd : kd c = 15) (hin : vp_in i (ln c)) (hdg : decode M.2.1 pc = .ok (.baload, 1)) (kk : J M d w (pc + 1) lv (.int (wI w c i.toNatClampNeg) :: st) o w') : J M d w pc lv (.int i :: .ref c :: st) o w' := by
  intro p l e s m args below meth c0 A ρ D cy H locs ls C hP hD hS hl
  exact va_zald C.1 C.2.1 C.2.2.2.2.2.2.2.1 hP c 3 ((wAt_get (kd_lt hkd (by decide))).trans (by rw [jck_z hkd])) rfl hin hdg (kk p l e s m args below meth c0 A ρ D cy H locs ls C hP hD hS hl)
theorem jr_lald {c : Nat} {i : Int32} (hkd : kd c = 14) (hin : vp_in i (ln c)) (hdg : decode M.2.1 pc = .ok (.laload, 1)) (kk : J M d w (pc + 1) lv (.long (wJ w c i.toNatClampNeg) :: st) o w') : J M d w pc lv (.int i :: .ref c :: st) o w' := by
  intro p l e s m args below meth c0 A ρ D cy H locs ls C hP hD hS hl
  exact va_lald C.1 C.2.1 C.2.2.2.2.2.2.2.1 hP c 2 ((wAt_get (kd_lt hkd (by decide))).trans (by rw [jck_l hkd])) rfl hin hdg (kk p l e s m args below meth c0 A ρ D cy H locs ls C hP hD hS hl)
theorem jr_iast {c : Nat} {i x : Int32} (hkd : kd c = 13) (hin : vp_in i (ln c)) (hdg : decode M.2.1 pc = .ok (.iastore, 1)) (kk : J M d (sI w c i.toNatClampNeg x) (pc + 1) lv st o w') : J M d w pc lv (.int x :: .int i :: .ref c :: st) o w' := by
  intro p l e0 s m args below meth c0 A ρ D cy H locs ls C hP hD hS hl
  have hc : c < jNC := kd_lt hkd (by decide)
  refine va_iast C.1 C.2.1 C.2.2.2.2.2.2.2.1 hP hD hS c 1 ((wAt_get hc).trans (by rw [jck_i hkd])) rfl hin hdg (fun H1 locs1 hP1 hD1 hS1 => ?_)
  have e := wAt_set (ρ := ρ) (cy := cy) (w := w) (w' := sI w c i.toNatClampNeg x) hc (fun a ha j => wI_off ha j) (fun a _ j => rfl) ((jck_i hkd).trans (by rw [wI_up]))
  rw [e] at hP1 hD1
  exact kk p l e0 s m args below meth c0 A ρ D cy H1 locs1 ls C hP1 hD1 hS1 hl
theorem jr_bast {c : Nat} {i x : Int32} (hkd : kd c = 12) (hin : vp_in i (ln c)) (hdg : decode M.2.1 pc = .ok (.bastore, 1)) (kk : J M d (sI w c i.toNatClampNeg (vp_nar .byte x)) (pc + 1) lv st o w') : J M d w pc lv (.int x :: .int i :: .ref c :: st) o w' := by
  intro p l e0 s m args below meth c0 A ρ D cy H locs ls C hP hD hS hl
  have hc : c < jNC := kd_lt hkd (by decide)
  refine va_bast C.1 C.2.1 C.2.2.2.2.2.2.2.1 hP hD hS c 0 ((wAt_get hc).trans (by rw [jck_b hkd])) rfl hin hdg (fun H1 locs1 hP1 hD1 hS1 => ?_)
  have e := wAt_set (ρ := ρ) (cy := cy) (w := w) (w' := sI w c i.toNatClampNeg (vp_nar .byte x)) hc (fun a ha j => wI_off ha j) (fun a _ j => rfl) ((jck_b hkd).trans (by rw [wI_up]))
  rw [e] at hP1 hD1
  exact kk p l e0 s m args below meth c0 A ρ D cy H1 locs1 ls C hP1 hD1 hS1 hl
theorem jr_zast {c : Nat} {i x : Int32} (hkd : kd c = 15) (hin : vp_in i (ln c)) (hdg : decode M.2.1 pc = .ok (.bastore, 1)) (kk : J M d (sI w c i.toNatClampNeg (vp_nar .boolean x)) (pc + 1) lv st o w') : J M d w pc lv (.int x :: .int i :: .ref c :: st) o w' := by
  intro p l e0 s m args below meth c0 A ρ D cy H locs ls C hP hD hS hl
  have hc : c < jNC := kd_lt hkd (by decide)
  refine va_zast C.1 C.2.1 C.2.2.2.2.2.2.2.1 hP hD hS c 3 ((wAt_get hc).trans (by rw [jck_z hkd])) rfl hin hdg (fun H1 locs1 hP1 hD1 hS1 => ?_)
  have e := wAt_set (ρ := ρ) (cy := cy) (w := w) (w' := sI w c i.toNatClampNeg (vp_nar .boolean x)) hc (fun a ha j => wI_off ha j) (fun a _ j => rfl) ((jck_z hkd).trans (by rw [wI_up]))
  rw [e] at hP1 hD1
  exact kk p l e0 s m args below meth c0 A ρ D cy H1 locs1 ls C hP1 hD1 hS1 hl
theorem jr_last {c : Nat} {i : Int32} {x : Int64} (hkd : kd c = 14) (hin : vp_in i (ln c)) (hdg : decode M.2.1 pc = .ok (.lastore, 1)) (kk : J M d (sJ w c i.toNatClampNeg x) (pc + 1) lv st o w') : J M d w pc lv (.long x :: .int i :: .ref c :: st) o w' := by
  intro p l e0 s m args below meth c0 A ρ D cy H locs ls C hP hD hS hl
  have hc : c < jNC := kd_lt hkd (by decide)
  refine va_last C.1 C.2.1 C.2.2.2.2.2.2.2.1 hP hD hS c 2 ((wAt_get hc).trans (by rw [jck_l hkd])) rfl hin hdg (fun H1 locs1 hP1 hD1 hS1 => ?_)
  have e := wAt_set (ρ := ρ) (cy := cy) (w := w) (w' := sJ w c i.toNatClampNeg x) hc (fun a _ j => rfl) (fun a ha j => wJ_off ha j) ((jck_l hkd).trans (by rw [wJ_up]))
  rw [e] at hP1 hD1
  exact kk p l e0 s m args below meth c0 A ρ D cy H1 locs1 ls C hP1 hD1 hS1 hl
theorem jr_alen {c : Nat} {q : Nat} (hkd : kd c = q) (h1 : 12 ≤ q) (h2 : q < 16) (hdg : decode M.2.1 pc = .ok (.arraylength, 1)) (kk : J M d w (pc + 1) lv (.int (Int32.ofNat (ln c)) :: st) o w') : J M d w pc lv (.ref c :: st) o w' := by
  intro p l e s m args below meth c0 A ρ D cy H locs ls C hP hD hS hl
  have hc : c < jNC := kd_lt hkd (by omega)
  have kk := kk p l e s m args below meth c0 A ρ D cy H locs ls C hP hD hS hl
  rcases (show q = 12 ∨ q = 13 ∨ q = 14 ∨ q = 15 by omega) with rfl | rfl | rfl | rfl
  · exact va_alen (x := (ln c, .inl (wI w c))) C.1 C.2.1 C.2.2.2.2.2.2.2.1 hP c 0 ((wAt_get hc).trans (by rw [jck_b hkd])) rfl rfl hdg kk
  · exact va_alen (x := (ln c, .inl (wI w c))) C.1 C.2.1 C.2.2.2.2.2.2.2.1 hP c 1 ((wAt_get hc).trans (by rw [jck_i hkd])) rfl rfl hdg kk
  · exact va_alen (x := (ln c, .inr (.inl (wJ w c)))) C.1 C.2.1 C.2.2.2.2.2.2.2.1 hP c 2 ((wAt_get hc).trans (by rw [jck_l hkd])) rfl rfl hdg kk
  · exact va_alen (x := (ln c, .inl (wI w c))) C.1 C.2.1 C.2.2.2.2.2.2.2.1 hP c 3 ((wAt_get hc).trans (by rw [jck_z hkd])) rfl rfl hdg kk
/-- what holds behind a call -/
theorem j_blind {A : Nat → Prop} {ρ : Nat → Nat} {D : va_G} {cy : Nat → ClassId} {w : jWd} {av : List Value} : FrameBlind (va_Pc av (jW A ρ D cy w)) := by
  intro a U g mk h
  obtain ⟨h1, hP, hK, hD, hS⟩ := h
  exact ⟨h1, hP, va_K.moved (u := U) (U := U.calling g mk a) (Vm.Alike.refl U.vm) hK, hD, ⟨vk_S.moved (u := U) (U := U.calling g mk a) (Vm.Alike.refl U.vm) hS.1, fun i q hq => vk_R.same (u := U) (U := U.calling g mk a) rfl (hS.2.1 i q hq), va_Z.moved (u := U) (U := U.calling g mk a) (Vm.Alike.refl U.vm) hS.2.2.1, hS.2.2.2.imp (fun z => va_Z.moved (u := U) (U := U.calling g mk a) (Vm.Alike.refl U.vm) z) (fun z => va_Z.moved (u := U) (U := U.calling g mk a) (Vm.Alike.refl U.vm) z)⟩⟩
theorem j_pre {A : Nat → Prop} {ρ : Nat → Nat} {D : va_G} {cy : Nat → ClassId} {s : State} {H : Heap} {locs : List Loc} (hK : va_K D jcl (jty cy) s) (hSt : jS A ρ s s.heap) (hP : va_P D jcl (wAt ρ cy w) H) (hD : va_D A (wAt ρ cy w)) (hS : va_S A s.heap H locs) {U : State} (hU : U.heap = H) (hW : s.WarmedH U.vm) : jW A ρ D cy w U :=
  ⟨by rw [hU]; exact hP, va_K.moved hW.alike hK, hD, by rw [hU]; exact (hSt.kept hS.2.1).moved hW⟩
theorem j_after {A : Nat → Prop} {ρ : Nat → Nat} {D : va_G} {cy : Nat → ClassId} {p : Program} {l : Launch} {e : Env} {R : Room} {s : State} {m : MethodId} {args : Array Value} {below : List Frame} {meth : Method} {c : Code} {H : Heap} {locs : List Loc} {Q : State → Prop} {ls : Array Slot} {st0 rest : List Value} {v : Option Value} {w1 : jWd} {a : Array Value}
    (hr : va_Run p l e R s m args below meth c H locs 0 0 0 0 (F0 m pc ls st0) rest (jQ A ρ D cy v w1 a) A) (hS : va_S A s.heap H locs)
    (kk : ∀ (H1 : Heap) (locs1 : List Loc), va_P D jcl (wAt ρ cy w1) H1 → va_D A (wAt ρ cy w1) → va_S A s.heap H1 locs1 → W p l e R s m args below meth c H1 locs1 0 0 Q (F0 m (pc + 3) ls ((v.map (jv ρ)).toList ++ rest))) : W p l e R s m args below meth c H locs 0 0 Q (F0 m pc ls st0) := by
  intro T hT X
  obtain ⟨v1, st₀, t, T', L, h0, X', hL, e1, e2, ⟨⟨hv, hp, hd⟩, hz, hk⟩, step⟩ := hr T hT X
  obtain rfl : v1 = v.map (jv ρ) := by cases hv; rfl
  rw [h0] at hz hk
  obtain ⟨t2, a1, b1⟩ := kk T'.heap (locs ++ L) (by rw [e1]; exact hp) hd
    ⟨Nat.le_trans hS.1 (by rw [e1]; exact hz), fun q h1 h2 => by rw [e1, hk q (Nat.lt_of_lt_of_le h1 hS.1) h2]; exact hS.2.1 q h1 h2, fun q hq => by
      rcases List.mem_append.mp hq with h | h
      · exact hS.2.2 q h
      · exact hL q h⟩ T' rfl X'
  exact ⟨t2, step t2 a1, b1⟩
theorem j_room {d d' n : Nat} (h : d' + 1 ≤ d) (hn : n ≤ 60) : (jR d').frames + 1 ≤ (jR d).frames ∧ 8 + (n + 11) + (jR d').locals ≤ (jR d).locals := by
  refine ⟨h, ?_⟩
  show 8 + (n + 11) + 80 * d' ≤ 80 * d
  omega
/-- what a call site says of the tables: own class, index, callee -/
def jLk (own : String) (index : Nat) (y : MethodName) (M' : jMM) (n : Nat) : Prop :=
  Cond.methodLink own index y ∈ jT ∧ Cond.initialized y.cls ∈ jT ∧ Cond.code y M'.2.1 M'.2.2.1 M'.2.2.2 ∈ jT ∧ M'.2.2.1 ≤ 60 ∧ y.cls ≠ "java/lang/invoke/MethodHandle" ∧ y.cls ≠ "java/lang/invoke/VarHandle" ∧ (parseMethodDescriptor y.desc).map (fun d => d.parameters.length) = some n
theorem j_callB {own : String} {index n d' : Nat} {y : MethodName} {M' : jMM} {s : State} {args : Array Value} (hl : jLk own index y M' n) (hd : d' + 1 ≤ d) (ht : ∀ x ∈ jT, x.before args s = true) : CallB (jR d) s args own index y M'.2.1 M'.2.2.1 M'.2.2.2 (Cond.code y M'.2.1 M'.2.2.1 M'.2.2.2 :: jT) (jR d') 0 0 n := by
  obtain ⟨h1, h2, h3, h4, h5⟩ := hl
  refine callB_of (Ts := Cond.code y M'.2.1 M'.2.2.1 M'.2.2.2 :: jT) n (fun x hx => ?_) (jT_good h3) rfl rfl rfl (ht _ h2) (ht _ h1) h5 (j_room hd h4)
  rcases List.mem_cons.mp hx with rfl | hx
  · exact ht _ h3
  · exact ht _ hx
theorem j_callS {index n d' : Nat} {y : MethodName} {M' : jMM} {as : List Value} {v : Option Value} {w1 : jWd} {st' : List Value} (hl : jLk M.1 index y M' n) (hs : Cond.static y ∈ jT) (hM : JM y M' d' as w v w1) (hd : d' + 1 ≤ d) (hst : st = as.reverse ++ st') (hn : as.length = n) (hW : (st'.map fun v => v.category).sum ≤ 8) (hdg : decode M.2.1 pc = .ok (.invokestatic index, 3)) (kk : J M d w1 (pc + 3) lv (v.toList ++ st') o w') : J M d w pc lv st o w' := by
  subst hst
  intro p l e s m args below meth c A ρ D cy H locs ls C hP hD hS hlv
  refine j_after (va_runS (As := as.map (jv ρ)) (rest := st'.map (jv ρ)) (n := n) ⟨C.1, C.2.1, C.2.2.1, C.2.2.2.1, C.2.2.2.2.1⟩ (hM l A ρ D cy) ⟨j_callB hl hd C.2.2.2.2.1, C.2.2.2.2.1 _ hs⟩ ⟨j_blind, fun U hU hW => ⟨rfl, j_pre C.2.2.2.2.2.2.2.1 C.2.2.2.2.2.2.2.2 hP hD hS hU hW⟩⟩ rfl (by rw [List.length_map]; exact hn) hlv.1 (by simp) (by rw [jv_sum]; show 2 * 0 + _ ≤ 8; omega) hdg ⟨Nat.zero_le _, Nat.zero_le _⟩) hS (fun H1 locs1 hP1 hD1 hS1 => ?_)
  have := kk p l e s m args below meth c A ρ D cy H1 locs1 ls C hP1 hD1 hS1 hlv
  rw [List.map_append] at this
  cases v <;> exact this
theorem j_callV {index n d' : Nat} {y : MethodName} {M' : jMM} {b q N : Nat} {T : u_T} {as : List Value} {v : Option Value} {w1 : jWd} {st' : List Value} (hl : jLk M.1 index y M' n) (hi : Cond.instanceMethod y ∈ jT) (hs : Cond.selects y.cls y y ∈ jT) (hkd : kd b = q) (hq : q < 12) (hcl : jcl[q]? = some (y.cls, T, N)) (hM : JM y M' d' (.ref b :: as) w v w1) (hd : d' + 1 ≤ d) (hst : st = as.reverse ++ .ref b :: st') (hn : as.length = n) (hW : (st'.map fun v => v.category).sum ≤ 8) (hdg : decode M.2.1 pc = .ok (.invokevirtual index, 3)) (kk : J M d w1 (pc + 3) lv (v.toList ++ st') o w') : J M d w pc lv st o w' := by
  subst hst
  intro p l e s m args below meth c A ρ D cy H locs ls C hP hD hS hlv
  refine j_after (va_runV (C := y.cls) (b := ρ b) (As := as.map (jv ρ)) (rest := st'.map (jv ρ)) (n := n) ⟨C.1, C.2.1, C.2.2.1, C.2.2.2.1, C.2.2.2.2.1⟩ (hM l A ρ D cy) ⟨j_callB hl hd C.2.2.2.2.1, C.2.2.2.2.1 _ hi, C.2.2.2.2.1 _ hs⟩ ⟨j_blind, va_recv C.2.2.2.2.2.2.2.1 hP hcl ((wAt_get (kd_lt hkd (by omega))).trans (by rw [jck_o hkd hq])), fun U hU hW => ⟨rfl, j_pre C.2.2.2.2.2.2.2.1 C.2.2.2.2.2.2.2.2 hP hD hS hU hW⟩⟩ rfl (by rw [List.length_map]; exact hn) hlv.1 (by simp [jv]) (by rw [jv_sum]; show 2 * 0 + _ ≤ 8; omega) hdg ⟨Nat.zero_le _, Nat.zero_le _⟩) hS (fun H1 locs1 hP1 hD1 hS1 => ?_)
  have := kk p l e s m args below meth c A ρ D cy H1 locs1 ls C hP1 hD1 hS1 hlv
  rw [List.map_append] at this
  cases v <;> exact this
end JROWS
