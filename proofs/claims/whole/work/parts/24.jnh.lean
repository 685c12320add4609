/-! ROWS of the constructors for cells: new objects, new arrays, fields, array entries, calls -/
def mkS (mk : Nat → Nat → Bool) (c k : Nat) : Nat → Nat → Bool := fun a b => (a == c && b == k) || mk a b
theorem mkS_same (mk : Nat → Nat → Bool) (c k : Nat) : mkS mk c k c k = true := by simp [mkS]
theorem mkS_mono {mk : Nat → Nat → Bool} {c k a b : Nat} (h : mk a b = true) : mkS mk c k a b = true := by simp [mkS, h]
theorem jckm_o {ρ : Nat → Nat} {cy : Nat → ClassId} {w : jWd} {mk : Nat → Nat → Bool} {c q : Nat} (h : kd c = q) (hq : q < 12) : jckm ρ cy w mk c = .inr (q, jflm ρ w c mk q) := by
  subst h
  simp [jckm, hq]
theorem jckm_l {ρ : Nat → Nat} {cy : Nat → ClassId} {w : jWd} {mk : Nat → Nat → Bool} {c : Nat} (h : kd c = 14) : jckm ρ cy w mk c = .inl (cy 2, ln c, .inr (.inl (wJ w c))) := by
  simp [jckm, h]
theorem jckm_i {ρ : Nat → Nat} {cy : Nat → ClassId} {w : jWd} {mk : Nat → Nat → Bool} {c q : Nat} (h : kd c = q) (h1 : 12 ≤ q) (h2 : q ≠ 14) : jckm ρ cy w mk c = .inl (cy (q - 12), ln c, .inl (wI w c)) := by
  subst h
  simp [jckm, h2, Nat.not_lt.mpr h1]
theorem jckm_congr {ρ : Nat → Nat} {cy : Nat → ClassId} {w w' : jWd} {mk mk' : Nat → Nat → Bool} {c : Nat} (h : ∀ k, wI w c k = wI w' c k) (hj : ∀ k, wJ w c k = wJ w' c k) (hm : ∀ k, mk c k = mk' c k) : jckm ρ cy w mk c = jckm ρ cy w' mk' c := by
  have e1 : wI w c = wI w' c := funext h
  have e2 : wJ w c = wJ w' c := funext hj
  have e3 : jfm ρ w c mk = jfm ρ w' c mk' := by
    funext k f
    cases f with
    | none => simp only [jfm, h]
    | some off => simp only [jfm, hm]
  simp only [jckm, e1, e2, jflm, e3]
theorem wAl_set {ρ : Nat → Nat} {cy : Nat → ClassId} {w w' : jWd} {n : Nat} {mk mk' : Nat → Nat → Bool} {c : Nat} {x : va_E} (h : c < n) (hI : ∀ a, a ≠ c → ∀ k, wI w a k = wI w' a k) (hJ : ∀ a, a ≠ c → ∀ k, wJ w a k = wJ w' a k) (hm : ∀ a, a ≠ c → ∀ k, mk a k = mk' a k) (e : jckm ρ cy w' mk' c = x) : (wAl ρ cy w n mk).set c (ρ c, x) = wAl ρ cy w' n mk' := by
  apply List.ext_getElem?
  intro i
  rw [List.getElem?_set]
  by_cases hi : c = i
  · subst hi
    rw [if_pos rfl, if_pos (by rw [wAl_len]; exact h), wAl_get h, e]
  · rw [if_neg hi]
    simp only [wAl, List.getElem?_map]
    by_cases hn : i < n
    · rw [List.getElem?_range hn]
      simp only [Option.map_some]
      rw [jckm_congr (hI i (fun q => hi q.symm)) (hJ i (fun q => hi q.symm)) (hm i (fun q => hi q.symm))]
    · rw [List.getElem?_eq_none (by simpa using hn)]
      rfl
theorem wAl_push {ρ : Nat → Nat} {cy : Nat → ClassId} {w : jWd} {n : Nat} {mk : Nat → Nat → Bool} {q : Nat} {x : va_E} (hI : jIn w n mk) (e : jckm (fun a => if a = n then q else ρ a) cy w mk n = x) : wAl (fun a => if a = n then q else ρ a) cy w (n + 1) mk = wAl ρ cy w n mk ++ [(q, x)] := by
  have h1 : wAl (fun a => if a = n then q else ρ a) cy w n mk = wAl ρ cy w n mk := wAl_agree hI (fun a ha => if_neg (by omega))
  rw [← h1]
  unfold wAl
  rw [List.range_succ, List.map_append]
  simp only [List.map_cons, List.map_nil, if_pos]
  rw [e]
theorem jIn_new {w : jWd} {n : Nat} {mk : Nat → Nat → Bool} (h : jIn w n mk) : jIn w (n + 1) mk := by
  refine ⟨fun a ha k => h.1 a (by omega) k, fun c hc k off hf hm => ?_⟩
  by_cases hcn : c = n
  · subst hcn
    exact absurd hm (by rw [(h.1 c (Nat.le_refl _) k).2.2]; decide)
  · exact Nat.lt_succ_of_lt (h.2 c (by omega) k off hf hm)
theorem jIn_sI {w : jWd} {n : Nat} {mk : Nat → Nat → Bool} {c k : Nat} {x : Int32} (h : jIn w n mk) (hc : c < n) : jIn (sI w c k x) n mk := by
  refine ⟨fun a ha j => ?_, h.2⟩
  have h1 := h.1 a ha j
  exact ⟨by rw [wI_sI, if_neg (fun q => by omega)]; exact h1.1, by rw [wJ_sI]; exact h1.2.1, h1.2.2⟩
theorem jIn_mk {w : jWd} {n : Nat} {mk : Nat → Nat → Bool} {c k off : Nat} (h : jIn w n mk) (hc : c < n) (hf : (jfT (kd c))[k]? = some (some off)) (ht : jtg c off < n) : jIn w n (mkS mk c k) := by
  refine ⟨fun a ha j => ?_, fun a ha j off' hf' hm => ?_⟩
  · have h1 := h.1 a ha j
    refine ⟨h1.1, h1.2.1, ?_⟩
    have : (a == c) = false := by simp; omega
    simp [mkS, this, h1.2.2]
  · by_cases hac : a = c ∧ j = k
    · obtain ⟨rfl, rfl⟩ := hac
      rw [hf] at hf'
      cases hf'
      exact ht
    · refine h.2 a ha j off' hf' ?_
      have hm2 : ((a == c && j == k) || mk a j) = true := hm
      rw [Bool.or_eq_true] at hm2
      rcases hm2 with hm2 | hm2
      · rw [Bool.and_eq_true, beq_iff_eq, beq_iff_eq] at hm2
        exact absurd hm2 hac
      · exact hm2
theorem jfl_nth {ρ : Nat → Nat} {w : jWd} {c k q : Nat} {mk : Nat → Nat → Bool} {f : Option Nat} (hf : (jfT q)[k]? = some f) : (jflm ρ w c mk q)[k]? = some (jfm ρ w c mk k f) := by
  unfold jflm
  rw [List.getElem?_mapIdx, hf]
  rfl
theorem jflm_sI {ρ : Nat → Nat} {w : jWd} {c k q : Nat} {mk : Nat → Nat → Bool} {x : Int32} (hf : (jfT q)[k]? = some none) : jflm ρ (sI w c k x) c mk q = (jflm ρ w c mk q).set k (.int x) := by
  apply List.ext_getElem?
  intro i
  rw [List.getElem?_set]
  unfold jflm
  rw [List.getElem?_mapIdx, List.getElem?_mapIdx]
  have hk : k < (jfT q).length := (List.getElem?_eq_some_iff.mp hf).1
  by_cases hi : k = i
  · subst hi
    rw [if_pos rfl, if_pos (by simpa using hk), hf]
    simp [jfm, wI_sI]
  · rw [if_neg hi]
    cases hg : (jfT q)[i]? with
    | none => rfl
    | some f =>
      cases f with
      | none => simp [jfm, wI_sI, Ne.symm hi]
      | some off => rfl
theorem jflm_mk {ρ : Nat → Nat} {w : jWd} {c k q off : Nat} {mk : Nat → Nat → Bool} (hf : (jfT q)[k]? = some (some off)) : jflm ρ w c (mkS mk c k) q = (jflm ρ w c mk q).set k (.ref (ρ (jtg c off))) := by
  apply List.ext_getElem?
  intro i
  rw [List.getElem?_set]
  unfold jflm
  rw [List.getElem?_mapIdx, List.getElem?_mapIdx]
  have hk : k < (jfT q).length := (List.getElem?_eq_some_iff.mp hf).1
  by_cases hi : k = i
  · subst hi
    rw [if_pos rfl, if_pos (by simpa using hk), hf]
    simp [jfm, mkS]
  · rw [if_neg hi]
    cases hg : (jfT q)[i]? with
    | none => rfl
    | some f =>
      cases f with
      | none => rfl
      | some off =>
        have : (i == k) = false := by simp; omega
        simp [jfm, mkS, this]
def jrlb (n : Nat) (st : List Value) : Bool := st.all (fun v => match v with | .ref a => Nat.blt a n | _ => true)
theorem jrl_of {n : Nat} {st : List Value} (h : jrlb n st = true) : jrl n st := by
  intro a ha
  have h1 := List.all_eq_true.mp h _ ha
  exact Nat.lt_of_lt_of_le (Nat.lt_succ_self a) (Nat.le_of_ble_eq_true h1)
section JNROWS
variable {M : jMM} {d mc ms : Nat} {K : jKN} {w : jWd} {n : Nat} {mk : Nat → Nat → Bool} {nc ns : Nat} {pc : Nat} {lv : List (Nat × Value)} {st : List Value}
theorem jv_agree {ρ ρ' : Nat → Nat} {st : List Value} (hr : jrl n st) (h : ∀ a, a < n → ρ' a = ρ a) : st.map (jv ρ') = st.map (jv ρ) := by
  apply List.map_congr_left
  intro v hv
  cases v with
  | ref a => exact congrArg Value.ref (h a (hr a hv))
  | _ => rfl
theorem jl_agree {ρ ρ' : Nat → Nat} {lv : List (Nat × Value)} (hr : jrl n (lv.map Prod.snd)) (h : ∀ a, a < n → ρ' a = ρ a) : jl ρ' lv = jl ρ lv := by
  apply List.map_congr_left
  intro q hq
  obtain ⟨i, v⟩ := q
  cases v with
  | ref a => exact congrArg (fun z => (i, Value.ref z)) (h a (hr a (List.mem_map.mpr ⟨_, hq, rfl⟩)))
  | _ => rfl
theorem jn_new {index q N : Nat} {Kc : String} {T : u_T} {ty0 : Nat → FieldType} (hkd : kd n = q) (hq : q < 12) (hcl : jcl[q]? = some (Kc, T, N)) (hin : ∀ x ∈ u_ws Kc T N, x ∈ jT) (hty : ∀ k, k < N → parseFieldDescriptor (T k).2.2.1 = some (ty0 k)) (hl : Cond.classLink M.1 index Kc ∈ jT) (hi : Cond.instantiable Kc N ∈ jT) (hini : Cond.initialized Kc ∈ jT)
    (hz : ∀ (u : jWd) (m' : Nat → Nat → Bool) (ρ : Nat → Nat), (∀ k, wI u n k = 0) → (∀ k, m' n k = false) → ∀ j, j < N → defaultValue (ty0 j) = vp_V (jflm ρ u n m' q) j) (hcells : nc + 1 ≤ mc) (hslots : ns + N ≤ ms) (hr1 : jrl n (lv.map Prod.snd)) (hr2 : jrl n st) (hdg : decode M.2.1 pc = .ok (.new index, 3))
    (kk : JN M d mc ms K w (n + 1) mk (nc + 1) (ns + N) (pc + 3) lv (.ref n :: st)) : JN M d mc ms K w n mk nc ns pc lv st := by
  intro p l e0 s m args below meth c A ρ0 ρ D cy H locs ls C hI hρ hP hD hS hl'
  refine va_new C.1 C.2.1 C.2.2.2.2.1 hin ty0 hty C.2.2.2.1 (C.2.2.2.2.1 _ hl) (C.2.2.2.2.1 _ hi) (C.2.2.2.2.1 _ hini) C.2.2.2.2.2.2.2.1 hP hD hS C.2.2.2.2.2.2.2.2.1 hcl (fs := jflm ρ w n mk q) (hz w mk ρ (fun k => (hI.1.1 n (Nat.le_refl _) k).1) (fun k => (hI.1.1 n (Nat.le_refl _) k).2.2)) hcells hslots hdg (fun q0 H1 hP1 hD1 hS1 => ?_)
  have hag : ∀ a, a < n → (fun a => if a = n then q0 else ρ a) a = ρ a := fun a ha => if_neg (by omega)
  have ef : jflm (fun a => if a = n then q0 else ρ a) w n mk q = jflm ρ w n mk q := by
    unfold jflm
    apply List.ext_getElem?
    intro k
    rw [List.getElem?_mapIdx, List.getElem?_mapIdx]
    cases hf : (jfT q)[k]? with
    | none => rfl
    | some f =>
      cases f with
      | none => rfl
      | some off => simp only [Option.map_some, jfm, (hI.1.1 n (Nat.le_refl _) k).2.2]; rfl
  have e := wAl_push (ρ := ρ) (cy := cy) (q := q0) hI.1 ((jckm_o hkd hq).trans (by rw [ef]))
  rw [← e] at hP1 hD1
  have := kk p l e0 s m args below meth c A ρ0 (fun a => if a = n then q0 else ρ a) D cy H1 locs ls C ⟨jIn_new hI.1, by have := hI.2; omega⟩ (fun a ha => (hag a (Nat.lt_of_lt_of_le ha hI.2)).trans (hρ a ha)) hP1 hD1 hS1 (by rw [jl_agree hr1 hag]; exact hl')
  rw [List.map_cons, jv_agree hr2 hag] at this
  have e2 : jv (fun a => if a = n then q0 else ρ a) (.ref n) = .ref q0 := congrArg Value.ref (if_pos rfl)
  rw [e2] at this
  exact this
theorem jty_at {cy : Nat → ClassId} {k : Nat} {ty : FieldType} (h : (jty cy)[k]? = some (cy k, ty)) {s : State} {D : va_G} (hK : va_K D jcl (jty cy) s) (hp : refKind ty = false) {cA : ClassId} (hA : s.vm.findClass ("[" ++ ty.toString) = some cA) : cA = cy k := by
  have h2 := (hK.2 k _ h).2
  cases ty with
  | object C => cases hp
  | _ => exact Option.some.inj (hA.symm.trans h2)
theorem jn_newa {i : Int32} {at_ : ArrayType} {ty : FieldType} {k : Nat} (hty : newarray.typeOf at_ = ty) (hkd : kd n = k + 12) (hk : k < 4) (hjt : ∀ cy, (jty cy)[k]? = some (cy k, ty)) (hp : refKind ty = false) (hdv : defaultValue ty = .int 0) (hk2 : k ≠ 2) (hac : Cond.arrayClass ty ∈ jT) (hn : ¬ i < 0) (hN : i.toNatClampNeg = ln n) (hb : ln n * componentBytes ty ≤ 536870912) (hcells : nc + 1 ≤ mc) (hslots : ns + ln n ≤ ms) (hr1 : jrl n (lv.map Prod.snd)) (hr2 : jrl n st) (hdg : decode M.2.1 pc = .ok (.newarray at_, 2))
    (kk : JN M d mc ms K w (n + 1) mk (nc + 1) (ns + ln n) (pc + 2) lv (.ref n :: st)) : JN M d mc ms K w n mk nc ns pc lv (.int i :: st) := by
  intro p l e0 s m args below meth c A ρ0 ρ D cy H locs ls C hI hρ hP hD hS hl'
  have ez : wI w n = fun _ => 0 := funext fun k => (hI.1.1 n (Nat.le_refl _) k).1
  refine va_newa (a0 := (ln n, .inl (wI w n))) C.1 C.2.1 (by rw [hty]; exact C.2.2.2.2.1 _ hac) hty C.2.2.2.2.2.2.2.1 hP hD hS C.2.2.2.2.2.2.2.2.1 (fun cA => by rw [vp_cell_i, hdv, ez]) hn hN hb hcells hslots hdg (fun q0 cA H1 hK1 hP1 hD1 hS1 => ?_)
  have h4 : (jty cy ++ [(cA, ty)])[4]? = some (cA, ty) := rfl
  have hA := (hK1.2 4 _ h4).2
  have hcA : cA = cy k := jty_at (hjt cy) C.2.2.2.2.2.2.2.1 hp (by
    cases ty with
    | object C => cases hp
    | _ => exact hA)
  subst hcA
  have hag : ∀ a, a < n → (fun a => if a = n then q0 else ρ a) a = ρ a := fun a ha => if_neg (by omega)
  have e := wAl_push (ρ := ρ) (cy := cy) (q := q0) hI.1 (jckm_i (ρ := fun a => if a = n then q0 else ρ a) (mk := mk) (w := w) (cy := cy) hkd (by omega) (by omega))
  rw [show k + 12 - 12 = k by omega] at e
  rw [← e] at hP1 hD1
  have := kk p l e0 s m args below meth c A ρ0 (fun a => if a = n then q0 else ρ a) D cy H1 locs ls C ⟨jIn_new hI.1, by have := hI.2; omega⟩ (fun a ha => (hag a (Nat.lt_of_lt_of_le ha hI.2)).trans (hρ a ha)) hP1 hD1 hS1 (by rw [jl_agree hr1 hag]; exact hl')
  rw [List.map_cons, jv_agree hr2 hag] at this
  have e2 : jv (fun a => if a = n then q0 else ρ a) (.ref n) = .ref q0 := congrArg Value.ref (if_pos rfl)
  rw [e2] at this
  exact this
theorem jn_newl {i : Int32} (hkd : kd n = 14) (hac : Cond.arrayClass .long ∈ jT) (hn : ¬ i < 0) (hN : i.toNatClampNeg = ln n) (hb : ln n * 8 ≤ 536870912) (hcells : nc + 1 ≤ mc) (hslots : ns + ln n ≤ ms) (hr1 : jrl n (lv.map Prod.snd)) (hr2 : jrl n st) (hdg : decode M.2.1 pc = .ok (.newarray .long, 2))
    (kk : JN M d mc ms K w (n + 1) mk (nc + 1) (ns + ln n) (pc + 2) lv (.ref n :: st)) : JN M d mc ms K w n mk nc ns pc lv (.int i :: st) := by
  intro p l e0 s m args below meth c A ρ0 ρ D cy H locs ls C hI hρ hP hD hS hl'
  have ez : wJ w n = fun _ => 0 := funext fun k => (hI.1.1 n (Nat.le_refl _) k).2.1
  refine va_newa (atype := .long) (ty := .long) (a0 := (ln n, .inr (.inl (wJ w n)))) C.1 C.2.1 (C.2.2.2.2.1 _ hac) rfl C.2.2.2.2.2.2.2.1 hP hD hS C.2.2.2.2.2.2.2.2.1 (fun cA => by rw [vp_cell_l, ez]; rfl) hn hN hb hcells hslots hdg (fun q0 cA H1 hK1 hP1 hD1 hS1 => ?_)
  have h4 : (jty cy ++ [(cA, FieldType.long)])[4]? = some (cA, .long) := rfl
  have hA := (hK1.2 4 _ h4).2
  have hcA : cA = cy 2 := jty_at (ty := .long) rfl C.2.2.2.2.2.2.2.1 rfl hA
  subst hcA
  have hag : ∀ a, a < n → (fun a => if a = n then q0 else ρ a) a = ρ a := fun a ha => if_neg (by omega)
  have e := wAl_push (ρ := ρ) (cy := cy) (q := q0) hI.1 (jckm_l (ρ := fun a => if a = n then q0 else ρ a) (mk := mk) (w := w) (cy := cy) hkd)
  rw [← e] at hP1 hD1
  have := kk p l e0 s m args below meth c A ρ0 (fun a => if a = n then q0 else ρ a) D cy H1 locs ls C ⟨jIn_new hI.1, by have := hI.2; omega⟩ (fun a ha => (hag a (Nat.lt_of_lt_of_le ha hI.2)).trans (hρ a ha)) hP1 hD1 hS1 (by rw [jl_agree hr1 hag]; exact hl')
  rw [List.map_cons, jv_agree hr2 hag] at this
  have e2 : jv (fun a => if a = n then q0 else ρ a) (.ref n) = .ref q0 := congrArg Value.ref (if_pos rfl)
  rw [e2] at this
  exact this
theorem jn_get {c index q k N : Nat} {Kc : String} {T : u_T} {v : Value} (hcn : c < n) (hkd : kd c = q) (hq : q < 12) (hcl : jcl[q]? = some (Kc, T, N)) (hk : k < N) (hin : ∀ x ∈ u_ws Kc T N, x ∈ jT) (hT : (T k).1 = Kc) (hlink : Cond.fieldLink M.1 index Kc (T k).2.1 (T k).2.2.1 ∈ jT)
    (hv : ∀ ρ, (jflm ρ w c mk q)[k]? = some (jv ρ v)) (hdg : decode M.2.1 pc = .ok (.getfield index, 3)) (kk : JN M d mc ms K w n mk nc ns (pc + 3) lv (v :: st)) : JN M d mc ms K w n mk nc ns pc lv (.ref c :: st) := by
  intro p l e s m args below meth c0 A ρ0 ρ D cy H locs ls C hI hρ hP hD hS hl
  exact va_get (ref := Kc) C.1 C.2.1 C.2.2.2.2.1 hin C.2.2.2.1 C.2.2.2.2.2.2.2.1 hP c ((wAl_get hcn).trans (by rw [jckm_o hkd hq])) hcl k hk (C.2.2.2.2.1 _ hlink) (fun x hx => by rw [hT] at hx; exact hx) (hv ρ) hdg (kk p l e s m args below meth c0 A ρ0 ρ D cy H locs ls C hI hρ hP hD hS hl)
theorem jn_put {c index q k N : Nat} {Kc : String} {T : u_T} {ty0 : Nat → FieldType} {x : Int32} (hcn : c < n) (hkd : kd c = q) (hq : q < 12) (hcl : jcl[q]? = some (Kc, T, N)) (hk : k < N) (hin : ∀ x ∈ u_ws Kc T N, x ∈ jT) (hty : ∀ k, k < N → parseFieldDescriptor (T k).2.2.1 = some (ty0 k)) (hnm : ∀ a, a < N → ∀ b, b < N → a ≠ b → (T a).2.1 ≠ (T b).2.1) (hT : (T k).1 = Kc) (hfin : (T k).2.2.2 = false) (ht : ty0 k = .int) (hlink : Cond.fieldLink M.1 index Kc (T k).2.1 (T k).2.2.1 ∈ jT)
    (hf : (jfT q)[k]? = some none) (hdg : decode M.2.1 pc = .ok (.putfield index, 3)) (kk : JN M d mc ms K (sI w c k x) n mk nc ns (pc + 3) lv st) : JN M d mc ms K w n mk nc ns pc lv (.int x :: .ref c :: st) := by
  intro p l e0 s m args below meth c0 A ρ0 ρ D cy H locs ls C hI hρ hP hD hS hl
  refine va_put (ref := Kc) (v := .int x) (ty := .int) C.1 C.2.1 C.2.2.2.2.1 hin ty0 hty hnm C.2.2.2.1 C.2.2.2.2.2.2.2.1 hP hD hS c ((wAl_get hcn).trans (by rw [jckm_o hkd hq])) hcl k hk (C.2.2.2.2.1 _ hlink) (fun x hx => by rw [hT] at hx; exact hx) hfin (by rw [hty k hk, ht]) rfl rfl (List.getElem?_eq_some_iff.mp (jfl_nth (ρ := ρ) (w := w) (c := c) (mk := mk) hf)).1 hdg (fun H1 locs1 hP1 hD1 hS1 => ?_)
  have e := wAl_set (ρ := ρ) (cy := cy) (w := w) (w' := sI w c k x) (mk := mk) (mk' := mk) hcn (fun a ha j => wI_off ha j) (fun a _ j => rfl) (fun _ _ _ => rfl) ((jckm_o hkd hq).trans (by rw [jflm_sI hf]))
  rw [e] at hP1 hD1
  exact kk p l e0 s m args below meth c0 A ρ0 ρ D cy H1 locs1 ls C ⟨jIn_sI hI.1 hcn, hI.2⟩ hρ hP1 hD1 hS1 hl
theorem jn_putF {c index q k N : Nat} {Kc : String} {T : u_T} {ty0 : Nat → FieldType} {x : Int32} (hcn : c < n) (hnm0 : K.2.2.2.2.2 = "<init>") (hM : M.1 = Kc) (hkd : kd c = q) (hq : q < 12) (hcl : jcl[q]? = some (Kc, T, N)) (hk : k < N) (hin : ∀ x ∈ u_ws Kc T N, x ∈ jT) (hty : ∀ k, k < N → parseFieldDescriptor (T k).2.2.1 = some (ty0 k)) (hnm : ∀ a, a < N → ∀ b, b < N → a ≠ b → (T a).2.1 ≠ (T b).2.1) (hT : (T k).1 = Kc) (hfin : (T k).2.2.2 = true) (ht : ty0 k = .int) (hlink : Cond.fieldLink M.1 index Kc (T k).2.1 (T k).2.2.1 ∈ jT)
    (hf : (jfT q)[k]? = some none) (hdg : decode M.2.1 pc = .ok (.putfield index, 3)) (kk : JN M d mc ms K (sI w c k x) n mk nc ns (pc + 3) lv st) : JN M d mc ms K w n mk nc ns pc lv (.int x :: .ref c :: st) := by
  intro p l e0 s m args below meth c0 A ρ0 ρ D cy H locs ls C hI hρ hP hD hS hl
  refine va_putF (own := M.1) (ref := Kc) (v := .int x) (ty := .int) C.1 C.2.1 C.2.2.2.2.1 hin ty0 hty hnm C.2.2.2.1 C.2.2.2.2.2.2.2.1 hP hD hS c ((wAl_get hcn).trans (by rw [jckm_o hkd hq])) hcl k hk (C.2.2.2.2.1 _ hlink) (fun x hx => by rw [hT] at hx; exact hx) hfin (C.2.2.2.2.2.2.2.2.2.2.trans hnm0) (hT.trans hM.symm) (by rw [hty k hk, ht]) rfl rfl (List.getElem?_eq_some_iff.mp (jfl_nth (ρ := ρ) (w := w) (c := c) (mk := mk) hf)).1 hdg (fun H1 locs1 hP1 hD1 hS1 => ?_)
  have e := wAl_set (ρ := ρ) (cy := cy) (w := w) (w' := sI w c k x) (mk := mk) (mk' := mk) hcn (fun a ha j => wI_off ha j) (fun a _ j => rfl) (fun _ _ _ => rfl) ((jckm_o hkd hq).trans (by rw [jflm_sI hf]))
  rw [e] at hP1 hD1
  exact kk p l e0 s m args below meth c0 A ρ0 ρ D cy H1 locs1 ls C ⟨jIn_sI hI.1 hcn, hI.2⟩ hρ hP1 hD1 hS1 hl
theorem jn_putR {c index q k N off r : Nat} {Kc : String} {T : u_T} {ty0 : Nat → FieldType} (hcn : c < n) (hnm0 : K.2.2.2.2.2 = "<init>") (hM : M.1 = Kc) (hkd : kd c = q) (hq : q < 12) (hcl : jcl[q]? = some (Kc, T, N)) (hk : k < N) (hin : ∀ x ∈ u_ws Kc T N, x ∈ jT) (hty : ∀ k, k < N → parseFieldDescriptor (T k).2.2.1 = some (ty0 k)) (hnm : ∀ a, a < N → ∀ b, b < N → a ≠ b → (T a).2.1 ≠ (T b).2.1) (hT : (T k).1 = Kc) (hfin : (T k).2.2.2 = true) (hlink : Cond.fieldLink M.1 index Kc (T k).2.1 (T k).2.2.1 ∈ jT)
    (hf : (jfT q)[k]? = some (some off)) (hr : jtg c off = r) (hrn : r < n) (hna : ∀ a : Nat, narrow (ty0 k) (.ref a) = .ref a) (hfi : ∀ a : Nat, fits (ty0 k) (.ref a) = true) (hdg : decode M.2.1 pc = .ok (.putfield index, 3)) (kk : JN M d mc ms K w n (mkS mk c k) nc ns (pc + 3) lv st) : JN M d mc ms K w n mk nc ns pc lv (.ref r :: .ref c :: st) := by
  subst hr
  intro p l e0 s m args below meth c0 A ρ0 ρ D cy H locs ls C hI hρ hP hD hS hl
  refine va_putF (own := M.1) (ref := Kc) (v := .ref (ρ (jtg c off))) (ty := ty0 k) C.1 C.2.1 C.2.2.2.2.1 hin ty0 hty hnm C.2.2.2.1 C.2.2.2.2.2.2.2.1 hP hD hS c ((wAl_get hcn).trans (by rw [jckm_o hkd hq])) hcl k hk (C.2.2.2.2.1 _ hlink) (fun x hx => by rw [hT] at hx; exact hx) hfin (C.2.2.2.2.2.2.2.2.2.2.trans hnm0) (hT.trans hM.symm) (hty k hk) (hna _) (hfi _) (List.getElem?_eq_some_iff.mp (jfl_nth (ρ := ρ) (w := w) (c := c) (mk := mk) hf)).1 hdg (fun H1 locs1 hP1 hD1 hS1 => ?_)
  have e := wAl_set (ρ := ρ) (cy := cy) (w := w) (w' := w) (mk := mk) (mk' := mkS mk c k) hcn (fun _ _ _ => rfl) (fun a _ j => rfl) (fun a ha j => by simp [mkS, ha]) ((jckm_o hkd hq).trans (by rw [jflm_mk hf]))
  rw [e] at hP1 hD1
  exact kk p l e0 s m args below meth c0 A ρ0 ρ D cy H1 locs1 ls C ⟨jIn_mk hI.1 hcn (by rw [hkd]; exact hf) hrn, hI.2⟩ hρ hP1 hD1 hS1 hl
theorem jn_iastL {c k : Nat} {i x : Int32} (hcn : c < n) (hkd : kd c = 13) (hin : vp_in i (ln c)) (hk : i.toNatClampNeg = k) (hdg : decode M.2.1 pc = .ok (.iastore, 1)) (kk : JN M d mc ms K (sI w c k x) n mk nc ns (pc + 1) lv st) : JN M d mc ms K w n mk nc ns pc lv (.int x :: .int i :: .ref c :: st) := by
  subst hk
  intro p l e0 s m args below meth c0 A ρ0 ρ D cy H locs ls C hI hρ hP hD hS hl
  refine va_iast C.1 C.2.1 C.2.2.2.2.2.2.2.1 hP hD hS c 1 ((wAl_get hcn).trans (by rw [jckm_i hkd (by decide) (by decide)])) rfl hin hdg (fun H1 locs1 hP1 hD1 hS1 => ?_)
  have e := wAl_set (ρ := ρ) (cy := cy) (w := w) (w' := sI w c i.toNatClampNeg x) (mk := mk) (mk' := mk) hcn (fun a ha j => wI_off ha j) (fun a _ j => rfl) (fun _ _ _ => rfl) ((jckm_i hkd (by decide) (by decide)).trans (by rw [wI_up]))
  rw [e] at hP1 hD1
  exact kk p l e0 s m args below meth c0 A ρ0 ρ D cy H1 locs1 ls C ⟨jIn_sI hI.1 hcn, hI.2⟩ hρ hP1 hD1 hS1 hl
theorem jn_alen {c : Nat} {v : Int32} (hcn : c < n) (hkd : kd c = 13) (hv : Int32.ofNat (ln c) = v) (hdg : decode M.2.1 pc = .ok (.arraylength, 1)) (kk : JN M d mc ms K w n mk nc ns (pc + 1) lv (.int v :: st)) : JN M d mc ms K w n mk nc ns pc lv (.ref c :: st) := by
  intro p l e s m args below meth c0 A ρ0 ρ D cy H locs ls C hI hρ hP hD hS hl
  exact va_alen (x := (ln c, .inl (wI w c))) C.1 C.2.1 C.2.2.2.2.2.2.2.1 hP c 1 ((wAl_get hcn).trans (by rw [jckm_i hkd (by decide) (by decide)])) rfl hv hdg (kk p l e s m args below meth c0 A ρ0 ρ D cy H locs ls C hI hρ hP hD hS hl)
theorem jn_obj {idx c : Nat} (hl : Cond.methodLink M.1 idx Lib.objectInit ∈ jT) (hin : Cond.instanceMethod Lib.objectInit ∈ jT) (hco : Cond.code Lib.objectInit ⟨#[0xb1]⟩ 1 none ∈ jT) (hd : 1 ≤ d) (hW : (st.map fun v => v.category).sum ≤ 8) (hdg : decode M.2.1 pc = .ok (.invokespecial idx, 3)) (kk : JN M d mc ms K w n mk nc ns (pc + 3) lv st) : JN M d mc ms K w n mk nc ns pc lv (.ref c :: st) := by
  intro p l e s m args below meth c0 A ρ0 ρ D cy H locs ls C hI hρ hP hD hS hlv
  exact W.objInit C.1 C.2.1 C.2.2.2.1 (C.2.2.2.2.1 _ hl) (C.2.2.2.2.1 _ hin) (C.2.2.2.2.1 _ hco) rfl (by rw [C.2.2.1]; exact hlv.1) rfl hdg hd (by rw [jv_sum]; show 2 * 0 + _ + 12 ≤ 80 * d; omega) (kk p l e s m args below meth c0 A ρ0 ρ D cy H locs ls C hI hρ hP hD hS hlv)
theorem jn_imax {index : Nat} (hl : Cond.methodLink M.1 index Lib.Math.max.name ∈ jT) (hd : 1 ≤ d) (hnc : nc ≤ mc) (hns : ns ≤ ms) (hW : (st.map fun v => v.category).sum ≤ 8) {x y : Int32} (hdg : decode M.2.1 pc = .ok (.invokestatic index, 3)) (kk : JN M d mc ms K w n mk nc ns (pc + 3) lv (.int (imax x y) :: st)) : JN M d mc ms K w n mk nc ns pc lv (.int y :: .int x :: st) := by
  intro p l e s m args below meth c A ρ0 ρ D cy H locs ls C hI hρ hP hD hS hlv
  exact va_mmax C.1 C.2.1 (by rw [C.2.2.1]; exact hlv.1.symm) C.2.2.2.1 (C.2.2.2.2.1 _ hl) (C.2.2.2.2.1 _ jp_static_max.1) (C.2.2.2.2.1 _ jp_static_max.2.1) (C.2.2.2.2.1 _ jp_static_max.2.2) hd (by rw [jv_sum]; show _ ≤ 80 * d; omega) hnc hns hdg (kk p l e s m args below meth c A ρ0 ρ D cy H locs ls C hI hρ hP hD hS hlv)
theorem jn_blind {A : Nat → Prop} {ρ : Nat → Nat} {D : va_G} {cy : Nat → ClassId} {av : List Value} : FrameBlind (va_Pc av (jWN A ρ D cy w n mk)) := by
  intro a U g mk0 h
  obtain ⟨h1, hP, hK, hD, hA, hN, hI⟩ := h
  exact ⟨h1, hP, va_K.moved (u := U) (U := U.calling g mk0 a) (Vm.Alike.refl U.vm) hK, hD, hA, fun q hq => va_Nw.same (u := U) (U := U.calling g mk0 a) rfl rfl (hN q hq), hI⟩
theorem jn_pre {A : Nat → Prop} {ρ : Nat → Nat} {D : va_G} {cy : Nat → ClassId} {s : State} {H : Heap} {locs : List Loc} (hK : va_K D jcl (jty cy) s) (hA : ∀ q, s.heap.size ≤ q → A q) (hN : jNo s) (hI : jIn w n mk) (hP : va_P D jcl (wAl ρ cy w n mk) H) (hD : va_D A (wAl ρ cy w n mk)) (hS : va_S A s.heap H locs) {U : State} (hU : U.heap = H) (hW : s.WarmedH U.vm) : jWN A ρ D cy w n mk U :=
  ⟨by rw [hU]; exact hP, va_K.moved hW.alike hK, hD, fun q hq => hA q (Nat.le_trans hS.1 (by rw [← hU]; exact hq)), fun q hq => va_Nw.warmM hW (hN q hq), hI⟩
theorem jn_after {A : Nat → Prop} {ρ : Nat → Nat} {D : va_G} {cy : Nat → ClassId} {p : Program} {l : Launch} {e : Env} {R : Room} {s : State} {m : MethodId} {args : Array Value} {below : List Frame} {meth : Method} {c : Code} {H : Heap} {locs : List Loc} {Q : State → Prop} {ls : Array Slot} {st0 rest : List Value} {K1 : jKN} {a : Array Value} {mc' ms' : Nat}
    (hr : va_Run p l e R s m args below meth c H locs nc ns mc' ms' (F0 m pc ls st0) rest (jQN A ρ D cy K1 a) A) (hS : va_S A s.heap H locs)
    (kk : ∀ (ρ1 : Nat → Nat) (H1 : Heap) (locs1 : List Loc), (∀ a, a < K1.2.2.2.2.1 → ρ1 a = ρ a) → jIn K1.2.1 K1.2.2.1 K1.2.2.2.1 → va_P D jcl (wAl ρ1 cy K1.2.1 K1.2.2.1 K1.2.2.2.1) H1 → va_D A (wAl ρ1 cy K1.2.1 K1.2.2.1 K1.2.2.2.1) → va_S A s.heap H1 locs1 → W p l e R s m args below meth c H1 locs1 (nc + mc') (ns + ms') Q (F0 m (pc + 3) ls ((K1.1.map (jv ρ1)).toList ++ rest))) : W p l e R s m args below meth c H locs nc ns Q (F0 m pc ls st0) := by
  intro T hT X
  obtain ⟨v1, st₀, t, T', L, h0, X', hL, e1, e2, ⟨⟨ρ1, hag, hv, hp, hd, hin⟩, hz, hk⟩, step⟩ := hr T hT X
  obtain rfl : v1 = K1.1.map (jv ρ1) := by cases hv; rfl
  rw [h0] at hz hk
  obtain ⟨t2, a1, b1⟩ := kk ρ1 T'.heap (locs ++ L) hag hin (by rw [e1]; exact hp) hd
    ⟨Nat.le_trans hS.1 (by rw [e1]; exact hz), fun q h1 h2 => by rw [e1, hk q (Nat.lt_of_lt_of_le h1 hS.1) h2]; exact hS.2.1 q h1 h2, fun q hq => by
      rcases List.mem_append.mp hq with h | h
      · exact hS.2.2 q h
      · exact hL q h⟩ T' rfl X'
  exact ⟨t2, step t2 a1, b1⟩
theorem jn_room {d d' k mc ms mc' ms' : Nat} (h : d' + 1 ≤ d) (hn : k ≤ 60) : (jRN d' mc' ms').frames + 1 ≤ (jRN d mc ms).frames ∧ 8 + (k + 11) + (jRN d' mc' ms').locals ≤ (jRN d mc ms).locals := by
  refine ⟨h, ?_⟩
  show 8 + (k + 11) + 80 * d' ≤ 80 * d
  omega
/-- what a call of a constructor, of a method, says of the tables -/
def jLn (y : MethodName) (M' : jMM) (k : Nat) : Prop :=
  Cond.initialized y.cls ∈ jT ∧ Cond.code y M'.2.1 M'.2.2.1 M'.2.2.2 ∈ jT ∧ M'.2.2.1 ≤ 60 ∧ y.cls ≠ "java/lang/invoke/MethodHandle" ∧ y.cls ≠ "java/lang/invoke/VarHandle" ∧ (parseMethodDescriptor y.desc).map (fun d => d.parameters.length) = some k
theorem jn_ts {y : MethodName} {M' : jMM} {s : State} {args : Array Value} (h3 : Cond.code y M'.2.1 M'.2.2.1 M'.2.2.2 ∈ jT) (ht : ∀ x ∈ jT, x.before args s = true) : ∀ x ∈ (Cond.code y M'.2.1 M'.2.2.1 M'.2.2.2 :: jT), x.before args s = true := fun x hx => by
  rcases List.mem_cons.mp hx with rfl | hx
  · exact ht _ h3
  · exact ht _ hx
variable {index k d' mc' ms' : Nat} {y : MethodName} {M' : jMM} {b : Nat} {as : List Value} {w1 : jWd} {n1 : Nat} {mk1 : Nat → Nat → Bool} {st' : List Value}
theorem jn_callI (hl : Cond.methodLink M.1 index y ∈ jT) (hL : jLn y M' k) (hret : M'.2.2.2 = none) (hy : y.name = "<init>") (hi : Cond.instanceMethod y ∈ jT) (hM : JNM y M' d' mc' ms' (.ref b :: as) w n mk none w1 n1 mk1) (hd : d' + 1 ≤ d) (hst : st = as.reverse ++ .ref b :: st') (hn : as.length = k) (hW : (st'.map fun v => v.category).sum ≤ 8) (hr1 : jrl n (lv.map Prod.snd)) (hr2 : jrl n st') (hnn : n ≤ n1) (hc : nc + mc' ≤ mc) (hs : ns + ms' ≤ ms) (hdg : decode M.2.1 pc = .ok (.invokespecial index, 3)) (kk : JN M d mc ms K w1 n1 mk1 (nc + mc') (ns + ms') (pc + 3) lv st') : JN M d mc ms K w n mk nc ns pc lv st := by
  subst hst
  obtain ⟨h2, h3, h4, h5⟩ := hL
  intro p l e s m args below meth c A ρ0 ρ D cy H locs ls C hI hρ hP hD hS hlv
  have hcb := callB_of (R := jRN d mc ms) (own := M.1) (index := index) (ret := M'.2.2.2) (rm := jRN d' mc' ms') (mc := mc') (ms := ms') k (jn_ts h3 C.2.2.2.2.1) (jT_good h3) rfl rfl rfl (C.2.2.2.2.1 _ h2) (C.2.2.2.2.1 _ hl) h5 (jn_room hd h4)
  have hMet := hM l A ρ D cy
  rw [hret] at hcb hMet
  refine jn_after (va_runI (b := ρ b) (As := as.map (jv ρ)) (rest := st'.map (jv ρ)) (n := k) ⟨C.1, C.2.1, C.2.2.1, C.2.2.2.1, C.2.2.2.2.1⟩ hMet ⟨hcb, hy, C.2.2.2.2.1 _ hi⟩ ⟨jn_blind, fun U hU hW => ⟨rfl, jn_pre C.2.2.2.2.2.2.2.1 C.2.2.2.2.2.2.2.2.1 C.2.2.2.2.2.2.2.2.2.1 hI.1 hP hD hS hU hW⟩⟩ rfl (by rw [List.length_map]; exact hn) hlv.1 (by simp [jv]) (by rw [jv_sum]; show 2 * 0 + _ ≤ 8; omega) hdg ⟨hc, hs⟩) hS (fun ρ1 H1 locs1 hag hin hP1 hD1 hS1 => ?_)
  have := kk p l e s m args below meth c A ρ0 ρ1 D cy H1 locs1 ls C ⟨hin, Nat.le_trans hI.2 hnn⟩ (fun a ha => (hag a (Nat.lt_of_lt_of_le ha hI.2)).trans (hρ a ha)) hP1 hD1 hS1 (by rw [jl_agree hr1 hag]; exact hlv)
  rw [jv_agree hr2 hag] at this
  exact this
theorem jn_callN {host : String} (hl : (M.1, index, y, host) ∈ jNw) (hL : jLn y M' k) (hret : M'.2.2.2 = none) (hy : y.name = "<init>") (hi : Cond.instanceMethod y ∈ jT) (hM : JNM y M' d' mc' ms' (.ref b :: as) w n mk none w1 n1 mk1) (hd : d' + 1 ≤ d) (hst : st = as.reverse ++ .ref b :: st') (hn : as.length = k) (hW : (st'.map fun v => v.category).sum ≤ 8) (hr1 : jrl n (lv.map Prod.snd)) (hr2 : jrl n st') (hnn : n ≤ n1) (hc : nc + mc' ≤ mc) (hs : ns + ms' ≤ ms) (hdg : decode M.2.1 pc = .ok (.invokespecial index, 3)) (kk : JN M d mc ms K w1 n1 mk1 (nc + mc') (ns + ms') (pc + 3) lv st') : JN M d mc ms K w n mk nc ns pc lv st := by
  subst hst
  obtain ⟨h2, h3, h4, h5⟩ := hL
  intro p l e s m args below meth c A ρ0 ρ D cy H locs ls C hI hρ hP hD hS hlv
  have hcb := va_cnB (R := jRN d mc ms) (own := M.1) (host := host) (index := index) (ret := M'.2.2.2) (rm := jRN d' mc' ms') (mc := mc') (ms := ms') k (jn_ts h3 C.2.2.2.2.1) (jT_good h3) rfl rfl rfl (C.2.2.2.2.2.2.2.2.2.1 _ hl) (C.2.2.2.2.1 _ h2) h5 (jn_room hd h4)
  have hMet := hM l A ρ D cy
  rw [hret] at hcb hMet
  refine jn_after (va_runIN (b := ρ b) (As := as.map (jv ρ)) (rest := st'.map (jv ρ)) (n := k) ⟨C.1, C.2.1, C.2.2.1, C.2.2.2.1, C.2.2.2.2.1⟩ hMet ⟨hcb, hy, C.2.2.2.2.1 _ hi⟩ ⟨jn_blind, fun U hU hW => ⟨rfl, jn_pre C.2.2.2.2.2.2.2.1 C.2.2.2.2.2.2.2.2.1 C.2.2.2.2.2.2.2.2.2.1 hI.1 hP hD hS hU hW⟩⟩ rfl (by rw [List.length_map]; exact hn) hlv.1 (by simp [jv]) (by rw [jv_sum]; show 2 * 0 + _ ≤ 8; omega) hdg ⟨hc, hs⟩) hS (fun ρ1 H1 locs1 hag hin hP1 hD1 hS1 => ?_)
  have := kk p l e s m args below meth c A ρ0 ρ1 D cy H1 locs1 ls C ⟨hin, Nat.le_trans hI.2 hnn⟩ (fun a ha => (hag a (Nat.lt_of_lt_of_le ha hI.2)).trans (hρ a ha)) hP1 hD1 hS1 (by rw [jl_agree hr1 hag]; exact hlv)
  rw [jv_agree hr2 hag] at this
  exact this
theorem jn_callV {v : Value} {q N : Nat} {T : u_T} (hl : Cond.methodLink M.1 index y ∈ jT) (hL : jLn y M' k) (hi : Cond.instanceMethod y ∈ jT) (hse : Cond.selects y.cls y y ∈ jT) (hbn : b < n) (hkd : kd b = q) (hq : q < 12) (hcl : jcl[q]? = some (y.cls, T, N)) (hM : JNM y M' d' mc' ms' (.ref b :: as) w n mk (some v) w1 n1 mk1) (hvr : ∀ ρ, jv ρ v = v) (hd : d' + 1 ≤ d) (hst : st = as.reverse ++ .ref b :: st') (hn : as.length = k) (hW : (st'.map fun v => v.category).sum ≤ 8) (hr1 : jrl n (lv.map Prod.snd)) (hr2 : jrl n st') (hnn : n ≤ n1) (hc : nc + mc' ≤ mc) (hs : ns + ms' ≤ ms) (hdg : decode M.2.1 pc = .ok (.invokevirtual index, 3)) (kk : JN M d mc ms K w1 n1 mk1 (nc + mc') (ns + ms') (pc + 3) lv (v :: st')) : JN M d mc ms K w n mk nc ns pc lv st := by
  subst hst
  obtain ⟨h2, h3, h4, h5⟩ := hL
  intro p l e s m args below meth c A ρ0 ρ D cy H locs ls C hI hρ hP hD hS hlv
  have hcb := callB_of (R := jRN d mc ms) (own := M.1) (index := index) (ret := M'.2.2.2) (rm := jRN d' mc' ms') (mc := mc') (ms := ms') k (jn_ts h3 C.2.2.2.2.1) (jT_good h3) rfl rfl rfl (C.2.2.2.2.1 _ h2) (C.2.2.2.2.1 _ hl) h5 (jn_room hd h4)
  refine jn_after (va_runV (C := y.cls) (b := ρ b) (As := as.map (jv ρ)) (rest := st'.map (jv ρ)) (n := k) ⟨C.1, C.2.1, C.2.2.1, C.2.2.2.1, C.2.2.2.2.1⟩ (hM l A ρ D cy) ⟨hcb, C.2.2.2.2.1 _ hi, C.2.2.2.2.1 _ hse⟩ ⟨jn_blind, va_recv C.2.2.2.2.2.2.2.1 hP hcl ((wAl_get hbn).trans (by rw [jckm_o hkd hq])), fun U hU hW => ⟨rfl, jn_pre C.2.2.2.2.2.2.2.1 C.2.2.2.2.2.2.2.2.1 C.2.2.2.2.2.2.2.2.2.1 hI.1 hP hD hS hU hW⟩⟩ rfl (by rw [List.length_map]; exact hn) hlv.1 (by simp [jv]) (by rw [jv_sum]; show 2 * 0 + _ ≤ 8; omega) hdg ⟨hc, hs⟩) hS (fun ρ1 H1 locs1 hag hin hP1 hD1 hS1 => ?_)
  have := kk p l e s m args below meth c A ρ0 ρ1 D cy H1 locs1 ls C ⟨hin, Nat.le_trans hI.2 hnn⟩ (fun a ha => (hag a (Nat.lt_of_lt_of_le ha hI.2)).trans (hρ a ha)) hP1 hD1 hS1 (by rw [jl_agree hr1 hag]; exact hlv)
  rw [List.map_cons, hvr, jv_agree hr2 hag] at this
  show W _ _ _ _ _ _ _ _ _ _ _ _ _ _ _ (F0 m (pc + 3) ls (jv ρ1 v :: st'.map (jv ρ)))
  rw [hvr]
  exact this
theorem jn_callS (hl : Cond.methodLink M.1 index y ∈ jT) (hL : jLn y M' k) (hst0 : Cond.static y ∈ jT) (hM : JNM y M' d' mc' ms' as w n mk none w1 n1 mk1) (hd : d' + 1 ≤ d) (hst : st = as.reverse ++ st') (hn : as.length = k) (hW : (st'.map fun v => v.category).sum ≤ 8) (hr1 : jrl n (lv.map Prod.snd)) (hr2 : jrl n st') (hnn : n ≤ n1) (hc : nc + mc' ≤ mc) (hs : ns + ms' ≤ ms) (hdg : decode M.2.1 pc = .ok (.invokestatic index, 3)) (kk : JN M d mc ms K w1 n1 mk1 (nc + mc') (ns + ms') (pc + 3) lv st') : JN M d mc ms K w n mk nc ns pc lv st := by
  subst hst
  obtain ⟨h2, h3, h4, h5⟩ := hL
  intro p l e s m args below meth c A ρ0 ρ D cy H locs ls C hI hρ hP hD hS hlv
  have hcb := callB_of (R := jRN d mc ms) (own := M.1) (index := index) (ret := M'.2.2.2) (rm := jRN d' mc' ms') (mc := mc') (ms := ms') k (jn_ts h3 C.2.2.2.2.1) (jT_good h3) rfl rfl rfl (C.2.2.2.2.1 _ h2) (C.2.2.2.2.1 _ hl) h5 (jn_room hd h4)
  refine jn_after (va_runS (As := as.map (jv ρ)) (rest := st'.map (jv ρ)) (n := k) ⟨C.1, C.2.1, C.2.2.1, C.2.2.2.1, C.2.2.2.2.1⟩ (hM l A ρ D cy) ⟨hcb, C.2.2.2.2.1 _ hst0⟩ ⟨jn_blind, fun U hU hW => ⟨rfl, jn_pre C.2.2.2.2.2.2.2.1 C.2.2.2.2.2.2.2.2.1 C.2.2.2.2.2.2.2.2.2.1 hI.1 hP hD hS hU hW⟩⟩ rfl (by rw [List.length_map]; exact hn) hlv.1 (by simp) (by rw [jv_sum]; show 2 * 0 + _ ≤ 8; omega) hdg ⟨hc, hs⟩) hS (fun ρ1 H1 locs1 hag hin hP1 hD1 hS1 => ?_)
  have := kk p l e s m args below meth c A ρ0 ρ1 D cy H1 locs1 ls C ⟨hin, Nat.le_trans hI.2 hnn⟩ (fun a ha => (hag a (Nat.lt_of_lt_of_le ha hI.2)).trans (hρ a ha)) hP1 hD1 hS1 (by rw [jl_agree hr1 hag]; exact hlv)
  rw [jv_agree hr2 hag] at this
  exact this
end JNROWS
