/-! CONSTRUCTORS: the judgement JN. Cells 0 .. n-1 are there, in the order in which they came; mk tells which reference fields hold something already. -/
/-- an object's fields: none: an int; some off: a reference to c + off (off 9999: to the cell 1) -/
def jfT (q : Nat) : List (Option Nat) := match q with
  | 0 => [none, some 1, some 2, some 3, some 4, some 5, some 6]
  | 1 => [none, none, some 1, some 2, some 3, some 4, some 5, some 6]
  | 2 => [some 9999, some 1, some 2, none, none, none]
  | 3 => [none, none, none, none, some 1]
  | 4 => [none, none, none, some 1, some 2, some 3, some 4, some 5, some 6]
  | 5 => [some 1, some 8, none, none, none, none, some 10, some 11, some 12]
  | 6 => [some 1, some 2, some 3]
  | 7 => [some 1, some 8, some 15, some 22, some 29, some 30, some 31, some 38, some 40, some 47, some 54, none, none]
  | 8 => [none, none, none, some 1, some 2, some 3, some 4, some 5, some 6]
  | 9 => [none, some 1, some 2, some 3, some 4, some 5]
  | 10 => [some 1, some 61, some 121, some 181, some 182, some 185, some 189, some 202, none, some 203, some 204]
  | 11 => [none, some 1, some 2, some 3, some 4, some 5, some 6, some 7, some 8, none, none, none, none, none, none, none, none, none, none, none, none, some 9, some 10, none, some 11, none, some 12, some 13, none, none, none, some 14, none, none, some 15, some 16, some 17, some 18]
  | _ => []
def jtg (c off : Nat) : Nat := if off = 9999 then 1 else c + off
def jfm (ρ : Nat → Nat) (w : jWd) (c : Nat) (mk : Nat → Nat → Bool) (k : Nat) (f : Option Nat) : Value := match f with
  | none => .int (wI w c k)
  | some off => if mk c k = true then .ref (ρ (jtg c off)) else .null
def jflm (ρ : Nat → Nat) (w : jWd) (c : Nat) (mk : Nat → Nat → Bool) (q : Nat) : List Value := (jfT q).mapIdx (jfm ρ w c mk)
def jckm (ρ : Nat → Nat) (cy : Nat → ClassId) (w : jWd) (mk : Nat → Nat → Bool) (c : Nat) : va_E :=
  if kd c < 12 then .inr (kd c, jflm ρ w c mk (kd c)) else if kd c = 14 then .inl (cy 2, ln c, .inr (.inl (wJ w c))) else .inl (cy (kd c - 12), ln c, .inl (wI w c))
def wAl (ρ : Nat → Nat) (cy : Nat → ClassId) (w : jWd) (n : Nat) (mk : Nat → Nat → Bool) : va_W := (List.range n).map (fun c => (ρ c, jckm ρ cy w mk c))
theorem wAl_get {ρ : Nat → Nat} {cy : Nat → ClassId} {w : jWd} {n : Nat} {mk : Nat → Nat → Bool} {c : Nat} (h : c < n) : (wAl ρ cy w n mk)[c]? = some (ρ c, jckm ρ cy w mk c) := by
  simp [wAl, h]
theorem wAl_len {ρ : Nat → Nat} {cy : Nat → ClassId} {w : jWd} {n : Nat} {mk : Nat → Nat → Bool} : (wAl ρ cy w n mk).length = n := by simp [wAl]
/-- what holds of the world while cells come: beyond n all is 0; what a field holds is there -/
def jIn (w : jWd) (n : Nat) (mk : Nat → Nat → Bool) : Prop := (∀ a, n ≤ a → ∀ k, wI w a k = 0 ∧ wJ w a k = 0 ∧ mk a k = false) ∧ ∀ c, c < n → ∀ k off, (jfT (kd c))[k]? = some (some off) → mk c k = true → jtg c off < n
theorem jfm_agree {ρ ρ' : Nat → Nat} {w : jWd} {c n : Nat} {mk : Nat → Nat → Bool} (hc : c < n) (hI : ∀ k off, (jfT (kd c))[k]? = some (some off) → mk c k = true → jtg c off < n) (hr : ∀ a, a < n → ρ' a = ρ a) : jflm ρ' w c mk (kd c) = jflm ρ w c mk (kd c) := by
  unfold jflm
  apply List.ext_getElem?
  intro k
  rw [List.getElem?_mapIdx, List.getElem?_mapIdx]
  cases hf : (jfT (kd c))[k]? with
  | none => rfl
  | some f =>
    cases f with
    | none => rfl
    | some off =>
      simp only [Option.map_some, jfm]
      by_cases hm : mk c k = true
      · rw [if_pos hm, if_pos hm, hr _ (hI k off hf hm)]
      · rw [if_neg hm, if_neg hm]
theorem wAl_agree {ρ ρ' : Nat → Nat} {cy : Nat → ClassId} {w : jWd} {n : Nat} {mk : Nat → Nat → Bool} (hI : jIn w n mk) (hr : ∀ a, a < n → ρ' a = ρ a) : wAl ρ' cy w n mk = wAl ρ cy w n mk := by
  unfold wAl
  apply List.map_congr_left
  intro c hc
  have hc : c < n := List.mem_range.mp hc
  rw [hr c hc]
  unfold jckm
  rw [jfm_agree hc (hI.2 c hc) hr]
/-- where an outcome lies: its world, its cells, its fields; and how many cells there were at the method's entry -/
abbrev jKN : Type := Option Value × jWd × Nat × (Nat → Nat → Bool) × Nat × String
def jRN (d mc ms : Nat) : Room := { frames := d, cells := mc, slots := ms, locals := 80 * d }
def jNw : List (String × Nat × MethodName × String) := [("NobodysBard", 44, yX6_init, "NobodysBard"), ("NobodysBard$Reader", 11, yX1_init, "NobodysBard"), ("NobodysBard$Reader", 20, yX3_init, "NobodysBard"), ("NobodysBard$State", 39, yX1_init, "NobodysBard"), ("NobodysBard$State", 46, yX3_init, "NobodysBard"), ("NobodysBard$State", 53, yX0_init, "NobodysBard"), ("NobodysBard$State", 60, yX9_init, "NobodysBard"), ("NobodysBard$State", 67, yX10_init, "NobodysBard")]
def jNo (U : State) : Prop := ∀ q ∈ jNw, va_Nw (.methodLinkNest q.1 q.2.1 q.2.2.1 q.2.2.2) U
def jWN (A : Nat → Prop) (ρ : Nat → Nat) (D : va_G) (cy : Nat → ClassId) (w : jWd) (n : Nat) (mk : Nat → Nat → Bool) (U : State) : Prop :=
  va_P D jcl (wAl ρ cy w n mk) U.heap ∧ va_K D jcl (jty cy) U ∧ va_D A (wAl ρ cy w n mk) ∧ (∀ q, U.heap.size ≤ q → A q) ∧ jNo U ∧ jIn w n mk
def jQN (A : Nat → Prop) (ρ0 : Nat → Nat) (D : va_G) (cy : Nat → ClassId) (K : jKN) : Array Value → State → Outcome → State → Prop :=
  fun _ st oc t => (∃ ρ : Nat → Nat, (∀ a, a < K.2.2.2.2.1 → ρ a = ρ0 a) ∧ oc = .returned (K.1.map (jv ρ)) ∧ va_P D jcl (wAl ρ cy K.2.1 K.2.2.1 K.2.2.2.1) t.heap ∧ va_D A (wAl ρ cy K.2.1 K.2.2.1 K.2.2.2.1) ∧ jIn K.2.1 K.2.2.1 K.2.2.2.1) ∧ va_F A st t
def jCN (nm : String) (M : jMM) (A : Nat → Prop) (D : va_G) (cy : Nat → ClassId) (p : Program) (s : State) (m : MethodId) (args : Array Value) (meth : Method) (c : Code) : Prop :=
  p.tables.exec = Jvm.exec ∧ c.code = M.2.1 ∧ c.maxLocals = M.2.2.1 ∧ s.vm.findClass M.1 = some m.cls ∧ (∀ x ∈ jT, x.before args s = true) ∧ meth.sig.returnType = M.2.2.2 ∧ meth.locks = false ∧ va_K D jcl (jty cy) s ∧ (∀ q, s.heap.size ≤ q → A q) ∧ jNo s ∧ meth.name = nm
def jrl (n : Nat) (st : List Value) : Prop := ∀ a, Value.ref a ∈ st → a < n
def JN (M : jMM) (d mc ms : Nat) (K : jKN) (w : jWd) (n : Nat) (mk : Nat → Nat → Bool) (nc ns : Nat) (pc : Nat) (lv : List (Nat × Value)) (st : List Value) : Prop :=
  ∀ (p : Program) (l : Launch) (e : Env) (s : State) (m : MethodId) (args : Array Value) (below : List Frame) (meth : Method) (c : Code) (A : Nat → Prop) (ρ0 ρ : Nat → Nat) (D : va_G) (cy : Nat → ClassId) (H : Heap) (locs : List Loc) (ls : Array Slot),
    jCN K.2.2.2.2.2 M A D cy p s m args meth c → (jIn w n mk ∧ K.2.2.2.2.1 ≤ n) → (∀ a, a < K.2.2.2.2.1 → ρ a = ρ0 a) → va_P D jcl (wAl ρ cy w n mk) H → va_D A (wAl ρ cy w n mk) → va_S A s.heap H locs → lv_has ls M.2.2.1 (jl ρ lv) →
    W p l e (jRN d mc ms) s m args below meth c H locs nc ns (MQ below (jQN A ρ0 D cy K) args s mc ms A) (F0 m pc ls (st.map (jv ρ)))
def JNM (y : MethodName) (M : jMM) (d mc ms : Nat) (as : List Value) (w : jWd) (n : Nat) (mk : Nat → Nat → Bool) (o : Option Value) (w' : jWd) (n' : Nat) (mk' : Nat → Nat → Bool) : Prop :=
  ∀ (l : Launch) (A : Nat → Prop) (ρ : Nat → Nat) (D : va_G) (cy : Nat → ClassId), Met l y (Cond.code y M.2.1 M.2.2.1 M.2.2.2 :: jT) (jRN d mc ms) (va_Pc (as.map (jv ρ)) (jWN A ρ D cy w n mk)) (jQN A ρ D cy (o, w', n', mk', n, y.name)) mc ms A
set_option maxHeartbeats 1000000 in
theorem jnm_of {y : MethodName} {M : jMM} {d mc ms : Nat} {as : List Value} {w w' : jWd} {n n' : Nat} {mk mk' : Nat → Nat → Bool} {o : Option Value} (hpl : plainName y.cls = true) (hown : y.cls = M.1) (hlen : (lg_sl as).length ≤ M.2.2.1) (h : JN M d mc ms (o, w', n', mk', n, y.name) w n mk 0 0 0 (lv_args 0 as) []) : JNM y M d mc ms as w n mk o w' n' mk' := by
  intro l A ρ D cy
  refine Met.ofW (cc := M.2.1) (maxL := M.2.2.1) (ret := M.2.2.2) hpl rfl ?_
  intro p e s m args below meth c s₁ B hml hv
  obtain ⟨rfl, hP, hK, hD, hA, hN, hI⟩ := hv
  have hts : ∀ x ∈ (Cond.code y M.2.1 M.2.2.1 M.2.2.2 :: jT), x.before (as.map (jv ρ)).toArray s = true := atoms_spec (ws := Cond.code y M.2.1 M.2.2.1 M.2.2.2 :: jT) B.pre
  have hl := lv_entry (as.map (jv ρ)) (n := M.2.2.1) (by rw [jl_lgs]; exact hlen)
  rw [lg_entry_eq]
  rw [jl_args] at hl
  exact h p l e s m (as.map (jv ρ)).toArray below meth c A ρ ρ D cy s.heap [] _ ⟨B.exec, B.bytes, hml, by rw [← hown]; exact findClass_of_methodNamed B.named, fun x hx => hts x (List.mem_cons_of_mem _ hx), B.returns, B.notSynchronized, hK, hA, hN, ((name_of_methodNamed B.named B.method).1)⟩ ⟨hI, Nat.le_refl _⟩ (fun _ _ => rfl) hP hD va_S.rf hl
theorem jn_iconst {M : jMM} {d mc ms : Nat} {K : jKN} {w : jWd} {n : Nat} {mk : Nat → Nat → Bool} {nc ns : Nat} {pc : Nat} {lv : List (Nat × Value)} {st : List Value} {i : Int} {v : Int32} 
    (hdg : decode M.2.1 pc = .ok (.iconst i, 1)) (hv : Int32.ofInt i = v) (kk : JN M d mc ms K w n mk nc ns (pc + 1) lv (.int v :: st)) : JN M d mc ms K w n mk nc ns pc lv (st) := by
  intro p l e s m args below meth c A ρ0 ρ D cy H locs ls C hI hρ hP hD hS hl
  exact lv_iconst C.1 C.2.1 hdg hv (kk p l e s m args below meth c A ρ0 ρ D cy H locs ls C hI hρ hP hD hS hl)
theorem jn_bipush {M : jMM} {d mc ms : Nat} {K : jKN} {w : jWd} {n : Nat} {mk : Nat → Nat → Bool} {nc ns : Nat} {pc : Nat} {lv : List (Nat × Value)} {st : List Value} {i : Int} {v : Int32} 
    (hdg : decode M.2.1 pc = .ok (.bipush i, 2)) (hv : (Int8.ofInt i).toInt32 = v) (kk : JN M d mc ms K w n mk nc ns (pc + 2) lv (.int v :: st)) : JN M d mc ms K w n mk nc ns pc lv (st) := by
  intro p l e s m args below meth c A ρ0 ρ D cy H locs ls C hI hρ hP hD hS hl
  exact lv_bipush C.1 C.2.1 hdg hv (kk p l e s m args below meth c A ρ0 ρ D cy H locs ls C hI hρ hP hD hS hl)
theorem jn_sipush {M : jMM} {d mc ms : Nat} {K : jKN} {w : jWd} {n : Nat} {mk : Nat → Nat → Bool} {nc ns : Nat} {pc : Nat} {lv : List (Nat × Value)} {st : List Value} {i : Int} {v : Int32} 
    (hdg : decode M.2.1 pc = .ok (.sipush i, 3)) (hv : (Int16.ofInt i).toInt32 = v) (kk : JN M d mc ms K w n mk nc ns (pc + 3) lv (.int v :: st)) : JN M d mc ms K w n mk nc ns pc lv (st) := by
  intro p l e s m args below meth c A ρ0 ρ D cy H locs ls C hI hρ hP hD hS hl
  exact lv_sipush C.1 C.2.1 hdg hv (kk p l e s m args below meth c A ρ0 ρ D cy H locs ls C hI hρ hP hD hS hl)
theorem jn_iload_n {M : jMM} {d mc ms : Nat} {K : jKN} {w : jWd} {n : Nat} {mk : Nat → Nat → Bool} {nc ns : Nat} {pc : Nat} {lv : List (Nat × Value)} {st : List Value} {k : Fin 4} {i : Nat} {x : Int32} 
    (hdg : decode M.2.1 pc = .ok (.iload_n k, 1)) (hi : (k : Nat) = i) (q : Nat) (hq : lv[q]? = some (i, .int x)) (kk : JN M d mc ms K w n mk nc ns (pc + 1) lv (.int x :: st)) : JN M d mc ms K w n mk nc ns pc lv (st) := by
  intro p l e s m args below meth c A ρ0 ρ D cy H locs ls C hI hρ hP hD hS hl
  exact lv_iload_n C.1 C.2.1 hdg hi (jl_at hl q hq) (kk p l e s m args below meth c A ρ0 ρ D cy H locs ls C hI hρ hP hD hS hl)
theorem jn_aload_n {M : jMM} {d mc ms : Nat} {K : jKN} {w : jWd} {n : Nat} {mk : Nat → Nat → Bool} {nc ns : Nat} {pc : Nat} {lv : List (Nat × Value)} {st : List Value} {k : Fin 4} {i : Nat} {x : Nat} 
    (hdg : decode M.2.1 pc = .ok (.aload_n k, 1)) (hi : (k : Nat) = i) (q : Nat) (hq : lv[q]? = some (i, .ref x)) (kk : JN M d mc ms K w n mk nc ns (pc + 1) lv (.ref x :: st)) : JN M d mc ms K w n mk nc ns pc lv (st) := by
  intro p l e s m args below meth c A ρ0 ρ D cy H locs ls C hI hρ hP hD hS hl
  exact lv_aload_n C.1 C.2.1 hdg hi (jl_at hl q hq) (kk p l e s m args below meth c A ρ0 ρ D cy H locs ls C hI hρ hP hD hS hl)
theorem jn_istore_n {M : jMM} {d mc ms : Nat} {K : jKN} {w : jWd} {n : Nat} {mk : Nat → Nat → Bool} {nc ns : Nat} {pc : Nat} {lv : List (Nat × Value)} {st : List Value} {k : Fin 4} {i : Nat} {x : Int32} {lv' : List (Nat × Value)} 
    (hdg : decode M.2.1 pc = .ok (.istore_n k, 1)) (hi : (k : Nat) = i) (hn : i < M.2.2.1) (hq : js1 lv i (.int x) = lv') (kk : JN M d mc ms K w n mk nc ns (pc + 1) lv' st) : JN M d mc ms K w n mk nc ns pc lv (.int x :: st) := by
  intro p l e s m args below meth c A ρ0 ρ D cy H locs ls C hI hρ hP hD hS hl
  exact lv_istore_n (lv' := jl ρ lv') C.1 C.2.1 hdg hi hl hn (by rw [← hq]; exact jl_s1 ρ lv i (.int x)) (fun ls' hl' => kk p l e s m args below meth c A ρ0 ρ D cy H locs ls' C hI hρ hP hD hS hl')
theorem jn_astore_n {M : jMM} {d mc ms : Nat} {K : jKN} {w : jWd} {n : Nat} {mk : Nat → Nat → Bool} {nc ns : Nat} {pc : Nat} {lv : List (Nat × Value)} {st : List Value} {k : Fin 4} {i : Nat} {x : Nat} {lv' : List (Nat × Value)} 
    (hdg : decode M.2.1 pc = .ok (.astore_n k, 1)) (hi : (k : Nat) = i) (hn : i < M.2.2.1) (hq : js1 lv i (.ref x) = lv') (kk : JN M d mc ms K w n mk nc ns (pc + 1) lv' st) : JN M d mc ms K w n mk nc ns pc lv (.ref x :: st) := by
  intro p l e s m args below meth c A ρ0 ρ D cy H locs ls C hI hρ hP hD hS hl
  exact lv_astore_n (lv' := jl ρ lv') C.1 C.2.1 hdg hi hl hn (by rw [← hq]; exact jl_s1 ρ lv i (.ref x)) (fun ls' hl' => kk p l e s m args below meth c A ρ0 ρ D cy H locs ls' C hI hρ hP hD hS hl')
theorem jn_iinc {M : jMM} {d mc ms : Nat} {K : jKN} {w : jWd} {n : Nat} {mk : Nat → Nat → Bool} {nc ns : Nat} {pc : Nat} {lv : List (Nat × Value)} {st : List Value} {i : Nat} {a : Int} {x v : Int32} {lv' : List (Nat × Value)} 
    (hdg : decode M.2.1 pc = .ok (.iinc i a, 3)) (q : Nat) (hq : lv[q]? = some (i, .int x)) (hv : x + Int32.ofInt a = v) (hn : i < M.2.2.1) (hs : js1 lv i (.int v) = lv') (kk : JN M d mc ms K w n mk nc ns (pc + 3) lv' st) : JN M d mc ms K w n mk nc ns pc lv (st) := by
  intro p l e s m args below meth c A ρ0 ρ D cy H locs ls C hI hρ hP hD hS hl
  exact lv_iinc (lv' := jl ρ lv') (k := q) (x := x) C.1 C.2.1 hdg hl (by simp [jl, hq, jv]) hv hn (by rw [← hs]; exact jl_s1 ρ lv i (.int v)) (fun ls' hl' => kk p l e s m args below meth c A ρ0 ρ D cy H locs ls' C hI hρ hP hD hS hl')
theorem jn_dup {M : jMM} {d mc ms : Nat} {K : jKN} {w : jWd} {n : Nat} {mk : Nat → Nat → Bool} {nc ns : Nat} {pc : Nat} {lv : List (Nat × Value)} {st : List Value} {v : Value} 
    (hdg : decode M.2.1 pc = .ok (.dup, 1)) (hv : v.category = 1) (kk : JN M d mc ms K w n mk nc ns (pc + 1) lv (v :: v :: st)) : JN M d mc ms K w n mk nc ns pc lv (v :: st) := by
  intro p l e s m args below meth c A ρ0 ρ D cy H locs ls C hI hρ hP hD hS hl
  exact lv_dup C.1 C.2.1 hdg ((jv_cat ρ v).trans hv) (kk p l e s m args below meth c A ρ0 ρ D cy H locs ls C hI hρ hP hD hS hl)
theorem jn_pop {M : jMM} {d mc ms : Nat} {K : jKN} {w : jWd} {n : Nat} {mk : Nat → Nat → Bool} {nc ns : Nat} {pc : Nat} {lv : List (Nat × Value)} {st : List Value} {v : Value} 
    (hdg : decode M.2.1 pc = .ok (.pop, 1)) (hv : v.category = 1) (kk : JN M d mc ms K w n mk nc ns (pc + 1) lv (st)) : JN M d mc ms K w n mk nc ns pc lv (v :: st) := by
  intro p l e s m args below meth c A ρ0 ρ D cy H locs ls C hI hρ hP hD hS hl
  exact lv_pop C.1 C.2.1 hdg ((jv_cat ρ v).trans hv) (kk p l e s m args below meth c A ρ0 ρ D cy H locs ls C hI hρ hP hD hS hl)
theorem jn_dup_x1 {M : jMM} {d mc ms : Nat} {K : jKN} {w : jWd} {n : Nat} {mk : Nat → Nat → Bool} {nc ns : Nat} {pc : Nat} {lv : List (Nat × Value)} {st : List Value} {v u : Value} 
    (hdg : decode M.2.1 pc = .ok (.dup_x1, 1)) (hv : v.category = 1) (hu : u.category = 1) (kk : JN M d mc ms K w n mk nc ns (pc + 1) lv (v :: u :: v :: st)) : JN M d mc ms K w n mk nc ns pc lv (v :: u :: st) := by
  intro p l e s m args below meth c A ρ0 ρ D cy H locs ls C hI hρ hP hD hS hl
  exact lv_dup_x1 C.1 C.2.1 hdg ((jv_cat ρ v).trans hv) ((jv_cat ρ u).trans hu) (kk p l e s m args below meth c A ρ0 ρ D cy H locs ls C hI hρ hP hD hS hl)
theorem jn_iadd {M : jMM} {d mc ms : Nat} {K : jKN} {w : jWd} {n : Nat} {mk : Nat → Nat → Bool} {nc ns : Nat} {pc : Nat} {lv : List (Nat × Value)} {st : List Value} {x y : Int32} 
    (hdg : decode M.2.1 pc = .ok (.iadd, 1)) (kk : JN M d mc ms K w n mk nc ns (pc + 1) lv (.int (x + y) :: st)) : JN M d mc ms K w n mk nc ns pc lv (.int y :: .int x :: st) := by
  intro p l e s m args below meth c A ρ0 ρ D cy H locs ls C hI hρ hP hD hS hl
  exact lv_iadd C.1 C.2.1 hdg (kk p l e s m args below meth c A ρ0 ρ D cy H locs ls C hI hρ hP hD hS hl)
theorem jn_imul {M : jMM} {d mc ms : Nat} {K : jKN} {w : jWd} {n : Nat} {mk : Nat → Nat → Bool} {nc ns : Nat} {pc : Nat} {lv : List (Nat × Value)} {st : List Value} {x y : Int32} 
    (hdg : decode M.2.1 pc = .ok (.imul, 1)) (kk : JN M d mc ms K w n mk nc ns (pc + 1) lv (.int (x * y) :: st)) : JN M d mc ms K w n mk nc ns pc lv (.int y :: .int x :: st) := by
  intro p l e s m args below meth c A ρ0 ρ D cy H locs ls C hI hρ hP hD hS hl
  exact lv_imul C.1 C.2.1 hdg (kk p l e s m args below meth c A ρ0 ρ D cy H locs ls C hI hρ hP hD hS hl)
theorem jn_icmp_ge {M : jMM} {d mc ms : Nat} {K : jKN} {w : jWd} {n : Nat} {mk : Nat → Nat → Bool} {nc ns : Nat} {pc : Nat} {lv : List (Nat × Value)} {st : List Value} {off : Int} {tgt nxt : Nat} {x y : Int32} 
    (hdg : decode M.2.1 pc = .ok (.if_icmp .ge off, 3)) (ht : (pc : Int) + off = (tgt : Int)) (hn : pc + 3 = nxt) (kt : y ≤ x → JN M d mc ms K w n mk nc ns tgt lv st) (kf : ¬ y ≤ x → JN M d mc ms K w n mk nc ns nxt lv st) : JN M d mc ms K w n mk nc ns pc lv (.int y :: .int x :: st) := by
  subst hn
  intro p l e s m args below meth c A ρ0 ρ D cy H locs ls C hI hρ hP hD hS hl
  exact lv_icmp_ge C.1 C.2.1 hdg ht (fun h => kt h p l e s m args below meth c A ρ0 ρ D cy H locs ls C hI hρ hP hD hS hl) (fun h => kf h p l e s m args below meth c A ρ0 ρ D cy H locs ls C hI hρ hP hD hS hl)
theorem jn_icmp_lt {M : jMM} {d mc ms : Nat} {K : jKN} {w : jWd} {n : Nat} {mk : Nat → Nat → Bool} {nc ns : Nat} {pc : Nat} {lv : List (Nat × Value)} {st : List Value} {off : Int} {tgt nxt : Nat} {x y : Int32} 
    (hdg : decode M.2.1 pc = .ok (.if_icmp .lt off, 3)) (ht : (pc : Int) + off = (tgt : Int)) (hn : pc + 3 = nxt) (kt : x < y → JN M d mc ms K w n mk nc ns tgt lv st) (kf : ¬ x < y → JN M d mc ms K w n mk nc ns nxt lv st) : JN M d mc ms K w n mk nc ns pc lv (.int y :: .int x :: st) := by
  subst hn
  intro p l e s m args below meth c A ρ0 ρ D cy H locs ls C hI hρ hP hD hS hl
  exact lv_icmp_lt C.1 C.2.1 hdg ht (fun h => kt h p l e s m args below meth c A ρ0 ρ D cy H locs ls C hI hρ hP hD hS hl) (fun h => kf h p l e s m args below meth c A ρ0 ρ D cy H locs ls C hI hρ hP hD hS hl)
theorem jn_if_eq {M : jMM} {d mc ms : Nat} {K : jKN} {w : jWd} {n : Nat} {mk : Nat → Nat → Bool} {nc ns : Nat} {pc : Nat} {lv : List (Nat × Value)} {st : List Value} {off : Int} {tgt nxt : Nat} {x : Int32} 
    (hdg : decode M.2.1 pc = .ok (.ifCond .eq off, 3)) (ht : (pc : Int) + off = (tgt : Int)) (hn : pc + 3 = nxt) (kt : x = 0 → JN M d mc ms K w n mk nc ns tgt lv st) (kf : ¬ x = 0 → JN M d mc ms K w n mk nc ns nxt lv st) : JN M d mc ms K w n mk nc ns pc lv (.int x :: st) := by
  subst hn
  intro p l e s m args below meth c A ρ0 ρ D cy H locs ls C hI hρ hP hD hS hl
  exact lv_if_eq C.1 C.2.1 hdg ht (fun h => kt h p l e s m args below meth c A ρ0 ρ D cy H locs ls C hI hρ hP hD hS hl) (fun h => kf h p l e s m args below meth c A ρ0 ρ D cy H locs ls C hI hρ hP hD hS hl)
theorem jn_if_ne {M : jMM} {d mc ms : Nat} {K : jKN} {w : jWd} {n : Nat} {mk : Nat → Nat → Bool} {nc ns : Nat} {pc : Nat} {lv : List (Nat × Value)} {st : List Value} {off : Int} {tgt nxt : Nat} {x : Int32} 
    (hdg : decode M.2.1 pc = .ok (.ifCond .ne off, 3)) (ht : (pc : Int) + off = (tgt : Int)) (hn : pc + 3 = nxt) (kt : ¬ x = 0 → JN M d mc ms K w n mk nc ns tgt lv st) (kf : x = 0 → JN M d mc ms K w n mk nc ns nxt lv st) : JN M d mc ms K w n mk nc ns pc lv (.int x :: st) := by
  subst hn
  intro p l e s m args below meth c A ρ0 ρ D cy H locs ls C hI hρ hP hD hS hl
  exact lv_if_ne C.1 C.2.1 hdg ht (fun h => kt h p l e s m args below meth c A ρ0 ρ D cy H locs ls C hI hρ hP hD hS hl) (fun h => kf h p l e s m args below meth c A ρ0 ρ D cy H locs ls C hI hρ hP hD hS hl)
theorem jn_goto {M : jMM} {d mc ms : Nat} {K : jKN} {w : jWd} {n : Nat} {mk : Nat → Nat → Bool} {nc ns : Nat} {pc : Nat} {lv : List (Nat × Value)} {st : List Value} {off : Int} {tgt : Nat} 
    (hdg : decode M.2.1 pc = .ok (.goto off, 3)) (ht : (pc : Int) + off = (tgt : Int)) (kk : JN M d mc ms K w n mk nc ns tgt lv st) : JN M d mc ms K w n mk nc ns pc lv st := by
  intro p l e s m args below meth c A ρ0 ρ D cy H locs ls C hI hρ hP hD hS hl
  exact lv_goto C.1 C.2.1 hdg ht (kk p l e s m args below meth c A ρ0 ρ D cy H locs ls C hI hρ hP hD hS hl)
theorem jn_zret {M : jMM} {d mc ms : Nat} {w : jWd} {n n0 : Nat} {nm : String} {mk : Nat → Nat → Bool} {pc : Nat} {lv : List (Nat × Value)} {v : Int32} {ty : FieldType} (hr : M.2.2.2 = some ty) (hn : narrow ty (.int v) = .int v) (hdg : decode M.2.1 pc = .ok (.ireturn, 1)) : JN M d mc ms (some (.int v), w, n, mk, n0, nm) w n mk mc ms pc lv [.int v] := by
  intro p l e s m args below meth c A ρ0 ρ D cy H locs ls C hI hρ hP hD hS hl
  exact W.zret C.1 C.2.1 (C.2.2.2.2.2.1.trans hr) hn (fun t ht hW => ⟨⟨ρ, hρ, rfl, by rw [ht]; exact hP, hD, hI.1⟩, hS.F ht⟩) hS.2.2 hdg C.2.2.2.2.2.2.1

theorem jn_vret {M : jMM} {d mc ms : Nat} {w : jWd} {n n0 : Nat} {nm : String} {mk : Nat → Nat → Bool} {pc : Nat} {lv : List (Nat × Value)} (hr : M.2.2.2 = none) (hdg : decode M.2.1 pc = .ok (.return_, 1)) : JN M d mc ms (none, w, n, mk, n0, nm) w n mk mc ms pc lv [] := by
  intro p l e s m args below meth c A ρ0 ρ D cy H locs ls C hI hρ hP hD hS hl
  exact W.vret C.1 C.2.1 (C.2.2.2.2.2.1.trans hr) (fun t ht hW => ⟨⟨ρ, hρ, rfl, by rw [ht]; exact hP, hD, hI.1⟩, hS.F ht⟩) hS.2.2 hdg C.2.2.2.2.2.2.1
theorem jn_iret {M : jMM} {d mc ms : Nat} {w : jWd} {n n0 : Nat} {nm : String} {mk : Nat → Nat → Bool} {pc : Nat} {lv : List (Nat × Value)} {v : Int32} (hr : M.2.2.2 = some .int) (hdg : decode M.2.1 pc = .ok (.ireturn, 1)) : JN M d mc ms (some (.int v), w, n, mk, n0, nm) w n mk mc ms pc lv [.int v] := by
  intro p l e s m args below meth c A ρ0 ρ D cy H locs ls C hI hρ hP hD hS hl
  exact W.iret C.1 C.2.1 (C.2.2.2.2.2.1.trans hr) (fun t ht hW => ⟨⟨ρ, hρ, rfl, by rw [ht]; exact hP, hD, hI.1⟩, hS.F ht⟩) hS.2.2 hdg C.2.2.2.2.2.2.1

