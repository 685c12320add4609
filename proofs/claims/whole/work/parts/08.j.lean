/-! THE JUDGEMENT: from a world, a pc, locals and a stack (all logical) a method of either system comes to an answer and a world. What the machine needs (tables, cells, frame) is inside. -/
theorem wI_sI (w : jWd) (c k : Nat) (v : Int32) (a b : Nat) : wI (sI w c k v) a b = if a = c ∧ b = k then v else wI w a b := rfl
theorem wJ_sJ (w : jWd) (c k : Nat) (v : Int64) (a b : Nat) : wJ (sJ w c k v) a b = if a = c ∧ b = k then v else wJ w a b := rfl
theorem wI_sJ (w : jWd) (c k : Nat) (v : Int64) (a b : Nat) : wI (sJ w c k v) a b = wI w a b := rfl
theorem wJ_sI (w : jWd) (c k : Nat) (v : Int32) (a b : Nat) : wJ (sI w c k v) a b = wJ w a b := rfl
/-- a cell -/
def jck (ρ : Nat → Nat) (cy : Nat → ClassId) (w : jWd) (c : Nat) : va_E :=
  if kd c < 12 then .inr (kd c, jfl ρ w c (kd c)) else if kd c = 14 then .inl (cy 2, ln c, .inr (.inl (wJ w c))) else .inl (cy (kd c - 12), ln c, .inl (wI w c))
def jty (cy : Nat → ClassId) : List (ClassId × FieldType) := [(cy 0, .byte), (cy 1, .int), (cy 2, .long), (cy 3, .boolean)]
def wAt (ρ : Nat → Nat) (cy : Nat → ClassId) (w : jWd) : va_W := (List.range jNC).map (fun c => (ρ c, jck ρ cy w c))
theorem wAt_get {ρ : Nat → Nat} {cy : Nat → ClassId} {w : jWd} {c : Nat} (h : c < jNC) : (wAt ρ cy w)[c]? = some (ρ c, jck ρ cy w c) := by
  simp [wAt, h]
theorem jfl_congr {ρ : Nat → Nat} {w w' : jWd} {c : Nat} (h : ∀ k, wI w c k = wI w' c k) (q : Nat) : jfl ρ w c q = jfl ρ w' c q := by
  simp only [jfl, h]
theorem jck_congr {ρ : Nat → Nat} {cy : Nat → ClassId} {w w' : jWd} {c : Nat} (h : ∀ k, wI w c k = wI w' c k) (hj : ∀ k, wJ w c k = wJ w' c k) : jck ρ cy w c = jck ρ cy w' c := by
  have e1 : wI w c = wI w' c := funext h
  have e2 : wJ w c = wJ w' c := funext hj
  simp only [jck, e1, e2, jfl_congr h]
theorem wAt_set {ρ : Nat → Nat} {cy : Nat → ClassId} {w w' : jWd} {c : Nat} {x : va_E} (h : c < jNC) (hI : ∀ a, a ≠ c → ∀ k, wI w a k = wI w' a k) (hJ : ∀ a, a ≠ c → ∀ k, wJ w a k = wJ w' a k) (e : jck ρ cy w' c = x) : (wAt ρ cy w).set c (ρ c, x) = wAt ρ cy w' := by
  apply List.ext_getElem?
  intro i
  rw [List.getElem?_set]
  by_cases hi : c = i
  · subst hi
    rw [if_pos rfl, if_pos (by simpa [wAt] using h), wAt_get (w := w') h, e]
  · rw [if_neg hi]
    simp only [wAt, List.getElem?_map]
    by_cases hn : i < jNC
    · rw [List.getElem?_range hn]
      simp only [Option.map_some]
      rw [jck_congr (hI i (fun q => hi q.symm)) (hJ i (fun q => hi q.symm))]
    · rw [List.getElem?_eq_none (by simpa using hn)]
      rfl
theorem kd_lt {c q : Nat} (h : kd c = q) (hq : q < 99) : c < jNC := by
  apply Decidable.byContradiction
  intro hn
  have : kd c = 99 := by
    unfold kd
    rw [List.getD_eq_getElem?_getD, List.getElem?_eq_none (by show 224 ≤ c; exact Nat.le_of_not_lt hn)]
    rfl
  omega
/-- the tables' words that a callee may be paid with -/
def jT : List Cond := lw_tbl.filter goodWord
theorem jT_in {w : Cond} {i : Nat} (h : lw_tbl[i]? = some w) (hg : goodWord w = true) : w ∈ jT := List.mem_filter.mpr ⟨List.mem_of_getElem? h, hg⟩
theorem jT_good {x : Cond} (hx : x ∈ jT) : GoodIn (x :: jT) (x :: jT) := by
  intro w hw
  have hw' : w ∈ jT := (List.mem_cons.mp hw).elim (fun e => e ▸ hx) id
  exact ⟨hw, good_of_word (List.mem_filter.mp hw').2⟩
/-- logical values to the machine's -/
def jv (ρ : Nat → Nat) (v : Value) : Value := match v with
  | .ref a => .ref (ρ a)
  | v => v
theorem jv_cat (ρ : Nat → Nat) (v : Value) : (jv ρ v).category = v.category := by cases v <;> rfl
def jl (ρ : Nat → Nat) (lv : List (Nat × Value)) : List (Nat × Value) := lv.map (fun q => (q.1, jv ρ q.2))
theorem jl_at {ρ : Nat → Nat} {lv : List (Nat × Value)} {ls : Array Slot} {n : Nat} (h : lv_has ls n (jl ρ lv)) (k : Nat) {i : Nat} {v : Value} (hk : lv[k]? = some (i, v)) : ls[i]? = some (.val (jv ρ v)) :=
  lv_at h k (by simp [jl, hk])
theorem jl_filter (ρ : Nat → Nat) (lv : List (Nat × Value)) (f : Nat → Bool) (g : Nat → Bool) : (jl ρ lv).filter (fun q => f q.1 && !(g q.1 && q.2.category == 2)) = jl ρ (lv.filter (fun q => f q.1 && !(g q.1 && q.2.category == 2))) := by
  induction lv with
  | nil => rfl
  | cons a l ih =>
    have e : jl ρ (a :: l) = (a.1, jv ρ a.2) :: jl ρ l := rfl
    rw [e, List.filter_cons, List.filter_cons]
    simp only [jv_cat]
    split
    · rw [ih]; rfl
    · exact ih
/-- storing one slot, storing two -/
def js1 (lv : List (Nat × Value)) (i : Nat) (v : Value) : List (Nat × Value) := (i, v) :: lv.filter (fun q => !(q.1 == i) && !(q.1 + 1 == i && q.2.category == 2))
def js2 (lv : List (Nat × Value)) (i : Nat) (v : Value) : List (Nat × Value) := (i, v) :: lv.filter (fun q => (!(q.1 == i) && !(q.1 == i + 1)) && !(q.1 + 1 == i && q.2.category == 2))
theorem jl_s1 (ρ : Nat → Nat) (lv : List (Nat × Value)) (i : Nat) (v : Value) : (i, jv ρ v) :: (jl ρ lv).filter (fun q => !(q.1 == i) && !(q.1 + 1 == i && q.2.category == 2)) = jl ρ (js1 lv i v) := by
  rw [jl_filter ρ lv (fun n => !(n == i)) (fun n => n + 1 == i)]; rfl
theorem jl_s2 (ρ : Nat → Nat) (lv : List (Nat × Value)) (i : Nat) (v : Value) : (i, jv ρ v) :: (jl ρ lv).filter (fun q => !(q.1 == i) && (!(q.1 == i + 1) && !(q.1 + 1 == i && q.2.category == 2))) = jl ρ (js2 lv i v) := by
  simp only [← Bool.and_assoc]
  rw [jl_filter ρ lv (fun n => !(n == i) && !(n == i + 1)) (fun n => n + 1 == i)]; rfl
theorem jl_args (ρ : Nat → Nat) (as : List Value) : ∀ i, lv_args i (as.map (jv ρ)) = jl ρ (lv_args i as) := by
  induction as with
  | nil => intro i; rfl
  | cons a l ih =>
    intro i
    show (i, jv ρ a) :: lv_args _ (l.map (jv ρ)) = (i, jv ρ a) :: jl ρ (lv_args _ l)
    rw [jv_cat, ih]
theorem jl_lgs (ρ : Nat → Nat) (as : List Value) : (lg_sl (as.map (jv ρ))).length = (lg_sl as).length := by
  induction as with
  | nil => rfl
  | cons a l ih =>
    have e1 : ∀ (b : Value) (t : List Value), lg_sl (b :: t) = (if b.category = 2 then [Slot.val b, .second] else [.val b]) ++ lg_sl t := fun b t => by simp [lg_sl]
    rw [List.map_cons, e1, e1, List.length_append, List.length_append, ih, jv_cat]
    split <;> rfl
theorem jv_sum (ρ : Nat → Nat) (st : List Value) : (((st.map (jv ρ)).map fun v => v.category).sum) = (st.map fun v => v.category).sum := by
  rw [List.map_map]
  congr 1
  exact List.map_congr_left (fun v _ => jv_cat ρ v)
/-- String constants: the class that loads each, its place in the constant pool, its text, its bytes -/
def jsN : Nat := 14
def jsT : List (String × Nat × String) := [("NobodysBard$Reader", 81, "become"), ("NobodysBard$Reader", 87, "if"), ("NobodysBard$Reader", 89, "or"), ("NobodysBard$Reader", 91, "and"), ("NobodysBard$Reader", 93, "not"), ("NobodysBard$Reader", 95, "has"), ("NobodysBard$Reader", 97, "long"), ("NobodysBard$Reader", 99, "tale"), ("NobodysBard$Reader", 101, "lose"), ("NobodysBard$Reader", 103, "move"), ("NobodysBard$Reader", 105, "smooth"), ("NobodysBard$Reader", 107, "say"), ("NobodysBard$Reader", 109, "for"), ("NobodysBardModel", 121, " become if not and or has long tale lose move smooth say for ")]
def jsB : List (List Int32) := jsT.map (fun q => q.2.2.toList.map (fun c => Int32.ofNat c.toNat))
def jsL : List Nat := jsB.map List.length
/-- what stands outside the systems' cells and is read: String constants, one static -/
def jS (A : Nat → Prop) (ρ : Nat → Nat) (U : State) (H : Heap) : Prop :=
  vk_S jsN jsL jsB (fun i => ρ (1000 + i)) (fun i => ρ (2000 + i)) A U H ∧ (∀ (i : Nat) (q : String × Nat × String), jsT[i]? = some q → vk_R q.1 q.2.1 q.2.2 (ρ (1000 + i)) U) ∧ va_Z "java/lang/String" "COMPACT_STRINGS" "Z" (.int 1) A U H ∧ (va_Z "jdk/internal/util/Preconditions" "SIOOBE_FORMATTER" "Ljava/util/function/BiFunction;" .null A U H ∨ va_Z "jdk/internal/util/Preconditions" "SIOOBE_FORMATTER" "Ljava/util/function/BiFunction;" (.ref (ρ 3000)) A U H)
theorem jS.moved {A : Nat → Prop} {ρ : Nat → Nat} {u U : State} {H : Heap} (hW : u.WarmedH U.vm) (h : jS A ρ u H) : jS A ρ U H :=
  ⟨h.1.moved hW.alike, fun i q hq => (h.2.1 i q hq).warm hW, h.2.2.1.moved hW.alike, h.2.2.2.imp (fun z => z.moved hW.alike) (fun z => z.moved hW.alike)⟩
theorem jS.kept {A : Nat → Prop} {ρ : Nat → Nat} {U : State} {H H1 : Heap} (h : jS A ρ U H) (hq : ∀ a : Nat, a < H.size → ¬ A a → H1[a]? = H[a]?) : jS A ρ U H1 :=
  ⟨h.1.kept hq, h.2.1, h.2.2.1.kept hq, h.2.2.2.imp (fun z => z.kept hq) (fun z => z.kept hq)⟩
/-- the world, as a state holds it -/
def jW (A : Nat → Prop) (ρ : Nat → Nat) (D : va_G) (cy : Nat → ClassId) (w : jWd) (U : State) : Prop :=
  va_P D jcl (wAt ρ cy w) U.heap ∧ va_K D jcl (jty cy) U ∧ va_D A (wAt ρ cy w) ∧ jS A ρ U U.heap
def jQ (A : Nat → Prop) (ρ : Nat → Nat) (D : va_G) (cy : Nat → ClassId) (o : Option Value) (w : jWd) : Array Value → State → Outcome → State → Prop :=
  fun _ st oc t => (oc = .returned (o.map (jv ρ)) ∧ va_P D jcl (wAt ρ cy w) t.heap ∧ va_D A (wAt ρ cy w)) ∧ va_F A st t
/-- a method's own: its class, its bytes, its locals, its answer's type -/
abbrev jMM : Type := String × ByteArray × Nat × Option FieldType
def jR (d : Nat) : Room := { frames := d, cells := 0, slots := 0, locals := 80 * d }
/-- what a method's body may take for granted -/
def jC (M : jMM) (A : Nat → Prop) (ρ : Nat → Nat) (D : va_G) (cy : Nat → ClassId) (p : Program) (s : State) (m : MethodId) (args : Array Value) (meth : Method) (c : Code) : Prop :=
  p.tables.exec = Jvm.exec ∧ c.code = M.2.1 ∧ c.maxLocals = M.2.2.1 ∧ s.vm.findClass M.1 = some m.cls ∧ (∀ x ∈ jT, x.before args s = true) ∧ meth.sig.returnType = M.2.2.2 ∧ meth.locks = false ∧ va_K D jcl (jty cy) s ∧ jS A ρ s s.heap
/-- THE JUDGEMENT -/
def J (M : jMM) (d : Nat) (w : jWd) (pc : Nat) (lv : List (Nat × Value)) (st : List Value) (o : Option Value) (w' : jWd) : Prop :=
  ∀ (p : Program) (l : Launch) (e : Env) (s : State) (m : MethodId) (args : Array Value) (below : List Frame) (meth : Method) (c : Code) (A : Nat → Prop) (ρ : Nat → Nat) (D : va_G) (cy : Nat → ClassId) (H : Heap) (locs : List Loc) (ls : Array Slot),
    jC M A ρ D cy p s m args meth c → va_P D jcl (wAt ρ cy w) H → va_D A (wAt ρ cy w) → va_S A s.heap H locs → lv_has ls M.2.2.1 (jl ρ lv) →
    W p l e (jR d) s m args below meth c H locs 0 0 (MQ below (jQ A ρ D cy o w') args s 0 0 A) (F0 m pc ls (st.map (jv ρ)))
/-- a method's contract -/
def JM (y : MethodName) (M : jMM) (d : Nat) (as : List Value) (w : jWd) (o : Option Value) (w' : jWd) : Prop :=
  ∀ (l : Launch) (A : Nat → Prop) (ρ : Nat → Nat) (D : va_G) (cy : Nat → ClassId), Met l y (Cond.code y M.2.1 M.2.2.1 M.2.2.2 :: jT) (jR d) (va_Pc (as.map (jv ρ)) (jW A ρ D cy w)) (jQ A ρ D cy o w') 0 0 A
set_option maxHeartbeats 1000000 in
theorem jm_of {y : MethodName} {M : jMM} {d : Nat} {as : List Value} {w w' : jWd} {o : Option Value} (hpl : plainName y.cls = true) (hown : y.cls = M.1) (hlen : (lg_sl as).length ≤ M.2.2.1) (h : J M d w 0 (lv_args 0 as) [] o w') : JM y M d as w o w' := by
  intro l A ρ D cy
  refine Met.ofW (cc := M.2.1) (maxL := M.2.2.1) (ret := M.2.2.2) hpl rfl ?_
  intro p e s m args below meth c s₁ B hml hv
  obtain ⟨rfl, hP, hK, hD, hSt⟩ := hv
  have hts : ∀ x ∈ (Cond.code y M.2.1 M.2.2.1 M.2.2.2 :: jT), x.before (as.map (jv ρ)).toArray s = true := atoms_spec (ws := Cond.code y M.2.1 M.2.2.1 M.2.2.2 :: jT) B.pre
  have hl := lv_entry (as.map (jv ρ)) (n := M.2.2.1) (by rw [jl_lgs]; exact hlen)
  rw [lg_entry_eq]
  rw [jl_args] at hl
  exact h p l e s m (as.map (jv ρ)).toArray below meth c A ρ D cy s.heap [] _ ⟨B.exec, B.bytes, hml, by rw [← hown]; exact findClass_of_methodNamed B.named, fun x hx => hts x (List.mem_cons_of_mem _ hx), B.returns, B.notSynchronized, hK, hSt⟩ hP hD va_S.rf hl
