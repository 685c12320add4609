-- ===== end of PART A; then your names; then what follows =====
/-! THE CLAIM OUT OF ONE WALK OF THE LAW'S BODY. Your part is whole_start (and what it stands on); all else here is the same for every law, but numbers. -/
def R_law : String := "NobodysBardLaw"
def lw_P (b : Addr) (xs : List Int32) (args : Array Value) (s : State) : Prop := args = #[.ref b] ∧ s.IntsAt b xs ∧ xs.length ≤ 4096 ∧ (Jvm.Cond.and given_1 narrow_1).before args s = true
def lw_Q (_ : Array Value) (s : State) (o : Outcome) (t : State) : Prop := o = .returned (some (.int 1)) ∧ Framed s o t [] 600000 7302250
def lw_Z (below : List Frame) (a : Array Value) (s : State) : State → Prop := fun t => ∃ o, t.status = .running ∧ Ended t below o ∧ lw_Q a s o t
/-- the law's own end, with 1 on the stack, nothing written that was there before, its room as the claim has it -/
theorem lw_ret {p : Program} {l : Launch} {e : Env} {s : State} {m : MethodId} {below : List Frame} {meth : Method} {c : Code} {b : Nat} (hx : p.tables.exec = Jvm.exec) (hb : c.code = code) (hr : meth.sig.returnType = ret) (hlocks : meth.locks = false) {pc : Nat} {H : Heap} {ls : Array Slot} (hdg : decode code pc = .ok (.ireturn, 1)) : W p l e room_1 s m #[Value.ref b] below meth c H [] 600000 7302250 (lw_Z below #[Value.ref b] s) (F0 m pc ls [.int 1]) := by
  intro T hT X
  obtain ⟨fs, hret, hrun, hended, hW, hframe⟩ := X.leave (v := some (.int 1)) (hlocks := hlocks) (fun h => by rw [hr] at h; cases h)
  have hmeth' : T.vm.method? m = some meth := X.method'
  refine ⟨T.setFrames fs, ?_, .returned (some (.int 1)), hrun, hended, rfl, ⟨_, rfl⟩, hW, hframe⟩
  jvm_step X.here [X.here.top, hx, hb, hdg, hmeth', hr, ret, narrow_b1]
  (try refine ⟨rfl, ?_⟩); (try refine ⟨rfl, ?_⟩)
  first | (intro acts; rw [hret _ acts rfl rfl rfl]) | rw [hret _ _ rfl rfl rfl]
  exact Steps.refl _
/-- what holds at the law's entry: the machine, the code, the tables' words (any of lw_tbl by 'hts w (by decide +kernel)'), the script of L ints xs at the cell b, what the Statement gives of the start (any of its parts by flat_of_before) -/
def lw_At (p : Program) (s : State) (m : MethodId) (meth : Method) (c : Code) (b L : Nat) (xs : Nat → Int32) : Prop :=
  p.tables.exec = Jvm.exec ∧ c.code = code ∧ meth.sig.returnType = ret ∧ c.maxLocals = 4 ∧ s.vm.findClass R_law = some m.cls ∧ (∀ w ∈ lw_tbl, w.before #[Value.ref b] s = true) ∧ va_X b L xs s s.heap ∧ b < s.heap.size ∧ meth.locks = false ∧ (Jvm.Cond.and given_1 narrow_1).before #[Value.ref b] s = true
/-! THE LAW behind its two constructors: the judgement JL (by program: wip/whole/gen/genlaw.py) -/
def jCL (L : Nat) (xs : Nat → Int32) (A : Nat → Prop) (ρ : Nat → Nat) (D : va_G) (cy : Nat → ClassId) (p : Program) (s : State) (m : MethodId) (args : Array Value) (meth : Method) (c : Code) : Prop :=
  p.tables.exec = Jvm.exec ∧ c.code = code ∧ c.maxLocals = 4 ∧ s.vm.findClass RL = some m.cls ∧ (∀ x ∈ jT, x.before args s = true) ∧ meth.sig.returnType = ret ∧ meth.locks = false ∧ va_K D jcl (jty cy) s ∧ jS A ρ s s.heap ∧ va_X (ρ 3001) L xs s s.heap ∧ ρ 3001 < s.heap.size ∧ ¬ A (ρ 3001) ∧ args = #[Value.ref (ρ 3001)] ∧ (A = fun q => s.heap.size ≤ q)
def JL (L : Nat) (xs : Nat → Int32) (w : jWd) (pc : Nat) (lv : List (Nat × Value)) (st : List Value) : Prop :=
  ∀ (p : Program) (l : Launch) (e : Env) (s : State) (m : MethodId) (args : Array Value) (below : List Frame) (meth : Method) (c : Code) (A : Nat → Prop) (ρ : Nat → Nat) (D : va_G) (cy : Nat → ClassId) (H : Heap) (locs : List Loc) (ls : Array Slot),
    jCL L xs A ρ D cy p s m args meth c → va_P D jcl (wAt ρ cy w) H → va_D A (wAt ρ cy w) → va_S A s.heap H locs → lv_has ls 4 (jl ρ lv) →
    W p l e room_1 s m args below meth c H locs 224 26284 (lw_Z below args s) (F0 m pc ls (st.map (jv ρ)))
theorem jx_iconst {L : Nat} {xs : Nat → Int32} {w : jWd} {pc : Nat} {lv : List (Nat × Value)} {st : List Value} {i : Int} {v : Int32} 
    (hdg : decode code pc = .ok (.iconst i, 1)) (hv : Int32.ofInt i = v) (kk : JL L xs w (pc + 1) lv (.int v :: st)) : JL L xs w pc lv (st) := by
  intro p l e s m args below meth c A ρ D cy H locs ls C hP hD hS hl
  exact lv_iconst C.1 C.2.1 hdg hv (kk p l e s m args below meth c A ρ D cy H locs ls C hP hD hS hl)
theorem jx_bipush {L : Nat} {xs : Nat → Int32} {w : jWd} {pc : Nat} {lv : List (Nat × Value)} {st : List Value} {i : Int} {v : Int32} 
    (hdg : decode code pc = .ok (.bipush i, 2)) (hv : (Int8.ofInt i).toInt32 = v) (kk : JL L xs w (pc + 2) lv (.int v :: st)) : JL L xs w pc lv (st) := by
  intro p l e s m args below meth c A ρ D cy H locs ls C hP hD hS hl
  exact lv_bipush C.1 C.2.1 hdg hv (kk p l e s m args below meth c A ρ D cy H locs ls C hP hD hS hl)
theorem jx_ldc2 {L : Nat} {xs : Nat → Int32} {w : jWd} {pc : Nat} {lv : List (Nat × Value)} {st : List Value} {index : Nat} {v : Int64} 
    (hc : Cond.constantLong RL index v ∈ jT) (hdg : decode code pc = .ok (.ldc2_w index, 3)) (kk : JL L xs w (pc + 3) lv (.long v :: st)) : JL L xs w pc lv (st) := by
  intro p l e s m args below meth c A ρ D cy H locs ls C hP hD hS hl
  exact lv_ldc2 C.1 C.2.1 C.2.2.2.1 (C.2.2.2.2.1 _ hc) hdg (kk p l e s m args below meth c A ρ D cy H locs ls C hP hD hS hl)
theorem jx_iload_n {L : Nat} {xs : Nat → Int32} {w : jWd} {pc : Nat} {lv : List (Nat × Value)} {st : List Value} {k : Fin 4} {i : Nat} {x : Int32} 
    (hdg : decode code pc = .ok (.iload_n k, 1)) (hi : (k : Nat) = i) (q : Nat) (hq : lv[q]? = some (i, .int x)) (kk : JL L xs w (pc + 1) lv (.int x :: st)) : JL L xs w pc lv (st) := by
  intro p l e s m args below meth c A ρ D cy H locs ls C hP hD hS hl
  exact lv_iload_n C.1 C.2.1 hdg hi (jl_at hl q hq) (kk p l e s m args below meth c A ρ D cy H locs ls C hP hD hS hl)
theorem jx_aload_n {L : Nat} {xs : Nat → Int32} {w : jWd} {pc : Nat} {lv : List (Nat × Value)} {st : List Value} {k : Fin 4} {i : Nat} {x : Nat} 
    (hdg : decode code pc = .ok (.aload_n k, 1)) (hi : (k : Nat) = i) (q : Nat) (hq : lv[q]? = some (i, .ref x)) (kk : JL L xs w (pc + 1) lv (.ref x :: st)) : JL L xs w pc lv (st) := by
  intro p l e s m args below meth c A ρ D cy H locs ls C hP hD hS hl
  exact lv_aload_n C.1 C.2.1 hdg hi (jl_at hl q hq) (kk p l e s m args below meth c A ρ D cy H locs ls C hP hD hS hl)
theorem jx_iadd {L : Nat} {xs : Nat → Int32} {w : jWd} {pc : Nat} {lv : List (Nat × Value)} {st : List Value} {x y : Int32} 
    (hdg : decode code pc = .ok (.iadd, 1)) (kk : JL L xs w (pc + 1) lv (.int (x + y) :: st)) : JL L xs w pc lv (.int y :: .int x :: st) := by
  intro p l e s m args below meth c A ρ D cy H locs ls C hP hD hS hl
  exact lv_iadd C.1 C.2.1 hdg (kk p l e s m args below meth c A ρ D cy H locs ls C hP hD hS hl)
theorem jx_isub {L : Nat} {xs : Nat → Int32} {w : jWd} {pc : Nat} {lv : List (Nat × Value)} {st : List Value} {x y : Int32} 
    (hdg : decode code pc = .ok (.isub, 1)) (kk : JL L xs w (pc + 1) lv (.int (x - y) :: st)) : JL L xs w pc lv (.int y :: .int x :: st) := by
  intro p l e s m args below meth c A ρ D cy H locs ls C hP hD hS hl
  exact lv_isub C.1 C.2.1 hdg (kk p l e s m args below meth c A ρ D cy H locs ls C hP hD hS hl)
theorem jx_iand {L : Nat} {xs : Nat → Int32} {w : jWd} {pc : Nat} {lv : List (Nat × Value)} {st : List Value} {x y : Int32} 
    (hdg : decode code pc = .ok (.iand, 1)) (kk : JL L xs w (pc + 1) lv (.int (x &&& y) :: st)) : JL L xs w pc lv (.int y :: .int x :: st) := by
  intro p l e s m args below meth c A ρ D cy H locs ls C hP hD hS hl
  exact lv_iand C.1 C.2.1 hdg (kk p l e s m args below meth c A ρ D cy H locs ls C hP hD hS hl)
theorem jx_land {L : Nat} {xs : Nat → Int32} {w : jWd} {pc : Nat} {lv : List (Nat × Value)} {st : List Value} {x y : Int64} 
    (hdg : decode code pc = .ok (.land, 1)) (kk : JL L xs w (pc + 1) lv (.long (x &&& y) :: st)) : JL L xs w pc lv (.long y :: .long x :: st) := by
  intro p l e s m args below meth c A ρ D cy H locs ls C hP hD hS hl
  exact lv_land C.1 C.2.1 hdg (kk p l e s m args below meth c A ρ D cy H locs ls C hP hD hS hl)
theorem jx_lor {L : Nat} {xs : Nat → Int32} {w : jWd} {pc : Nat} {lv : List (Nat × Value)} {st : List Value} {x y : Int64} 
    (hdg : decode code pc = .ok (.lor, 1)) (kk : JL L xs w (pc + 1) lv (.long (x ||| y) :: st)) : JL L xs w pc lv (.long y :: .long x :: st) := by
  intro p l e s m args below meth c A ρ D cy H locs ls C hP hD hS hl
  exact lv_lor C.1 C.2.1 hdg (kk p l e s m args below meth c A ρ D cy H locs ls C hP hD hS hl)
theorem jx_lshl {L : Nat} {xs : Nat → Int32} {w : jWd} {pc : Nat} {lv : List (Nat × Value)} {st : List Value} {x : Int64} {y : Int32} 
    (hdg : decode code pc = .ok (.lshl, 1)) (kk : JL L xs w (pc + 1) lv (.long (l_shl x y) :: st)) : JL L xs w pc lv (.int y :: .long x :: st) := by
  intro p l e s m args below meth c A ρ D cy H locs ls C hP hD hS hl
  exact lv_lshl C.1 C.2.1 hdg rfl (kk p l e s m args below meth c A ρ D cy H locs ls C hP hD hS hl)
theorem jx_i2l {L : Nat} {xs : Nat → Int32} {w : jWd} {pc : Nat} {lv : List (Nat × Value)} {st : List Value} {x : Int32} 
    (hdg : decode code pc = .ok (.i2l, 1)) (kk : JL L xs w (pc + 1) lv (.long (x.toInt64) :: st)) : JL L xs w pc lv (.int x :: st) := by
  intro p l e s m args below meth c A ρ D cy H locs ls C hP hD hS hl
  exact lv_i2l C.1 C.2.1 hdg rfl (kk p l e s m args below meth c A ρ D cy H locs ls C hP hD hS hl)
theorem jx_lcmp {L : Nat} {xs : Nat → Int32} {w : jWd} {pc : Nat} {lv : List (Nat × Value)} {st : List Value} {x y : Int64} 
    (hdg : decode code pc = .ok (.lcmp, 1)) (kk : JL L xs w (pc + 1) lv (.int (lg_cmp x y) :: st)) : JL L xs w pc lv (.long y :: .long x :: st) := by
  intro p l e s m args below meth c A ρ D cy H locs ls C hP hD hS hl
  exact W.lcmp C.1 C.2.1 hdg (kk p l e s m args below meth c A ρ D cy H locs ls C hP hD hS hl)
theorem jx_if_eq {L : Nat} {xs : Nat → Int32} {w : jWd} {pc : Nat} {lv : List (Nat × Value)} {st : List Value} {off : Int} {tgt nxt : Nat} {x : Int32} 
    (hdg : decode code pc = .ok (.ifCond .eq off, 3)) (ht : (pc : Int) + off = (tgt : Int)) (hn : pc + 3 = nxt) (kt : x = 0 → JL L xs w tgt lv st) (kf : ¬ x = 0 → JL L xs w nxt lv st) : JL L xs w pc lv (.int x :: st) := by
  subst hn
  intro p l e s m args below meth c A ρ D cy H locs ls C hP hD hS hl
  exact lv_if_eq C.1 C.2.1 hdg ht (fun h => kt h p l e s m args below meth c A ρ D cy H locs ls C hP hD hS hl) (fun h => kf h p l e s m args below meth c A ρ D cy H locs ls C hP hD hS hl)
theorem jx_if_ne {L : Nat} {xs : Nat → Int32} {w : jWd} {pc : Nat} {lv : List (Nat × Value)} {st : List Value} {off : Int} {tgt nxt : Nat} {x : Int32} 
    (hdg : decode code pc = .ok (.ifCond .ne off, 3)) (ht : (pc : Int) + off = (tgt : Int)) (hn : pc + 3 = nxt) (kt : ¬ x = 0 → JL L xs w tgt lv st) (kf : x = 0 → JL L xs w nxt lv st) : JL L xs w pc lv (.int x :: st) := by
  subst hn
  intro p l e s m args below meth c A ρ D cy H locs ls C hP hD hS hl
  exact lv_if_ne C.1 C.2.1 hdg ht (fun h => kt h p l e s m args below meth c A ρ D cy H locs ls C hP hD hS hl) (fun h => kf h p l e s m args below meth c A ρ D cy H locs ls C hP hD hS hl)
theorem jx_icmp_eq {L : Nat} {xs : Nat → Int32} {w : jWd} {pc : Nat} {lv : List (Nat × Value)} {st : List Value} {off : Int} {tgt nxt : Nat} {x y : Int32} 
    (hdg : decode code pc = .ok (.if_icmp .eq off, 3)) (ht : (pc : Int) + off = (tgt : Int)) (hn : pc + 3 = nxt) (kt : x = y → JL L xs w tgt lv st) (kf : ¬ x = y → JL L xs w nxt lv st) : JL L xs w pc lv (.int y :: .int x :: st) := by
  subst hn
  intro p l e s m args below meth c A ρ D cy H locs ls C hP hD hS hl
  exact lv_icmp_eq C.1 C.2.1 hdg ht (fun h => kt h p l e s m args below meth c A ρ D cy H locs ls C hP hD hS hl) (fun h => kf h p l e s m args below meth c A ρ D cy H locs ls C hP hD hS hl)
theorem jx_icmp_gt {L : Nat} {xs : Nat → Int32} {w : jWd} {pc : Nat} {lv : List (Nat × Value)} {st : List Value} {off : Int} {tgt nxt : Nat} {x y : Int32} 
    (hdg : decode code pc = .ok (.if_icmp .gt off, 3)) (ht : (pc : Int) + off = (tgt : Int)) (hn : pc + 3 = nxt) (kt : y < x → JL L xs w tgt lv st) (kf : ¬ y < x → JL L xs w nxt lv st) : JL L xs w pc lv (.int y :: .int x :: st) := by
  subst hn
  intro p l e s m args below meth c A ρ D cy H locs ls C hP hD hS hl
  exact lv_icmp_gt C.1 C.2.1 hdg ht (fun h => kt h p l e s m args below meth c A ρ D cy H locs ls C hP hD hS hl) (fun h => kf h p l e s m args below meth c A ρ D cy H locs ls C hP hD hS hl)
theorem jx_goto {L : Nat} {xs : Nat → Int32} {w : jWd} {pc : Nat} {lv : List (Nat × Value)} {st : List Value} {off : Int} {tgt : Nat} 
    (hdg : decode code pc = .ok (.goto off, 3)) (ht : (pc : Int) + off = (tgt : Int)) (kk : JL L xs w tgt lv st) : JL L xs w pc lv st := by
  intro p l e s m args below meth c A ρ D cy H locs ls C hP hD hS hl
  exact lv_goto C.1 C.2.1 hdg ht (kk p l e s m args below meth c A ρ D cy H locs ls C hP hD hS hl)
theorem jx_iinc {L : Nat} {xs : Nat → Int32} {w : jWd} {pc : Nat} {lv : List (Nat × Value)} {st : List Value} {i : Nat} {a : Int} {x v : Int32} {lv' : List (Nat × Value)} 
    (hdg : decode code pc = .ok (.iinc i a, 3)) (q : Nat) (hq : lv[q]? = some (i, .int x)) (hv : x + Int32.ofInt a = v) (hn : i < 4) (hs : js1 lv i (.int v) = lv') (kk : JL L xs w (pc + 3) lv' st) : JL L xs w pc lv (st) := by
  intro p l e s m args below meth c A ρ D cy H locs ls C hP hD hS hl
  exact lv_iinc (lv' := jl ρ lv') (k := q) (x := x) C.1 C.2.1 hdg hl (by simp [jl, hq, jv]) hv hn (by rw [← hs]; exact jl_s1 ρ lv i (.int v)) (fun ls' hl' => kk p l e s m args below meth c A ρ D cy H locs ls' C hP hD hS hl')
theorem jx_tableOut {L : Nat} {xs : Nat → Int32} {w : jWd} {pc : Nat} {lv : List (Nat × Value)} {st : List Value} {dflt lo hi : Int} {offs : Array Int} {len : Nat} {x : Int32} {tgt : Nat} 
    (hdg : decode code pc = .ok (.tableswitch dflt lo hi offs, len)) (h : x.toInt < lo ∨ hi < x.toInt) (ht : (pc : Int) + dflt = (tgt : Int)) (kk : JL L xs w tgt lv st) : JL L xs w pc lv (.int x :: st) := by
  intro p l e s m args below meth c A ρ D cy H locs ls C hP hD hS hl
  exact lv_tableOut C.1 C.2.1 hdg h ht (kk p l e s m args below meth c A ρ D cy H locs ls C hP hD hS hl)
theorem jx_tableK {L : Nat} {xs : Nat → Int32} {w : jWd} {pc : Nat} {lv : List (Nat × Value)} {st : List Value} {dflt lo hi : Int} {offs : Array Int} {len : Nat} {x k : Int32} {off : Int} {tgt : Nat} 
    (hdg : decode code pc = .ok (.tableswitch dflt lo hi offs, len)) (hx : x = k) (h1 : ¬ k.toInt < lo) (h2 : ¬ hi < k.toInt) (ho : offs[(k.toInt - lo).toNat]? = some off) (ht : (pc : Int) + off = (tgt : Int)) (kk : JL L xs w tgt lv st) : JL L xs w pc lv (.int x :: st) := by
  subst hx
  intro p l e s m args below meth c A ρ D cy H locs ls C hP hD hS hl
  exact lv_tableIn C.1 C.2.1 hdg h1 h2 ho ht (kk p l e s m args below meth c A ρ D cy H locs ls C hP hD hS hl)
theorem jx_sub {L : Nat} {xs : Nat → Int32} {w : jWd} {pc : Nat} {lv : List (Nat × Value)} {st : List Value} (ks : List Nat) {lv' : List (Nat × Value)} (hs : lv_pick lv ks = lv') (kk : JL L xs w pc lv' st) : JL L xs w pc lv st := by
  intro p l e s m args below meth c A ρ D cy H locs ls C hP hD hS hl
  refine kk p l e s m args below meth c A ρ D cy H locs ls C hP hD hS (lv_sub hl ks ?_)
  rw [← hs]
  simp only [lv_pick, jl, List.map_filterMap]
  congr 1
  funext k
  simp
theorem jx_slen {L : Nat} {xs : Nat → Int32} {w : jWd} {pc : Nat} {lv : List (Nat × Value)} {st : List Value} (hdg : decode code pc = .ok (.arraylength, 1)) (kk : JL L xs w (pc + 1) lv (.int (nI L) :: st)) : JL L xs w pc lv (.ref 3001 :: st) := by
  intro p l e s m args below meth c A ρ D cy H locs ls C hP hD hS hl
  exact va_slen C.1 C.2.1 C.2.2.2.2.2.2.2.2.2.1 C.2.2.2.2.2.2.2.2.2.2.1 C.2.2.2.2.2.2.2.2.2.2.2.1 hS hdg (kk p l e s m args below meth c A ρ D cy H locs ls C hP hD hS hl)
theorem jx_sld {L : Nat} {xs : Nat → Int32} {w : jWd} {pc : Nat} {lv : List (Nat × Value)} {st : List Value} {i k : Nat} {z : Int32} (hz : z = nI k) (h : i + k < L) (hL : L ≤ 4096) (hdg : decode code pc = .ok (.iaload, 1)) (kk : JL L xs w (pc + 1) lv (.int (xs (i + k)) :: st)) : JL L xs w pc lv (.int (nI i + z) :: .ref 3001 :: st) := by
  subst hz
  intro p l e0 s m args below meth c A ρ D cy H locs ls C hP hD hS hl
  have e : nI i + nI k = nI (i + k) := nI_add i k
  have hin : vp_in (nI i + nI k) L := by rw [e]; exact vp_in_nI h (by omega)
  have h0 := kk p l e0 s m args below meth c A ρ D cy H locs ls C hP hD hS hl
  refine va_sld C.1 C.2.1 C.2.2.2.2.2.2.2.2.2.1 C.2.2.2.2.2.2.2.2.2.2.1 C.2.2.2.2.2.2.2.2.2.2.2.1 hS hin hdg ?_
  rw [e, nI_clamp (by omega)]
  exact h0
theorem jx_sld0 {L : Nat} {xs : Nat → Int32} {w : jWd} {pc : Nat} {lv : List (Nat × Value)} {st : List Value} {i : Nat} (h : i < L) (hL : L ≤ 4096) (hdg : decode code pc = .ok (.iaload, 1)) (kk : JL L xs w (pc + 1) lv (.int (xs i) :: st)) : JL L xs w pc lv (.int (nI i) :: .ref 3001 :: st) := by
  intro p l e0 s m args below meth c A ρ D cy H locs ls C hP hD hS hl
  have h0 := kk p l e0 s m args below meth c A ρ D cy H locs ls C hP hD hS hl
  refine va_sld C.1 C.2.1 C.2.2.2.2.2.2.2.2.2.1 C.2.2.2.2.2.2.2.2.2.2.1 C.2.2.2.2.2.2.2.2.2.2.2.1 hS (vp_in_nI h (by omega)) hdg ?_
  rw [nI_clamp (by omega)]
  exact h0
theorem jx_after {w1 : jWd} {A : Nat → Prop} {ρ : Nat → Nat} {D : va_G} {cy : Nat → ClassId} {p : Program} {l : Launch} {e : Env} {R : Room} {s : State} {m : MethodId} {args : Array Value} {below : List Frame} {meth : Method} {c : Code} {H : Heap} {locs : List Loc} {Q : State → Prop} {ls : Array Slot} {st0 rest : List Value} {v : Option Value} {a : Array Value} {nc ns pc : Nat}
    (hr : va_Run p l e R s m args below meth c H locs nc ns 0 0 (F0 m pc ls st0) rest (jQ A ρ D cy v w1 a) A) (hS : va_S A s.heap H locs)
    (kk : ∀ (H1 : Heap) (locs1 : List Loc), va_P D jcl (wAt ρ cy w1) H1 → va_D A (wAt ρ cy w1) → va_S A s.heap H1 locs1 → W p l e R s m args below meth c H1 locs1 nc ns Q (F0 m (pc + 3) ls ((v.map (jv ρ)).toList ++ rest))) : W p l e R s m args below meth c H locs nc ns Q (F0 m pc ls st0) := by
  intro T hT X
  obtain ⟨v1, st₀, t, T', L, h0, X', hL, e1, e2, ⟨⟨hv, hp, hd⟩, hz, hk⟩, step⟩ := hr T hT X
  obtain rfl : v1 = v.map (jv ρ) := by cases hv; rfl
  rw [h0] at hz hk
  obtain ⟨t2, a1, b1⟩ := kk T'.heap (locs ++ L) (by rw [e1]; exact hp) hd
    ⟨Nat.le_trans hS.1 (by rw [e1]; exact hz), fun q h1 h2 => by rw [e1, hk q (Nat.lt_of_lt_of_le h1 hS.1) h2]; exact hS.2.1 q h1 h2, fun q hq => by
      rcases List.mem_append.mp hq with h | h
      · exact hS.2.2 q h
      · exact hL q h⟩ T' rfl X'
  exact ⟨t2, step t2 a1, b1⟩
theorem jx_call {L : Nat} {xs : Nat → Int32} {w : jWd} {pc : Nat} {lv : List (Nat × Value)} {st : List Value} {index n d' : Nat} {y : MethodName} {M' : jMM} {b q N : Nat} {T : u_T} {as : List Value} {v : Value} {w1 : jWd} {st' : List Value} (hl : jLk RL index y M' n) (hi : Cond.instanceMethod y ∈ jT) (hs : Cond.selects y.cls y y ∈ jT) (hkd : kd b = q) (hq : q < 12) (hcl : jcl[q]? = some (y.cls, T, N)) (hM : JM y M' d' (.ref b :: as) w (some v) w1) (hd : d' + 1 ≤ 1000) (hst : st = as.reverse ++ .ref b :: st') (hn : as.length = n) (hW : (st'.map fun v => v.category).sum ≤ 8) (hdg : decode code pc = .ok (.invokevirtual index, 3)) (kk : JL L xs w1 (pc + 3) lv (v :: st')) : JL L xs w pc lv st := by
  subst hst
  intro p l e s m args below meth c A ρ D cy H locs ls C hP hD hS hlv
  obtain ⟨h1, h2, h3, h4, h5⟩ := hl
  have hcb : CallB room_1 s args RL index y M'.2.1 M'.2.2.1 M'.2.2.2 (Cond.code y M'.2.1 M'.2.2.1 M'.2.2.2 :: jT) (jR d') 0 0 n := by
    refine callB_of (Ts := Cond.code y M'.2.1 M'.2.2.1 M'.2.2.2 :: jT) n (jn_ts h3 C.2.2.2.2.1) (jT_good h3) rfl rfl rfl (C.2.2.2.2.1 _ h2) (C.2.2.2.2.1 _ h1) h5 ⟨?_, ?_⟩
    · show d' + 1 ≤ 2048
      omega
    · show 8 + (M'.2.2.1 + 11) + 80 * d' ≤ 84000
      omega
  refine jx_after (va_runV (C := y.cls) (b := ρ b) (As := as.map (jv ρ)) (rest := st'.map (jv ρ)) (n := n) ⟨C.1, C.2.1, C.2.2.1, C.2.2.2.1, C.2.2.2.2.1⟩ (hM l A ρ D cy) ⟨hcb, C.2.2.2.2.1 _ hi, C.2.2.2.2.1 _ hs⟩ ⟨j_blind, va_recv C.2.2.2.2.2.2.2.1 hP hcl ((wAt_get (kd_lt hkd (by omega))).trans (by rw [jck_o hkd hq])), fun U hU hW => ⟨rfl, j_pre C.2.2.2.2.2.2.2.1 C.2.2.2.2.2.2.2.2.1 hP hD hS hU hW⟩⟩ rfl (by rw [List.length_map]; exact hn) hlv.1 (by simp [jv]) (by rw [jv_sum]; show 2 * 0 + _ ≤ 8; omega) hdg ⟨Nat.le_of_ble_eq_true rfl, Nat.le_of_ble_eq_true rfl⟩) hS (fun H1 locs1 hP1 hD1 hS1 => ?_)
  exact kk p l e s m args below meth c A ρ D cy H1 locs1 ls C hP1 hD1 hS1 hlv
theorem jx_ret {L : Nat} {xs : Nat → Int32} {w : jWd} {pc : Nat} {lv : List (Nat × Value)} (hdg : decode code pc = .ok (.ireturn, 1)) : JL L xs w pc lv [.int 1] := by
  intro p l e s m args below meth c A ρ D cy H locs ls C hP hD hS hl
  obtain ⟨hx, hb, -, -, -, hr, hlk, -, -, -, -, -, ha, hA⟩ := C
  subst ha
  refine va_forget (fun q hq => ?_) ?_
  · have := hS.2.2 q hq
    rw [hA] at this
    exact this
  · refine W.widen (k := 600000) (n := 7302250) (Nat.le_of_ble_eq_true rfl) (Nat.le_of_ble_eq_true rfl) ?_
    exact lw_ret hx hb hr hlk hdg
