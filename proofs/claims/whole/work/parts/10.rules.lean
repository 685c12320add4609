/-! ROWS: an instruction each, for the judgement J (by program: wip/whole/gen/genrules.py) -/
def i_rem (x y : Int32) : Int32 := x - x / y * y
def l_rem (x y : Int64) : Int64 := x - x / y * y
def i_shl (x y : Int32) : Int32 := x <<< (y &&& 31)
def i_shr (x y : Int32) : Int32 := x >>> (y &&& 31)
def i_ushr (x y : Int32) : Int32 := (x.toUInt32 >>> (y.toUInt32 &&& Int32.toUInt32 31)).toInt32
def l_shl (x : Int64) (y : Int32) : Int64 := x <<< (y.toInt64 &&& 63)
def l_shr (x : Int64) (y : Int32) : Int64 := x >>> (y.toInt64 &&& 63)
def l_ushr (x : Int64) (y : Int32) : Int64 := (x.toUInt64 >>> (y.toInt64.toUInt64 &&& Int64.toUInt64 63)).toInt64
theorem jr_iconst {M : jMM} {d : Nat} {w w' : jWd} {pc : Nat} {lv : List (Nat × Value)} {st : List Value} {o : Option Value} {n : Int} {v : Int32} 
    (hdg : decode M.2.1 pc = .ok (.iconst n, 1)) (hv : Int32.ofInt n = v) (kk : J M d w (pc + 1) lv (.int v :: st) o w') : J M d w pc lv (st) o w' := by
  intro p l e s m args below meth c A ρ D cy H locs ls C hP hD hS hl
  exact lv_iconst C.1 C.2.1 hdg hv (kk p l e s m args below meth c A ρ D cy H locs ls C hP hD hS hl)
theorem jr_bipush {M : jMM} {d : Nat} {w w' : jWd} {pc : Nat} {lv : List (Nat × Value)} {st : List Value} {o : Option Value} {n : Int} {v : Int32} 
    (hdg : decode M.2.1 pc = .ok (.bipush n, 2)) (hv : (Int8.ofInt n).toInt32 = v) (kk : J M d w (pc + 2) lv (.int v :: st) o w') : J M d w pc lv (st) o w' := by
  intro p l e s m args below meth c A ρ D cy H locs ls C hP hD hS hl
  exact lv_bipush C.1 C.2.1 hdg hv (kk p l e s m args below meth c A ρ D cy H locs ls C hP hD hS hl)
theorem jr_sipush {M : jMM} {d : Nat} {w w' : jWd} {pc : Nat} {lv : List (Nat × Value)} {st : List Value} {o : Option Value} {n : Int} {v : Int32} 
    (hdg : decode M.2.1 pc = .ok (.sipush n, 3)) (hv : (Int16.ofInt n).toInt32 = v) (kk : J M d w (pc + 3) lv (.int v :: st) o w') : J M d w pc lv (st) o w' := by
  intro p l e s m args below meth c A ρ D cy H locs ls C hP hD hS hl
  exact lv_sipush C.1 C.2.1 hdg hv (kk p l e s m args below meth c A ρ D cy H locs ls C hP hD hS hl)
theorem jr_lconst {M : jMM} {d : Nat} {w w' : jWd} {pc : Nat} {lv : List (Nat × Value)} {st : List Value} {o : Option Value} {n : Fin 2} {v : Int64} 
    (hdg : decode M.2.1 pc = .ok (.lconst n, 1)) (hv : Int64.ofNat (n : Nat) = v) (kk : J M d w (pc + 1) lv (.long v :: st) o w') : J M d w pc lv (st) o w' := by
  intro p l e s m args below meth c A ρ D cy H locs ls C hP hD hS hl
  exact lv_lconst C.1 C.2.1 hdg hv (kk p l e s m args below meth c A ρ D cy H locs ls C hP hD hS hl)
theorem jr_ldc {M : jMM} {d : Nat} {w w' : jWd} {pc : Nat} {lv : List (Nat × Value)} {st : List Value} {o : Option Value} {index : Nat} {v : Int32} 
    (hc : Cond.constant M.1 index v ∈ jT) (hdg : decode M.2.1 pc = .ok (.ldc index, 2)) (kk : J M d w (pc + 2) lv (.int v :: st) o w') : J M d w pc lv (st) o w' := by
  intro p l e s m args below meth c A ρ D cy H locs ls C hP hD hS hl
  exact lv_ldc C.1 C.2.1 C.2.2.2.1 (C.2.2.2.2.1 _ hc) hdg (kk p l e s m args below meth c A ρ D cy H locs ls C hP hD hS hl)
theorem jr_ldcw {M : jMM} {d : Nat} {w w' : jWd} {pc : Nat} {lv : List (Nat × Value)} {st : List Value} {o : Option Value} {index : Nat} {v : Int32} 
    (hc : Cond.constant M.1 index v ∈ jT) (hdg : decode M.2.1 pc = .ok (.ldc_w index, 3)) (kk : J M d w (pc + 3) lv (.int v :: st) o w') : J M d w pc lv (st) o w' := by
  intro p l e s m args below meth c A ρ D cy H locs ls C hP hD hS hl
  exact lv_ldcw C.1 C.2.1 C.2.2.2.1 (C.2.2.2.2.1 _ hc) hdg (kk p l e s m args below meth c A ρ D cy H locs ls C hP hD hS hl)
theorem jr_ldc2 {M : jMM} {d : Nat} {w w' : jWd} {pc : Nat} {lv : List (Nat × Value)} {st : List Value} {o : Option Value} {index : Nat} {v : Int64} 
    (hc : Cond.constantLong M.1 index v ∈ jT) (hdg : decode M.2.1 pc = .ok (.ldc2_w index, 3)) (kk : J M d w (pc + 3) lv (.long v :: st) o w') : J M d w pc lv (st) o w' := by
  intro p l e s m args below meth c A ρ D cy H locs ls C hP hD hS hl
  exact lv_ldc2 C.1 C.2.1 C.2.2.2.1 (C.2.2.2.2.1 _ hc) hdg (kk p l e s m args below meth c A ρ D cy H locs ls C hP hD hS hl)
theorem jr_iload_n {M : jMM} {d : Nat} {w w' : jWd} {pc : Nat} {lv : List (Nat × Value)} {st : List Value} {o : Option Value} {k : Fin 4} {i : Nat} {x : Int32} 
    (hdg : decode M.2.1 pc = .ok (.iload_n k, 1)) (hi : (k : Nat) = i) (q : Nat) (hq : lv[q]? = some (i, .int x)) (kk : J M d w (pc + 1) lv (.int x :: st) o w') : J M d w pc lv (st) o w' := by
  intro p l e s m args below meth c A ρ D cy H locs ls C hP hD hS hl
  exact lv_iload_n C.1 C.2.1 hdg hi (jl_at hl q hq) (kk p l e s m args below meth c A ρ D cy H locs ls C hP hD hS hl)
theorem jr_iload {M : jMM} {d : Nat} {w w' : jWd} {pc : Nat} {lv : List (Nat × Value)} {st : List Value} {o : Option Value} {i : Nat} {x : Int32} 
    (hdg : decode M.2.1 pc = .ok (.iload i, 2)) (q : Nat) (hq : lv[q]? = some (i, .int x)) (kk : J M d w (pc + 2) lv (.int x :: st) o w') : J M d w pc lv (st) o w' := by
  intro p l e s m args below meth c A ρ D cy H locs ls C hP hD hS hl
  exact lv_iload C.1 C.2.1 hdg (jl_at hl q hq) (kk p l e s m args below meth c A ρ D cy H locs ls C hP hD hS hl)
theorem jr_lload_n {M : jMM} {d : Nat} {w w' : jWd} {pc : Nat} {lv : List (Nat × Value)} {st : List Value} {o : Option Value} {k : Fin 4} {i : Nat} {x : Int64} 
    (hdg : decode M.2.1 pc = .ok (.lload_n k, 1)) (hi : (k : Nat) = i) (q : Nat) (hq : lv[q]? = some (i, .long x)) (kk : J M d w (pc + 1) lv (.long x :: st) o w') : J M d w pc lv (st) o w' := by
  intro p l e s m args below meth c A ρ D cy H locs ls C hP hD hS hl
  exact lv_lload_n C.1 C.2.1 hdg hi (jl_at hl q hq) (kk p l e s m args below meth c A ρ D cy H locs ls C hP hD hS hl)
theorem jr_lload {M : jMM} {d : Nat} {w w' : jWd} {pc : Nat} {lv : List (Nat × Value)} {st : List Value} {o : Option Value} {i : Nat} {x : Int64} 
    (hdg : decode M.2.1 pc = .ok (.lload i, 2)) (q : Nat) (hq : lv[q]? = some (i, .long x)) (kk : J M d w (pc + 2) lv (.long x :: st) o w') : J M d w pc lv (st) o w' := by
  intro p l e s m args below meth c A ρ D cy H locs ls C hP hD hS hl
  exact lv_lload C.1 C.2.1 hdg (jl_at hl q hq) (kk p l e s m args below meth c A ρ D cy H locs ls C hP hD hS hl)
theorem jr_aload_n {M : jMM} {d : Nat} {w w' : jWd} {pc : Nat} {lv : List (Nat × Value)} {st : List Value} {o : Option Value} {k : Fin 4} {i : Nat} {x : Nat} 
    (hdg : decode M.2.1 pc = .ok (.aload_n k, 1)) (hi : (k : Nat) = i) (q : Nat) (hq : lv[q]? = some (i, .ref x)) (kk : J M d w (pc + 1) lv (.ref x :: st) o w') : J M d w pc lv (st) o w' := by
  intro p l e s m args below meth c A ρ D cy H locs ls C hP hD hS hl
  exact lv_aload_n C.1 C.2.1 hdg hi (jl_at hl q hq) (kk p l e s m args below meth c A ρ D cy H locs ls C hP hD hS hl)
theorem jr_aload {M : jMM} {d : Nat} {w w' : jWd} {pc : Nat} {lv : List (Nat × Value)} {st : List Value} {o : Option Value} {i : Nat} {x : Nat} 
    (hdg : decode M.2.1 pc = .ok (.aload i, 2)) (q : Nat) (hq : lv[q]? = some (i, .ref x)) (kk : J M d w (pc + 2) lv (.ref x :: st) o w') : J M d w pc lv (st) o w' := by
  intro p l e s m args below meth c A ρ D cy H locs ls C hP hD hS hl
  exact lv_aload C.1 C.2.1 hdg (jl_at hl q hq) (kk p l e s m args below meth c A ρ D cy H locs ls C hP hD hS hl)
theorem jr_istore_n {M : jMM} {d : Nat} {w w' : jWd} {pc : Nat} {lv : List (Nat × Value)} {st : List Value} {o : Option Value} {k : Fin 4} {i : Nat} {x : Int32} {lv' : List (Nat × Value)} 
    (hdg : decode M.2.1 pc = .ok (.istore_n k, 1)) (hi : (k : Nat) = i) (hn : i < M.2.2.1) (hq : js1 lv i (.int x) = lv') (kk : J M d w (pc + 1) lv' st o w') : J M d w pc lv (.int x :: st) o w' := by
  intro p l e s m args below meth c A ρ D cy H locs ls C hP hD hS hl
  exact lv_istore_n (lv' := jl ρ lv') C.1 C.2.1 hdg hi hl hn (by rw [← hq]; exact jl_s1 ρ lv i (.int x)) (fun ls' hl' => kk p l e s m args below meth c A ρ D cy H locs ls' C hP hD hS hl')
theorem jr_istore {M : jMM} {d : Nat} {w w' : jWd} {pc : Nat} {lv : List (Nat × Value)} {st : List Value} {o : Option Value} {i : Nat} {x : Int32} {lv' : List (Nat × Value)} 
    (hdg : decode M.2.1 pc = .ok (.istore i, 2)) (hn : i < M.2.2.1) (hq : js1 lv i (.int x) = lv') (kk : J M d w (pc + 2) lv' st o w') : J M d w pc lv (.int x :: st) o w' := by
  intro p l e s m args below meth c A ρ D cy H locs ls C hP hD hS hl
  exact lv_istore (lv' := jl ρ lv') C.1 C.2.1 hdg hl hn (by rw [← hq]; exact jl_s1 ρ lv i (.int x)) (fun ls' hl' => kk p l e s m args below meth c A ρ D cy H locs ls' C hP hD hS hl')
theorem jr_lstore_n {M : jMM} {d : Nat} {w w' : jWd} {pc : Nat} {lv : List (Nat × Value)} {st : List Value} {o : Option Value} {k : Fin 4} {i : Nat} {x : Int64} {lv' : List (Nat × Value)} 
    (hdg : decode M.2.1 pc = .ok (.lstore_n k, 1)) (hi : (k : Nat) = i) (hn : i + 1 < M.2.2.1) (hq : js2 lv i (.long x) = lv') (kk : J M d w (pc + 1) lv' st o w') : J M d w pc lv (.long x :: st) o w' := by
  intro p l e s m args below meth c A ρ D cy H locs ls C hP hD hS hl
  exact lv_lstore_n (lv' := jl ρ lv') C.1 C.2.1 hdg hi hl hn (by rw [← hq]; exact jl_s2 ρ lv i (.long x)) (fun ls' hl' => kk p l e s m args below meth c A ρ D cy H locs ls' C hP hD hS hl')
theorem jr_lstore {M : jMM} {d : Nat} {w w' : jWd} {pc : Nat} {lv : List (Nat × Value)} {st : List Value} {o : Option Value} {i : Nat} {x : Int64} {lv' : List (Nat × Value)} 
    (hdg : decode M.2.1 pc = .ok (.lstore i, 2)) (hn : i + 1 < M.2.2.1) (hq : js2 lv i (.long x) = lv') (kk : J M d w (pc + 2) lv' st o w') : J M d w pc lv (.long x :: st) o w' := by
  intro p l e s m args below meth c A ρ D cy H locs ls C hP hD hS hl
  exact lv_lstore (lv' := jl ρ lv') C.1 C.2.1 hdg hl hn (by rw [← hq]; exact jl_s2 ρ lv i (.long x)) (fun ls' hl' => kk p l e s m args below meth c A ρ D cy H locs ls' C hP hD hS hl')
theorem jr_astore_n {M : jMM} {d : Nat} {w w' : jWd} {pc : Nat} {lv : List (Nat × Value)} {st : List Value} {o : Option Value} {k : Fin 4} {i : Nat} {x : Nat} {lv' : List (Nat × Value)} 
    (hdg : decode M.2.1 pc = .ok (.astore_n k, 1)) (hi : (k : Nat) = i) (hn : i < M.2.2.1) (hq : js1 lv i (.ref x) = lv') (kk : J M d w (pc + 1) lv' st o w') : J M d w pc lv (.ref x :: st) o w' := by
  intro p l e s m args below meth c A ρ D cy H locs ls C hP hD hS hl
  exact lv_astore_n (lv' := jl ρ lv') C.1 C.2.1 hdg hi hl hn (by rw [← hq]; exact jl_s1 ρ lv i (.ref x)) (fun ls' hl' => kk p l e s m args below meth c A ρ D cy H locs ls' C hP hD hS hl')
theorem jr_astore {M : jMM} {d : Nat} {w w' : jWd} {pc : Nat} {lv : List (Nat × Value)} {st : List Value} {o : Option Value} {i : Nat} {x : Nat} {lv' : List (Nat × Value)} 
    (hdg : decode M.2.1 pc = .ok (.astore i, 2)) (hn : i < M.2.2.1) (hq : js1 lv i (.ref x) = lv') (kk : J M d w (pc + 2) lv' st o w') : J M d w pc lv (.ref x :: st) o w' := by
  intro p l e s m args below meth c A ρ D cy H locs ls C hP hD hS hl
  exact lv_astore (lv' := jl ρ lv') C.1 C.2.1 hdg hl hn (by rw [← hq]; exact jl_s1 ρ lv i (.ref x)) (fun ls' hl' => kk p l e s m args below meth c A ρ D cy H locs ls' C hP hD hS hl')
theorem jr_iinc {M : jMM} {d : Nat} {w w' : jWd} {pc : Nat} {lv : List (Nat × Value)} {st : List Value} {o : Option Value} {i : Nat} {n : Int} {x v : Int32} {lv' : List (Nat × Value)} 
    (hdg : decode M.2.1 pc = .ok (.iinc i n, 3)) (q : Nat) (hq : lv[q]? = some (i, .int x)) (hv : x + Int32.ofInt n = v) (hn : i < M.2.2.1) (hs : js1 lv i (.int v) = lv') (kk : J M d w (pc + 3) lv' st o w') : J M d w pc lv (st) o w' := by
  intro p l e s m args below meth c A ρ D cy H locs ls C hP hD hS hl
  exact lv_iinc (lv' := jl ρ lv') (k := q) (x := x) C.1 C.2.1 hdg hl (by simp [jl, hq, jv]) hv hn (by rw [← hs]; exact jl_s1 ρ lv i (.int v)) (fun ls' hl' => kk p l e s m args below meth c A ρ D cy H locs ls' C hP hD hS hl')
theorem jr_iadd {M : jMM} {d : Nat} {w w' : jWd} {pc : Nat} {lv : List (Nat × Value)} {st : List Value} {o : Option Value} {x y : Int32} 
    (hdg : decode M.2.1 pc = .ok (.iadd, 1)) (kk : J M d w (pc + 1) lv (.int (x + y) :: st) o w') : J M d w pc lv (.int y :: .int x :: st) o w' := by
  intro p l e s m args below meth c A ρ D cy H locs ls C hP hD hS hl
  exact lv_iadd C.1 C.2.1 hdg (kk p l e s m args below meth c A ρ D cy H locs ls C hP hD hS hl)
theorem jr_isub {M : jMM} {d : Nat} {w w' : jWd} {pc : Nat} {lv : List (Nat × Value)} {st : List Value} {o : Option Value} {x y : Int32} 
    (hdg : decode M.2.1 pc = .ok (.isub, 1)) (kk : J M d w (pc + 1) lv (.int (x - y) :: st) o w') : J M d w pc lv (.int y :: .int x :: st) o w' := by
  intro p l e s m args below meth c A ρ D cy H locs ls C hP hD hS hl
  exact lv_isub C.1 C.2.1 hdg (kk p l e s m args below meth c A ρ D cy H locs ls C hP hD hS hl)
theorem jr_imul {M : jMM} {d : Nat} {w w' : jWd} {pc : Nat} {lv : List (Nat × Value)} {st : List Value} {o : Option Value} {x y : Int32} 
    (hdg : decode M.2.1 pc = .ok (.imul, 1)) (kk : J M d w (pc + 1) lv (.int (x * y) :: st) o w') : J M d w pc lv (.int y :: .int x :: st) o w' := by
  intro p l e s m args below meth c A ρ D cy H locs ls C hP hD hS hl
  exact lv_imul C.1 C.2.1 hdg (kk p l e s m args below meth c A ρ D cy H locs ls C hP hD hS hl)
theorem jr_iand {M : jMM} {d : Nat} {w w' : jWd} {pc : Nat} {lv : List (Nat × Value)} {st : List Value} {o : Option Value} {x y : Int32} 
    (hdg : decode M.2.1 pc = .ok (.iand, 1)) (kk : J M d w (pc + 1) lv (.int (x &&& y) :: st) o w') : J M d w pc lv (.int y :: .int x :: st) o w' := by
  intro p l e s m args below meth c A ρ D cy H locs ls C hP hD hS hl
  exact lv_iand C.1 C.2.1 hdg (kk p l e s m args below meth c A ρ D cy H locs ls C hP hD hS hl)
theorem jr_ior {M : jMM} {d : Nat} {w w' : jWd} {pc : Nat} {lv : List (Nat × Value)} {st : List Value} {o : Option Value} {x y : Int32} 
    (hdg : decode M.2.1 pc = .ok (.ior, 1)) (kk : J M d w (pc + 1) lv (.int (x ||| y) :: st) o w') : J M d w pc lv (.int y :: .int x :: st) o w' := by
  intro p l e s m args below meth c A ρ D cy H locs ls C hP hD hS hl
  exact lv_ior C.1 C.2.1 hdg (kk p l e s m args below meth c A ρ D cy H locs ls C hP hD hS hl)
theorem jr_ixor {M : jMM} {d : Nat} {w w' : jWd} {pc : Nat} {lv : List (Nat × Value)} {st : List Value} {o : Option Value} {x y : Int32} 
    (hdg : decode M.2.1 pc = .ok (.ixor, 1)) (kk : J M d w (pc + 1) lv (.int (x ^^^ y) :: st) o w') : J M d w pc lv (.int y :: .int x :: st) o w' := by
  intro p l e s m args below meth c A ρ D cy H locs ls C hP hD hS hl
  exact lv_ixor C.1 C.2.1 hdg (kk p l e s m args below meth c A ρ D cy H locs ls C hP hD hS hl)
theorem jr_ishl {M : jMM} {d : Nat} {w w' : jWd} {pc : Nat} {lv : List (Nat × Value)} {st : List Value} {o : Option Value} {x y : Int32} 
    (hdg : decode M.2.1 pc = .ok (.ishl, 1)) (kk : J M d w (pc + 1) lv (.int (i_shl x y) :: st) o w') : J M d w pc lv (.int y :: .int x :: st) o w' := by
  intro p l e s m args below meth c A ρ D cy H locs ls C hP hD hS hl
  exact lv_ishl C.1 C.2.1 hdg (kk p l e s m args below meth c A ρ D cy H locs ls C hP hD hS hl)
theorem jr_ishr {M : jMM} {d : Nat} {w w' : jWd} {pc : Nat} {lv : List (Nat × Value)} {st : List Value} {o : Option Value} {x y : Int32} 
    (hdg : decode M.2.1 pc = .ok (.ishr, 1)) (kk : J M d w (pc + 1) lv (.int (i_shr x y) :: st) o w') : J M d w pc lv (.int y :: .int x :: st) o w' := by
  intro p l e s m args below meth c A ρ D cy H locs ls C hP hD hS hl
  exact lv_ishr C.1 C.2.1 hdg (kk p l e s m args below meth c A ρ D cy H locs ls C hP hD hS hl)
theorem jr_iushr {M : jMM} {d : Nat} {w w' : jWd} {pc : Nat} {lv : List (Nat × Value)} {st : List Value} {o : Option Value} {x y : Int32} 
    (hdg : decode M.2.1 pc = .ok (.iushr, 1)) (kk : J M d w (pc + 1) lv (.int (i_ushr x y) :: st) o w') : J M d w pc lv (.int y :: .int x :: st) o w' := by
  intro p l e s m args below meth c A ρ D cy H locs ls C hP hD hS hl
  exact lv_iushr C.1 C.2.1 hdg rfl (kk p l e s m args below meth c A ρ D cy H locs ls C hP hD hS hl)
theorem jr_idiv {M : jMM} {d : Nat} {w w' : jWd} {pc : Nat} {lv : List (Nat × Value)} {st : List Value} {o : Option Value} {x y : Int32} 
    (hdg : decode M.2.1 pc = .ok (.idiv, 1)) (hne : ¬ y = 0) (kk : J M d w (pc + 1) lv (.int (x / y) :: st) o w') : J M d w pc lv (.int y :: .int x :: st) o w' := by
  intro p l e s m args below meth c A ρ D cy H locs ls C hP hD hS hl
  exact lv_idiv C.1 C.2.1 hdg hne (kk p l e s m args below meth c A ρ D cy H locs ls C hP hD hS hl)
theorem jr_irem {M : jMM} {d : Nat} {w w' : jWd} {pc : Nat} {lv : List (Nat × Value)} {st : List Value} {o : Option Value} {x y : Int32} 
    (hdg : decode M.2.1 pc = .ok (.irem, 1)) (hne : ¬ y = 0) (kk : J M d w (pc + 1) lv (.int (i_rem x y) :: st) o w') : J M d w pc lv (.int y :: .int x :: st) o w' := by
  intro p l e s m args below meth c A ρ D cy H locs ls C hP hD hS hl
  exact lv_irem C.1 C.2.1 hdg hne (kk p l e s m args below meth c A ρ D cy H locs ls C hP hD hS hl)
theorem jr_ineg {M : jMM} {d : Nat} {w w' : jWd} {pc : Nat} {lv : List (Nat × Value)} {st : List Value} {o : Option Value} {x : Int32} 
    (hdg : decode M.2.1 pc = .ok (.ineg, 1)) (kk : J M d w (pc + 1) lv (.int (-x) :: st) o w') : J M d w pc lv (.int x :: st) o w' := by
  intro p l e s m args below meth c A ρ D cy H locs ls C hP hD hS hl
  exact lv_ineg C.1 C.2.1 hdg (kk p l e s m args below meth c A ρ D cy H locs ls C hP hD hS hl)
theorem jr_ladd {M : jMM} {d : Nat} {w w' : jWd} {pc : Nat} {lv : List (Nat × Value)} {st : List Value} {o : Option Value} {x y : Int64} 
    (hdg : decode M.2.1 pc = .ok (.ladd, 1)) (kk : J M d w (pc + 1) lv (.long (x + y) :: st) o w') : J M d w pc lv (.long y :: .long x :: st) o w' := by
  intro p l e s m args below meth c A ρ D cy H locs ls C hP hD hS hl
  exact lv_ladd C.1 C.2.1 hdg (kk p l e s m args below meth c A ρ D cy H locs ls C hP hD hS hl)
theorem jr_lsub {M : jMM} {d : Nat} {w w' : jWd} {pc : Nat} {lv : List (Nat × Value)} {st : List Value} {o : Option Value} {x y : Int64} 
    (hdg : decode M.2.1 pc = .ok (.lsub, 1)) (kk : J M d w (pc + 1) lv (.long (x - y) :: st) o w') : J M d w pc lv (.long y :: .long x :: st) o w' := by
  intro p l e s m args below meth c A ρ D cy H locs ls C hP hD hS hl
  exact lv_lsub C.1 C.2.1 hdg (kk p l e s m args below meth c A ρ D cy H locs ls C hP hD hS hl)
theorem jr_lmul {M : jMM} {d : Nat} {w w' : jWd} {pc : Nat} {lv : List (Nat × Value)} {st : List Value} {o : Option Value} {x y : Int64} 
    (hdg : decode M.2.1 pc = .ok (.lmul, 1)) (kk : J M d w (pc + 1) lv (.long (x * y) :: st) o w') : J M d w pc lv (.long y :: .long x :: st) o w' := by
  intro p l e s m args below meth c A ρ D cy H locs ls C hP hD hS hl
  exact lv_lmul C.1 C.2.1 hdg (kk p l e s m args below meth c A ρ D cy H locs ls C hP hD hS hl)
theorem jr_land {M : jMM} {d : Nat} {w w' : jWd} {pc : Nat} {lv : List (Nat × Value)} {st : List Value} {o : Option Value} {x y : Int64} 
    (hdg : decode M.2.1 pc = .ok (.land, 1)) (kk : J M d w (pc + 1) lv (.long (x &&& y) :: st) o w') : J M d w pc lv (.long y :: .long x :: st) o w' := by
  intro p l e s m args below meth c A ρ D cy H locs ls C hP hD hS hl
  exact lv_land C.1 C.2.1 hdg (kk p l e s m args below meth c A ρ D cy H locs ls C hP hD hS hl)
theorem jr_lor {M : jMM} {d : Nat} {w w' : jWd} {pc : Nat} {lv : List (Nat × Value)} {st : List Value} {o : Option Value} {x y : Int64} 
    (hdg : decode M.2.1 pc = .ok (.lor, 1)) (kk : J M d w (pc + 1) lv (.long (x ||| y) :: st) o w') : J M d w pc lv (.long y :: .long x :: st) o w' := by
  intro p l e s m args below meth c A ρ D cy H locs ls C hP hD hS hl
  exact lv_lor C.1 C.2.1 hdg (kk p l e s m args below meth c A ρ D cy H locs ls C hP hD hS hl)
theorem jr_lxor {M : jMM} {d : Nat} {w w' : jWd} {pc : Nat} {lv : List (Nat × Value)} {st : List Value} {o : Option Value} {x y : Int64} 
    (hdg : decode M.2.1 pc = .ok (.lxor, 1)) (kk : J M d w (pc + 1) lv (.long (x ^^^ y) :: st) o w') : J M d w pc lv (.long y :: .long x :: st) o w' := by
  intro p l e s m args below meth c A ρ D cy H locs ls C hP hD hS hl
  exact lv_lxor C.1 C.2.1 hdg (kk p l e s m args below meth c A ρ D cy H locs ls C hP hD hS hl)
theorem jr_ldiv {M : jMM} {d : Nat} {w w' : jWd} {pc : Nat} {lv : List (Nat × Value)} {st : List Value} {o : Option Value} {x y : Int64} 
    (hdg : decode M.2.1 pc = .ok (.ldiv, 1)) (hne : ¬ y = 0) (kk : J M d w (pc + 1) lv (.long (x / y) :: st) o w') : J M d w pc lv (.long y :: .long x :: st) o w' := by
  intro p l e s m args below meth c A ρ D cy H locs ls C hP hD hS hl
  exact lv_ldiv C.1 C.2.1 hdg hne (kk p l e s m args below meth c A ρ D cy H locs ls C hP hD hS hl)
theorem jr_lrem {M : jMM} {d : Nat} {w w' : jWd} {pc : Nat} {lv : List (Nat × Value)} {st : List Value} {o : Option Value} {x y : Int64} 
    (hdg : decode M.2.1 pc = .ok (.lrem, 1)) (hne : ¬ y = 0) (kk : J M d w (pc + 1) lv (.long (l_rem x y) :: st) o w') : J M d w pc lv (.long y :: .long x :: st) o w' := by
  intro p l e s m args below meth c A ρ D cy H locs ls C hP hD hS hl
  exact lv_lrem C.1 C.2.1 hdg hne (kk p l e s m args below meth c A ρ D cy H locs ls C hP hD hS hl)
theorem jr_lshl {M : jMM} {d : Nat} {w w' : jWd} {pc : Nat} {lv : List (Nat × Value)} {st : List Value} {o : Option Value} {x : Int64} {y : Int32} 
    (hdg : decode M.2.1 pc = .ok (.lshl, 1)) (kk : J M d w (pc + 1) lv (.long (l_shl x y) :: st) o w') : J M d w pc lv (.int y :: .long x :: st) o w' := by
  intro p l e s m args below meth c A ρ D cy H locs ls C hP hD hS hl
  exact lv_lshl C.1 C.2.1 hdg rfl (kk p l e s m args below meth c A ρ D cy H locs ls C hP hD hS hl)
theorem jr_lshr {M : jMM} {d : Nat} {w w' : jWd} {pc : Nat} {lv : List (Nat × Value)} {st : List Value} {o : Option Value} {x : Int64} {y : Int32} 
    (hdg : decode M.2.1 pc = .ok (.lshr, 1)) (kk : J M d w (pc + 1) lv (.long (l_shr x y) :: st) o w') : J M d w pc lv (.int y :: .long x :: st) o w' := by
  intro p l e s m args below meth c A ρ D cy H locs ls C hP hD hS hl
  exact lv_lshr C.1 C.2.1 hdg rfl (kk p l e s m args below meth c A ρ D cy H locs ls C hP hD hS hl)
theorem jr_lushr {M : jMM} {d : Nat} {w w' : jWd} {pc : Nat} {lv : List (Nat × Value)} {st : List Value} {o : Option Value} {x : Int64} {y : Int32} 
    (hdg : decode M.2.1 pc = .ok (.lushr, 1)) (kk : J M d w (pc + 1) lv (.long (l_ushr x y) :: st) o w') : J M d w pc lv (.int y :: .long x :: st) o w' := by
  intro p l e s m args below meth c A ρ D cy H locs ls C hP hD hS hl
  exact lv_lushr C.1 C.2.1 hdg rfl (kk p l e s m args below meth c A ρ D cy H locs ls C hP hD hS hl)
theorem jr_lcmp {M : jMM} {d : Nat} {w w' : jWd} {pc : Nat} {lv : List (Nat × Value)} {st : List Value} {o : Option Value} {x y : Int64} 
    (hdg : decode M.2.1 pc = .ok (.lcmp, 1)) (kk : J M d w (pc + 1) lv (.int (lg_cmp x y) :: st) o w') : J M d w pc lv (.long y :: .long x :: st) o w' := by
  intro p l e s m args below meth c A ρ D cy H locs ls C hP hD hS hl
  exact W.lcmp C.1 C.2.1 hdg (kk p l e s m args below meth c A ρ D cy H locs ls C hP hD hS hl)
theorem jr_i2l {M : jMM} {d : Nat} {w w' : jWd} {pc : Nat} {lv : List (Nat × Value)} {st : List Value} {o : Option Value} {x : Int32} 
    (hdg : decode M.2.1 pc = .ok (.i2l, 1)) (kk : J M d w (pc + 1) lv (.long (x.toInt64) :: st) o w') : J M d w pc lv (.int x :: st) o w' := by
  intro p l e s m args below meth c A ρ D cy H locs ls C hP hD hS hl
  exact lv_i2l C.1 C.2.1 hdg rfl (kk p l e s m args below meth c A ρ D cy H locs ls C hP hD hS hl)
theorem jr_l2i {M : jMM} {d : Nat} {w w' : jWd} {pc : Nat} {lv : List (Nat × Value)} {st : List Value} {o : Option Value} {x : Int64} 
    (hdg : decode M.2.1 pc = .ok (.l2i, 1)) (kk : J M d w (pc + 1) lv (.int (x.toInt32) :: st) o w') : J M d w pc lv (.long x :: st) o w' := by
  intro p l e s m args below meth c A ρ D cy H locs ls C hP hD hS hl
  exact lv_l2i C.1 C.2.1 hdg rfl (kk p l e s m args below meth c A ρ D cy H locs ls C hP hD hS hl)
theorem jr_i2b {M : jMM} {d : Nat} {w w' : jWd} {pc : Nat} {lv : List (Nat × Value)} {st : List Value} {o : Option Value} {x : Int32} 
    (hdg : decode M.2.1 pc = .ok (.i2b, 1)) (kk : J M d w (pc + 1) lv (.int (x.toInt8.toInt32) :: st) o w') : J M d w pc lv (.int x :: st) o w' := by
  intro p l e s m args below meth c A ρ D cy H locs ls C hP hD hS hl
  exact lv_i2b C.1 C.2.1 hdg rfl (kk p l e s m args below meth c A ρ D cy H locs ls C hP hD hS hl)
theorem jr_i2s {M : jMM} {d : Nat} {w w' : jWd} {pc : Nat} {lv : List (Nat × Value)} {st : List Value} {o : Option Value} {x : Int32} 
    (hdg : decode M.2.1 pc = .ok (.i2s, 1)) (kk : J M d w (pc + 1) lv (.int (x.toInt16.toInt32) :: st) o w') : J M d w pc lv (.int x :: st) o w' := by
  intro p l e s m args below meth c A ρ D cy H locs ls C hP hD hS hl
  exact lv_i2s C.1 C.2.1 hdg rfl (kk p l e s m args below meth c A ρ D cy H locs ls C hP hD hS hl)
theorem jr_i2c {M : jMM} {d : Nat} {w w' : jWd} {pc : Nat} {lv : List (Nat × Value)} {st : List Value} {o : Option Value} {x : Int32} 
    (hdg : decode M.2.1 pc = .ok (.i2c, 1)) (kk : J M d w (pc + 1) lv (.int ((x.toUInt32 % 65536).toInt32) :: st) o w') : J M d w pc lv (.int x :: st) o w' := by
  intro p l e s m args below meth c A ρ D cy H locs ls C hP hD hS hl
  exact lv_i2c C.1 C.2.1 hdg rfl (kk p l e s m args below meth c A ρ D cy H locs ls C hP hD hS hl)
theorem jr_dup {M : jMM} {d : Nat} {w w' : jWd} {pc : Nat} {lv : List (Nat × Value)} {st : List Value} {o : Option Value} {v : Value} 
    (hdg : decode M.2.1 pc = .ok (.dup, 1)) (hv : v.category = 1) (kk : J M d w (pc + 1) lv (v :: v :: st) o w') : J M d w pc lv (v :: st) o w' := by
  intro p l e s m args below meth c A ρ D cy H locs ls C hP hD hS hl
  exact lv_dup C.1 C.2.1 hdg ((jv_cat ρ v).trans hv) (kk p l e s m args below meth c A ρ D cy H locs ls C hP hD hS hl)
theorem jr_pop {M : jMM} {d : Nat} {w w' : jWd} {pc : Nat} {lv : List (Nat × Value)} {st : List Value} {o : Option Value} {v : Value} 
    (hdg : decode M.2.1 pc = .ok (.pop, 1)) (hv : v.category = 1) (kk : J M d w (pc + 1) lv (st) o w') : J M d w pc lv (v :: st) o w' := by
  intro p l e s m args below meth c A ρ D cy H locs ls C hP hD hS hl
  exact lv_pop C.1 C.2.1 hdg ((jv_cat ρ v).trans hv) (kk p l e s m args below meth c A ρ D cy H locs ls C hP hD hS hl)
theorem jr_dup_x1 {M : jMM} {d : Nat} {w w' : jWd} {pc : Nat} {lv : List (Nat × Value)} {st : List Value} {o : Option Value} {v u : Value} 
    (hdg : decode M.2.1 pc = .ok (.dup_x1, 1)) (hv : v.category = 1) (hu : u.category = 1) (kk : J M d w (pc + 1) lv (v :: u :: v :: st) o w') : J M d w pc lv (v :: u :: st) o w' := by
  intro p l e s m args below meth c A ρ D cy H locs ls C hP hD hS hl
  exact lv_dup_x1 C.1 C.2.1 hdg ((jv_cat ρ v).trans hv) ((jv_cat ρ u).trans hu) (kk p l e s m args below meth c A ρ D cy H locs ls C hP hD hS hl)
theorem jr_dup2_11 {M : jMM} {d : Nat} {w w' : jWd} {pc : Nat} {lv : List (Nat × Value)} {st : List Value} {o : Option Value} {v u : Value} 
    (hdg : decode M.2.1 pc = .ok (.dup2, 1)) (hv : v.category = 1) (hu : u.category = 1) (kk : J M d w (pc + 1) lv (v :: u :: v :: u :: st) o w') : J M d w pc lv (v :: u :: st) o w' := by
  intro p l e s m args below meth c A ρ D cy H locs ls C hP hD hS hl
  exact lv_dup2_11 C.1 C.2.1 hdg ((jv_cat ρ v).trans hv) ((jv_cat ρ u).trans hu) (kk p l e s m args below meth c A ρ D cy H locs ls C hP hD hS hl)
theorem jr_dup2_2 {M : jMM} {d : Nat} {w w' : jWd} {pc : Nat} {lv : List (Nat × Value)} {st : List Value} {o : Option Value} {v : Value} 
    (hdg : decode M.2.1 pc = .ok (.dup2, 1)) (hv : v.category = 2) (kk : J M d w (pc + 1) lv (v :: v :: st) o w') : J M d w pc lv (v :: st) o w' := by
  intro p l e s m args below meth c A ρ D cy H locs ls C hP hD hS hl
  exact lv_dup2_2 C.1 C.2.1 hdg ((jv_cat ρ v).trans hv) (kk p l e s m args below meth c A ρ D cy H locs ls C hP hD hS hl)
theorem jr_if_eq {M : jMM} {d : Nat} {w w' : jWd} {pc : Nat} {lv : List (Nat × Value)} {st : List Value} {o : Option Value} {off : Int} {tgt nxt : Nat} {x : Int32} 
    (hdg : decode M.2.1 pc = .ok (.ifCond .eq off, 3)) (ht : (pc : Int) + off = (tgt : Int)) (hn : pc + 3 = nxt) (kt : x = 0 → J M d w tgt lv st o w') (kf : ¬ x = 0 → J M d w nxt lv st o w') : J M d w pc lv (.int x :: st) o w' := by
  subst hn
  intro p l e s m args below meth c A ρ D cy H locs ls C hP hD hS hl
  exact lv_if_eq C.1 C.2.1 hdg ht (fun h => (kt h p l e s m args below meth c A ρ D cy H locs ls C hP hD hS hl)) (fun h => (kf h p l e s m args below meth c A ρ D cy H locs ls C hP hD hS hl))
theorem jr_if_ne {M : jMM} {d : Nat} {w w' : jWd} {pc : Nat} {lv : List (Nat × Value)} {st : List Value} {o : Option Value} {off : Int} {tgt nxt : Nat} {x : Int32} 
    (hdg : decode M.2.1 pc = .ok (.ifCond .ne off, 3)) (ht : (pc : Int) + off = (tgt : Int)) (hn : pc + 3 = nxt) (kt : ¬ x = 0 → J M d w tgt lv st o w') (kf : x = 0 → J M d w nxt lv st o w') : J M d w pc lv (.int x :: st) o w' := by
  subst hn
  intro p l e s m args below meth c A ρ D cy H locs ls C hP hD hS hl
  exact lv_if_ne C.1 C.2.1 hdg ht (fun h => (kt h p l e s m args below meth c A ρ D cy H locs ls C hP hD hS hl)) (fun h => (kf h p l e s m args below meth c A ρ D cy H locs ls C hP hD hS hl))
theorem jr_if_lt {M : jMM} {d : Nat} {w w' : jWd} {pc : Nat} {lv : List (Nat × Value)} {st : List Value} {o : Option Value} {off : Int} {tgt nxt : Nat} {x : Int32} 
    (hdg : decode M.2.1 pc = .ok (.ifCond .lt off, 3)) (ht : (pc : Int) + off = (tgt : Int)) (hn : pc + 3 = nxt) (kt : x < 0 → J M d w tgt lv st o w') (kf : ¬ x < 0 → J M d w nxt lv st o w') : J M d w pc lv (.int x :: st) o w' := by
  subst hn
  intro p l e s m args below meth c A ρ D cy H locs ls C hP hD hS hl
  exact lv_if_lt C.1 C.2.1 hdg ht (fun h => (kt h p l e s m args below meth c A ρ D cy H locs ls C hP hD hS hl)) (fun h => (kf h p l e s m args below meth c A ρ D cy H locs ls C hP hD hS hl))
theorem jr_if_ge {M : jMM} {d : Nat} {w w' : jWd} {pc : Nat} {lv : List (Nat × Value)} {st : List Value} {o : Option Value} {off : Int} {tgt nxt : Nat} {x : Int32} 
    (hdg : decode M.2.1 pc = .ok (.ifCond .ge off, 3)) (ht : (pc : Int) + off = (tgt : Int)) (hn : pc + 3 = nxt) (kt : 0 ≤ x → J M d w tgt lv st o w') (kf : ¬ 0 ≤ x → J M d w nxt lv st o w') : J M d w pc lv (.int x :: st) o w' := by
  subst hn
  intro p l e s m args below meth c A ρ D cy H locs ls C hP hD hS hl
  exact lv_if_ge C.1 C.2.1 hdg ht (fun h => (kt h p l e s m args below meth c A ρ D cy H locs ls C hP hD hS hl)) (fun h => (kf h p l e s m args below meth c A ρ D cy H locs ls C hP hD hS hl))
theorem jr_if_gt {M : jMM} {d : Nat} {w w' : jWd} {pc : Nat} {lv : List (Nat × Value)} {st : List Value} {o : Option Value} {off : Int} {tgt nxt : Nat} {x : Int32} 
    (hdg : decode M.2.1 pc = .ok (.ifCond .gt off, 3)) (ht : (pc : Int) + off = (tgt : Int)) (hn : pc + 3 = nxt) (kt : 0 < x → J M d w tgt lv st o w') (kf : ¬ 0 < x → J M d w nxt lv st o w') : J M d w pc lv (.int x :: st) o w' := by
  subst hn
  intro p l e s m args below meth c A ρ D cy H locs ls C hP hD hS hl
  exact lv_if_gt C.1 C.2.1 hdg ht (fun h => (kt h p l e s m args below meth c A ρ D cy H locs ls C hP hD hS hl)) (fun h => (kf h p l e s m args below meth c A ρ D cy H locs ls C hP hD hS hl))
theorem jr_if_le {M : jMM} {d : Nat} {w w' : jWd} {pc : Nat} {lv : List (Nat × Value)} {st : List Value} {o : Option Value} {off : Int} {tgt nxt : Nat} {x : Int32} 
    (hdg : decode M.2.1 pc = .ok (.ifCond .le off, 3)) (ht : (pc : Int) + off = (tgt : Int)) (hn : pc + 3 = nxt) (kt : x ≤ 0 → J M d w tgt lv st o w') (kf : ¬ x ≤ 0 → J M d w nxt lv st o w') : J M d w pc lv (.int x :: st) o w' := by
  subst hn
  intro p l e s m args below meth c A ρ D cy H locs ls C hP hD hS hl
  exact lv_if_le C.1 C.2.1 hdg ht (fun h => (kt h p l e s m args below meth c A ρ D cy H locs ls C hP hD hS hl)) (fun h => (kf h p l e s m args below meth c A ρ D cy H locs ls C hP hD hS hl))
theorem jr_icmp_eq {M : jMM} {d : Nat} {w w' : jWd} {pc : Nat} {lv : List (Nat × Value)} {st : List Value} {o : Option Value} {off : Int} {tgt nxt : Nat} {x y : Int32} 
    (hdg : decode M.2.1 pc = .ok (.if_icmp .eq off, 3)) (ht : (pc : Int) + off = (tgt : Int)) (hn : pc + 3 = nxt) (kt : x = y → J M d w tgt lv st o w') (kf : ¬ x = y → J M d w nxt lv st o w') : J M d w pc lv (.int y :: .int x :: st) o w' := by
  subst hn
  intro p l e s m args below meth c A ρ D cy H locs ls C hP hD hS hl
  exact lv_icmp_eq C.1 C.2.1 hdg ht (fun h => (kt h p l e s m args below meth c A ρ D cy H locs ls C hP hD hS hl)) (fun h => (kf h p l e s m args below meth c A ρ D cy H locs ls C hP hD hS hl))
theorem jr_icmp_ne {M : jMM} {d : Nat} {w w' : jWd} {pc : Nat} {lv : List (Nat × Value)} {st : List Value} {o : Option Value} {off : Int} {tgt nxt : Nat} {x y : Int32} 
    (hdg : decode M.2.1 pc = .ok (.if_icmp .ne off, 3)) (ht : (pc : Int) + off = (tgt : Int)) (hn : pc + 3 = nxt) (kt : ¬ x = y → J M d w tgt lv st o w') (kf : x = y → J M d w nxt lv st o w') : J M d w pc lv (.int y :: .int x :: st) o w' := by
  subst hn
  intro p l e s m args below meth c A ρ D cy H locs ls C hP hD hS hl
  exact lv_icmp_ne C.1 C.2.1 hdg ht (fun h => (kt h p l e s m args below meth c A ρ D cy H locs ls C hP hD hS hl)) (fun h => (kf h p l e s m args below meth c A ρ D cy H locs ls C hP hD hS hl))
theorem jr_icmp_lt {M : jMM} {d : Nat} {w w' : jWd} {pc : Nat} {lv : List (Nat × Value)} {st : List Value} {o : Option Value} {off : Int} {tgt nxt : Nat} {x y : Int32} 
    (hdg : decode M.2.1 pc = .ok (.if_icmp .lt off, 3)) (ht : (pc : Int) + off = (tgt : Int)) (hn : pc + 3 = nxt) (kt : x < y → J M d w tgt lv st o w') (kf : ¬ x < y → J M d w nxt lv st o w') : J M d w pc lv (.int y :: .int x :: st) o w' := by
  subst hn
  intro p l e s m args below meth c A ρ D cy H locs ls C hP hD hS hl
  exact lv_icmp_lt C.1 C.2.1 hdg ht (fun h => (kt h p l e s m args below meth c A ρ D cy H locs ls C hP hD hS hl)) (fun h => (kf h p l e s m args below meth c A ρ D cy H locs ls C hP hD hS hl))
theorem jr_icmp_ge {M : jMM} {d : Nat} {w w' : jWd} {pc : Nat} {lv : List (Nat × Value)} {st : List Value} {o : Option Value} {off : Int} {tgt nxt : Nat} {x y : Int32} 
    (hdg : decode M.2.1 pc = .ok (.if_icmp .ge off, 3)) (ht : (pc : Int) + off = (tgt : Int)) (hn : pc + 3 = nxt) (kt : y ≤ x → J M d w tgt lv st o w') (kf : ¬ y ≤ x → J M d w nxt lv st o w') : J M d w pc lv (.int y :: .int x :: st) o w' := by
  subst hn
  intro p l e s m args below meth c A ρ D cy H locs ls C hP hD hS hl
  exact lv_icmp_ge C.1 C.2.1 hdg ht (fun h => (kt h p l e s m args below meth c A ρ D cy H locs ls C hP hD hS hl)) (fun h => (kf h p l e s m args below meth c A ρ D cy H locs ls C hP hD hS hl))
theorem jr_icmp_gt {M : jMM} {d : Nat} {w w' : jWd} {pc : Nat} {lv : List (Nat × Value)} {st : List Value} {o : Option Value} {off : Int} {tgt nxt : Nat} {x y : Int32} 
    (hdg : decode M.2.1 pc = .ok (.if_icmp .gt off, 3)) (ht : (pc : Int) + off = (tgt : Int)) (hn : pc + 3 = nxt) (kt : y < x → J M d w tgt lv st o w') (kf : ¬ y < x → J M d w nxt lv st o w') : J M d w pc lv (.int y :: .int x :: st) o w' := by
  subst hn
  intro p l e s m args below meth c A ρ D cy H locs ls C hP hD hS hl
  exact lv_icmp_gt C.1 C.2.1 hdg ht (fun h => (kt h p l e s m args below meth c A ρ D cy H locs ls C hP hD hS hl)) (fun h => (kf h p l e s m args below meth c A ρ D cy H locs ls C hP hD hS hl))
theorem jr_icmp_le {M : jMM} {d : Nat} {w w' : jWd} {pc : Nat} {lv : List (Nat × Value)} {st : List Value} {o : Option Value} {off : Int} {tgt nxt : Nat} {x y : Int32} 
    (hdg : decode M.2.1 pc = .ok (.if_icmp .le off, 3)) (ht : (pc : Int) + off = (tgt : Int)) (hn : pc + 3 = nxt) (kt : x ≤ y → J M d w tgt lv st o w') (kf : ¬ x ≤ y → J M d w nxt lv st o w') : J M d w pc lv (.int y :: .int x :: st) o w' := by
  subst hn
  intro p l e s m args below meth c A ρ D cy H locs ls C hP hD hS hl
  exact lv_icmp_le C.1 C.2.1 hdg ht (fun h => (kt h p l e s m args below meth c A ρ D cy H locs ls C hP hD hS hl)) (fun h => (kf h p l e s m args below meth c A ρ D cy H locs ls C hP hD hS hl))
theorem jr_goto {M : jMM} {d : Nat} {w w' : jWd} {pc : Nat} {lv : List (Nat × Value)} {st : List Value} {o : Option Value} {off : Int} {tgt : Nat} 
    (hdg : decode M.2.1 pc = .ok (.goto off, 3)) (ht : (pc : Int) + off = (tgt : Int)) (kk : J M d w tgt lv st o w') : J M d w pc lv st o w' := by
  intro p l e s m args below meth c A ρ D cy H locs ls C hP hD hS hl
  exact lv_goto C.1 C.2.1 hdg ht (kk p l e s m args below meth c A ρ D cy H locs ls C hP hD hS hl)
theorem jr_tableOut {M : jMM} {d : Nat} {w w' : jWd} {pc : Nat} {lv : List (Nat × Value)} {st : List Value} {o : Option Value} {dflt lo hi : Int} {offs : Array Int} {len : Nat} {x : Int32} {tgt : Nat} 
    (hdg : decode M.2.1 pc = .ok (.tableswitch dflt lo hi offs, len)) (h : x.toInt < lo ∨ hi < x.toInt) (ht : (pc : Int) + dflt = (tgt : Int)) (kk : J M d w tgt lv st o w') : J M d w pc lv (.int x :: st) o w' := by
  intro p l e s m args below meth c A ρ D cy H locs ls C hP hD hS hl
  exact lv_tableOut C.1 C.2.1 hdg h ht (kk p l e s m args below meth c A ρ D cy H locs ls C hP hD hS hl)
theorem jr_tableIn {M : jMM} {d : Nat} {w w' : jWd} {pc : Nat} {lv : List (Nat × Value)} {st : List Value} {o : Option Value} {dflt lo hi : Int} {offs : Array Int} {len : Nat} {x : Int32} {off : Int} {tgt : Nat} 
    (hdg : decode M.2.1 pc = .ok (.tableswitch dflt lo hi offs, len)) (h1 : ¬ x.toInt < lo) (h2 : ¬ hi < x.toInt) (ho : offs[(x.toInt - lo).toNat]? = some off) (ht : (pc : Int) + off = (tgt : Int)) (kk : J M d w tgt lv st o w') : J M d w pc lv (.int x :: st) o w' := by
  intro p l e s m args below meth c A ρ D cy H locs ls C hP hD hS hl
  exact lv_tableIn C.1 C.2.1 hdg h1 h2 ho ht (kk p l e s m args below meth c A ρ D cy H locs ls C hP hD hS hl)
theorem jr_iret {M : jMM} {d : Nat} {w : jWd} {pc : Nat} {lv : List (Nat × Value)} {v : Int32} 
    (hr : M.2.2.2 = some .int) (hdg : decode M.2.1 pc = .ok (.ireturn, 1)) : J M d w pc lv [.int v] (some (.int v)) w := by
  intro p l e s m args below meth c A ρ D cy H locs ls C hP hD hS hl
  exact W.iret C.1 C.2.1 (C.2.2.2.2.2.1.trans hr) (fun t ht hW => ⟨⟨rfl, by rw [ht]; exact hP, hD⟩, hS.F ht⟩) hS.2.2 hdg C.2.2.2.2.2.2.1
theorem jr_zret {M : jMM} {d : Nat} {w : jWd} {pc : Nat} {lv : List (Nat × Value)} {v : Int32} {ty : FieldType} 
    (hr : M.2.2.2 = some ty) (hn : narrow ty (.int v) = .int v) (hdg : decode M.2.1 pc = .ok (.ireturn, 1)) : J M d w pc lv [.int v] (some (.int v)) w := by
  intro p l e s m args below meth c A ρ D cy H locs ls C hP hD hS hl
  exact W.zret C.1 C.2.1 (C.2.2.2.2.2.1.trans hr) hn (fun t ht hW => ⟨⟨rfl, by rw [ht]; exact hP, hD⟩, hS.F ht⟩) hS.2.2 hdg C.2.2.2.2.2.2.1
theorem W.bret {p : Program} {l : Launch} {e : Env} {R : Room} {s : State} {m : MethodId} {args : Array Value} {below : List Frame} {meth : Method} {c : Code} {H : Heap} {locs : List Loc} {cells slots : Nat} {cc : ByteArray} {Qc : Array Value → State → Outcome → State → Prop} {free : Addr → Prop} {v : Int32} (hexec : p.tables.exec = Jvm.exec) (hb : c.code = cc) (hr : meth.sig.returnType = some .boolean)
    (hq : ∀ t : State, t.heap = H → s.WarmedH t.vm → Qc args s (.returned (some (.int (v &&& 1)))) t) (hf : ∀ q ∈ locs, free q.base)
    {pc : Nat} {ls : Array Slot} (hdg : decode cc pc = .ok (.ireturn, 1)) (hlocks : meth.locks = false) : W p l e R s m args below meth c H locs cells slots (MQ below Qc args s cells slots free) (F0 m pc ls [.int v]) := by
  intro T hT X
  have hlocks : meth.locks = false := hlocks
  obtain ⟨fs, hret, hrun, hended, hW, hframe⟩ := X.leave (v := some (.int (v &&& 1))) (fun h => by rw [hr] at h; cases h)
  have hmeth' : T.vm.method? m = some meth := X.method'
  refine ⟨T.setFrames fs, ?_, .returned (some (.int (v &&& 1))), hrun, hended, hq _ hT hW, locs, ⟨⟨_, rfl⟩, hW, hframe⟩, hf⟩
  jvm_step X.here [X.here.top, hexec, hb, hdg, hmeth', hr, narrow]
  (try refine ⟨rfl, ?_⟩); (try refine ⟨rfl, ?_⟩)
  first | (intro acts; rw [hret _ acts rfl rfl rfl]) | rw [hret _ _ rfl rfl rfl]
  exact Steps.refl _
theorem jr_bret {M : jMM} {d : Nat} {w : jWd} {pc : Nat} {lv : List (Nat × Value)} {v : Int32} 
    (hr : M.2.2.2 = some .boolean) (hdg : decode M.2.1 pc = .ok (.ireturn, 1)) : J M d w pc lv [.int v] (some (.int (v &&& 1))) w := by
  intro p l e s m args below meth c A ρ D cy H locs ls C hP hD hS hl
  exact W.bret C.1 C.2.1 (C.2.2.2.2.2.1.trans hr) (fun t ht hW => ⟨⟨rfl, by rw [ht]; exact hP, hD⟩, hS.F ht⟩) hS.2.2 hdg C.2.2.2.2.2.2.1
theorem jr_lret {M : jMM} {d : Nat} {w : jWd} {pc : Nat} {lv : List (Nat × Value)} {v : Int64} 
    (hr : M.2.2.2 = some .long) (hdg : decode M.2.1 pc = .ok (.lreturn, 1)) : J M d w pc lv [.long v] (some (.long v)) w := by
  intro p l e s m args below meth c A ρ D cy H locs ls C hP hD hS hl
  exact W.lret C.1 C.2.1 (C.2.2.2.2.2.1.trans hr) (fun t ht hW => ⟨⟨rfl, by rw [ht]; exact hP, hD⟩, hS.F ht⟩) hS.2.2 hdg C.2.2.2.2.2.2.1
theorem jr_vret {M : jMM} {d : Nat} {w : jWd} {pc : Nat} {lv : List (Nat × Value)} 
    (hr : M.2.2.2 = none) (hdg : decode M.2.1 pc = .ok (.return_, 1)) : J M d w pc lv [] none w := by
  intro p l e s m args below meth c A ρ D cy H locs ls C hP hD hS hl
  exact W.vret C.1 C.2.1 (C.2.2.2.2.2.1.trans hr) (fun t ht hW => ⟨⟨rfl, by rw [ht]; exact hP, hD⟩, hS.F ht⟩) hS.2.2 hdg C.2.2.2.2.2.2.1
theorem jr_aret {M : jMM} {d : Nat} {w : jWd} {pc : Nat} {lv : List (Nat × Value)} {a : Nat} {rt : FieldType} 
    (hr : M.2.2.2 = some rt) (hrt : (∃ n, rt = .object n) ∨ ∃ t, rt = .array t) (hdg : decode M.2.1 pc = .ok (.areturn, 1)) : J M d w pc lv [.ref a] (some (.ref a)) w := by
  intro p l e s m args below meth c A ρ D cy H locs ls C hP hD hS hl
  exact W.aret C.1 C.2.1 (C.2.2.2.2.2.1.trans hr) hrt (Or.inr ⟨_, rfl⟩) (fun t ht hW => ⟨⟨rfl, by rw [ht]; exact hP, hD⟩, hS.F ht⟩) hS.2.2 hdg C.2.2.2.2.2.2.1
