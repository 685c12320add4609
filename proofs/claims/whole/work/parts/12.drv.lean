/-! ROWS by which a generated proof goes along with its function: names for values and worlds, guards, calls, loops -/
def letV {α β : Type} (a : α) (f : α → β) : β := f a
def bO {α β : Type} (x : Option α) (f : α → Option β) : Option β := match x with
  | none => none
  | some a => f a
def bO2 {α β : Type} (x : Option (α × jWd)) (f : α → jWd → Option β) : Option β := match x with
  | none => none
  | some a => f a.1 a.2
def grd {α : Type} (i : Int32) (n : Nat) (x : Option α) : Option α := if i < 0 ∨ n ≤ i.toNatClampNeg then none else x
def grzi {α : Type} (y : Int32) (x : Option α) : Option α := if y = 0 then none else x
def grzl {α : Type} (y : Int64) (x : Option α) : Option α := if y = 0 then none else x
def gcO (sp dp n : Int32) (n0 n1 : Nat) : Prop := ¬ sp < 0 ∧ ¬ dp < 0 ∧ ¬ n < 0 ∧ sp.toNatClampNeg + n.toNatClampNeg ≤ n0 ∧ dp.toNatClampNeg + n.toNatClampNeg ≤ n1
def grc {α : Type} (sp dp n : Int32) (n0 n1 : Nat) (x : Option α) : Option α := if ¬ sp < 0 ∧ ¬ dp < 0 ∧ ¬ n < 0 ∧ sp.toNatClampNeg + n.toNatClampNeg ≤ n0 ∧ dp.toNatClampNeg + n.toNatClampNeg ≤ n1 then x else none
def cpI (w : jWd) (a : Nat) (sp : Nat) (b : Nat) (dp n : Nat) : jWd := (fun c k => if c = b then va_cpy (wI w a) (wI w b) sp dp n k else w.1 c k, w.2)
def cpJ (w : jWd) (a : Nat) (sp : Nat) (b : Nat) (dp n : Nat) : jWd := (w.1, fun c k => if c = b then va_cpy (wJ w a) (wJ w b) sp dp n k else w.2 c k)
def imax (x y : Int32) : Int32 := if x < y then y else x
def imin (x y : Int32) : Int32 := if y < x then y else x
def lmax (x y : Int64) : Int64 := if y < x then x else y
/-- String constants: length, the char at a place -/
def strN (i : Nat) : Nat := jsL.getD i 0
def strL (i : Nat) : Int32 := nI (strN i)
def strC (i : Nat) (k : Int32) : Int32 := (jsB.getD i []).getD k.toNatClampNeg 0
theorem drvL {α β : Type} {a x : α} {f : α → β} {r : β} (e : x = a) (h : letV a f = r) : f x = r := by
  subst e
  exact h
theorem drvF {α β : Type} {a : α} {f : α → β} {r : β} (h : letV a f = r) : ∃ x, x = a ∧ f x = r := ⟨a, rfl, h⟩
theorem drvT {α : Type} {c : Prop} [Decidable c] {a b r : α} (hc : c) (h : (if c then a else b) = r) : a = r := by
  rwa [if_pos hc] at h
theorem drvE {α : Type} {c : Prop} [Decidable c] {a b r : α} (hc : ¬ c) (h : (if c then a else b) = r) : b = r := by
  rwa [if_neg hc] at h
theorem drvB {α β : Type} {x : Option α} {f : α → Option β} {r : β} (h : bO x f = some r) : ∃ a, x = some a ∧ f a = some r := by
  cases x with
  | none => cases h
  | some a => exact ⟨a, rfl, h⟩
theorem drvB2 {α β : Type} {x : Option (α × jWd)} {f : α → jWd → Option β} {r : β} (h : bO2 x f = some r) : ∃ a w, x = some (a, w) ∧ f a w = some r := by
  cases x with
  | none => cases h
  | some a => exact ⟨a.1, a.2, rfl, h⟩
theorem drvS1 {α : Type} {a r : α} (h : some a = some r) : r = a := (Option.some.inj h).symm
theorem drvS2 {α β : Type} {a r : α} {b s : β} (h : some (a, b) = some (r, s)) : r = a ∧ s = b := by
  have h := Option.some.inj h
  exact ⟨(congrArg Prod.fst h).symm, (congrArg Prod.snd h).symm⟩
theorem drvG {α : Type} {i : Int32} {n : Nat} {x : Option α} {r : α} (h : grd i n x = some r) : vp_in i n ∧ x = some r := by
  unfold grd at h
  by_cases c : i < 0 ∨ n ≤ i.toNatClampNeg
  · rw [if_pos c] at h; cases h
  · rw [if_neg c] at h; exact ⟨c, h⟩
theorem drvZi {α : Type} {y : Int32} {x : Option α} {r : α} (h : grzi y x = some r) : ¬ y = 0 ∧ x = some r := by
  unfold grzi at h
  by_cases c : y = 0
  · rw [if_pos c] at h; cases h
  · rw [if_neg c] at h; exact ⟨c, h⟩
theorem drvZl {α : Type} {y : Int64} {x : Option α} {r : α} (h : grzl y x = some r) : ¬ y = 0 ∧ x = some r := by
  unfold grzl at h
  by_cases c : y = 0
  · rw [if_pos c] at h; cases h
  · rw [if_neg c] at h; exact ⟨c, h⟩
theorem drvC {α : Type} {sp dp n : Int32} {n0 n1 : Nat} {x : Option α} {r : α} (h : grc sp dp n n0 n1 x = some r) : gcO sp dp n n0 n1 ∧ x = some r := by
  unfold grc at h
  by_cases c : ¬ sp < 0 ∧ ¬ dp < 0 ∧ ¬ n < 0 ∧ sp.toNatClampNeg + n.toNatClampNeg ≤ n0 ∧ dp.toNatClampNeg + n.toNatClampNeg ≤ n1
  · rw [if_pos c] at h; exact ⟨c, h⟩
  · rw [if_neg c] at h; cases h
theorem vp_lit {k n : Nat} (h : k < n) (hn : k < 2147483648) : vp_in (Int32.ofNat k) n := by
  intro q
  have e : (Int32.ofNat k).toNatClampNeg = k := nI_clamp hn
  rcases q with q | q
  · exact absurd q (nI_pos hn)
  · omega
section JDRV
variable {M : jMM} {d : Nat} {w w' : jWd} {pc : Nat} {lv : List (Nat × Value)} {st : List Value} {o : Option Value}
theorem j_nmi {x : Int32} (kk : ∀ y : Int32, y = x → J M d w pc lv (.int y :: st) o w') : J M d w pc lv (.int x :: st) o w' := kk x rfl
theorem j_nml {x : Int64} (kk : ∀ y : Int64, y = x → J M d w pc lv (.long y :: st) o w') : J M d w pc lv (.long x :: st) o w' := kk x rfl
theorem j_nma {x : Nat} (kk : ∀ y : Nat, y = x → J M d w pc lv (.ref y :: st) o w') : J M d w pc lv (.ref x :: st) o w' := kk x rfl
theorem j_nmw (kk : ∀ u : jWd, u = w → J M d u pc lv st o w') : J M d w pc lv st o w' := kk w rfl
theorem jr_sub (ks : List Nat) {lv' : List (Nat × Value)} (hs : lv_pick lv ks = lv') (kk : J M d w pc lv' st o w') : J M d w pc lv st o w' := by
  intro p l e s m args below meth c A ρ D cy H locs ls C hP hD hS hl
  refine kk p l e s m args below meth c A ρ D cy H locs ls C hP hD hS (lv_sub hl ks ?_)
  rw [← hs]
  simp only [lv_pick, jl, List.map_filterMap]
  congr 1
  funext k
  simp
theorem jr_iincN {i : Nat} {n : Int} {x c : Int32} {lv' : Int32 → List (Nat × Value)} (hdg : decode M.2.1 pc = .ok (.iinc i n, 3)) (hc : Int32.ofInt n = c) (q : Nat) (hq : lv[q]? = some (i, .int x)) (hn : i < M.2.2.1) (hs : ∀ v, js1 lv i (.int v) = lv' v) (kk : ∀ v : Int32, v = x + c → J M d w (pc + 3) (lv' v) st o w') : J M d w pc lv st o w' :=
  jr_iinc hdg q hq (by rw [hc]) hn (hs _) (kk _ rfl)
theorem jr_tableK {dflt lo hi : Int} {offs : Array Int} {len : Nat} {x k : Int32} {off : Int} {tgt : Nat} (hdg : decode M.2.1 pc = .ok (.tableswitch dflt lo hi offs, len)) (hx : x = k) (h1 : ¬ k.toInt < lo) (h2 : ¬ hi < k.toInt) (ho : offs[(k.toInt - lo).toNat]? = some off) (ht : (pc : Int) + off = (tgt : Int)) (kk : J M d w tgt lv st o w') : J M d w pc lv (.int x :: st) o w' := by
  subst hx
  exact jr_tableIn hdg h1 h2 ho ht kk
theorem jr_alenL {c q : Nat} {v : Int32} (hkd : kd c = q) (h1 : 12 ≤ q) (h2 : q < 16) (hv : Int32.ofNat (ln c) = v) (hdg : decode M.2.1 pc = .ok (.arraylength, 1)) (kk : J M d w (pc + 1) lv (.int v :: st) o w') : J M d w pc lv (.ref c :: st) o w' := by
  subst hv
  exact jr_alen hkd h1 h2 hdg kk
theorem jr_ialdL {c k : Nat} {i : Int32} (hkd : kd c = 13) (hin : vp_in i (ln c)) (hk : i.toNatClampNeg = k) (hdg : decode M.2.1 pc = .ok (.iaload, 1)) (kk : J M d w (pc + 1) lv (.int (wI w c k) :: st) o w') : J M d w pc lv (.int i :: .ref c :: st) o w' := by
  subst hk
  exact jr_iald hkd hin hdg kk
theorem jr_zaldL {c k : Nat} {i : Int32} (hkd : kd c = 15) (hin : vp_in i (ln c)) (hk : i.toNatClampNeg = k) (hdg : decode M.2.1 pc = .ok (.baload, 1)) (kk : J M d w (pc + 1) lv (.int (wI w c k) :: st) o w') : J M d w pc lv (.int i :: .ref c :: st) o w' := by
  subst hk
  exact jr_zald hkd hin hdg kk
theorem jr_laldL {c k : Nat} {i : Int32} (hkd : kd c = 14) (hin : vp_in i (ln c)) (hk : i.toNatClampNeg = k) (hdg : decode M.2.1 pc = .ok (.laload, 1)) (kk : J M d w (pc + 1) lv (.long (wJ w c k) :: st) o w') : J M d w pc lv (.int i :: .ref c :: st) o w' := by
  subst hk
  exact jr_lald hkd hin hdg kk
theorem jr_iastL {c k : Nat} {i x : Int32} (hkd : kd c = 13) (hin : vp_in i (ln c)) (hk : i.toNatClampNeg = k) (hdg : decode M.2.1 pc = .ok (.iastore, 1)) (kk : J M d (sI w c k x) (pc + 1) lv st o w') : J M d w pc lv (.int x :: .int i :: .ref c :: st) o w' := by
  subst hk
  exact jr_iast hkd hin hdg kk
theorem jr_lastL {c k : Nat} {i : Int32} {x : Int64} (hkd : kd c = 14) (hin : vp_in i (ln c)) (hk : i.toNatClampNeg = k) (hdg : decode M.2.1 pc = .ok (.lastore, 1)) (kk : J M d (sJ w c k x) (pc + 1) lv st o w') : J M d w pc lv (.long x :: .int i :: .ref c :: st) o w' := by
  subst hk
  exact jr_last hkd hin hdg kk
section JCALLS
variable {index n d' : Nat} {y : MethodName} {M' : jMM} {as : List Value} {v : Value} {w1 : jWd} {st' : List Value}
theorem j_callSv (hl : jLk M.1 index y M' n) (hs : Cond.static y ∈ jT) (hM : JM y M' d' as w (some v) w1) (hd : d' + 1 ≤ d) (hst : st = as.reverse ++ st') (hn : as.length = n) (hW : (st'.map fun v => v.category).sum ≤ 8) (hdg : decode M.2.1 pc = .ok (.invokestatic index, 3)) (kk : J M d w1 (pc + 3) lv (v :: st') o w') : J M d w pc lv st o w' := j_callS hl hs hM hd hst hn hW hdg kk
theorem j_callSn (hl : jLk M.1 index y M' n) (hs : Cond.static y ∈ jT) (hM : JM y M' d' as w none w1) (hd : d' + 1 ≤ d) (hst : st = as.reverse ++ st') (hn : as.length = n) (hW : (st'.map fun v => v.category).sum ≤ 8) (hdg : decode M.2.1 pc = .ok (.invokestatic index, 3)) (kk : J M d w1 (pc + 3) lv st' o w') : J M d w pc lv st o w' := j_callS hl hs hM hd hst hn hW hdg kk
variable {b q N : Nat} {T : u_T}
theorem j_callVv (hl : jLk M.1 index y M' n) (hi : Cond.instanceMethod y ∈ jT) (hs : Cond.selects y.cls y y ∈ jT) (hkd : kd b = q) (hq : q < 12) (hcl : jcl[q]? = some (y.cls, T, N)) (hM : JM y M' d' (.ref b :: as) w (some v) w1) (hd : d' + 1 ≤ d) (hst : st = as.reverse ++ .ref b :: st') (hn : as.length = n) (hW : (st'.map fun v => v.category).sum ≤ 8) (hdg : decode M.2.1 pc = .ok (.invokevirtual index, 3)) (kk : J M d w1 (pc + 3) lv (v :: st') o w') : J M d w pc lv st o w' := j_callV hl hi hs hkd hq hcl hM hd hst hn hW hdg kk
theorem j_callVn (hl : jLk M.1 index y M' n) (hi : Cond.instanceMethod y ∈ jT) (hs : Cond.selects y.cls y y ∈ jT) (hkd : kd b = q) (hq : q < 12) (hcl : jcl[q]? = some (y.cls, T, N)) (hM : JM y M' d' (.ref b :: as) w none w1) (hd : d' + 1 ≤ d) (hst : st = as.reverse ++ .ref b :: st') (hn : as.length = n) (hW : (st'.map fun v => v.category).sum ≤ 8) (hdg : decode M.2.1 pc = .ok (.invokevirtual index, 3)) (kk : J M d w1 (pc + 3) lv st' o w') : J M d w pc lv st o w' := j_callV hl hi hs hkd hq hcl hM hd hst hn hW hdg kk
end JCALLS
end JDRV
