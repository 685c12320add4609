/-! THE LAW FROM ITS ENTRY: what the Statement gives of the start, both constructors, the loop -/
def jtm (i : Nat) : Term := Term.string (jsT.getD i ("", 0, "")).1 (jsT.getD i ("", 0, "")).2.1
theorem jx_flat {args : Array Value} {s : State} (hg : (Jvm.Cond.and given_1 narrow_1).before args s = true) {w : Cond} (hw : (flatC (Jvm.Cond.and given_1 narrow_1)).contains w = true) : w.before args s = true :=
  flat_of_before _ hg w (List.contains_iff_mem.mp hw)
theorem jx_ex : ∀ i, i < jsN → (flatC (Jvm.Cond.and given_1 narrow_1)).contains (Cond.exactly (jtm i) "java/lang/String") = true := by decide +kernel
theorem jx_co : ∀ i, i < jsN → (flatC (Jvm.Cond.and given_1 narrow_1)).contains (Cond.eq (.field (jtm i) "java/lang/String" "coder" "B") (.int 0)) = true := by decide +kernel
theorem jx_ar : ∀ i, i < jsN → (flatC (Jvm.Cond.and given_1 narrow_1)).contains (Cond.arrayOf (.field (jtm i) "java/lang/String" "value" "[B") .byte) = true := by decide +kernel
theorem jx_le : ∀ i, i < jsN → (flatC (Jvm.Cond.and given_1 narrow_1)).contains (Cond.eq (.length (.field (jtm i) "java/lang/String" "value" "[B")) (.int (Int32.ofNat (jsL.getD i 0)))) = true := by decide +kernel
theorem jx_el : ∀ i, i < jsN → ∀ j, j < jsL.getD i 0 → (flatC (Jvm.Cond.and given_1 narrow_1)).contains (Cond.eq (.elem (.field (jtm i) "java/lang/String" "value" "[B") (.int (Int32.ofNat j))) (.int ((jsB.getD i []).getD j 0))) = true := by decide +kernel
def jx_pos : List (List Nat) := [[9999, 25, 32, 41, 51, 62, 75, 89, 104, 120, 139, 156, 174, 251], [9999, 9999, 33, 42, 52, 63, 76, 90, 105, 121, 140, 157, 175, 252], [9999, 9999, 9999, 43, 53, 64, 77, 91, 106, 122, 141, 158, 176, 253], [9999, 9999, 9999, 9999, 54, 65, 78, 92, 107, 123, 142, 159, 177, 254], [9999, 9999, 9999, 9999, 9999, 66, 79, 93, 108, 124, 143, 160, 178, 255], [9999, 9999, 9999, 9999, 9999, 9999, 80, 94, 109, 125, 144, 161, 179, 256], [9999, 9999, 9999, 9999, 9999, 9999, 9999, 95, 110, 126, 145, 162, 180, 257], [9999, 9999, 9999, 9999, 9999, 9999, 9999, 9999, 111, 127, 146, 163, 181, 258], [9999, 9999, 9999, 9999, 9999, 9999, 9999, 9999, 9999, 128, 147, 164, 182, 259], [9999, 9999, 9999, 9999, 9999, 9999, 9999, 9999, 9999, 9999, 148, 165, 183, 260], [9999, 9999, 9999, 9999, 9999, 9999, 9999, 9999, 9999, 9999, 9999, 166, 184, 261], [9999, 9999, 9999, 9999, 9999, 9999, 9999, 9999, 9999, 9999, 9999, 9999, 185, 262], [9999, 9999, 9999, 9999, 9999, 9999, 9999, 9999, 9999, 9999, 9999, 9999, 9999, 263], [9999, 9999, 9999, 9999, 9999, 9999, 9999, 9999, 9999, 9999, 9999, 9999, 9999, 9999]]
theorem jx_ne0 : ∀ i, i < jsN → ∀ j, j < jsN → ((jx_pos.getD i []).getD j 0 = 9999 ∨ (flatC (Jvm.Cond.and given_1 narrow_1))[(jx_pos.getD i []).getD j 0]? = some (Cond.not (Cond.eq (jtm i) (jtm j)))) := by decide +kernel
theorem jx_ne1 : ∀ i, i < jsN → ∀ j, j < jsN → i ≠ j → ¬ (jx_pos.getD i []).getD j 0 = 9999 ∨ ¬ (jx_pos.getD j []).getD i 0 = 9999 := by decide +kernel
theorem jx_ne {args : Array Value} {s : State} (hg : (Jvm.Cond.and given_1 narrow_1).before args s = true) {i j : Nat} (hi : i < jsN) (hj : j < jsN) (hne : i ≠ j) : (Cond.not (Cond.eq (jtm i) (jtm j))).before args s = true ∨ (Cond.not (Cond.eq (jtm j) (jtm i))).before args s = true := by
  rcases jx_ne1 i hi j hj hne with h | h
  · exact Or.inl (flat_of_before _ hg _ (List.mem_of_getElem? ((jx_ne0 i hi j hj).resolve_left h)))
  · exact Or.inr (flat_of_before _ hg _ (List.mem_of_getElem? ((jx_ne0 j hj i hi).resolve_left h)))
theorem jx_cs : (flatC (Jvm.Cond.and given_1 narrow_1)).contains (Cond.eq (.static "java/lang/String" "COMPACT_STRINGS" "Z") (.int 1)) = true := by decide +kernel
theorem jx_sio : (flatC (Jvm.Cond.and given_1 narrow_1)).contains (Cond.isRef (.static "jdk/internal/util/Preconditions" "SIOOBE_FORMATTER" "Ljava/util/function/BiFunction;")) = true := by decide +kernel
theorem jx_sr : ∀ i, i < jsN → lw_tbl.contains (Cond.stringRef (jsT.getD i ("", 0, "")).1 (jsT.getD i ("", 0, "")).2.1 (jsT.getD i ("", 0, "")).2.2) = true := by decide +kernel
theorem jx_nw : ∀ i, i < 8 → lw_tbl.contains (Cond.methodLinkNest (jNw.getD i ("", 0, ⟨"", "", ""⟩, "")).1 (jNw.getD i ("", 0, ⟨"", "", ""⟩, "")).2.1 (jNw.getD i ("", 0, ⟨"", "", ""⟩, "")).2.2.1 (jNw.getD i ("", 0, ⟨"", "", ""⟩, "")).2.2.2) = true := by decide +kernel
theorem jx_ls1 : lw_tbl.contains (Cond.laysStatic "java/lang/String" "COMPACT_STRINGS" "Z") = true := by decide +kernel
theorem jx_ls2 : lw_tbl.contains (Cond.laysStatic "jdk/internal/util/Preconditions" "SIOOBE_FORMATTER" "Ljava/util/function/BiFunction;") = true := by decide +kernel
theorem jx_in1 : lw_tbl.contains (Cond.initialized "java/lang/String") = true := by decide +kernel
theorem jx_in2 : lw_tbl.contains (Cond.initialized "jdk/internal/util/Preconditions") = true := by decide +kernel
theorem jx_strings {args : Array Value} {s : State} {A : Nat → Prop} (hg : (Jvm.Cond.and given_1 narrow_1).before args s = true) (hA : ∀ a : Nat, a < s.heap.size → ¬ A a) :
    ∃ adK adV : Nat → Nat, vk_S jsN jsL jsB adK adV A s s.heap ∧ ∀ i : Nat, i < jsN → (jtm i).eval args s none [] s = some (.ref (adK i)) :=
  vk_Sof (tm := jtm) (fun i hi => (str_all i hi).1) (fun i hi => jx_flat hg (jx_ex i hi)) (fun i hi => jx_flat hg (jx_co i hi)) (fun i hi => jx_flat hg (jx_ar i hi)) (fun i hi => jx_flat hg (jx_le i hi)) (fun i hi j hj => jx_flat hg (jx_el i hi j hj)) (fun i j hi hj hne => jx_ne hg hi hj hne) hA
theorem jx_known {args : Array Value} {s : State} (hts : ∀ w ∈ lw_tbl, w.before args s = true) : ∃ D : va_G, ∀ (k : Nat) (q : vw_C), jcl[k]? = some q → u_Kn s q.1 q.2.1 q.2.2 (D.1 k) (D.2 k) := by
  have hall : ∀ k : Nat, ∃ z : ClassId × (Nat → Nat), ∀ q : vw_C, jcl[k]? = some q → u_Kn s q.1 q.2.1 q.2.2 z.1 z.2 := by
    intro k
    have kn : ∀ (C : String) (T : u_T) (N n : Nat), (∀ w ∈ u_ws C T N, w ∈ jT) → Cond.instantiable C n ∈ jT → ∃ z : ClassId × (Nat → Nat), u_Kn s C T N z.1 z.2 := by
      intro C T N n h1 h2
      obtain ⟨c, i, h⟩ := u_known (C := C) (T := T) (N := N) (n := n) hts (fun w hw => (List.mem_filter.mp (h1 w hw)).1) (hts _ (List.mem_filter.mp h2).1)
      exact ⟨(c, i), h⟩
    match k with
    | 0 => obtain ⟨z, h⟩ := kn RX0 TX0 7 7 in_X0 xIN_X0; exact ⟨z, fun q hq => by cases hq; exact h⟩
    | 1 => obtain ⟨z, h⟩ := kn RX1 TX1 8 8 in_X1 xIN_X1; exact ⟨z, fun q hq => by cases hq; exact h⟩
    | 2 => obtain ⟨z, h⟩ := kn RX2 TX2 6 6 in_X2 xIN_X2; exact ⟨z, fun q hq => by cases hq; exact h⟩
    | 3 => obtain ⟨z, h⟩ := kn RX3 TX3 5 5 in_X3 xIN_X3; exact ⟨z, fun q hq => by cases hq; exact h⟩
    | 4 => obtain ⟨z, h⟩ := kn RX5 TX5 9 9 in_X5 xIN_X5; exact ⟨z, fun q hq => by cases hq; exact h⟩
    | 5 => obtain ⟨z, h⟩ := kn RX6 TX6 9 9 in_X6 xIN_X6; exact ⟨z, fun q hq => by cases hq; exact h⟩
    | 6 => obtain ⟨z, h⟩ := kn RX7 TX7 3 3 in_X7 xIN_X7; exact ⟨z, fun q hq => by cases hq; exact h⟩
    | 7 => obtain ⟨z, h⟩ := kn RX8 TX8 13 13 in_X8 xIN_X8; exact ⟨z, fun q hq => by cases hq; exact h⟩
    | 8 => obtain ⟨z, h⟩ := kn RX9 TX9 9 9 in_X9 xIN_X9; exact ⟨z, fun q hq => by cases hq; exact h⟩
    | 9 => obtain ⟨z, h⟩ := kn RX10 TX10 6 6 in_X10 xIN_X10; exact ⟨z, fun q hq => by cases hq; exact h⟩
    | 10 => obtain ⟨z, h⟩ := kn RX11 TX11 11 11 in_X11 xIN_X11; exact ⟨z, fun q hq => by cases hq; exact h⟩
    | 11 => obtain ⟨z, h⟩ := kn RX12 TX12 38 38 in_X12 xIN_X12; exact ⟨z, fun q hq => by cases hq; exact h⟩
    | k + 12 => exact ⟨(0, fun _ => 0), fun q hq => by cases hq⟩
  obtain ⟨f, hf⟩ := Classical.axiomOfChoice hall
  exact ⟨(fun k => (f k).1, fun k => (f k).2), hf⟩
theorem jx_arr {args : Array Value} {s : State} {ty : FieldType} (h : (Cond.arrayClass ty).before args s = true) : ∃ cA : ClassId, ArrOfT s cA ty ∧ s.vm.findClass ("[" ++ ty.toString) = some cA := by
  obtain ⟨c, k, comp, h1, h2, h3⟩ := Cond.arrayClass_spec h
  exact ⟨c, fun n z => ⟨fun k h => (by cases h), k, h2, comp, h3⟩, h1⟩
theorem jx_cy {args : Array Value} {s : State} (hT : ∀ w ∈ jT, w.before args s = true) : ∃ cy : Nat → ClassId, ∀ (k : Nat) (q : ClassId × FieldType), (jty cy)[k]? = some q → ArrOfT s q.1 q.2 ∧ va_RA s q.1 q.2 := by
  obtain ⟨c0, a0, b0⟩ := jx_arr (hT _ wAC_byte)
  obtain ⟨c1, a1, b1⟩ := jx_arr (hT _ wAC_int)
  obtain ⟨c2, a2, b2⟩ := jx_arr (hT _ wAC_long)
  obtain ⟨c3, a3, b3⟩ := jx_arr (hT _ wAC_boolean)
  refine ⟨fun k => if k = 0 then c0 else if k = 1 then c1 else if k = 2 then c2 else c3, fun k q hq => ?_⟩
  match k, hq with
  | 0, hq => cases hq; exact ⟨a0, b0⟩
  | 1, hq => cases hq; exact ⟨a1, b1⟩
  | 2, hq => cases hq; exact ⟨a2, b2⟩
  | 3, hq => cases hq; exact ⟨a3, b3⟩
  | k + 4, hq => cases hq
/-- with every field set, the cells are those of J -/
theorem jflm_full {ρ : Nat → Nat} {w : jWd} {c q : Nat} {mk : Nat → Nat → Bool} (h : ∀ k off, (jfT q)[k]? = some (some off) → mk c k = true) : jflm ρ w c mk q = jfl ρ w c q := by
  have e : jflm ρ w c mk q = jflm ρ w c (fun _ _ => true) q := by
    unfold jflm
    apply List.ext_getElem?
    intro k
    rw [List.getElem?_mapIdx, List.getElem?_mapIdx]
    cases hf : (jfT q)[k]? with
    | none => rfl
    | some f =>
      cases f with
      | none => rfl
      | some off => simp [jfm, h k off hf]
  rw [e]
  by_cases hq : q < 12
  · rcases (show q = 0 ∨ q = 1 ∨ q = 2 ∨ q = 3 ∨ q = 4 ∨ q = 5 ∨ q = 6 ∨ q = 7 ∨ q = 8 ∨ q = 9 ∨ q = 10 ∨ q = 11 by omega) with rfl | rfl | rfl | rfl | rfl | rfl | rfl | rfl | rfl | rfl | rfl | rfl <;> simp [jflm, jfT, jfm, jfl, jtg]
  · have e1 : jfT q = [] := by
      unfold jfT
      split <;> first | rfl | omega
    have e2 : jfl ρ w c q = [] := by
      unfold jfl
      split <;> first | rfl | omega
    rw [e2]
    unfold jflm
    rw [e1]
    rfl
theorem wAl_full {ρ : Nat → Nat} {cy : Nat → ClassId} {w : jWd} {mk : Nat → Nat → Bool} (h : ∀ c, c < 224 → ∀ k off, (jfT (kd c))[k]? = some (some off) → mk c k = true) : wAl ρ cy w 224 mk = wAt ρ cy w := by
  unfold wAl wAt
  apply List.map_congr_left
  intro c hc
  have hc : c < 224 := List.mem_range.mp hc
  have e : jckm ρ cy w mk c = jck ρ cy w c := by
    unfold jckm jck
    by_cases hk : kd c < 12
    · rw [if_pos hk, if_pos hk, jflm_full (h c hc)]
    · rw [if_neg hk, if_neg hk]
  rw [e]
/-- the first world -/
def jw0 : jWd := (fun _ _ => 0, fun _ _ => 0)
def jwF : jWd := wCX12_init_205 (wCX11_init_0 jw0)
def jmF : Nat → Nat → Bool := mCX12_init_205 (mCX11_init_0 (fun _ _ => false))
theorem jmF_full : ∀ c, c < 224 → ∀ k off, (jfT (kd c))[k]? = some (some off) → jmF c k = true := by
  have h : ∀ c, c < 224 → ∀ k, k < 40 → ((jfT (kd c)).getD k none).isSome = true → jmF c k = true := by decide +kernel
  have hl : ∀ q, (jfT q).length ≤ 40 := by
    intro q
    unfold jfT
    split <;> decide
  intro c hc k off hk
  have hk2 : k < 40 := Nat.lt_of_lt_of_le (List.getElem?_eq_some_iff.mp hk).1 (hl _)
  refine h c hc k hk2 ?_
  rw [List.getD_eq_getElem?_getD, hk]
  rfl
