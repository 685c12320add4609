/-! ROWS for what the JDK does for the class: max, min, arraycopy, String's length and charAt, String constants -/
section JPRIM
variable {M : jMM} {d : Nat} {w w' : jWd} {pc : Nat} {lv : List (Nat × Value)} {st : List Value} {o : Option Value} {index : Nat}
theorem jp_static_max : Cond.static Lib.Math.max.name ∈ jT ∧ Cond.initialized "java/lang/Math" ∈ jT ∧ Cond.code Lib.Math.max.name Lib.Math.max.code 2 (some .int) ∈ jT := ⟨jT_t1 (i := 43) (by decide +kernel) (by decide +kernel), jT_t1 (i := 4) (by decide +kernel) (by decide +kernel), jT_t1 (i := 44) (by decide +kernel) (by decide +kernel)⟩
theorem jp_static_min : Cond.static Lib.Math.min.name ∈ jT ∧ Cond.initialized "java/lang/Math" ∈ jT ∧ Cond.code Lib.Math.min.name Lib.Math.min.code 2 (some .int) ∈ jT := ⟨jT_t3 (i := 120) (by decide +kernel) (by decide +kernel), jT_t1 (i := 4) (by decide +kernel) (by decide +kernel), jT_t3 (i := 121) (by decide +kernel) (by decide +kernel)⟩
theorem jp_static_lmax : Cond.static Lib.MathLoose.max_long.x ∈ jT ∧ Cond.initialized "java/lang/Math" ∈ jT ∧ Cond.code Lib.MathLoose.max_long.x Lib.MathLoose.max_long.code 4 (some .long) ∈ jT := ⟨jT_t4 (i := 171) (by decide +kernel) (by decide +kernel), jT_t1 (i := 4) (by decide +kernel) (by decide +kernel), jT_t4 (i := 172) (by decide +kernel) (by decide +kernel)⟩
theorem jp_copy : Cond.native arraycopyName ∈ jT ∧ Cond.static arraycopyName ∈ jT ∧ Cond.initialized "java/lang/System" ∈ jT := ⟨jT_t4 (i := 53) (by decide +kernel) (by decide +kernel), jT_t4 (i := 52) (by decide +kernel) (by decide +kernel), jT_t1 (i := 21) (by decide +kernel) (by decide +kernel)⟩
theorem jr_imax (hl : Cond.methodLink M.1 index Lib.Math.max.name ∈ jT) (hd : 1 ≤ d) (hW : (st.map fun v => v.category).sum ≤ 8) {x y : Int32} (hdg : decode M.2.1 pc = .ok (.invokestatic index, 3)) (kk : J M d w (pc + 3) lv (.int (imax x y) :: st) o w') : J M d w pc lv (.int y :: .int x :: st) o w' := by
  intro p l e s m args below meth c A ρ D cy H locs ls C hP hD hS hlv
  exact va_mmax C.1 C.2.1 (by rw [C.2.2.1]; exact hlv.1.symm) C.2.2.2.1 (C.2.2.2.2.1 _ hl) (C.2.2.2.2.1 _ jp_static_max.1) (C.2.2.2.2.1 _ jp_static_max.2.1) (C.2.2.2.2.1 _ jp_static_max.2.2) hd (by rw [jv_sum]; show _ ≤ 80 * d; omega) (Nat.zero_le _) (Nat.zero_le _) hdg (kk p l e s m args below meth c A ρ D cy H locs ls C hP hD hS hlv)
theorem jr_imin (hl : Cond.methodLink M.1 index Lib.Math.min.name ∈ jT) (hd : 1 ≤ d) (hW : (st.map fun v => v.category).sum ≤ 8) {x y : Int32} (hdg : decode M.2.1 pc = .ok (.invokestatic index, 3)) (kk : J M d w (pc + 3) lv (.int (imin x y) :: st) o w') : J M d w pc lv (.int y :: .int x :: st) o w' := by
  intro p l e s m args below meth c A ρ D cy H locs ls C hP hD hS hlv
  exact va_mmin C.1 C.2.1 (by rw [C.2.2.1]; exact hlv.1.symm) C.2.2.2.1 (C.2.2.2.2.1 _ hl) (C.2.2.2.2.1 _ jp_static_min.1) (C.2.2.2.2.1 _ jp_static_min.2.1) (C.2.2.2.2.1 _ jp_static_min.2.2) hd (by rw [jv_sum]; show _ ≤ 80 * d; omega) (Nat.zero_le _) (Nat.zero_le _) hdg (kk p l e s m args below meth c A ρ D cy H locs ls C hP hD hS hlv)
theorem jr_lmax (hl : Cond.methodLink M.1 index Lib.MathLoose.max_long.x ∈ jT) (hd : 1 ≤ d) (hW : (st.map fun v => v.category).sum ≤ 8) {x y : Int64} (hdg : decode M.2.1 pc = .ok (.invokestatic index, 3)) (kk : J M d w (pc + 3) lv (.long (lmax x y) :: st) o w') : J M d w pc lv (.long y :: .long x :: st) o w' := by
  intro p l e s m args below meth c A ρ D cy H locs ls C hP hD hS hlv
  exact va_mmax_long C.1 C.2.1 (by rw [C.2.2.1]; exact hlv.1.symm) C.2.2.2.1 (C.2.2.2.2.1 _ hl) (C.2.2.2.2.1 _ jp_static_lmax.1) (C.2.2.2.2.1 _ jp_static_lmax.2.1) (C.2.2.2.2.1 _ jp_static_lmax.2.2) hd (by rw [jv_sum]; show _ ≤ 80 * d; omega) (Nat.zero_le _) (Nat.zero_le _) hdg (kk p l e s m args below meth c A ρ D cy H locs ls C hP hD hS hlv)
theorem cpI_set {ρ : Nat → Nat} {cy : Nat → ClassId} {w : jWd} {a sp b dp n : Nat} (hb : kd b = 13) : (wAt ρ cy w).set b (ρ b, .inl (cy 1, ln b, .inl (va_cpy (wI w a) (wI w b) sp dp n))) = wAt ρ cy (cpI w a sp b dp n) := by
  refine wAt_set (kd_lt hb (by decide)) (fun c hc k => ?_) (fun c _ k => rfl) ?_
  · show _ = (if c = b then _ else _)
    rw [if_neg hc]; rfl
  · have e : wI (cpI w a sp b dp n) b = va_cpy (wI w a) (wI w b) sp dp n := by
      funext k
      show (if b = b then _ else _) = _
      rw [if_pos rfl]
    rw [jck_i hb, e]
theorem cpJ_set {ρ : Nat → Nat} {cy : Nat → ClassId} {w : jWd} {a sp b dp n : Nat} (hb : kd b = 14) : (wAt ρ cy w).set b (ρ b, .inl (cy 2, ln b, .inr (.inl (va_cpy (wJ w a) (wJ w b) sp dp n)))) = wAt ρ cy (cpJ w a sp b dp n) := by
  refine wAt_set (kd_lt hb (by decide)) (fun c _ k => rfl) (fun c hc k => ?_) ?_
  · show _ = (if c = b then _ else _)
    rw [if_neg hc]; rfl
  · have e : wJ (cpJ w a sp b dp n) b = va_cpy (wJ w a) (wJ w b) sp dp n := by
      funext k
      show (if b = b then _ else _) = _
      rw [if_pos rfl]
    rw [jck_l hb, e]
theorem jr_copyI (hl : Cond.methodLink M.1 index arraycopyName ∈ jT) (hd : 1 ≤ d) (hW : (st.map fun v => v.category).sum ≤ 8) {a b : Nat} {sp dp n : Int32} (ha : kd a = 13) (hb : kd b = 13) (hg : gcO sp dp n (ln a) (ln b)) (hdg : decode M.2.1 pc = .ok (.invokestatic index, 3)) (kk : J M d (cpI w a sp.toNatClampNeg b dp.toNatClampNeg n.toNatClampNeg) (pc + 3) lv st o w') : J M d w pc lv (.int n :: .int dp :: .ref b :: .int sp :: .ref a :: st) o w' := by
  intro p l e s m args below meth c A ρ D cy H locs ls C hP hD hS hlv
  obtain ⟨h1, h2, h3, h4, h5⟩ := hg
  have ea : (wAt ρ cy w)[a]? = some (ρ a, .inl (cy 1, ln a, .inl (wI w a))) := (wAt_get (kd_lt ha (by decide))).trans (by rw [jck_i ha])
  have eb : (wAt ρ cy w)[b]? = some (ρ b, .inl (cy 1, ln b, .inl (wI w b))) := (wAt_get (kd_lt hb (by decide))).trans (by rw [jck_i hb])
  refine va_copyi (f := wI w a) (g := wI w b) C.1 C.2.1 (by rw [C.2.2.1]; exact hlv.1.symm) C.2.2.2.1 (C.2.2.2.2.1 _ hl) (C.2.2.2.2.1 _ jp_copy.1) (C.2.2.2.2.1 _ jp_copy.2.1) (C.2.2.2.2.1 _ jp_copy.2.2) C.2.2.2.2.2.2.2.1 hP hD hS a b 1 1 ea eb rfl rfl rfl h1 h2 h3 h4 h5 (fun _ _ => rfl) hd (by rw [jv_sum]; have e0 : nativeFrameWords "java/lang/System" "arraycopy" 5 = 7 := (by decide +kernel); rw [e0]; show _ ≤ 80 * d; omega) hdg (fun H1 locs1 hP1 hD1 hS1 => ?_)
  rw [cpI_set hb] at hP1 hD1
  exact kk p l e s m args below meth c A ρ D cy H1 locs1 ls C hP1 hD1 hS1 hlv
theorem jr_copyJ (hl : Cond.methodLink M.1 index arraycopyName ∈ jT) (hd : 1 ≤ d) (hW : (st.map fun v => v.category).sum ≤ 8) {a b : Nat} {sp dp n : Int32} (ha : kd a = 14) (hb : kd b = 14) (hg : gcO sp dp n (ln a) (ln b)) (hdg : decode M.2.1 pc = .ok (.invokestatic index, 3)) (kk : J M d (cpJ w a sp.toNatClampNeg b dp.toNatClampNeg n.toNatClampNeg) (pc + 3) lv st o w') : J M d w pc lv (.int n :: .int dp :: .ref b :: .int sp :: .ref a :: st) o w' := by
  intro p l e s m args below meth c A ρ D cy H locs ls C hP hD hS hlv
  obtain ⟨h1, h2, h3, h4, h5⟩ := hg
  have ea : (wAt ρ cy w)[a]? = some (ρ a, .inl (cy 2, ln a, .inr (.inl (wJ w a)))) := (wAt_get (kd_lt ha (by decide))).trans (by rw [jck_l ha])
  have eb : (wAt ρ cy w)[b]? = some (ρ b, .inl (cy 2, ln b, .inr (.inl (wJ w b)))) := (wAt_get (kd_lt hb (by decide))).trans (by rw [jck_l hb])
  refine va_copyl (f := wJ w a) (g := wJ w b) C.1 C.2.1 (by rw [C.2.2.1]; exact hlv.1.symm) C.2.2.2.1 (C.2.2.2.2.1 _ hl) (C.2.2.2.2.1 _ jp_copy.1) (C.2.2.2.2.1 _ jp_copy.2.1) (C.2.2.2.2.1 _ jp_copy.2.2) C.2.2.2.2.2.2.2.1 hP hD hS a b 2 2 ea eb rfl rfl rfl h1 h2 h3 h4 h5 (fun _ _ => rfl) hd (by rw [jv_sum]; have e0 : nativeFrameWords "java/lang/System" "arraycopy" 5 = 7 := (by decide +kernel); rw [e0]; show _ ≤ 80 * d; omega) hdg (fun H1 locs1 hP1 hD1 hS1 => ?_)
  rw [cpJ_set hb] at hP1 hD1
  exact kk p l e s m args below meth c A ρ D cy H1 locs1 ls C hP1 hD1 hS1 hlv
theorem jr_ldcs {i : Nat} {q : String × Nat × String} (hq : jsT[i]? = some q) (hM : M.1 = q.1) (hdg : decode M.2.1 pc = .ok (.ldc q.2.1, 2)) (kk : J M d w (pc + 2) lv (.ref (1000 + i) :: st) o w') : J M d w pc lv st o w' := by
  intro p l e s m args below meth c A ρ D cy H locs ls C hP hD hS hlv
  exact va_ldcS C.1 C.2.1 (by rw [← hM]; exact C.2.2.2.1) (C.2.2.2.2.2.2.2.2.2.1 i q hq) hdg (kk p l e s m args below meth c A ρ D cy H locs ls C hP hD hS hlv)
end JPRIM

section JSTR
variable {M : jMM} {d : Nat} {w w' : jWd} {pc : Nat} {lv : List (Nat × Value)} {st : List Value} {o : Option Value} {index : Nat}
theorem jp_fl : Cond.fieldLink RJ0 38 "java/lang/String" "COMPACT_STRINGS" "Z" ∈ jT ∧ Cond.fieldLink RJ0 15 "java/lang/String" "coder" "B" ∈ jT ∧ Cond.fieldLink RJ0 9 "java/lang/String" "value" "[B" ∈ jT ∧ Cond.fieldLink RJ0 1053 "jdk/internal/util/Preconditions" "SIOOBE_FORMATTER" "Ljava/util/function/BiFunction;" ∈ jT := ⟨jT_t3 (i := 150) (by decide +kernel) (by decide +kernel), jT_t8 (i := 107) (by decide +kernel) (by decide +kernel), jT_t8 (i := 106) (by decide +kernel) (by decide +kernel), jT_t3 (i := 166) (by decide +kernel) (by decide +kernel)⟩
theorem jr_sCS (hM : M.1 = RJ0) (hdg : decode M.2.1 pc = .ok (.getstatic 38, 3)) (kk : J M d w (pc + 3) lv (.int 1 :: st) o w') : J M d w pc lv st o w' := by
  intro p l e s m args below meth c A ρ D cy H locs ls C hP hD hS hlv
  exact va_gets (ref := "java/lang/String") C.1 C.2.1 C.2.2.2.2.2.2.2.2.2.2.1 hS (by rw [← hM]; exact C.2.2.2.1) (C.2.2.2.2.1 _ jp_fl.1) (fun x h => h) hdg (kk p l e s m args below meth c A ρ D cy H locs ls C hP hD hS hlv)
theorem jr_sSIO (hM : M.1 = RJ0) (hdg : decode M.2.1 pc = .ok (.getstatic 1053, 3)) (k1 : J M d w (pc + 3) lv (.null :: st) o w') (k2 : J M d w (pc + 3) lv (.ref 3000 :: st) o w') : J M d w pc lv st o w' := by
  intro p l e s m args below meth c A ρ D cy H locs ls C hP hD hS hlv
  rcases C.2.2.2.2.2.2.2.2.2.2.2 with h | h
  · exact va_gets (ref := "jdk/internal/util/Preconditions") C.1 C.2.1 h hS (by rw [← hM]; exact C.2.2.2.1) (C.2.2.2.2.1 _ jp_fl.2.2.2) (fun x h => h) hdg (k1 p l e s m args below meth c A ρ D cy H locs ls C hP hD hS hlv)
  · exact va_gets (ref := "jdk/internal/util/Preconditions") C.1 C.2.1 h hS (by rw [← hM]; exact C.2.2.2.1) (C.2.2.2.2.1 _ jp_fl.2.2.2) (fun x h => h) hdg (k2 p l e s m args below meth c A ρ D cy H locs ls C hP hD hS hlv)
theorem jr_sval (hM : M.1 = RJ0) {i : Nat} (hi : i < jsN) (hdg : decode M.2.1 pc = .ok (.getfield 9, 3)) (kk : J M d w (pc + 3) lv (.ref (2000 + i) :: st) o w') : J M d w pc lv (.ref (1000 + i) :: st) o w' := by
  intro p l e s m args below meth c A ρ D cy H locs ls C hP hD hS hlv
  exact vk_getf (ref := "java/lang/String") C.1 C.2.1 (C.2.2.2.2.2.2.2.2.1.1 i hi).2.2.1 hS (by rw [← hM]; exact C.2.2.2.1) (C.2.2.2.2.1 _ jp_fl.2.2.1) (fun x h => h) hdg (kk p l e s m args below meth c A ρ D cy H locs ls C hP hD hS hlv)
theorem jr_scod (hM : M.1 = RJ0) {i : Nat} (hi : i < jsN) (hdg : decode M.2.1 pc = .ok (.getfield 15, 3)) (kk : J M d w (pc + 3) lv (.int 0 :: st) o w') : J M d w pc lv (.ref (1000 + i) :: st) o w' := by
  intro p l e s m args below meth c A ρ D cy H locs ls C hP hD hS hlv
  exact vk_getf (ref := "java/lang/String") C.1 C.2.1 (C.2.2.2.2.2.2.2.2.1.1 i hi).2.1 hS (by rw [← hM]; exact C.2.2.2.1) (C.2.2.2.2.1 _ jp_fl.2.1) (fun x h => h) hdg (kk p l e s m args below meth c A ρ D cy H locs ls C hP hD hS hlv)
theorem jr_slen {i : Nat} (hi : i < jsN) (hdg : decode M.2.1 pc = .ok (.arraylength, 1)) (kk : J M d w (pc + 1) lv (.int (strL i) :: st) o w') : J M d w pc lv (.ref (2000 + i) :: st) o w' := by
  intro p l e s m args below meth c A ρ D cy H locs ls C hP hD hS hlv
  exact va_tlen C.1 C.2.1 (C.2.2.2.2.2.2.2.2.1.1 i hi).2.2.2 hS rfl hdg (kk p l e s m args below meth c A ρ D cy H locs ls C hP hD hS hlv)
theorem jr_sld {i : Nat} (hi : i < jsN) {k : Int32} (hin : vp_in k (strN i)) (hdg : decode M.2.1 pc = .ok (.baload, 1)) (kk : J M d w (pc + 1) lv (.int (strC i k) :: st) o w') : J M d w pc lv (.int k :: .ref (2000 + i) :: st) o w' := by
  intro p l e s m args below meth c A ρ D cy H locs ls C hP hD hS hlv
  exact va_tb C.1 C.2.1 (C.2.2.2.2.2.2.2.2.1.1 i hi).2.2.2 hS hin rfl hdg (kk p l e s m args below meth c A ρ D cy H locs ls C hP hD hS hlv)
/-- a call of a String's method -/
theorem j_callStr {n d' i : Nat} {y : MethodName} {M' : jMM} {as : List Value} {v : Value} {w1 : jWd} {st' : List Value} (hi : i < jsN) (hl : jLk M.1 index y M' n) (him : Cond.instanceMethod y ∈ jT) (hs : Cond.selects y.cls y y ∈ jT) (hy : y.cls = "java/lang/String") (hM : JM y M' d' (.ref (1000 + i) :: as) w (some v) w1) (hd : d' + 1 ≤ d) (hst : st = as.reverse ++ .ref (1000 + i) :: st') (hn : as.length = n) (hW : (st'.map fun v => v.category).sum ≤ 8) (hdg : decode M.2.1 pc = .ok (.invokevirtual index, 3)) (kk : J M d w1 (pc + 3) lv (v :: st') o w') : J M d w pc lv st o w' := by
  subst hst
  intro p l e s m args below meth c A ρ D cy H locs ls C hP hD hS hlv
  refine j_after (va_runV (C := y.cls) (b := ρ (1000 + i)) (As := as.map (jv ρ)) (rest := st'.map (jv ρ)) (n := n) ⟨C.1, C.2.1, C.2.2.1, C.2.2.2.1, C.2.2.2.2.1⟩ (hM l A ρ D cy) ⟨j_callB hl hd C.2.2.2.2.1, C.2.2.2.2.1 _ him, C.2.2.2.2.1 _ hs⟩ ⟨j_blind, by rw [hy]; exact vk_recv (i := i) (adK := fun i => ρ (1000 + i)) C.2.2.2.2.2.2.2.2.1 hi hS, fun U hU hW => ⟨rfl, j_pre C.2.2.2.2.2.2.2.1 C.2.2.2.2.2.2.2.2 hP hD hS hU hW⟩⟩ rfl (by rw [List.length_map]; exact hn) hlv.1 (by simp [jv]) (by rw [jv_sum]; show 2 * 0 + _ ≤ 8; omega) hdg ⟨Nat.zero_le _, Nat.zero_le _⟩) hS (fun H1 locs1 hP1 hD1 hS1 => ?_)
  exact kk p l e s m args below meth c A ρ D cy H1 locs1 ls C hP1 hD1 hS1 hlv
end JSTR
theorem str_all : ∀ i, i < jsN → (strN i < 2147483648 ∧ (∀ k, k < strN i → let b := (jsB.getD i []).getD k 0; ((b &&& (255 : Int32)).toUInt32 % 65536).toInt32 = b ∧ narrow .char (.int b) = .int b)) := by decide +kernel
theorem strL_shr (i : Nat) (hi : i < jsN) : i_shr (strL i) (0 : Int32) = strL i := (by decide +kernel : ∀ i, i < jsN → i_shr (strL i) (0 : Int32) = strL i) i hi
theorem tJ0_coder {i : Nat} (hi : i < jsN) {w : jWd} : JM yJ0_coder_7d493 MJ0_coder_7d493 1 [.ref (1000 + i)] w (some (.int 0)) w := by
  refine jm_of pl_J0 rfl (Nat.le_of_ble_eq_true rfl) ?_
  show J MJ0_coder_7d493 1 w 0 [(0, .ref (1000 + i))] [] (some (.int 0)) w
  refine jr_sCS rfl dJ0_coder_7d493_0 ?_
  refine jr_if_eq (tgt := 13) (nxt := 6) dJ0_coder_7d493_3 (by decide) rfl (fun hc => absurd hc (by decide)) (fun _ => ?_)
  refine jr_aload_n dJ0_coder_7d493_6 rfl 0 rfl ?_
  refine jr_scod rfl hi dJ0_coder_7d493_7 ?_
  refine jr_goto (tgt := 14) dJ0_coder_7d493_10 (by decide) ?_
  exact jr_zret (ty := .byte) rfl rfl dJ0_coder_7d493_14
theorem tJ0_isLatin1 {i : Nat} (hi : i < jsN) {w : jWd} : JM yJ0_isLatin1_aae02 MJ0_isLatin1_aae02 1 [.ref (1000 + i)] w (some (.int 1)) w := by
  refine jm_of pl_J0 rfl (Nat.le_of_ble_eq_true rfl) ?_
  show J MJ0_isLatin1_aae02 1 w 0 [(0, .ref (1000 + i))] [] (some (.int 1)) w
  refine jr_sCS rfl dJ0_isLatin1_aae02_0 ?_
  refine jr_if_eq (tgt := 17) (nxt := 6) dJ0_isLatin1_aae02_3 (by decide) rfl (fun hc => absurd hc (by decide)) (fun _ => ?_)
  refine jr_aload_n dJ0_isLatin1_aae02_6 rfl 0 rfl ?_
  refine jr_scod rfl hi dJ0_isLatin1_aae02_7 ?_
  refine jr_if_ne (tgt := 17) (nxt := 13) dJ0_isLatin1_aae02_10 (by decide) rfl (fun hc => absurd rfl hc) (fun _ => ?_)
  refine jr_iconst (v := (1 : Int32)) dJ0_isLatin1_aae02_13 (by decide) ?_
  refine jr_goto (tgt := 18) dJ0_isLatin1_aae02_14 (by decide) ?_
  exact jr_zret (ty := .boolean) rfl rfl dJ0_isLatin1_aae02_18
theorem tJ0_length {i : Nat} (hi : i < jsN) {w : jWd} : JM yJ0_length_8abf5 MJ0_length_8abf5 2 [.ref (1000 + i)] w (some (.int (strL i))) w := by
  refine jm_of pl_J0 rfl (Nat.le_of_ble_eq_true rfl) ?_
  show J MJ0_length_8abf5 2 w 0 [(0, .ref (1000 + i))] [] (some (.int (strL i))) w
  refine jr_aload_n dJ0_length_8abf5_0 rfl 0 rfl ?_
  refine jr_sval rfl hi dJ0_length_8abf5_1 ?_
  refine jr_slen hi dJ0_length_8abf5_4 ?_
  refine jr_aload_n dJ0_length_8abf5_5 rfl 0 rfl ?_
  refine j_callStr hi lk_J0_335 wIM_J0_coder_7d493 wSE_J0_coder_7d493 rfl (tJ0_coder hi) (by omega) rfl rfl (Nat.le_of_ble_eq_true rfl) dJ0_length_8abf5_6 ?_
  refine jr_ishr dJ0_length_8abf5_9 ?_
  rw [strL_shr i hi]
  exact jr_iret rfl dJ0_length_8abf5_10
theorem tJ3_check {i n : Int32} {v : Value} (hv : v = .null ∨ v = .ref 3000) (h1 : ¬ i < 0) (h2 : i < n) {w : jWd} : JM yJ3_checkIndex_8e157 MJ3_checkIndex_8e157 1 [.int i, .int n, v] w (some (.int i)) w := by
  have hc : v.category = 1 := by rcases hv with rfl | rfl <;> rfl
  refine jm_of (by decide +kernel) rfl (by rcases hv with rfl | rfl <;> exact Nat.le_of_ble_eq_true rfl) ?_
  show J MJ3_checkIndex_8e157 1 w 0 [(0, .int i), (1, .int n), (2, v)] [] (some (.int i)) w
  refine jr_iload_n dJ3_checkIndex_8e157_0 rfl 0 rfl ?_
  refine jr_if_lt (tgt := 9) (nxt := 4) dJ3_checkIndex_8e157_1 (by decide) rfl (fun hc => absurd hc h1) (fun _ => ?_)
  refine jr_iload_n dJ3_checkIndex_8e157_4 rfl 0 rfl ?_
  refine jr_iload_n dJ3_checkIndex_8e157_5 rfl 1 rfl ?_
  refine jr_icmp_lt (tgt := 16) (nxt := 9) dJ3_checkIndex_8e157_6 (by decide) rfl (fun _ => ?_) (fun hc => absurd h2 hc)
  refine jr_iload_n dJ3_checkIndex_8e157_16 rfl 0 rfl ?_
  exact jr_iret rfl dJ3_checkIndex_8e157_17
theorem tJ0_check {i n : Int32} (h1 : ¬ i < 0) (h2 : i < n) {w : jWd} : JM yJ0_checkIndex_df160 MJ0_checkIndex_df160 2 [.int i, .int n] w none w := by
  refine jm_of pl_J0 rfl (Nat.le_of_ble_eq_true rfl) ?_
  show J MJ0_checkIndex_df160 2 w 0 [(0, .int i), (1, .int n)] [] none w
  refine jr_iload_n dJ0_checkIndex_df160_0 rfl 0 rfl ?_
  refine jr_iload_n dJ0_checkIndex_df160_1 rfl 1 rfl ?_
  refine jr_sSIO rfl dJ0_checkIndex_df160_2 ?_ ?_
  · refine j_callSv lk_J0_1059 wST_J3_checkIndex_8e157 (tJ3_check (v := .null) (Or.inl rfl) h1 h2) (by omega) rfl rfl (Nat.le_of_ble_eq_true rfl) dJ0_checkIndex_df160_5 ?_
    refine jr_pop dJ0_checkIndex_df160_8 rfl ?_
    exact jr_vret rfl dJ0_checkIndex_df160_9
  · refine j_callSv lk_J0_1059 wST_J3_checkIndex_8e157 (tJ3_check (v := .ref 3000) (Or.inr rfl) h1 h2) (by omega) rfl rfl (Nat.le_of_ble_eq_true rfl) dJ0_checkIndex_df160_5 ?_
    refine jr_pop dJ0_checkIndex_df160_8 rfl ?_
    exact jr_vret rfl dJ0_checkIndex_df160_9
theorem tJ1_charAt {i : Nat} (hi : i < jsN) {k : Int32} (hin : vp_in k (strN i)) {w : jWd} : JM yJ1_charAt_3b067 MJ1_charAt_3b067 3 [.ref (2000 + i), .int k] w (some (.int (strC i k))) w := by
  have hs := str_all i hi
  have hkn : k.toNatClampNeg < strN i := Nat.not_le.mp fun q => hin (Or.inr q)
  obtain ⟨j, hj, rfl⟩ := vp_in_of hin hs.1
  have hb := hs.2 j hj
  have hcl : (nI j).toNatClampNeg = j := nI_clamp (by omega)
  refine jm_of (by decide +kernel) rfl (Nat.le_of_ble_eq_true rfl) ?_
  show J MJ1_charAt_3b067 3 w 0 [(0, .ref (2000 + i)), (1, .int (nI j))] [] (some (.int (strC i (nI j)))) w
  refine jr_iload_n dJ1_charAt_3b067_0 rfl 1 rfl ?_
  refine jr_aload_n dJ1_charAt_3b067_1 rfl 0 rfl ?_
  refine jr_slen hi dJ1_charAt_3b067_2 ?_
  refine j_callSn lk_J1_9 wST_J0_checkIndex_df160 (tJ0_check (i := nI j) (n := strL i) (nI_pos (by omega)) (nI_lt hj hs.1)) (by omega) rfl rfl (Nat.le_of_ble_eq_true rfl) dJ1_charAt_3b067_3 ?_
  refine jr_aload_n dJ1_charAt_3b067_6 rfl 0 rfl ?_
  refine jr_iload_n dJ1_charAt_3b067_7 rfl 1 rfl ?_
  refine jr_sld hi hin dJ1_charAt_3b067_8 ?_
  refine jr_sipush (v := (255 : Int32)) dJ1_charAt_3b067_9 (by decide) ?_
  refine jr_iand dJ1_charAt_3b067_12 ?_
  refine jr_i2c dJ1_charAt_3b067_13 ?_
  have e1 : ((strC i (nI j) &&& (255 : Int32)).toUInt32 % 65536).toInt32 = strC i (nI j) := by unfold strC; rw [hcl]; exact hb.1
  rw [e1]
  exact jr_zret (ty := .char) rfl (by unfold strC; rw [hcl]; exact hb.2) dJ1_charAt_3b067_14
theorem tJ0_charAt {i : Nat} (hi : i < jsN) {k : Int32} (hin : vp_in k (strN i)) {w : jWd} : JM yJ0_charAt_5068e MJ0_charAt_5068e 4 [.ref (1000 + i), .int k] w (some (.int (strC i k))) w := by
  have hs := str_all i hi
  have hnar : narrow .char (.int (strC i k)) = .int (strC i k) := by
    obtain ⟨j, hj, rfl⟩ := vp_in_of hin hs.1
    unfold strC
    rw [nI_clamp (by omega)]
    exact (hs.2 j hj).2
  refine jm_of pl_J0 rfl (Nat.le_of_ble_eq_true rfl) ?_
  show J MJ0_charAt_5068e 4 w 0 [(0, .ref (1000 + i)), (1, .int k)] [] (some (.int (strC i k))) w
  refine jr_aload_n dJ0_charAt_5068e_0 rfl 0 rfl ?_
  refine j_callStr hi lk_J0_492 wIM_J0_isLatin1_aae02 wSE_J0_isLatin1_aae02 rfl (tJ0_isLatin1 hi) (by omega) rfl rfl (Nat.le_of_ble_eq_true rfl) dJ0_charAt_5068e_1 ?_
  refine jr_if_eq (tgt := 16) (nxt := 7) dJ0_charAt_5068e_4 (by decide) rfl (fun hc => absurd hc (by decide)) (fun _ => ?_)
  refine jr_aload_n dJ0_charAt_5068e_7 rfl 0 rfl ?_
  refine jr_sval rfl hi dJ0_charAt_5068e_8 ?_
  refine jr_iload_n dJ0_charAt_5068e_11 rfl 1 rfl ?_
  refine j_callSv lk_J0_495 wST_J1_charAt_3b067 (tJ1_charAt hi hin) (by omega) rfl rfl (Nat.le_of_ble_eq_true rfl) dJ0_charAt_5068e_12 ?_
  exact jr_zret (ty := .char) rfl hnar dJ0_charAt_5068e_15
section JSTR2
variable {M : jMM} {d : Nat} {w w' : jWd} {pc : Nat} {lv : List (Nat × Value)} {st : List Value} {o : Option Value} {index : Nat}
theorem jr_strlen {i : Nat} (hl : Cond.methodLink M.1 index yJ0_length_8abf5 ∈ jT) (hd : 3 ≤ d) (hW : (st.map fun v => v.category).sum ≤ 8) (hi : i < jsN) (hdg : decode M.2.1 pc = .ok (.invokevirtual index, 3)) (kk : J M d w (pc + 3) lv (.int (strL i) :: st) o w') : J M d w pc lv (.ref (1000 + i) :: st) o w' :=
  j_callStr (n := 0) (as := []) hi ⟨hl, wIN_J0, wCD_J0_length_8abf5, by decide, by decide +kernel, by decide +kernel, by decide +kernel⟩ wIM_J0_length_8abf5 wSE_J0_length_8abf5 rfl (tJ0_length hi) hd rfl rfl hW hdg kk
theorem jr_strat {i : Nat} {k : Int32} (hl : Cond.methodLink M.1 index yJ0_charAt_5068e ∈ jT) (hd : 5 ≤ d) (hW : (st.map fun v => v.category).sum ≤ 8) (hi : i < jsN) (hin : vp_in k (strN i)) (hdg : decode M.2.1 pc = .ok (.invokevirtual index, 3)) (kk : J M d w (pc + 3) lv (.int (strC i k) :: st) o w') : J M d w pc lv (.int k :: .ref (1000 + i) :: st) o w' :=
  j_callStr (n := 1) (as := [.int k]) hi ⟨hl, wIN_J0, wCD_J0_charAt_5068e, by decide, by decide +kernel, by decide +kernel, by decide +kernel⟩ wIM_J0_charAt_5068e wSE_J0_charAt_5068e rfl (tJ0_charAt hi hin) hd rfl rfl hW hdg kk
end JSTR2
