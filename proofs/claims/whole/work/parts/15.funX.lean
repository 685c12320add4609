/-! THE CLASS as functions (by program out of its bytecode: wip/whole/gen/genparts.py) -/
-- java/lang/Integer.bitCount(I)I
def fJ6_bitCount_0f7a4 (a0 : Int32) : Int32 :=
  letV ((a0 - ((i_ushr a0 (1 : Int32)) &&& (1431655765 : Int32)))) (fun (x0_1 : Int32) => letV (((x0_1 &&& (858993459 : Int32)) + ((i_ushr x0_1 (2 : Int32)) &&& (858993459 : Int32)))) (fun (x0_3 : Int32) => letV (((x0_3 + (i_ushr x0_3 (4 : Int32))) &&& (252645135 : Int32))) (fun (x0_5 : Int32) => letV ((x0_5 + (i_ushr x0_5 (8 : Int32)))) (fun (x0_7 : Int32) => letV ((x0_7 + (i_ushr x0_7 (16 : Int32)))) (fun (x0_9 : Int32) => (x0_9 &&& (63 : Int32)))))))
-- java/util/Arrays.fill([II)V
def bJ7_fill_53178_5 (n : Nat) (p0 : Nat) (p1 : Int32) (p3 : Int32) (rec : Int32 → jWd → Option jWd) (x2 : Int32) (w : jWd)  : Option jWd :=
  if p3 ≤ x2 then some w else grd x2 (ln p0) (letV (sI w p0 ((x2).toNatClampNeg) p1) (fun (w_3 : jWd) => letV (x2 + (1 : Int32)) (fun (x2_6 : Int32) => rec x2_6 w_3)))
def lJ7_fill_53178_5 (n : Nat) (p0 : Nat) (p1 : Int32) (p3 : Int32) : Nat → Int32 → jWd → Option jWd
  | 0 => fun _ _ => none
  | c + 1 => fun x2 w => bJ7_fill_53178_5 n p0 p1 p3 (lJ7_fill_53178_5 n p0 p1 p3 c) x2 w
def fJ7_fill_53178 (n : Nat) (a0 : Nat) (a1 : Int32) (w : jWd) : Option jWd :=
  letV ((Int32.ofNat (ln a0))) (fun (x3_1 : Int32) => lJ7_fill_53178_5 n a0 a1 x3_1 n (0 : Int32) w)
-- java/util/Arrays.rangeCheck(III)V
def fJ7_rangeCheck_23922 (a0 : Int32) (a1 : Int32) (a2 : Int32) (w : jWd) : Option jWd :=
  if a1 ≤ a2 then if 0 ≤ a1 then if a2 ≤ a0 then some w else none else none else none
-- java/util/Arrays.fill([JIIJ)V
def bJ7_fill_bad5a_10 (n : Nat) (p0 : Nat) (p2 : Int32) (p3 : Int64) (rec : Int32 → jWd → Option jWd) (x5 : Int32) (w : jWd)  : Option jWd :=
  if p2 ≤ x5 then some w else grd x5 (ln p0) (letV (sJ w p0 ((x5).toNatClampNeg) p3) (fun (w_3 : jWd) => letV (x5 + (1 : Int32)) (fun (x5_6 : Int32) => rec x5_6 w_3)))
def lJ7_fill_bad5a_10 (n : Nat) (p0 : Nat) (p2 : Int32) (p3 : Int64) : Nat → Int32 → jWd → Option jWd
  | 0 => fun _ _ => none
  | c + 1 => fun x5 w => bJ7_fill_bad5a_10 n p0 p2 p3 (lJ7_fill_bad5a_10 n p0 p2 p3 c) x5 w
def fJ7_fill_bad5a (n : Nat) (a0 : Nat) (a1 : Int32) (a2 : Int32) (a3 : Int64) (w : jWd) : Option jWd :=
  bO (fJ7_rangeCheck_23922 (Int32.ofNat (ln a0)) a1 a2 w) (fun (w_2 : jWd) => lJ7_fill_bad5a_10 n a0 a2 a3 n a1 w_2)
-- NobodysBard$Answers.copy(LNobodysBard$Answers;)V
def fX0_copy (t : Nat) (a0 : Nat) (w : jWd) : Option jWd :=
  letV (sI w t 0 (wI w a0 0)) (fun (w_1 : jWd) => grc (0 : Int32) (0 : Int32) (60 : Int32) (ln (a0 + 1)) (ln (t + 1)) (letV (cpI w_1 (a0 + 1) ((0 : Int32)).toNatClampNeg (t + 1) ((0 : Int32)).toNatClampNeg ((60 : Int32)).toNatClampNeg) (fun (w_3 : jWd) => grc (0 : Int32) (0 : Int32) (60 : Int32) (ln (a0 + 2)) (ln (t + 2)) (letV (cpI w_3 (a0 + 2) ((0 : Int32)).toNatClampNeg (t + 2) ((0 : Int32)).toNatClampNeg ((60 : Int32)).toNatClampNeg) (fun (w_6 : jWd) => grc (0 : Int32) (0 : Int32) (60 : Int32) (ln (a0 + 3)) (ln (t + 3)) (letV (cpI w_6 (a0 + 3) ((0 : Int32)).toNatClampNeg (t + 3) ((0 : Int32)).toNatClampNeg ((60 : Int32)).toNatClampNeg) (fun (w_9 : jWd) => grc (0 : Int32) (0 : Int32) (60 : Int32) (ln (a0 + 4)) (ln (t + 4)) (letV (cpI w_9 (a0 + 4) ((0 : Int32)).toNatClampNeg (t + 4) ((0 : Int32)).toNatClampNeg ((60 : Int32)).toNatClampNeg) (fun (w_12 : jWd) => grc (0 : Int32) (0 : Int32) (60 : Int32) (ln (a0 + 5)) (ln (t + 5)) (letV (cpI w_12 (a0 + 5) ((0 : Int32)).toNatClampNeg (t + 5) ((0 : Int32)).toNatClampNeg ((60 : Int32)).toNatClampNeg) (fun (w_15 : jWd) => grc (0 : Int32) (0 : Int32) (60 : Int32) (ln (a0 + 6)) (ln (t + 6)) (letV (cpJ w_15 (a0 + 6) ((0 : Int32)).toNatClampNeg (t + 6) ((0 : Int32)).toNatClampNeg ((60 : Int32)).toNatClampNeg) (fun (w_18 : jWd) => some w_18)))))))))))))
-- NobodysBard$Answers.greatest(I)I
def fX0_greatest (a0 : Int32) : Int32 :=
  (if a0 = (0 : Int32) then (15 : Int32) else if a0 = (1 : Int32) then (9999 : Int32) else if a0 = (2 : Int32) then (9 : Int32) else (2 : Int32))
-- NobodysBard$Answers.has(I)Z
def fX0_has (t : Nat) (a0 : Int32) (w : jWd) : Int32 :=
  if a0 < 0 then (0 : Int32) else if (wI w t 0) ≤ a0 then (0 : Int32) else (1 : Int32)
-- NobodysBard$Answers.hear(IIIJ)V
def fX0_hear (t : Nat) (a0 : Int32) (a1 : Int32) (a2 : Int32) (a3 : Int64) (w : jWd) : Option jWd :=
  if (fX0_has t a0 w) = 0 then some w else grd a0 (ln (t + 4)) (letV (sI w (t + 4) ((a0).toNatClampNeg) a1) (fun (w_1 : jWd) => grd a0 (ln (t + 5)) (letV (sI w_1 (t + 5) ((a0).toNatClampNeg) a2) (fun (w_4 : jWd) => grd a0 (ln (t + 6)) (letV (sJ w_4 (t + 6) ((a0).toNatClampNeg) a3) (fun (w_7 : jWd) => some w_7))))))
-- NobodysBard$Answers.heard(II)I
def fX0_heard (t : Nat) (a0 : Int32) (a1 : Int32) (w : jWd) : Option Int32 :=
  if (fX0_has t a0 w) = 0 then some (2 : Int32) else if a1 = 0 then grd a0 (ln (t + 4)) (some (wI w (t + 4) (a0).toNatClampNeg)) else grd a0 (ln (t + 5)) (some (wI w (t + 5) (a0).toNatClampNeg))
-- NobodysBard$Answers.room()I
def fX0_room (t : Nat) (w : jWd) : Int32 :=
  ((60 : Int32) - (wI w t 0))
-- NobodysBard$Answers.start(III)I
def fX0_start (t : Nat) (a0 : Int32) (a1 : Int32) (a2 : Int32) (w : jWd) : Option (Int32 × jWd) :=
  if (wI w t 0) < (60 : Int32) then grd (wI w t 0) (ln (t + 1)) (letV (sI w (t + 1) (((wI w t 0)).toNatClampNeg) a0) (fun (w_1 : jWd) => grd (wI w_1 t 0) (ln (t + 2)) (letV (sI w_1 (t + 2) (((wI w_1 t 0)).toNatClampNeg) a1) (fun (w_4 : jWd) => grd (wI w_4 t 0) (ln (t + 3)) (letV (sI w_4 (t + 3) (((wI w_4 t 0)).toNatClampNeg) a2) (fun (w_7 : jWd) => letV (sI w_7 t 0 ((wI w_7 t 0) + (1 : Int32))) (fun (w_10 : jWd) => some ((wI w_7 t 0), w_10)))))))) else some ((-1 : Int32), w)
-- NobodysBard$Worlds.copy(LNobodysBard$Worlds;)V
def fX10_copy (t : Nat) (a0 : Nat) (w : jWd) : Option jWd :=
  letV (sI w t 0 (wI w a0 0)) (fun (w_1 : jWd) => grc (0 : Int32) (0 : Int32) (8 : Int32) (ln (a0 + 1)) (ln (t + 1)) (letV (cpI w_1 (a0 + 1) ((0 : Int32)).toNatClampNeg (t + 1) ((0 : Int32)).toNatClampNeg ((8 : Int32)).toNatClampNeg) (fun (w_3 : jWd) => grc (0 : Int32) (0 : Int32) (128 : Int32) (ln (a0 + 2)) (ln (t + 2)) (letV (cpI w_3 (a0 + 2) ((0 : Int32)).toNatClampNeg (t + 2) ((0 : Int32)).toNatClampNeg ((128 : Int32)).toNatClampNeg) (fun (w_6 : jWd) => some w_6)))))
-- NobodysBard$Worlds.costOfParts(II)I
def bX10_costOfParts_5 (n : Nat) (t : Nat) (p1 : Int32) (p2 : Int32) (w : jWd) (rec : Int32 → Int32 → Option Int32) (x3 : Int32) (x4 : Int32)  : Option Int32 :=
  if (4 : Int32) ≤ x4 then some x3 else grd ((p2 * (4 : Int32)) + x4) (ln (t + 3)) (letV ((p1 &&& (wI w (t + 3) (((p2 * (4 : Int32)) + x4)).toNatClampNeg))) (fun (x5_2 : Int32) => if x5_2 = p1 then some (-1 : Int32) else grd x5_2 (ln (t + 4)) (letV ((x3 + (wI w (t + 4) (x5_2).toNatClampNeg))) (fun (x3_5 : Int32) => letV (x4 + (1 : Int32)) (fun (x4_7 : Int32) => rec x3_5 x4_7)))))
def lX10_costOfParts_5 (n : Nat) (t : Nat) (p1 : Int32) (p2 : Int32) (w : jWd) : Nat → Int32 → Int32 → Option Int32
  | 0 => fun _ _ => none
  | c + 1 => fun x3 x4 => bX10_costOfParts_5 n t p1 p2 w (lX10_costOfParts_5 n t p1 p2 w c) x3 x4
def fX10_costOfParts (n : Nat) (t : Nat) (a0 : Int32) (a1 : Int32) (w : jWd) : Option Int32 :=
  lX10_costOfParts_5 n t a0 a1 w n (0 : Int32) (0 : Int32)
-- NobodysBard$Worlds.gatherSayings()V
def bX10_gatherSayings_20 (n : Nat) (t : Nat) (p1 : Int32) (k62 : jWd → (Option jWd)) (rec : Int32 → jWd → Option jWd) (x2 : Int32) (w : jWd)  : Option jWd :=
  if (16 : Int32) ≤ x2 then k62 w else grd ((p1 * (16 : Int32)) + x2) (ln (t + 2)) (letV (((wI w (t + 2) (((p1 * (16 : Int32)) + x2)).toNatClampNeg) &&& (3 : Int32))) (fun (x3_4 : Int32) => grd ((x2 * (4 : Int32)) + x3_4) (ln (t + 3)) (grd ((x2 * (4 : Int32)) + x3_4) (ln (t + 3)) (letV (sI w (t + 3) ((((x2 * (4 : Int32)) + x3_4)).toNatClampNeg) ((wI w (t + 3) (((x2 * (4 : Int32)) + x3_4)).toNatClampNeg) ||| (i_shl (1 : Int32) p1))) (fun (w_7 : jWd) => letV (x2 + (1 : Int32)) (fun (x2_10 : Int32) => rec x2_10 w_7))))))
def lX10_gatherSayings_20 (n : Nat) (t : Nat) (p1 : Int32) (k62 : jWd → (Option jWd)) : Nat → Int32 → jWd → Option jWd
  | 0 => fun _ _ => none
  | c + 1 => fun x2 w => bX10_gatherSayings_20 n t p1 k62 (lX10_gatherSayings_20 n t p1 k62 c) x2 w
def bX10_gatherSayings_10 (n : Nat) (t : Nat) (rec : Int32 → jWd → Option jWd) (x1 : Int32) (w : jWd)  : Option jWd :=
  if (wI w t 0) ≤ x1 then some w else lX10_gatherSayings_20 n t x1 (fun (w_12 : jWd) => letV (x1 + (1 : Int32)) (fun (x1_13 : Int32) => rec x1_13 w_12)) n (0 : Int32) w
def lX10_gatherSayings_10 (n : Nat) (t : Nat) : Nat → Int32 → jWd → Option jWd
  | 0 => fun _ _ => none
  | c + 1 => fun x1 w => bX10_gatherSayings_10 n t (lX10_gatherSayings_10 n t c) x1 w
def fX10_gatherSayings (n : Nat) (t : Nat) (w : jWd) : Option jWd :=
  bO (fJ7_fill_53178 n (t + 3) (0 : Int32) w) (fun (w_2 : jWd) => lX10_gatherSayings_10 n t n (0 : Int32) w_2)
-- NobodysBard$Worlds.has(I)Z
def fX10_has (t : Nat) (a0 : Int32) (w : jWd) : Int32 :=
  if a0 < 0 then (0 : Int32) else if (wI w t 0) ≤ a0 then (0 : Int32) else (1 : Int32)
-- NobodysBard$Worlds.hasAll(I)Z
def fX10_hasAll (t : Nat) (a0 : Int32) (w : jWd) : Int32 :=
  if a0 < 0 then (0 : Int32) else if (i_shl (1 : Int32) (wI w t 0)) ≤ a0 then (0 : Int32) else (1 : Int32)
-- NobodysBard$Worlds.start(I)I
def fX10_start (t : Nat) (a0 : Int32) (w : jWd) : Option (Int32 × jWd) :=
  if (wI w t 0) < (8 : Int32) then grd (wI w t 0) (ln (t + 1)) (letV (sI w (t + 1) (((wI w t 0)).toNatClampNeg) a0) (fun (w_1 : jWd) => letV (sI w_1 t 0 ((wI w_1 t 0) + (1 : Int32))) (fun (w_4 : jWd) => some ((wI w_1 t 0), w_4)))) else some ((-1 : Int32), w)
-- NobodysBard$Worlds.tell(III)I
def fX10_tell (t : Nat) (a0 : Int32) (a1 : Int32) (a2 : Int32) (w : jWd) : Option (Int32 × jWd) :=
  letV (((a0 * (16 : Int32)) + a1)) (fun (x4_1 : Int32) => if (fX10_has t a0 w) = 0 then some ((-1 : Int32), w) else if a1 < 0 then some ((-1 : Int32), w) else if a1 < (16 : Int32) then grd x4_1 (ln (t + 2)) (letV ((wI w (t + 2) (x4_1).toNatClampNeg)) (fun (x5_4 : Int32) => grd x4_1 (ln (t + 2)) (letV (sI w (t + 2) ((x4_1).toNatClampNeg) a2) (fun (w_6 : jWd) => some (x5_4, w_6))))) else some ((-1 : Int32), w))
-- NobodysBard$Worlds.weightOf(I)I
def bX10_weightOf_4 (n : Nat) (t : Nat) (p1 : Int32) (w : jWd) (rec : Int32 → Int32 → Option Int32) (x2 : Int32) (x3 : Int32)  : Option Int32 :=
  if (wI w t 0) ≤ x3 then some x2 else if ((i_shr p1 x3) &&& (1 : Int32)) = (1 : Int32) then grd x3 (ln (t + 1)) (letV ((x2 + (wI w (t + 1) (x3).toNatClampNeg))) (fun (x2_4 : Int32) => letV (x3 + (1 : Int32)) (fun (x3_6 : Int32) => rec x2_4 x3_6))) else letV (x3 + (1 : Int32)) (fun (x3_1 : Int32) => rec x2 x3_1)
def lX10_weightOf_4 (n : Nat) (t : Nat) (p1 : Int32) (w : jWd) : Nat → Int32 → Int32 → Option Int32
  | 0 => fun _ _ => none
  | c + 1 => fun x2 x3 => bX10_weightOf_4 n t p1 w (lX10_weightOf_4 n t p1 w c) x2 x3
def fX10_weightOf (n : Nat) (t : Nat) (a0 : Int32) (w : jWd) : Option Int32 :=
  lX10_weightOf_4 n t a0 w n (0 : Int32) (0 : Int32)
-- NobodysBard$Worlds.weighOne(I)V
def bX10_weighOne_22 (n : Nat) (t : Nat) (p1 : Int32) (p2 : Int32) (rec : Int32 → jWd → Option jWd) (x3 : Int32) (w : jWd)  : Option jWd :=
  if (16 : Int32) ≤ x3 then some w else bO (fX10_costOfParts n t p1 x3 w) (fun (r_10 : Int32) => if r_10 = (-1 : Int32) then letV (x3 + (1 : Int32)) (fun (x3_24 : Int32) => rec x3_24 w) else grd p1 (ln (t + 5)) (letV (grd p1 (ln (t + 4)) (letV (sI w (t + 4) ((p1).toNatClampNeg) (p2 + r_10)) (fun (w_13 : jWd) => grd p1 (ln (t + 5)) (letV (sI w_13 (t + 5) ((p1).toNatClampNeg) x3) (fun (w_16 : jWd) => letV (x3 + (1 : Int32)) (fun (x3_19 : Int32) => rec x3_19 w_16)))))) (fun (j68_12 : Option jWd) => if (wI w (t + 5) (p1).toNatClampNeg) = (-1 : Int32) then j68_12 else grd p1 (ln (t + 4)) (if (wI w (t + 4) (p1).toNatClampNeg) ≤ (p2 + r_10) then letV (x3 + (1 : Int32)) (fun (x3_22 : Int32) => rec x3_22 w) else j68_12))))
def lX10_weighOne_22 (n : Nat) (t : Nat) (p1 : Int32) (p2 : Int32) : Nat → Int32 → jWd → Option jWd
  | 0 => fun _ _ => none
  | c + 1 => fun x3 w => bX10_weighOne_22 n t p1 p2 (lX10_weighOne_22 n t p1 p2 c) x3 w
def fX10_weighOne (n : Nat) (t : Nat) (a0 : Int32) (w : jWd) : Option jWd :=
  grd a0 (ln (t + 4)) (letV (sI w (t + 4) ((a0).toNatClampNeg) (0 : Int32)) (fun (w_1 : jWd) => grd a0 (ln (t + 5)) (letV (sI w_1 (t + 5) ((a0).toNatClampNeg) (-1 : Int32)) (fun (w_4 : jWd) => bO (fX10_weightOf n t a0 w_4) (fun (r_8 : Int32) => lX10_weighOne_22 n t a0 r_8 n (0 : Int32) w_4)))))
-- NobodysBard$Worlds.weigh(I)V
def bX10_weigh_15 (n : Nat) (t : Nat) (p1 : Int32) (rec : Int32 → jWd → Option jWd) (x2 : Int32) (w : jWd)  : Option jWd :=
  if p1 < x2 then some w else if (Int32.ofNat (ln (t + 4))) ≤ x2 then some w else if (x2 &&& (p1 ^^^ (-1 : Int32))) = 0 then bO (fX10_weighOne n t x2 w) (fun (w_6 : jWd) => letV (x2 + (1 : Int32)) (fun (x2_7 : Int32) => rec x2_7 w_6)) else letV (x2 + (1 : Int32)) (fun (x2_3 : Int32) => rec x2_3 w)
def lX10_weigh_15 (n : Nat) (t : Nat) (p1 : Int32) : Nat → Int32 → jWd → Option jWd
  | 0 => fun _ _ => none
  | c + 1 => fun x2 w => bX10_weigh_15 n t p1 (lX10_weigh_15 n t p1 c) x2 w
def fX10_weigh (n : Nat) (t : Nat) (a0 : Int32) (w : jWd) : Option jWd :=
  if (fX10_hasAll t a0 w) = 0 then some w else bO (fX10_gatherSayings n t w) (fun (w_2 : jWd) => lX10_weigh_15 n t a0 n (0 : Int32) w_2)
-- NobodysBard$Fashion.clear()V
def fX1_clear (t : Nat) (w : jWd) : Option jWd :=
  letV (sI w t 0 (0 : Int32)) (fun (w_1 : jWd) => letV (sI w_1 t 1 (0 : Int32)) (fun (w_3 : jWd) => some w_3))
-- NobodysBard$Fashion.copy(LNobodysBard$Fashion;)V
def fX1_copy (t : Nat) (a0 : Nat) (w : jWd) : Option jWd :=
  letV (sI w t 0 (wI w a0 0)) (fun (w_1 : jWd) => letV (sI w_1 t 1 (wI w_1 a0 1)) (fun (w_3 : jWd) => grc (0 : Int32) (0 : Int32) (12 : Int32) (ln (a0 + 1)) (ln (t + 1)) (letV (cpJ w_3 (a0 + 1) ((0 : Int32)).toNatClampNeg (t + 1) ((0 : Int32)).toNatClampNeg ((12 : Int32)).toNatClampNeg) (fun (w_5 : jWd) => grc (0 : Int32) (0 : Int32) (12 : Int32) (ln (a0 + 2)) (ln (t + 2)) (letV (cpJ w_5 (a0 + 2) ((0 : Int32)).toNatClampNeg (t + 2) ((0 : Int32)).toNatClampNeg ((12 : Int32)).toNatClampNeg) (fun (w_8 : jWd) => grc (0 : Int32) (0 : Int32) (12 : Int32) (ln (a0 + 3)) (ln (t + 3)) (letV (cpI w_8 (a0 + 3) ((0 : Int32)).toNatClampNeg (t + 3) ((0 : Int32)).toNatClampNeg ((12 : Int32)).toNatClampNeg) (fun (w_11 : jWd) => grc (0 : Int32) (0 : Int32) (12 : Int32) (ln (a0 + 4)) (ln (t + 4)) (letV (cpI w_11 (a0 + 4) ((0 : Int32)).toNatClampNeg (t + 4) ((0 : Int32)).toNatClampNeg ((12 : Int32)).toNatClampNeg) (fun (w_14 : jWd) => grc (0 : Int32) (0 : Int32) (200 : Int32) (ln (a0 + 5)) (ln (t + 5)) (letV (cpI w_14 (a0 + 5) ((0 : Int32)).toNatClampNeg (t + 5) ((0 : Int32)).toNatClampNeg ((200 : Int32)).toNatClampNeg) (fun (w_17 : jWd) => grc (0 : Int32) (0 : Int32) (200 : Int32) (ln (a0 + 6)) (ln (t + 6)) (letV (cpI w_17 (a0 + 6) ((0 : Int32)).toNatClampNeg (t + 6) ((0 : Int32)).toNatClampNeg ((200 : Int32)).toNatClampNeg) (fun (w_20 : jWd) => some w_20))))))))))))))
-- NobodysBard$Fashion.emit(II)V
def fX1_emit (t : Nat) (a0 : Int32) (a1 : Int32) (w : jWd) : Option jWd :=
  if (wI w t 1) < (200 : Int32) then grd (wI w t 1) (ln (t + 5)) (letV (sI w (t + 5) (((wI w t 1)).toNatClampNeg) a0) (fun (w_1 : jWd) => grd (wI w_1 t 1) (ln (t + 6)) (letV (sI w_1 (t + 6) (((wI w_1 t 1)).toNatClampNeg) a1) (fun (w_4 : jWd) => letV (sI w_4 t 1 ((wI w_4 t 1) + (1 : Int32))) (fun (w_7 : jWd) => some w_7))))) else some w
-- NobodysBard$Line.places(JI)I
def bX4_places_8 (n : Nat) (p2 : Int32) (rec : Int32 → Int64 → Int32 → Option Int32) (x3 : Int32) (x4 : Int64) (x6 : Int32)  : Option Int32 :=
  if (8 : Int32) ≤ x6 then some x3 else if (lg_cmp x4 (0 : Int64)) = 0 then some x3 else letV (fun (y3_1 : Int32) => letV ((l_shl x4 (8 : Int32))) (fun (x4_3 : Int64) => letV (x6 + (1 : Int32)) (fun (x6_5 : Int32) => rec y3_1 x4_3 x6_5))) (fun (j39_2 : Int32 → Option Int32) => if (((l_ushr x4 (56 : Int32))).toInt32) = p2 then letV ((x3 ||| (i_shl (1 : Int32) x6))) (fun (x3_7 : Int32) => j39_2 x3_7) else j39_2 x3)
def lX4_places_8 (n : Nat) (p2 : Int32) : Nat → Int32 → Int64 → Int32 → Option Int32
  | 0 => fun _ _ _ => none
  | c + 1 => fun x3 x4 x6 => bX4_places_8 n p2 (lX4_places_8 n p2 c) x3 x4 x6
def fX4_places (n : Nat) (a0 : Int64) (a1 : Int32) : Option Int32 :=
  lX4_places_8 n a1 n (0 : Int32) a0 (0 : Int32)
-- NobodysBard$Line.word(JI)I
def fX4_word (a0 : Int64) (a1 : Int32) : Int32 :=
  ((((l_ushr a0 ((56 : Int32) - ((8 : Int32) * a1)))).toInt32) &&& (255 : Int32))
-- NobodysBard$Line.length(J)I
def bX4_length_2 (n : Nat) (p0 : Int64) (rec : Int32 → Option Int32) (x2 : Int32)  : Option Int32 :=
  if (8 : Int32) ≤ x2 then some (8 : Int32) else if (fX4_word p0 x2) = 0 then some x2 else letV (x2 + (1 : Int32)) (fun (x2_1 : Int32) => rec x2_1)
def lX4_length_2 (n : Nat) (p0 : Int64) : Nat → Int32 → Option Int32
  | 0 => fun _ => none
  | c + 1 => fun x2 => bX4_length_2 n p0 (lX4_length_2 n p0 c) x2
def fX4_length (n : Nat) (a0 : Int64) : Option Int32 :=
  lX4_length_2 n a0 n (0 : Int32)
-- NobodysBard$Fashion.taken(JIJI)J
def fX1_taken (n : Nat) (t : Nat) (a0 : Int64) (a1 : Int32) (a2 : Int64) (a3 : Int32) (w : jWd) : Option Int64 :=
  grd a1 (ln (t + 5)) ((if (wI w (t + 5) (a1).toNatClampNeg) = (8 : Int32) then some ((l_ushr a0 (1 : Int32)) ||| (a0 &&& (1 : Int64))) else if (wI w (t + 5) (a1).toNatClampNeg) = (9 : Int32) then some ((l_ushr a0 (1 : Int32)) &&& (a0 ||| (-2 : Int64))) else if (wI w (t + 5) (a1).toNatClampNeg) = (10 : Int32) then some (a0 ^^^ (1 : Int64)) else if (wI w (t + 5) (a1).toNatClampNeg) = (11 : Int32) then grd a1 (ln (t + 6)) (bO (fX4_places n a2 (wI w (t + 6) (a1).toNatClampNeg)) (fun (r_8 : Int32) => if r_8 = 0 then some ((l_shl a0 (1 : Int32)) ||| (((0 : Int32)).toInt64)) else some ((l_shl a0 (1 : Int32)) ||| (((1 : Int32)).toInt64)))) else if (wI w (t + 5) (a1).toNatClampNeg) = (12 : Int32) then bO (fX4_length n a2) (fun (r_11 : Int32) => grd a1 (ln (t + 6)) (if r_11 < (wI w (t + 6) (a1).toNatClampNeg) then some ((l_shl a0 (1 : Int32)) ||| (((0 : Int32)).toInt64)) else some ((l_shl a0 (1 : Int32)) ||| (((1 : Int32)).toInt64)))) else grd a1 (ln (t + 6)) (if a3 = (wI w (t + 6) (a1).toNatClampNeg) then some ((l_shl a0 (1 : Int32)) ||| (((1 : Int32)).toInt64)) else some ((l_shl a0 (1 : Int32)) ||| (((0 : Int32)).toInt64)))))
-- NobodysBard$Fashion.holds(IJI)Z
def bX1_holds_28 (n : Nat) (t : Nat) (p1 : Int32) (p2 : Int64) (p4 : Int32) (k66 : Int64 → (Option Int32)) (w : jWd) (rec : Int64 → Int32 → Option Int32) (x5 : Int64) (x7 : Int32)  : Option Int32 :=
  grd p1 (ln (t + 4)) (if (wI w (t + 4) (p1).toNatClampNeg) ≤ x7 then k66 x5 else if (200 : Int32) ≤ x7 then k66 x5 else bO (fX1_taken n t x5 x7 p2 p4 w) (fun (r_8 : Int64) => letV (x7 + (1 : Int32)) (fun (x7_9 : Int32) => rec r_8 x7_9)))
def lX1_holds_28 (n : Nat) (t : Nat) (p1 : Int32) (p2 : Int64) (p4 : Int32) (k66 : Int64 → (Option Int32)) (w : jWd) : Nat → Int64 → Int32 → Option Int32
  | 0 => fun _ _ => none
  | c + 1 => fun x5 x7 => bX1_holds_28 n t p1 p2 p4 k66 w (lX1_holds_28 n t p1 p2 p4 k66 w c) x5 x7
def fX1_holds (n : Nat) (t : Nat) (a0 : Int32) (a1 : Int64) (a2 : Int32) (w : jWd) : Option Int32 :=
  grd a0 (ln (t + 3)) (grd a0 (ln (t + 4)) (if (wI w (t + 3) (a0).toNatClampNeg) < (wI w (t + 4) (a0).toNatClampNeg) then grd a0 (ln (t + 3)) (letV ((wI w (t + 3) (a0).toNatClampNeg)) (fun (x7_4 : Int32) => lX1_holds_28 n t a0 a1 a2 (fun (z5_11 : Int64) => if (lg_cmp (z5_11 &&& (1 : Int64)) (1 : Int64)) = 0 then some (1 : Int32) else some (0 : Int32)) w n (0 : Int64) x7_4)) else some (1 : Int32)))
-- NobodysBard$Fashion.put(JJI)V
def fX1_put (t : Nat) (a0 : Int64) (a1 : Int64) (a2 : Int32) (w : jWd) : Option jWd :=
  if (wI w t 0) < (12 : Int32) then grd (wI w t 0) (ln (t + 1)) (letV (sJ w (t + 1) (((wI w t 0)).toNatClampNeg) a0) (fun (w_1 : jWd) => grd (wI w_1 t 0) (ln (t + 2)) (letV (sJ w_1 (t + 2) (((wI w_1 t 0)).toNatClampNeg) a1) (fun (w_4 : jWd) => grd (wI w_4 t 0) (ln (t + 3)) (letV (sI w_4 (t + 3) (((wI w_4 t 0)).toNatClampNeg) a2) (fun (w_7 : jWd) => grd (wI w_7 t 0) (ln (t + 4)) (letV (sI w_7 (t + 4) (((wI w_7 t 0)).toNatClampNeg) (wI w_7 t 1)) (fun (w_10 : jWd) => letV (sI w_10 t 0 ((wI w_10 t 0) + (1 : Int32))) (fun (w_13 : jWd) => some w_13))))))))) else some w
-- NobodysBard$Line.without(JI)J
def fX4_without (a0 : Int64) (a1 : Int32) : Int64 :=
  if a1 < (8 : Int32) then (l_shl a0 ((8 : Int32) * a1)) else (0 : Int64)
-- NobodysBard$Line.head(JI)J
def fX4_head (a0 : Int64) (a1 : Int32) : Int64 :=
  if 0 < a1 then if a1 < (8 : Int32) then (a0 &&& (l_shl (-1 : Int64) ((64 : Int32) - ((8 : Int32) * a1)))) else a0 else (0 : Int64)
-- NobodysBard$Line.behind(JI)J
def fX4_behind (a0 : Int64) (a1 : Int32) : Int64 :=
  if a1 < (8 : Int32) then (l_ushr a0 ((8 : Int32) * a1)) else (0 : Int64)
-- NobodysBard$Fashion.replaced(IJ)J
def bX1_replaced_46 (n : Nat) (t : Nat) (p1 : Int32) (p2 : Int64) (p4 : Int32) (p5 : Int32) (p6 : Int32) (k77 : Int32 → (Option Int64)) (w : jWd) (rec : Int32 → Option Int64) (x7 : Int32)  : Option Int64 :=
  if p6 < (x7 + p4) then some p2 else grd p1 (ln (t + 1)) (if (lg_cmp (fX4_head (fX4_without p2 x7) p4) (wJ w (t + 1) (p1).toNatClampNeg)) = 0 then k77 x7 else letV (x7 + (1 : Int32)) (fun (x7_10 : Int32) => rec x7_10))
def lX1_replaced_46 (n : Nat) (t : Nat) (p1 : Int32) (p2 : Int64) (p4 : Int32) (p5 : Int32) (p6 : Int32) (k77 : Int32 → (Option Int64)) (w : jWd) : Nat → Int32 → Option Int64
  | 0 => fun _ => none
  | c + 1 => fun x7 => bX1_replaced_46 n t p1 p2 p4 p5 p6 k77 w (lX1_replaced_46 n t p1 p2 p4 p5 p6 k77 w c) x7
def fX1_replaced (n : Nat) (t : Nat) (a0 : Int32) (a1 : Int64) (w : jWd) : Option Int64 :=
  grd a0 (ln (t + 1)) (bO (fX4_length n (wJ w (t + 1) (a0).toNatClampNeg)) (fun (r_3 : Int32) => grd a0 (ln (t + 2)) (bO (fX4_length n (wJ w (t + 2) (a0).toNatClampNeg)) (fun (r_6 : Int32) => bO (fX4_length n a1) (fun (r_8 : Int32) => if ((r_8 - r_3) + r_6) ≤ (8 : Int32) then lX1_replaced_46 n t a0 a1 r_3 r_6 r_8 (fun (z7_12 : Int32) => letV ((fX4_without a1 (z7_12 + r_3))) (fun (x8_13 : Int64) => grd a0 (ln (t + 2)) (some (((fX4_head a1 z7_12) ||| (fX4_behind (wJ w (t + 2) (a0).toNatClampNeg) z7_12)) ||| (fX4_behind x8_13 (z7_12 + r_6)))))) w n (0 : Int32) else some a1)))))
-- NobodysBard$Fashion.step(JI)J
def bX1_step_3 (n : Nat) (t : Nat) (p1 : Int64) (p3 : Int32) (w : jWd) (rec : Int32 → Option Int64) (x4 : Int32)  : Option Int64 :=
  if (wI w t 0) ≤ x4 then some p1 else if (12 : Int32) ≤ x4 then some p1 else bO (fX1_holds n t x4 p1 p3 w) (fun (r_2 : Int32) => if r_2 = 0 then letV (x4 + (1 : Int32)) (fun (x4_7 : Int32) => rec x4_7) else bO (fX1_replaced n t x4 p1 w) (fun (r_4 : Int64) => if (lg_cmp r_4 p1) = 0 then letV (x4 + (1 : Int32)) (fun (x4_5 : Int32) => rec x4_5) else some r_4))
def lX1_step_3 (n : Nat) (t : Nat) (p1 : Int64) (p3 : Int32) (w : jWd) : Nat → Int32 → Option Int64
  | 0 => fun _ => none
  | c + 1 => fun x4 => bX1_step_3 n t p1 p3 w (lX1_step_3 n t p1 p3 w c) x4
def fX1_step (n : Nat) (t : Nat) (a0 : Int64) (a1 : Int32) (w : jWd) : Option Int64 :=
  lX1_step_3 n t a0 a1 w n (0 : Int32)
-- NobodysBard$Fashion.smooth(JI)J
def bX1_smooth_6 (n : Nat) (t : Nat) (p3 : Int32) (w : jWd) (rec : Int64 → Int32 → Option Int64) (x4 : Int64) (x6 : Int32)  : Option Int64 :=
  if (12 : Int32) ≤ x6 then some x4 else bO (fX1_step n t x4 p3 w) (fun (r_2 : Int64) => if (lg_cmp r_2 x4) = 0 then some x4 else letV (x6 + (1 : Int32)) (fun (x6_3 : Int32) => rec r_2 x6_3))
def lX1_smooth_6 (n : Nat) (t : Nat) (p3 : Int32) (w : jWd) : Nat → Int64 → Int32 → Option Int64
  | 0 => fun _ _ => none
  | c + 1 => fun x4 x6 => bX1_smooth_6 n t p3 w (lX1_smooth_6 n t p3 w c) x4 x6
def fX1_smooth (n : Nat) (t : Nat) (a0 : Int64) (a1 : Int32) (w : jWd) : Option Int64 :=
  lX1_smooth_6 n t a1 w n a0 (0 : Int32)
-- NobodysBard$Pile.has(I)Z
def fX5_has (t : Nat) (a0 : Int32) (w : jWd) : Int32 :=
  if a0 < 0 then (0 : Int32) else if (wI w t 2) ≤ a0 then (0 : Int32) else (1 : Int32)
-- NobodysBard$Pile.has(II)Z
def fX5_has_ (t : Nat) (a0 : Int32) (a1 : Int32) (w : jWd) : Option Int32 :=
  if (fX5_has t a0 w) = 0 then some (0 : Int32) else if a1 < 0 then some (0 : Int32) else grd a0 (ln (t + 4)) (if (wI w (t + 4) (a0).toNatClampNeg) ≤ a1 then some (0 : Int32) else some (1 : Int32))
-- NobodysBard$Pile.at(II)J
def fX5_at (t : Nat) (a0 : Int32) (a1 : Int32) (w : jWd) : Option Int64 :=
  bO (fX5_has_ t a0 a1 w) (fun (r_2 : Int32) => if r_2 = 0 then some (0 : Int64) else grd ((a0 * (wI w t 1)) + a1) (ln (t + 6)) (some (wJ w (t + 6) (((a0 * (wI w t 1)) + a1)).toNatClampNeg)))
-- NobodysBard$Judge.pileOf(I)LNobodysBard$Pile;
def fX2_pileOf (a0 : Int32) : Nat :=
  if a0 = (8 : Int32) then 16 else letV (9) (fun (j25_1 : Nat) => if a0 = (3 : Int32) then j25_1 else if a0 = (9 : Int32) then j25_1 else 2)
-- NobodysBard$State.isEarly(I)Z
def fX8_isEarly (t : Nat) (a0 : Int32) (w : jWd) : Option Int32 :=
  if (fX5_has (t + 1) a0 w) = 0 then some (0 : Int32) else grd a0 (ln (t + 4)) (grd (0 : Int32) (ln (t + 18)) (if (wI w (t + 18) ((0 : Int32)).toNatClampNeg) < (wI w (t + 4) (a0).toNatClampNeg) then some (0 : Int32) else some (1 : Int32)))
-- NobodysBard$Judge.isAmong(III)Z
def fX2_isAmong (a0 : Int32) (a1 : Int32) (a2 : Int32) (w : jWd) : Option Int32 :=
  (if a0 = (0 : Int32) then bO (fX8_isEarly 1 a1 w) (fun (r_3 : Int32) => if r_3 = 0 then some (0 : Int32) else grd a1 (ln 3) (if (wI w 3 (a1).toNatClampNeg) = a2 then some (1 : Int32) else some (0 : Int32))) else if a0 = (1 : Int32) then bO (fX8_isEarly 1 a1 w) (fun (r_7 : Int32) => if r_7 = 0 then some (0 : Int32) else grd a1 (ln 3) (if (wI w 3 (a1).toNatClampNeg) = a2 then some (0 : Int32) else some (1 : Int32))) else if a0 = (2 : Int32) then bO (fX8_isEarly 1 a1 w) (fun (r_11 : Int32) => some (r_11 &&& 1)) else if a0 = (6 : Int32) then bO (fX8_isEarly 1 a1 w) (fun (r_14 : Int32) => some (r_14 &&& 1)) else if a0 = (7 : Int32) then bO (fX8_isEarly 1 a1 w) (fun (r_17 : Int32) => if r_17 = 0 then some (1 : Int32) else some (0 : Int32)) else if a0 = (9 : Int32) then if (fX5_has 9 a1 w) = 0 then some (0 : Int32) else grd a1 (ln 10) (if (wI w 10 (a1).toNatClampNeg) = 0 then some (0 : Int32) else some (1 : Int32)) else some (1 : Int32))
-- NobodysBard$Line.common(JJ)I
def bX4_common_11 (n : Nat) (p2 : Int64) (k70 : Int32 → (Option Int32)) (rec : Int32 → Int64 → Int32 → Option Int32) (x4 : Int32) (x5 : Int64) (x7 : Int32)  : Option Int32 :=
  if (8 : Int32) ≤ x7 then k70 x4 else if (lg_cmp x5 (0 : Int64)) = 0 then k70 x4 else bO (fX4_places n p2 (((l_ushr x5 (56 : Int32))).toInt32)) (fun (r_2 : Int32) => letV ((x4 &&& r_2)) (fun (x8_3 : Int32) => letV ((((x4 + x8_3) ||| (x4 - x8_3)) &&& (255 : Int32))) (fun (x4_5 : Int32) => letV ((l_shl x5 (8 : Int32))) (fun (x5_7 : Int64) => letV (x7 + (1 : Int32)) (fun (x7_9 : Int32) => rec x4_5 x5_7 x7_9)))))
def lX4_common_11 (n : Nat) (p2 : Int64) (k70 : Int32 → (Option Int32)) : Nat → Int32 → Int64 → Int32 → Option Int32
  | 0 => fun _ _ _ => none
  | c + 1 => fun x4 x5 x7 => bX4_common_11 n p2 k70 (lX4_common_11 n p2 k70 c) x4 x5 x7
def fX4_common (n : Nat) (a0 : Int64) (a1 : Int64) : Option Int32 :=
  lX4_common_11 n a1 (fun (z4_11 : Int32) => some ((8 : Int32) - (fJ6_bitCount_0f7a4 z4_11))) n (255 : Int32) a0 (0 : Int32)
-- NobodysBard$Line.alike(JJ)I
def fX4_alike (n : Nat) (a0 : Int64) (a1 : Int64) : Option Int32 :=
  if (lg_cmp a0 a1) = 0 then some (100 : Int32) else bO (fX4_length n a0) (fun (r_2 : Int32) => bO (fX4_length n a1) (fun (r_4 : Int32) => letV ((imax r_2 r_4)) (fun (x4_5 : Int32) => if x4_5 = 0 then some (0 : Int32) else bO (fX4_common n a0 a1) (fun (r_8 : Int32) => grzi x4_5 (some (((100 : Int32) * r_8) / x4_5))))))
-- NobodysBard$Judge.nearest(IJI)I
def bX2_nearest_46 (n : Nat) (p1 : Int32) (p2 : Int64) (p4 : Int32) (p5 : Nat) (p7 : Int32) (k133 : Int32 → jWd → (Option (Int32 × jWd))) (rec : Int32 → Int32 → jWd → Option (Int32 × jWd)) (x6 : Int32) (x8 : Int32) (w : jWd)  : Option (Int32 × jWd) :=
  grd p7 (ln (p5 + 4)) (if (wI w (p5 + 4) (p7).toNatClampNeg) ≤ x8 then k133 x6 w else letV (((p7 * (wI w p5 1)) + x8)) (fun (x9_8 : Int32) => letV (fun (s_10 : Int64) => bO (fX4_alike n p2 s_10) (fun (r_13 : Int32) => if r_13 ≤ x6 then letV (x8 + (1 : Int32)) (fun (x8_14 : Int32) => rec x6 x8_14 w) else letV (sI w 182 5 (((100 : Int32) * p7) + x8)) (fun (w_16 : jWd) => letV (x8 + (1 : Int32)) (fun (x8_18 : Int32) => rec r_13 x8_18 w_16)))) (fun (j99_11 : Int64 → Option (Int32 × jWd)) => if p1 = (2 : Int32) then grd x9_8 (ln 30) (j99_11 (wJ w 30 (x9_8).toNatClampNeg)) else grd x9_8 (ln (p5 + 6)) (j99_11 (wJ w (p5 + 6) (x9_8).toNatClampNeg)))))
def lX2_nearest_46 (n : Nat) (p1 : Int32) (p2 : Int64) (p4 : Int32) (p5 : Nat) (p7 : Int32) (k133 : Int32 → jWd → (Option (Int32 × jWd))) : Nat → Int32 → Int32 → jWd → Option (Int32 × jWd)
  | 0 => fun _ _ _ => none
  | c + 1 => fun x6 x8 w => bX2_nearest_46 n p1 p2 p4 p5 p7 k133 (lX2_nearest_46 n p1 p2 p4 p5 p7 k133 c) x6 x8 w
def bX2_nearest_18 (n : Nat) (p1 : Int32) (p2 : Int64) (p4 : Int32) (p5 : Nat) (rec : Int32 → Int32 → jWd → Option (Int32 × jWd)) (x6 : Int32) (x7 : Int32) (w : jWd)  : Option (Int32 × jWd) :=
  if (wI w p5 2) ≤ x7 then some (x6, w) else bO (fX2_isAmong p1 x7 p4 w) (fun (r_6 : Int32) => if r_6 = 0 then letV (x7 + (1 : Int32)) (fun (x7_26 : Int32) => rec x6 x7_26 w) else lX2_nearest_46 n p1 p2 p4 p5 x7 (fun (z6_23 : Int32) (w_22 : jWd) => letV (x7 + (1 : Int32)) (fun (x7_24 : Int32) => rec z6_23 x7_24 w_22)) n x6 (0 : Int32) w)
def lX2_nearest_18 (n : Nat) (p1 : Int32) (p2 : Int64) (p4 : Int32) (p5 : Nat) : Nat → Int32 → Int32 → jWd → Option (Int32 × jWd)
  | 0 => fun _ _ _ => none
  | c + 1 => fun x6 x7 w => bX2_nearest_18 n p1 p2 p4 p5 (lX2_nearest_18 n p1 p2 p4 p5 c) x6 x7 w
def fX2_nearest (n : Nat) (a0 : Int32) (a1 : Int64) (a2 : Int32) (w : jWd) : Option (Int32 × jWd) :=
  letV ((fX2_pileOf a0)) (fun (r_1 : Nat) => letV (sI w 182 5 (-1 : Int32)) (fun (w_3 : jWd) => lX2_nearest_18 n a0 a1 a2 r_1 n (0 : Int32) (0 : Int32) w_3))
-- NobodysBard$Judge.look(I)V
def bX2_look_52 (n : Nat) (p2 : Int64) (p4 : Int32) (k111 : Int32 → jWd → (Option jWd)) (k81 : Int32 → jWd → (Option jWd)) (rec : Int32 → Int32 → jWd → Option jWd) (x5 : Int32) (x6 : Int32) (w : jWd)  : Option jWd :=
  if (3 : Int32) < x6 then k111 x5 w else bO2 (fX2_nearest n x6 p2 p4 w) (fun (r_9 : Int32) (w_8 : jWd) => if r_9 < (wI w_8 1 11) then letV ((imax x5 r_9)) (fun (x5_10 : Int32) => letV (x6 + (1 : Int32)) (fun (x6_12 : Int32) => rec x5_10 x6_12 w_8)) else k81 x6 w_8)
def lX2_look_52 (n : Nat) (p2 : Int64) (p4 : Int32) (k111 : Int32 → jWd → (Option jWd)) (k81 : Int32 → jWd → (Option jWd)) : Nat → Int32 → Int32 → jWd → Option jWd
  | 0 => fun _ _ _ => none
  | c + 1 => fun x5 x6 w => bX2_look_52 n p2 p4 k111 k81 (lX2_look_52 n p2 p4 k111 k81 c) x5 x6 w
def fX2_look (n : Nat) (a0 : Int32) (w : jWd) : Option jWd :=
  bO (fX5_at 16 (0 : Int32) a0 w) (fun (r_2 : Int64) => bO (fX5_has_ 16 (0 : Int32) a0 w) (fun (r_4 : Int32) => letV (fun (s_5 : Int32) => lX2_look_52 n r_2 s_5 (fun (z5_15 : Int32) (w_14 : jWd) => letV (fun (s_16 : Int32) => letV (sI w_14 182 3 s_16) (fun (w_18 : jWd) => letV (sI w_18 182 4 (-1 : Int32)) (fun (w_20 : jWd) => some w_20))) (fun (j129_17 : Int32 → Option jWd) => if z5_15 < (wI w_14 1 12) then j129_17 (5 : Int32) else j129_17 (4 : Int32))) (fun (z6_23 : Int32) (w_22 : jWd) => letV (sI w_22 182 3 z6_23) (fun (w_24 : jWd) => letV (sI w_24 182 4 (wI w_24 182 5)) (fun (w_26 : jWd) => some w_26))) n (0 : Int32) (0 : Int32) w) (fun (j44_6 : Int32 → Option jWd) => if r_4 = 0 then j44_6 (0 : Int32) else grd a0 (ln 21) (j44_6 (wI w 21 (a0).toNatClampNeg)))))
-- NobodysBard$Judge.bookHasLike(IJI)Z
def bX2_bookHasLike_19 (n : Nat) (p1 : Int32) (p2 : Int64) (p4 : Int32) (w : jWd) (rec : Int32 → Option Int32) (x5 : Int32)  : Option Int32 :=
  grd p1 (ln 13) (if (wI w 13 (p1).toNatClampNeg) ≤ x5 then some (0 : Int32) else bO (fX5_at 9 p1 x5 w) (fun (r_3 : Int64) => bO (fX4_alike n r_3 p2) (fun (r_5 : Int32) => if r_5 < p4 then letV (x5 + (1 : Int32)) (fun (x5_6 : Int32) => rec x5_6) else some (1 : Int32))))
def lX2_bookHasLike_19 (n : Nat) (p1 : Int32) (p2 : Int64) (p4 : Int32) (w : jWd) : Nat → Int32 → Option Int32
  | 0 => fun _ => none
  | c + 1 => fun x5 => bX2_bookHasLike_19 n p1 p2 p4 w (lX2_bookHasLike_19 n p1 p2 p4 w c) x5
def fX2_bookHasLike (n : Nat) (a0 : Int32) (a1 : Int64) (a2 : Int32) (w : jWd) : Option Int32 :=
  if (fX5_has 9 a0 w) = 0 then some (0 : Int32) else lX2_bookHasLike_19 n a0 a1 a2 w n (0 : Int32)
-- NobodysBard$Judge.wouldBeTheirs(IJ)Z
def bX2_wouldBeTheirs_37 (n : Nat) (p1 : Int32) (p2 : Int64) (w : jWd) (rec : Int32 → Option Int32) (x4 : Int32)  : Option Int32 :=
  grd p1 (ln 13) (if (wI w 13 (p1).toNatClampNeg) ≤ x4 then some (0 : Int32) else if (12 : Int32) ≤ x4 then some (0 : Int32) else grd x4 (ln 183) (bO (fX4_alike n (wJ w 183 (x4).toNatClampNeg) p2) (fun (r_6 : Int32) => if r_6 < (wI w 1 11) then letV (x4 + (1 : Int32)) (fun (x4_7 : Int32) => rec x4_7) else some (1 : Int32))))
def lX2_wouldBeTheirs_37 (n : Nat) (p1 : Int32) (p2 : Int64) (w : jWd) : Nat → Int32 → Option Int32
  | 0 => fun _ => none
  | c + 1 => fun x4 => bX2_wouldBeTheirs_37 n p1 p2 w (lX2_wouldBeTheirs_37 n p1 p2 w c) x4
def fX2_wouldBeTheirs (n : Nat) (a0 : Int32) (a1 : Int64) (w : jWd) : Option Int32 :=
  if (fX5_has 9 a0 w) = 0 then some (0 : Int32) else bO (fX2_bookHasLike n a0 a1 (wI w 1 11) w) (fun (r_2 : Int32) => if r_2 = 0 then lX2_wouldBeTheirs_37 n a0 a1 w n (0 : Int32) else some (1 : Int32))
-- NobodysBard$Judge.addsOf(III)I
def bX2_addsOf_19 (n : Nat) (p1 : Int32) (p2 : Int32) (p3 : Int32) (k83 : jWd → (Option (Int32 × jWd))) (rec : Int32 → jWd → Option (Int32 × jWd)) (x4 : Int32) (w : jWd)  : Option (Int32 × jWd) :=
  grd p1 (ln 13) (if (wI w 13 (p1).toNatClampNeg) ≤ x4 then k83 w else if (12 : Int32) ≤ x4 then k83 w else bO (fX5_at 9 p1 x4 w) (fun (r_3 : Int64) => bO (fX1_smooth n 32 r_3 p2 w) (fun (r_5 : Int64) => grd x4 (ln 183) (letV (sJ w 183 ((x4).toNatClampNeg) r_5) (fun (w_6 : jWd) => letV (x4 + (1 : Int32)) (fun (x4_9 : Int32) => rec x4_9 w_6))))))
def lX2_addsOf_19 (n : Nat) (p1 : Int32) (p2 : Int32) (p3 : Int32) (k83 : jWd → (Option (Int32 × jWd))) : Nat → Int32 → jWd → Option (Int32 × jWd)
  | 0 => fun _ _ => none
  | c + 1 => fun x4 w => bX2_addsOf_19 n p1 p2 p3 k83 (lX2_addsOf_19 n p1 p2 p3 k83 c) x4 w
def bX2_addsOf_89 (n : Nat) (p1 : Int32) (p3 : Int32) (k162 : Int32 → jWd → (Option (Int32 × jWd))) (rec : Int32 → Int32 → jWd → Option (Int32 × jWd)) (x4 : Int32) (x5 : Int32) (w : jWd)  : Option (Int32 × jWd) :=
  if (wI w 20 0) ≤ x5 then k162 x4 w else bO (fX2_look n x5 w) (fun (w_13 : jWd) => if (wI w_13 182 3) < (3 : Int32) then letV (x5 + (1 : Int32)) (fun (x5_14 : Int32) => rec x4 x5_14 w_13) else bO (fX5_at 16 (0 : Int32) x5 w_13) (fun (r_17 : Int64) => bO (fX2_wouldBeTheirs n p1 r_17 w_13) (fun (r_19 : Int32) => if r_19 = 0 then letV (x5 + (1 : Int32)) (fun (x5_24 : Int32) => rec x4 x5_24 w_13) else if x4 = p3 then some (x5, w_13) else letV (x4 + (1 : Int32)) (fun (x4_20 : Int32) => letV (x5 + (1 : Int32)) (fun (x5_22 : Int32) => rec x4_20 x5_22 w_13)))))
def lX2_addsOf_89 (n : Nat) (p1 : Int32) (p3 : Int32) (k162 : Int32 → jWd → (Option (Int32 × jWd))) : Nat → Int32 → Int32 → jWd → Option (Int32 × jWd)
  | 0 => fun _ _ _ => none
  | c + 1 => fun x4 x5 w => bX2_addsOf_89 n p1 p3 k162 (lX2_addsOf_89 n p1 p3 k162 c) x4 x5 w
def fX2_addsOf (n : Nat) (a0 : Int32) (a1 : Int32) (a2 : Int32) (w : jWd) : Option (Int32 × jWd) :=
  if (fX5_has 9 a0 w) = 0 then some ((-1 : Int32), w) else lX2_addsOf_19 n a0 a1 a2 (fun (w_11 : jWd) => lX2_addsOf_89 n a0 a2 (fun (z4_27 : Int32) (w_26 : jWd) => if a2 = (-1 : Int32) then some (z4_27, w_26) else some ((-1 : Int32), w_26)) n (0 : Int32) (0 : Int32) w_11) n (0 : Int32) w
-- NobodysBard$Judge.countKinds()V
def bX2_countKinds_10 (n : Nat) (rec : Int32 → jWd → Option jWd) (x1 : Int32) (w : jWd)  : Option jWd :=
  if (wI w 20 0) ≤ x1 then some w else bO (fX2_look n x1 w) (fun (w_4 : jWd) => if (wI w_4 182 3) < 0 then letV (x1 + (1 : Int32)) (fun (x1_5 : Int32) => rec x1_5 w_4) else if (6 : Int32) ≤ (wI w_4 182 3) then letV (x1 + (1 : Int32)) (fun (x1_7 : Int32) => rec x1_7 w_4) else grd (wI w_4 182 3) (ln 184) (grd (wI w_4 182 3) (ln 184) (letV (sI w_4 184 (((wI w_4 182 3)).toNatClampNeg) ((wI w_4 184 ((wI w_4 182 3)).toNatClampNeg) + (1 : Int32))) (fun (w_10 : jWd) => letV (x1 + (1 : Int32)) (fun (x1_13 : Int32) => rec x1_13 w_10)))))
def lX2_countKinds_10 (n : Nat) : Nat → Int32 → jWd → Option jWd
  | 0 => fun _ _ => none
  | c + 1 => fun x1 w => bX2_countKinds_10 n (lX2_countKinds_10 n c) x1 w
def fX2_countKinds (n : Nat) (w : jWd) : Option jWd :=
  bO (fJ7_fill_53178 n 184 (0 : Int32) w) (fun (w_2 : jWd) => lX2_countKinds_10 n n (0 : Int32) w_2)
-- NobodysBard$Judge.greatestCommon(JJ)J
def bX2_greatestCommon_9 (n : Nat) (rec : Int64 → Int64 → Int32 → Option Int64) (x4 : Int64) (x6 : Int64) (x8 : Int32)  : Option Int64 :=
  if (200 : Int32) ≤ x8 then some x4 else if (lg_cmp x6 (0 : Int64)) = 0 then some x4 else grzl x6 (letV ((l_rem x4 x6)) (fun (x9_2 : Int64) => letV (x8 + (1 : Int32)) (fun (x8_4 : Int32) => rec x6 x9_2 x8_4)))
def lX2_greatestCommon_9 (n : Nat) : Nat → Int64 → Int64 → Int32 → Option Int64
  | 0 => fun _ _ _ => none
  | c + 1 => fun x4 x6 x8 => bX2_greatestCommon_9 n (lX2_greatestCommon_9 n c) x4 x6 x8
def fX2_greatestCommon (n : Nat) (a0 : Int64) (a1 : Int64) : Option Int64 :=
  lX2_greatestCommon_9 n n a0 a1 (0 : Int32)
-- NobodysBard$Judge.fraction(JJI)J
def fX2_fraction (n : Nat) (a0 : Int64) (a1 : Int64) (a2 : Int32) : Option Int64 :=
  letV (fun (s_1 : Int64) => letV (if (lg_cmp s_1 (0 : Int64)) = 0 then some (0 : Int64) else some (1 : Int64)) (fun (j24_3 : Option Int64) => if (lg_cmp a0 (0 : Int64)) = 0 then j24_3 else if (lg_cmp a1 (0 : Int64)) = 0 then j24_3 else bO (fX2_greatestCommon n a0 a1) (fun (r_5 : Int64) => grzl (lmax (1 : Int64) r_5) (some (s_1 / (lmax (1 : Int64) r_5)))))) (fun (j10_2 : Int64 → Option Int64) => if a2 = 0 then j10_2 a0 else j10_2 a1)
-- NobodysBard$Judge.isBack(I)Z
def fX2_isBack (n : Nat) (a0 : Int32) (w : jWd) : Option (Int32 × jWd) :=
  if (fX0_has 41 a0 w) = 0 then some ((0 : Int32), w) else grd a0 (ln 47) (letV ((wJ w 47 (a0).toNatClampNeg)) (fun (x2_2 : Int64) => if (lg_cmp x2_2 (0 : Int64)) = 0 then some ((0 : Int32), w) else grd a0 (ln 43) (if (wI w 19 0) < (wI w 43 (a0).toNatClampNeg) then bO2 (fX2_nearest n (8 : Int32) x2_2 (-1 : Int32) w) (fun (r_7 : Int32) (w_6 : jWd) => if r_7 < (wI w_6 1 11) then some ((0 : Int32), w_6) else bO2 (fX2_nearest n (6 : Int32) x2_2 (-1 : Int32) w_6) (fun (r_10 : Int32) (w_9 : jWd) => if (wI w_9 1 11) ≤ r_10 then some ((0 : Int32), w_9) else some ((1 : Int32), w_9))) else some ((0 : Int32), w))))
-- NobodysBard$Judge.isCounted(II)Z
def fX2_isCounted (n : Nat) (a0 : Int32) (a1 : Int32) (w : jWd) : Option (Int32 × jWd) :=
  (if a1 = (0 : Int32) then some ((1 : Int32), w) else if a1 = (1 : Int32) then bO (fX0_heard 41 a0 (0 : Int32) w) (fun (r_4 : Int32) => if r_4 = (1 : Int32) then some ((1 : Int32), w) else some ((0 : Int32), w)) else if a1 = (2 : Int32) then bO (fX0_heard 41 a0 (1 : Int32) w) (fun (r_7 : Int32) => if r_7 = (1 : Int32) then some ((1 : Int32), w) else some ((0 : Int32), w)) else bO2 (fX2_isBack n a0 w) (fun (r_10 : Int32) (w_9 : jWd) => some ((r_10 &&& 1), w_9)))
-- NobodysBard$Judge.isMuddled(I)Z
def fX2_isMuddled (n : Nat) (a0 : Int32) (w : jWd) : Option (Int32 × jWd) :=
  if (fX0_has 41 a0 w) = 0 then some ((0 : Int32), w) else grd a0 (ln 47) (letV ((wJ w 47 (a0).toNatClampNeg)) (fun (x2_2 : Int64) => if (lg_cmp x2_2 (0 : Int64)) = 0 then some ((0 : Int32), w) else grd a0 (ln 46) (if (wI w 46 (a0).toNatClampNeg) = (1 : Int32) then bO2 (fX2_nearest n (6 : Int32) x2_2 (-1 : Int32) w) (fun (r_7 : Int32) (w_6 : jWd) => if r_7 < (wI w_6 1 11) then some ((0 : Int32), w_6) else bO2 (fX2_nearest n (8 : Int32) x2_2 (-1 : Int32) w_6) (fun (r_10 : Int32) (w_9 : jWd) => if (wI w_9 1 11) ≤ r_10 then some ((0 : Int32), w_9) else some ((1 : Int32), w_9))) else some ((0 : Int32), w))))
-- NobodysBard$Judge.matchesOf(II)I
def bX2_matchesOf_5 (n : Nat) (p1 : Int32) (p2 : Int32) (w : jWd) (rec : Int32 → Int32 → Option Int32) (x3 : Int32) (x4 : Int32)  : Option Int32 :=
  if (wI w 20 0) ≤ x4 then some x3 else bO (fX5_at 16 (0 : Int32) x4 w) (fun (r_2 : Int64) => bO (fX2_bookHasLike n p1 r_2 p2 w) (fun (r_4 : Int32) => if r_4 = 0 then letV (x4 + (1 : Int32)) (fun (x4_5 : Int32) => rec x3 x4_5) else letV (x3 + (1 : Int32)) (fun (x3_7 : Int32) => letV (x4 + (1 : Int32)) (fun (x4_9 : Int32) => rec x3_7 x4_9))))
def lX2_matchesOf_5 (n : Nat) (p1 : Int32) (p2 : Int32) (w : jWd) : Nat → Int32 → Int32 → Option Int32
  | 0 => fun _ _ => none
  | c + 1 => fun x3 x4 => bX2_matchesOf_5 n p1 p2 w (lX2_matchesOf_5 n p1 p2 w c) x3 x4
def fX2_matchesOf (n : Nat) (a0 : Int32) (a1 : Int32) (w : jWd) : Option Int32 :=
  lX2_matchesOf_5 n a0 a1 w n (0 : Int32) (0 : Int32)
-- NobodysBard$Judge.muddledAt(I)I
def bX2_muddledAt_4 (n : Nat) (p1 : Int32) (k45 : Int32 → jWd → (Option (Int32 × jWd))) (rec : Int32 → Int32 → jWd → Option (Int32 × jWd)) (x2 : Int32) (x3 : Int32) (w : jWd)  : Option (Int32 × jWd) :=
  if (wI w 41 0) ≤ x3 then k45 x2 w else bO2 (fX2_isMuddled n x3 w) (fun (r_3 : Int32) (w_2 : jWd) => if r_3 = 0 then letV (x3 + (1 : Int32)) (fun (x3_8 : Int32) => rec x2 x3_8 w_2) else if x2 = p1 then some (x3, w_2) else letV (x2 + (1 : Int32)) (fun (x2_4 : Int32) => letV (x3 + (1 : Int32)) (fun (x3_6 : Int32) => rec x2_4 x3_6 w_2)))
def lX2_muddledAt_4 (n : Nat) (p1 : Int32) (k45 : Int32 → jWd → (Option (Int32 × jWd))) : Nat → Int32 → Int32 → jWd → Option (Int32 × jWd)
  | 0 => fun _ _ _ => none
  | c + 1 => fun x2 x3 w => bX2_muddledAt_4 n p1 k45 (lX2_muddledAt_4 n p1 k45 c) x2 x3 w
def fX2_muddledAt (n : Nat) (a0 : Int32) (w : jWd) : Option (Int32 × jWd) :=
  lX2_muddledAt_4 n a0 (fun (z2_11 : Int32) (w_10 : jWd) => if a0 = (-1 : Int32) then some (z2_11, w_10) else some ((-1 : Int32), w_10)) n (0 : Int32) (0 : Int32) w
-- NobodysBard$Judge.pairs(I)I
def bX2_pairs_11 (n : Nat) (p1 : Int32) (p2 : Nat) (k47 : Int32 → (Option Int32)) (w : jWd) (rec : Int32 → Int32 → Option Int32) (x3 : Int32) (x4 : Int32)  : Option Int32 :=
  if (wI w p2 2) ≤ x4 then k47 x3 else bO (fX2_isAmong p1 x4 (-1 : Int32) w) (fun (r_4 : Int32) => if r_4 = 0 then letV (x4 + (1 : Int32)) (fun (x4_5 : Int32) => rec x3 x4_5) else grd x4 (ln (p2 + 4)) (letV ((x3 + (wI w (p2 + 4) (x4).toNatClampNeg))) (fun (x3_8 : Int32) => letV (x4 + (1 : Int32)) (fun (x4_10 : Int32) => rec x3_8 x4_10))))
def lX2_pairs_11 (n : Nat) (p1 : Int32) (p2 : Nat) (k47 : Int32 → (Option Int32)) (w : jWd) : Nat → Int32 → Int32 → Option Int32
  | 0 => fun _ _ => none
  | c + 1 => fun x3 x4 => bX2_pairs_11 n p1 p2 k47 w (lX2_pairs_11 n p1 p2 k47 w c) x3 x4
def fX2_pairs (n : Nat) (a0 : Int32) (w : jWd) : Option Int32 :=
  letV ((fX2_pileOf a0)) (fun (r_1 : Nat) => lX2_pairs_11 n a0 r_1 (fun (z3_12 : Int32) => some (z3_12 * (wI w 20 0))) w n (0 : Int32) (0 : Int32))
-- NobodysBard$Judge.printedLike(JI)I
def bX2_printedLike_6 (n : Nat) (p1 : Int64) (p3 : Int32) (w : jWd) (rec : Int32 → Int32 → Option Int32) (x4 : Int32) (x5 : Int32)  : Option Int32 :=
  if (wI w 20 0) ≤ x5 then some x4 else bO (fX5_at 16 (0 : Int32) x5 w) (fun (r_2 : Int64) => bO (fX4_alike n p1 r_2) (fun (r_4 : Int32) => if r_4 < p3 then letV (x5 + (1 : Int32)) (fun (x5_5 : Int32) => rec x4 x5_5) else letV (x4 + (1 : Int32)) (fun (x4_7 : Int32) => letV (x5 + (1 : Int32)) (fun (x5_9 : Int32) => rec x4_7 x5_9))))
def lX2_printedLike_6 (n : Nat) (p1 : Int64) (p3 : Int32) (w : jWd) : Nat → Int32 → Int32 → Option Int32
  | 0 => fun _ _ => none
  | c + 1 => fun x4 x5 => bX2_printedLike_6 n p1 p3 w (lX2_printedLike_6 n p1 p3 w c) x4 x5
def fX2_printedLike (n : Nat) (a0 : Int64) (a1 : Int32) (w : jWd) : Option Int32 :=
  lX2_printedLike_6 n a0 a1 w n (0 : Int32) (0 : Int32)
-- NobodysBard$Judge.pairsBy(II)I
def bX2_pairsBy_38 (n : Nat) (p1 : Int32) (p2 : Int32) (p3 : Nat) (p5 : Int32) (k74 : Int32 → (Option Int32)) (w : jWd) (rec : Int32 → Int32 → Option Int32) (x4 : Int32) (x6 : Int32)  : Option Int32 :=
  grd p5 (ln (p3 + 4)) (if (wI w (p3 + 4) (p5).toNatClampNeg) ≤ x6 then k74 x4 else bO (fX5_at p3 p5 x6 w) (fun (r_7 : Int64) => bO (fX2_printedLike n r_7 p2 w) (fun (r_9 : Int32) => letV ((x4 + r_9)) (fun (x4_10 : Int32) => letV (x6 + (1 : Int32)) (fun (x6_12 : Int32) => rec x4_10 x6_12)))))
def lX2_pairsBy_38 (n : Nat) (p1 : Int32) (p2 : Int32) (p3 : Nat) (p5 : Int32) (k74 : Int32 → (Option Int32)) (w : jWd) : Nat → Int32 → Int32 → Option Int32
  | 0 => fun _ _ => none
  | c + 1 => fun x4 x6 => bX2_pairsBy_38 n p1 p2 p3 p5 k74 w (lX2_pairsBy_38 n p1 p2 p3 p5 k74 w c) x4 x6
def bX2_pairsBy_12 (n : Nat) (p1 : Int32) (p2 : Int32) (p3 : Nat) (w : jWd) (rec : Int32 → Int32 → Option Int32) (x4 : Int32) (x5 : Int32)  : Option Int32 :=
  if (wI w p3 2) ≤ x5 then some x4 else bO (fX2_isAmong p1 x5 (-1 : Int32) w) (fun (r_4 : Int32) => if r_4 = 0 then letV (x5 + (1 : Int32)) (fun (x5_17 : Int32) => rec x4 x5_17) else lX2_pairsBy_38 n p1 p2 p3 x5 (fun (z4_14 : Int32) => letV (x5 + (1 : Int32)) (fun (x5_15 : Int32) => rec z4_14 x5_15)) w n x4 (0 : Int32))
def lX2_pairsBy_12 (n : Nat) (p1 : Int32) (p2 : Int32) (p3 : Nat) (w : jWd) : Nat → Int32 → Int32 → Option Int32
  | 0 => fun _ _ => none
  | c + 1 => fun x4 x5 => bX2_pairsBy_12 n p1 p2 p3 w (lX2_pairsBy_12 n p1 p2 p3 w c) x4 x5
def fX2_pairsBy (n : Nat) (a0 : Int32) (a1 : Int32) (w : jWd) : Option Int32 :=
  letV ((fX2_pileOf a0)) (fun (r_1 : Nat) => lX2_pairsBy_12 n a0 a1 r_1 w n (0 : Int32) (0 : Int32))
-- NobodysBard$Judge.partedBy(II)I
def bX2_partedBy_5 (n : Nat) (p1 : Int32) (p2 : Int32) (rec : Int32 → Int32 → jWd → Option (Int32 × jWd)) (x3 : Int32) (x4 : Int32) (w : jWd)  : Option (Int32 × jWd) :=
  if (wI w 41 0) ≤ x4 then some (x3, w) else bO (fX0_heard 41 x4 p1 w) (fun (r_2 : Int32) => if r_2 = p2 then bO2 (fX2_isBack n x4 w) (fun (r_7 : Int32) (w_6 : jWd) => if r_7 = 0 then grd x4 (ln 44) (letV ((x3 + ((10 : Int32) - (wI w_6 44 (x4).toNatClampNeg)))) (fun (x3_11 : Int32) => letV (x4 + (1 : Int32)) (fun (x4_13 : Int32) => rec x3_11 x4_13 w_6))) else letV (x4 + (1 : Int32)) (fun (x4_8 : Int32) => rec x3 x4_8 w_6)) else letV (x4 + (1 : Int32)) (fun (x4_3 : Int32) => rec x3 x4_3 w))
def lX2_partedBy_5 (n : Nat) (p1 : Int32) (p2 : Int32) : Nat → Int32 → Int32 → jWd → Option (Int32 × jWd)
  | 0 => fun _ _ _ => none
  | c + 1 => fun x3 x4 w => bX2_partedBy_5 n p1 p2 (lX2_partedBy_5 n p1 p2 c) x3 x4 w
def fX2_partedBy (n : Nat) (a0 : Int32) (a1 : Int32) (w : jWd) : Option (Int32 × jWd) :=
  lX2_partedBy_5 n a0 a1 n (0 : Int32) (0 : Int32) w
-- NobodysBard$Law.clear()V
def fX3_clear (n : Nat) (t : Nat) (w : jWd) : Option jWd :=
  letV (sI w t 0 (0 : Int32)) (fun (w_1 : jWd) => letV (sI w_1 t 1 (0 : Int32)) (fun (w_3 : jWd) => letV (sI w_3 t 2 (0 : Int32)) (fun (w_5 : jWd) => letV (sI w_5 t 3 (0 : Int32)) (fun (w_7 : jWd) => bO (fJ7_fill_53178 n (t + 1) (0 : Int32) w_7) (fun (w_10 : jWd) => some w_10)))))
-- NobodysBard$Law.copy(LNobodysBard$Law;)V
def fX3_copy (t : Nat) (a0 : Nat) (w : jWd) : Option jWd :=
  letV (sI w t 0 (wI w a0 0)) (fun (w_1 : jWd) => letV (sI w_1 t 1 (wI w_1 a0 1)) (fun (w_3 : jWd) => letV (sI w_3 t 2 (wI w_3 a0 2)) (fun (w_5 : jWd) => letV (sI w_5 t 3 (wI w_5 a0 3)) (fun (w_7 : jWd) => grc (0 : Int32) (0 : Int32) (256 : Int32) (ln (a0 + 1)) (ln (t + 1)) (letV (cpI w_7 (a0 + 1) ((0 : Int32)).toNatClampNeg (t + 1) ((0 : Int32)).toNatClampNeg ((256 : Int32)).toNatClampNeg) (fun (w_9 : jWd) => some w_9))))))
-- NobodysBard$Law.drawn(I)I
def fX3_drawn (a0 : Int32) : Int32 :=
  (i_rem (i_ushr a0 (16 : Int32)) (100 : Int32))
-- NobodysBard$Law.next(I)I
def fX3_next (a0 : Int32) : Int32 :=
  (((1103515245 : Int32) * a0) + (12345 : Int32))
-- NobodysBard$Law.putChance(II)V
def fX3_putChance (t : Nat) (a0 : Int32) (a1 : Int32) (w : jWd) : Option jWd :=
  letV (fun (w_1 : jWd) => letV (fun (w_3 : jWd) => if a0 = (16 : Int32) then letV (sI w_3 t 3 a1) (fun (w_5 : jWd) => some w_5) else some w_3) (fun (j22_4 : jWd → Option jWd) => if a0 = (15 : Int32) then letV (sI w_1 t 2 a1) (fun (w_7 : jWd) => j22_4 w_7) else j22_4 w_1)) (fun (j11_2 : jWd → Option jWd) => if a0 = (14 : Int32) then letV (sI w t 1 a1) (fun (w_9 : jWd) => j11_2 w_9) else j11_2 w)
-- NobodysBard$Law.putSaying(II)V
def fX3_putSaying (t : Nat) (a0 : Int32) (a1 : Int32) (w : jWd) : Option jWd :=
  if a1 < 0 then some w else if (255 : Int32) < a1 then some w else grd a1 (ln (t + 1)) (if (wI w (t + 1) (a1).toNatClampNeg) = 0 then grd a1 (ln (t + 1)) (letV (sI w (t + 1) ((a1).toNatClampNeg) a0) (fun (w_2 : jWd) => some w_2)) else some w)
-- NobodysBard$Law.respoken(J)J
def bX3_respoken_5 (n : Nat) (t : Nat) (p1 : Int64) (w : jWd) (rec : Int64 → Int32 → Option Int64) (x3 : Int64) (x5 : Int32)  : Option Int64 :=
  if (8 : Int32) ≤ x5 then some x3 else letV ((fX4_word p1 x5)) (fun (x6_1 : Int32) => grd x6_1 (ln (t + 1)) (letV (fun (s_4 : Int32) => letV (((l_shl x3 (8 : Int32)) ||| ((s_4).toInt64))) (fun (x3_6 : Int64) => letV (x5 + (1 : Int32)) (fun (x5_8 : Int32) => rec x3_6 x5_8))) (fun (j42_5 : Int32 → Option Int64) => if (wI w (t + 1) (x6_1).toNatClampNeg) = 0 then j42_5 x6_1 else grd x6_1 (ln (t + 1)) (j42_5 (wI w (t + 1) (x6_1).toNatClampNeg)))))
def lX3_respoken_5 (n : Nat) (t : Nat) (p1 : Int64) (w : jWd) : Nat → Int64 → Int32 → Option Int64
  | 0 => fun _ _ => none
  | c + 1 => fun x3 x5 => bX3_respoken_5 n t p1 w (lX3_respoken_5 n t p1 w c) x3 x5
def fX3_respoken (n : Nat) (t : Nat) (a0 : Int64) (w : jWd) : Option Int64 :=
  lX3_respoken_5 n t a0 w n (0 : Int64) (0 : Int32)
-- NobodysBard$Line.clean(J)J
def fX4_clean (n : Nat) (a0 : Int64) : Option Int64 :=
  bO (fX4_length n a0) (fun (r_2 : Int32) => some (fX4_head a0 r_2))
-- NobodysBard$Pile.copy(LNobodysBard$Pile;)V
def fX5_copy (t : Nat) (a0 : Nat) (w : jWd) : Option jWd :=
  if (wI w a0 0) = (wI w t 0) then if (wI w a0 1) = (wI w t 1) then letV (sI w t 2 (wI w a0 2)) (fun (w_1 : jWd) => grc (0 : Int32) (0 : Int32) (wI w_1 t 0) (ln (a0 + 1)) (ln (t + 1)) (letV (cpI w_1 (a0 + 1) ((0 : Int32)).toNatClampNeg (t + 1) ((0 : Int32)).toNatClampNeg ((wI w_1 t 0)).toNatClampNeg) (fun (w_3 : jWd) => grc (0 : Int32) (0 : Int32) (wI w_3 t 0) (ln (a0 + 2)) (ln (t + 2)) (letV (cpI w_3 (a0 + 2) ((0 : Int32)).toNatClampNeg (t + 2) ((0 : Int32)).toNatClampNeg ((wI w_3 t 0)).toNatClampNeg) (fun (w_6 : jWd) => grc (0 : Int32) (0 : Int32) (wI w_6 t 0) (ln (a0 + 3)) (ln (t + 3)) (letV (cpI w_6 (a0 + 3) ((0 : Int32)).toNatClampNeg (t + 3) ((0 : Int32)).toNatClampNeg ((wI w_6 t 0)).toNatClampNeg) (fun (w_9 : jWd) => grc (0 : Int32) (0 : Int32) (wI w_9 t 0) (ln (a0 + 4)) (ln (t + 4)) (letV (cpI w_9 (a0 + 4) ((0 : Int32)).toNatClampNeg (t + 4) ((0 : Int32)).toNatClampNeg ((wI w_9 t 0)).toNatClampNeg) (fun (w_12 : jWd) => grc (0 : Int32) (0 : Int32) ((wI w_12 t 0) * (wI w_12 t 1)) (ln (a0 + 5)) (ln (t + 5)) (letV (cpI w_12 (a0 + 5) ((0 : Int32)).toNatClampNeg (t + 5) ((0 : Int32)).toNatClampNeg (((wI w_12 t 0) * (wI w_12 t 1))).toNatClampNeg) (fun (w_15 : jWd) => grc (0 : Int32) (0 : Int32) ((wI w_15 t 0) * (wI w_15 t 1)) (ln (a0 + 6)) (ln (t + 6)) (letV (cpJ w_15 (a0 + 6) ((0 : Int32)).toNatClampNeg (t + 6) ((0 : Int32)).toNatClampNeg (((wI w_15 t 0) * (wI w_15 t 1))).toNatClampNeg) (fun (w_18 : jWd) => some w_18))))))))))))) else some w else some w
-- NobodysBard$Pile.isFull()Z
def fX5_isFull (t : Nat) (w : jWd) : Int32 :=
  if (wI w t 2) < (wI w t 0) then (0 : Int32) else (1 : Int32)
-- NobodysBard$Pile.isFull(I)Z
def fX5_isFull_ (t : Nat) (a0 : Int32) (w : jWd) : Option Int32 :=
  if (fX5_has t a0 w) = 0 then some (1 : Int32) else grd a0 (ln (t + 4)) (if (wI w (t + 4) (a0).toNatClampNeg) < (wI w t 1) then some (0 : Int32) else some (1 : Int32))
-- NobodysBard$Pile.put(IIJ)I
def fX5_put (t : Nat) (a0 : Int32) (a1 : Int32) (a2 : Int64) (w : jWd) : Option (Int32 × jWd) :=
  bO (fX5_isFull_ t a0 w) (fun (r_2 : Int32) => if r_2 = 0 then grd a0 (ln (t + 4)) (letV ((wI w (t + 4) (a0).toNatClampNeg)) (fun (x5_4 : Int32) => grd ((a0 * (wI w t 1)) + x5_4) (ln (t + 5)) (letV (sI w (t + 5) ((((a0 * (wI w t 1)) + x5_4)).toNatClampNeg) a1) (fun (w_6 : jWd) => grd ((a0 * (wI w_6 t 1)) + x5_4) (ln (t + 6)) (letV (sJ w_6 (t + 6) ((((a0 * (wI w_6 t 1)) + x5_4)).toNatClampNeg) a2) (fun (w_9 : jWd) => grd a0 (ln (t + 4)) (grd a0 (ln (t + 4)) (letV (sI w_9 (t + 4) ((a0).toNatClampNeg) ((wI w_9 (t + 4) (a0).toNatClampNeg) + (1 : Int32))) (fun (w_13 : jWd) => some (x5_4, w_13)))))))))) else some ((-1 : Int32), w))
-- NobodysBard$Pile.start(III)I
def fX5_start (t : Nat) (a0 : Int32) (a1 : Int32) (a2 : Int32) (w : jWd) : Option (Int32 × jWd) :=
  if (fX5_isFull t w) = 0 then grd (wI w t 2) (ln (t + 1)) (letV (sI w (t + 1) (((wI w t 2)).toNatClampNeg) a0) (fun (w_1 : jWd) => grd (wI w_1 t 2) (ln (t + 2)) (letV (sI w_1 (t + 2) (((wI w_1 t 2)).toNatClampNeg) a1) (fun (w_4 : jWd) => grd (wI w_4 t 2) (ln (t + 3)) (letV (sI w_4 (t + 3) (((wI w_4 t 2)).toNatClampNeg) a2) (fun (w_7 : jWd) => grd (wI w_7 t 2) (ln (t + 4)) (letV (sI w_7 (t + 4) (((wI w_7 t 2)).toNatClampNeg) (0 : Int32)) (fun (w_10 : jWd) => letV (sI w_10 t 2 ((wI w_10 t 2) + (1 : Int32))) (fun (w_13 : jWd) => some ((wI w_10 t 2), w_13)))))))))) else some ((-1 : Int32), w)
-- NobodysBard$Reader.blame(I)V
def fX6_blame (a0 : Int32) (w : jWd) : Option jWd :=
  if (wI w 189 2) = 0 then if (wI w 189 5) < 0 then some w else if (wI w 189 5) < (wI w 189 4) then grd (wI w 189 5) (ln 199) (letV (fun (s_2 : Int32) => letV (sI w 189 2 s_2) (fun (w_4 : jWd) => grd (wI w_4 189 5) (ln 201) (letV (sI w_4 189 3 (wI w_4 201 ((wI w_4 189 5)).toNatClampNeg)) (fun (w_7 : jWd) => some w_7)))) (fun (j45_3 : Int32 → Option jWd) => if (wI w 199 ((wI w 189 5)).toNatClampNeg) = (1 : Int32) then j45_3 (1 : Int32) else j45_3 a0)) else some w else some w
-- NobodysBard$Reader.isLetter(I)Z
def fX6_isLetter (a0 : Int32) : Int32 :=
  if a0 < (97 : Int32) then (0 : Int32) else if (122 : Int32) < a0 then (0 : Int32) else (1 : Int32)
-- NobodysBard$Reader.isDigit(I)Z
def fX6_isDigit (a0 : Int32) : Int32 :=
  if a0 < (48 : Int32) then (0 : Int32) else if (57 : Int32) < a0 then (0 : Int32) else (1 : Int32)
-- NobodysBard$Reader.endOfToken([BII)I
def bX6_endOfToken_14 (n : Nat) (p0 : Nat) (p1 : Int32) (p2 : Int32) (k67 : Int32 → (Option Int32)) (w : jWd) (rec : Int32 → Option Int32) (x3 : Int32)  : Option Int32 :=
  if p2 ≤ x3 then some p2 else grd p1 (ln p0) (letV (fun (s_2 : Int32) => if s_2 = 0 then k67 x3 else letV (x3 + (1 : Int32)) (fun (x3_4 : Int32) => rec x3_4)) (fun (j60_3 : Int32 → Option Int32) => if (fX6_isLetter (wI w p0 (p1).toNatClampNeg)) = 0 then grd p1 (ln p0) (letV (j60_3 (0 : Int32)) (fun (j59_7 : Option Int32) => if (fX6_isDigit (wI w p0 (p1).toNatClampNeg)) = 0 then j59_7 else grd x3 (ln p0) (if (fX6_isDigit (wI w p0 (x3).toNatClampNeg)) = 0 then j59_7 else j60_3 (1 : Int32)))) else grd x3 (ln p0) (j60_3 (fX6_isLetter (wI w p0 (x3).toNatClampNeg)))))
def lX6_endOfToken_14 (n : Nat) (p0 : Nat) (p1 : Int32) (p2 : Int32) (k67 : Int32 → (Option Int32)) (w : jWd) : Nat → Int32 → Option Int32
  | 0 => fun _ => none
  | c + 1 => fun x3 => bX6_endOfToken_14 n p0 p1 p2 k67 w (lX6_endOfToken_14 n p0 p1 p2 k67 w c) x3
def fX6_endOfToken (n : Nat) (a0 : Nat) (a1 : Int32) (a2 : Int32) (w : jWd) : Option Int32 :=
  if a1 < 0 then some a2 else if a2 ≤ (Int32.ofNat (ln a0)) then lX6_endOfToken_14 n a0 a1 a2 (fun (z3_10 : Int32) => some (imax z3_10 (a1 + (1 : Int32)))) w n a1 else some a2
-- NobodysBard$Reader.isAt(I)Z
def fX6_isAt (a0 : Int32) (w : jWd) : Option Int32 :=
  if (wI w 189 2) = 0 then if (wI w 189 5) < 0 then some (0 : Int32) else if (wI w 189 4) ≤ (wI w 189 5) then some (0 : Int32) else grd (wI w 189 5) (ln 199) (if (wI w 199 ((wI w 189 5)).toNatClampNeg) = a0 then some (1 : Int32) else some (0 : Int32)) else some (0 : Int32)
-- NobodysBard$Reader.spells([BIILjava/lang/String;)Z
def bX6_spells_25 (n : Nat) (p0 : Nat) (p1 : Int32) (p2 : Int32) (p3 : Nat) (w : jWd) (rec : Int32 → Option Int32) (x4 : Int32)  : Option Int32 :=
  if p2 ≤ x4 then some (1 : Int32) else grd x4 (ln p0) (grd (x4 - p1) (strN p3) (if (wI w p0 (x4).toNatClampNeg) = (strC p3 (x4 - p1)) then letV (x4 + (1 : Int32)) (fun (x4_3 : Int32) => rec x4_3) else some (0 : Int32)))
def lX6_spells_25 (n : Nat) (p0 : Nat) (p1 : Int32) (p2 : Int32) (p3 : Nat) (w : jWd) : Nat → Int32 → Option Int32
  | 0 => fun _ => none
  | c + 1 => fun x4 => bX6_spells_25 n p0 p1 p2 p3 w (lX6_spells_25 n p0 p1 p2 p3 w c) x4
def fX6_spells (n : Nat) (a0 : Nat) (a1 : Int32) (a2 : Int32) (a3 : Nat) (w : jWd) : Option Int32 :=
  if a1 < 0 then some (0 : Int32) else if (Int32.ofNat (ln a0)) < a2 then some (0 : Int32) else if (a2 - a1) = (strL a3) then lX6_spells_25 n a0 a1 a2 a3 w n a1 else some (0 : Int32)
-- NobodysBard$Reader.wordKind([BII)I
def fX6_wordKind (n : Nat) (a0 : Nat) (a1 : Int32) (a2 : Int32) (w : jWd) : Option Int32 :=
  bO (fX6_spells n a0 a1 a2 0 w) (fun (r_2 : Int32) => if r_2 = 0 then bO (fX6_spells n a0 a1 a2 1 w) (fun (r_4 : Int32) => if r_4 = 0 then bO (fX6_spells n a0 a1 a2 2 w) (fun (r_6 : Int32) => if r_6 = 0 then bO (fX6_spells n a0 a1 a2 3 w) (fun (r_8 : Int32) => if r_8 = 0 then bO (fX6_spells n a0 a1 a2 4 w) (fun (r_10 : Int32) => if r_10 = 0 then bO (fX6_spells n a0 a1 a2 5 w) (fun (r_12 : Int32) => if r_12 = 0 then bO (fX6_spells n a0 a1 a2 6 w) (fun (r_14 : Int32) => if r_14 = 0 then bO (fX6_spells n a0 a1 a2 7 w) (fun (r_16 : Int32) => if r_16 = 0 then bO (fX6_spells n a0 a1 a2 8 w) (fun (r_18 : Int32) => if r_18 = 0 then bO (fX6_spells n a0 a1 a2 9 w) (fun (r_20 : Int32) => if r_20 = 0 then bO (fX6_spells n a0 a1 a2 10 w) (fun (r_22 : Int32) => if r_22 = 0 then bO (fX6_spells n a0 a1 a2 11 w) (fun (r_24 : Int32) => if r_24 = 0 then bO (fX6_spells n a0 a1 a2 12 w) (fun (r_26 : Int32) => if r_26 = 0 then some (19 : Int32) else some (18 : Int32)) else some (17 : Int32)) else some (16 : Int32)) else some (15 : Int32)) else some (14 : Int32)) else some (13 : Int32)) else some (12 : Int32)) else some (11 : Int32)) else some (10 : Int32)) else some (9 : Int32)) else some (8 : Int32)) else some (7 : Int32)) else some (6 : Int32))
-- NobodysBard$Reader.kindOf([BII)I
def fX6_kindOf (n : Nat) (a0 : Nat) (a1 : Int32) (a2 : Int32) (w : jWd) : Option Int32 :=
  letV (fun (s_1 : Int32) => if (fX6_isDigit s_1) = 0 then if (fX6_isLetter s_1) = 0 then if s_1 = (59 : Int32) then some (3 : Int32) else if s_1 = (40 : Int32) then some (4 : Int32) else if s_1 = (41 : Int32) then some (5 : Int32) else some (1 : Int32) else bO (fX6_wordKind n a0 a1 a2 w) (fun (r_4 : Int32) => some r_4) else if (a2 - a1) ≤ (3 : Int32) then some (2 : Int32) else some (1 : Int32)) (fun (j17_2 : Int32 → Option Int32) => letV (j17_2 (0 : Int32)) (fun (j16_5 : Option Int32) => if a1 < 0 then j16_5 else if (Int32.ofNat (ln a0)) ≤ a1 then j16_5 else grd a1 (ln a0) (j17_2 (wI w a0 (a1).toNatClampNeg))))
-- NobodysBard$Reader.numberOf([BII)I
def bX6_numberOf_24 (n : Nat) (p0 : Nat) (p2 : Int32) (w : jWd) (rec : Int32 → Int32 → Option Int32) (x3 : Int32) (x4 : Int32)  : Option Int32 :=
  if p2 ≤ x4 then some x3 else grd x4 (ln p0) (if (fX6_isDigit (wI w p0 (x4).toNatClampNeg)) = 0 then letV (x4 + (1 : Int32)) (fun (x4_2 : Int32) => rec x3 x4_2) else grd x4 (ln p0) (letV (((((10 : Int32) * x3) + (wI w p0 (x4).toNatClampNeg)) - (48 : Int32))) (fun (x3_5 : Int32) => letV (x4 + (1 : Int32)) (fun (x4_7 : Int32) => rec x3_5 x4_7))))
def lX6_numberOf_24 (n : Nat) (p0 : Nat) (p2 : Int32) (w : jWd) : Nat → Int32 → Int32 → Option Int32
  | 0 => fun _ _ => none
  | c + 1 => fun x3 x4 => bX6_numberOf_24 n p0 p2 w (lX6_numberOf_24 n p0 p2 w c) x3 x4
def fX6_numberOf (n : Nat) (a0 : Nat) (a1 : Int32) (a2 : Int32) (w : jWd) : Option Int32 :=
  if a1 < 0 then some (0 : Int32) else if (Int32.ofNat (ln a0)) < a2 then some (0 : Int32) else if (a2 - a1) ≤ (3 : Int32) then lX6_numberOf_24 n a0 a2 w n (0 : Int32) a1 else some (0 : Int32)
-- NobodysBard$Reader.putToken(III)V
def fX6_putToken (a0 : Int32) (a1 : Int32) (a2 : Int32) (w : jWd) : Option jWd :=
  if (wI w 189 4) ≤ (400 : Int32) then grd (wI w 189 4) (ln 199) (letV (sI w 199 (((wI w 189 4)).toNatClampNeg) a0) (fun (w_1 : jWd) => grd (wI w_1 189 4) (ln 200) (letV (sI w_1 200 (((wI w_1 189 4)).toNatClampNeg) a1) (fun (w_4 : jWd) => grd (wI w_4 189 4) (ln 201) (letV (sI w_4 201 (((wI w_4 189 4)).toNatClampNeg) a2) (fun (w_7 : jWd) => letV (sI w_7 189 4 ((wI w_7 189 4) + (1 : Int32))) (fun (w_10 : jWd) => some w_10))))))) else some w
-- NobodysBard$Reader.readNumber(IIZ)I
def fX6_readNumber (a0 : Int32) (a1 : Int32) (a2 : Int32) (w : jWd) : Option (Int32 × jWd) :=
  bO (fX6_isAt (2 : Int32) w) (fun (r_2 : Int32) => if r_2 = 0 then bO (fX6_blame (2 : Int32) w) (fun (w_16 : jWd) => some ((0 : Int32), w_16)) else grd (wI w 189 5) (ln 200) (letV ((wI w 200 ((wI w 189 5)).toNatClampNeg)) (fun (x4_4 : Int32) => letV (fun (w_6 : jWd) => letV (sI w_6 189 5 ((wI w_6 189 5) + (1 : Int32))) (fun (w_8 : jWd) => some (x4_4, w_8))) (fun (j55_7 : jWd → Option (Int32 × jWd)) => letV (bO (fX6_blame (3 : Int32) w) (fun (w_12 : jWd) => j55_7 w_12)) (fun (j38_10 : Option (Int32 × jWd)) => if x4_4 < a0 then j38_10 else if x4_4 ≤ a1 then if a2 = 0 then j55_7 w else bO (fX6_blame (4 : Int32) w) (fun (w_14 : jWd) => j55_7 w_14) else j38_10)))))
-- NobodysBard$Reader.readPlainFact(III)V
def fX6_readPlainFact (a0 : Int32) (a1 : Int32) (a2 : Int32) (w : jWd) : Option jWd :=
  letV (sI w 189 5 ((wI w 189 5) + (1 : Int32))) (fun (w_1 : jWd) => bO2 (fX6_readNumber a1 a2 (0 : Int32) w_1) (fun (r_5 : Int32) (w_4 : jWd) => bO (fX1_emit 190 a0 r_5 w_4) (fun (w_7 : jWd) => some w_7)))
-- NobodysBard$Reader.take(I)V
def fX6_take (a0 : Int32) (w : jWd) : Option jWd :=
  bO (fX6_isAt a0 w) (fun (r_2 : Int32) => if r_2 = 0 then bO (fX6_blame (2 : Int32) w) (fun (w_4 : jWd) => some w_4) else letV (sI w 189 5 ((wI w 189 5) + (1 : Int32))) (fun (w_5 : jWd) => some w_5))
-- NobodysBard$Reader.readTest(I)V
def bX6_readTest_23 (n : Nat) (fact : Int32 → jWd → Option jWd) (p1 : Int32) (p2 : Int32) (k77 : jWd → (Option jWd)) (rec : Int32 → jWd → Option jWd) (x3 : Int32) (w : jWd)  : Option jWd :=
  if (400 : Int32) ≤ x3 then k77 w else if (wI w 189 2) = 0 then bO (fX6_isAt (9 : Int32) w) (fun (r_4 : Int32) => if r_4 = 0 then k77 w else letV (sI w 189 5 ((wI w 189 5) + (1 : Int32))) (fun (w_5 : jWd) => bO (fact p1 w_5) (fun (w_8 : jWd) => bO (fX1_emit 190 (9 : Int32) (0 : Int32) w_8) (fun (w_10 : jWd) => letV (x3 + (1 : Int32)) (fun (x3_11 : Int32) => rec x3_11 w_10))))) else k77 w
def lX6_readTest_23 (n : Nat) (fact : Int32 → jWd → Option jWd) (p1 : Int32) (p2 : Int32) (k77 : jWd → (Option jWd)) : Nat → Int32 → jWd → Option jWd
  | 0 => fun _ _ => none
  | c + 1 => fun x3 w => bX6_readTest_23 n fact p1 p2 k77 (lX6_readTest_23 n fact p1 p2 k77 c) x3 w
def bX6_readTest_2 (n : Nat) (fact : Int32 → jWd → Option jWd) (p1 : Int32) (rec : Int32 → jWd → Option jWd) (x2 : Int32) (w : jWd)  : Option jWd :=
  if (400 : Int32) ≤ x2 then some w else if (wI w 189 2) = 0 then bO (fact p1 w) (fun (w_2 : jWd) => lX6_readTest_23 n fact p1 x2 (fun (w_13 : jWd) => letV (fun (w_14 : jWd) => bO (fX6_isAt (8 : Int32) w_14) (fun (r_17 : Int32) => if r_17 = 0 then some w_14 else letV (sI w_14 189 5 ((wI w_14 189 5) + (1 : Int32))) (fun (w_18 : jWd) => letV (x2 + (1 : Int32)) (fun (x2_20 : Int32) => rec x2_20 w_18)))) (fun (j91_15 : jWd → Option jWd) => if x2 ≤ 0 then j91_15 w_13 else bO (fX1_emit 190 (8 : Int32) (0 : Int32) w_13) (fun (w_23 : jWd) => j91_15 w_23))) n (0 : Int32) w_2) else some w
def lX6_readTest_2 (n : Nat) (fact : Int32 → jWd → Option jWd) (p1 : Int32) : Nat → Int32 → jWd → Option jWd
  | 0 => fun _ _ => none
  | c + 1 => fun x2 w => bX6_readTest_2 n fact p1 (lX6_readTest_2 n fact p1 c) x2 w
def fX6_readTestG (n : Nat) (fact : Int32 → jWd → Option jWd) (a0 : Int32) (w : jWd) : Option jWd :=
  lX6_readTest_2 n fact a0 n (0 : Int32) w
-- NobodysBard$Reader.readFact(I)V
def fX6_readFactB (n : Nat) (fact : Int32 → jWd → Option jWd) (a0 : Int32) (w : jWd) : Option jWd :=
  if (wI w 189 2) = 0 then bO (fX6_isAt (11 : Int32) w) (fun (r_2 : Int32) => if r_2 = 0 then bO (fX6_isAt (12 : Int32) w) (fun (r_4 : Int32) => if r_4 = 0 then bO (fX6_isAt (13 : Int32) w) (fun (r_6 : Int32) => if r_6 = 0 then bO (fX6_isAt (10 : Int32) w) (fun (r_8 : Int32) => letV (if a0 < (8 : Int32) then bO (fX6_isAt (10 : Int32) w) (fun (r_11 : Int32) => if r_11 = 0 then letV (sI w 189 5 ((wI w 189 5) + (1 : Int32))) (fun (w_12 : jWd) => bO (fX6_readTestG n fact (a0 + (1 : Int32)) w_12) (fun (w_15 : jWd) => bO (fX6_take (5 : Int32) w_15) (fun (w_17 : jWd) => some w_17))) else letV (sI w 189 5 ((wI w 189 5) + (1 : Int32))) (fun (w_18 : jWd) => bO (fact (a0 + (1 : Int32)) w_18) (fun (w_21 : jWd) => bO (fX1_emit 190 (10 : Int32) (0 : Int32) w_21) (fun (w_23 : jWd) => some w_23)))) else bO (fX6_blame (5 : Int32) w) (fun (w_25 : jWd) => some w_25)) (fun (j97_9 : Option jWd) => if r_8 = 0 then bO (fX6_isAt (4 : Int32) w) (fun (r_27 : Int32) => if r_27 = 0 then bO (fX6_blame (2 : Int32) w) (fun (w_29 : jWd) => some w_29) else j97_9) else j97_9)) else bO (fX6_readPlainFact (13 : Int32) (0 : Int32) (9 : Int32) w) (fun (w_31 : jWd) => some w_31)) else bO (fX6_readPlainFact (12 : Int32) (1 : Int32) (8 : Int32) w) (fun (w_33 : jWd) => some w_33)) else bO (fX6_readPlainFact (11 : Int32) (1 : Int32) (255 : Int32) w) (fun (w_35 : jWd) => some w_35)) else some w
def fX6_readFact (n : Nat) : Nat → Int32 → jWd → Option jWd
  | 0 => fun _ _ => none
  | r + 1 => fun a w => fX6_readFactB n (fX6_readFact n r) a w
def fX6_readTest (n : Nat) (a0 : Int32) (w : jWd) : Option jWd := fX6_readTestG n (fX6_readFact n 12) a0 w
-- NobodysBard$Reader.readSide(Z)J
def bX6_readSide_5 (n : Nat) (p1 : Int32) (rec : Int64 → Int32 → jWd → Option (Int64 × jWd)) (x2 : Int64) (x4 : Int32) (w : jWd)  : Option (Int64 × jWd) :=
  if (4 : Int32) < x4 then some (x2, w) else if (wI w 189 2) = 0 then letV (letV (fun (s_2 : Int32) => bO2 (fX6_readNumber (1 : Int32) (255 : Int32) s_2 w) (fun (r_6 : Int32) (w_5 : jWd) => letV ((x2 ||| (fX4_behind (l_shl ((r_6).toInt64) (56 : Int32)) x4))) (fun (x2_7 : Int64) => letV (x4 + (1 : Int32)) (fun (x4_9 : Int32) => rec x2_7 x4_9 w_5)))) (fun (j53_3 : Int32 → Option (Int64 × jWd)) => letV (j53_3 (1 : Int32)) (fun (j48_11 : Option (Int64 × jWd)) => if p1 = 0 then if x4 = (4 : Int32) then j48_11 else j53_3 (0 : Int32) else j48_11))) (fun (j33_1 : Option (Int64 × jWd)) => if x4 ≤ 0 then j33_1 else bO (fX6_isAt (2 : Int32) w) (fun (r_13 : Int32) => if r_13 = 0 then some (x2, w) else j33_1)) else some (x2, w)
def lX6_readSide_5 (n : Nat) (p1 : Int32) : Nat → Int64 → Int32 → jWd → Option (Int64 × jWd)
  | 0 => fun _ _ _ => none
  | c + 1 => fun x2 x4 w => bX6_readSide_5 n p1 (lX6_readSide_5 n p1 c) x2 x4 w
def fX6_readSide (n : Nat) (a0 : Int32) (w : jWd) : Option (Int64 × jWd) :=
  lX6_readSide_5 n a0 n (0 : Int64) (0 : Int32) w
-- NobodysBard$Reader.readRule()V
def fX6_readRule (n : Nat) (w : jWd) : Option jWd :=
  letV (fun (s_1 : Int32) => bO2 (fX6_readSide n s_1 w) (fun (r_5 : Int64) (w_4 : jWd) => bO (fX6_take (6 : Int32) w_4) (fun (w_7 : jWd) => bO2 (fX6_readSide n (0 : Int32) w_7) (fun (r_10 : Int64) (w_9 : jWd) => letV ((wI w_9 190 1)) (fun (x5_11 : Int32) => bO (fX6_isAt (7 : Int32) w_9) (fun (r_14 : Int32) => letV (fun (w_15 : jWd) => bO (fX6_take (3 : Int32) w_15) (fun (w_18 : jWd) => if (wI w_18 189 2) = 0 then bO (fX1_put 190 r_5 r_10 x5_11 w_18) (fun (w_20 : jWd) => some w_20) else some w_18)) (fun (j67_16 : jWd → Option jWd) => if r_14 = 0 then j67_16 w_9 else letV (sI w_9 189 5 ((wI w_9 189 5) + (1 : Int32))) (fun (w_21 : jWd) => bO (fX6_readTest n (0 : Int32) w_21) (fun (w_24 : jWd) => j67_16 w_24))))))))) (fun (j18_2 : Int32 → Option jWd) => if (wI w 190 0) < (12 : Int32) then j18_2 (0 : Int32) else j18_2 (1 : Int32))
-- NobodysBard$Reader.readFashion()V
def bX6_readFashion_9 (n : Nat) (rec : Int32 → jWd → Option jWd) (x1 : Int32) (w : jWd)  : Option jWd :=
  if (12 : Int32) < x1 then some w else if (wI w 189 2) = 0 then bO (fX6_isAt (0 : Int32) w) (fun (r_4 : Int32) => if r_4 = 0 then bO (fX6_readRule n w) (fun (w_6 : jWd) => letV (x1 + (1 : Int32)) (fun (x1_7 : Int32) => rec x1_7 w_6)) else some w) else some w
def lX6_readFashion_9 (n : Nat) : Nat → Int32 → jWd → Option jWd
  | 0 => fun _ _ => none
  | c + 1 => fun x1 w => bX6_readFashion_9 n (lX6_readFashion_9 n c) x1 w
def fX6_readFashion (n : Nat) (w : jWd) : Option jWd :=
  bO (fX1_clear 190 w) (fun (w_2 : jWd) => lX6_readFashion_9 n n (0 : Int32) w_2)
-- NobodysBard$Reader.readWay()V
def fX6_readWay (w : jWd) : Option jWd :=
  bO (fX6_isAt (14 : Int32) w) (fun (r_2 : Int32) => letV (fun (s_3 : Int32) => if s_3 = (19 : Int32) then bO (fX6_blame (2 : Int32) w) (fun (w_31 : jWd) => some w_31) else if (wI w 197 0) < (12 : Int32) then letV (sI w 189 5 ((wI w 189 5) + (1 : Int32))) (fun (w_5 : jWd) => letV (fun (w_7 : jWd) => bO (fX6_take (3 : Int32) w_7) (fun (w_10 : jWd) => letV (sI w_10 197 0 ((wI w_10 197 0) + (1 : Int32))) (fun (w_11 : jWd) => some w_11))) (fun (j161_8 : jWd → Option jWd) => if s_3 = (17 : Int32) then bO2 (fX6_readNumber (1 : Int32) (255 : Int32) (0 : Int32) w_5) (fun (r_20 : Int32) (w_19 : jWd) => bO (fX6_take (18 : Int32) w_19) (fun (w_22 : jWd) => bO2 (fX6_readNumber (1 : Int32) (255 : Int32) (0 : Int32) w_22) (fun (r_25 : Int32) (w_24 : jWd) => bO (fX3_putSaying 197 r_20 r_25 w_24) (fun (w_27 : jWd) => j161_8 w_27)))) else bO2 (fX6_readNumber (0 : Int32) (99 : Int32) (0 : Int32) w_5) (fun (r_15 : Int32) (w_14 : jWd) => bO (fX3_putChance 197 s_3 r_15 w_14) (fun (w_17 : jWd) => j161_8 w_17)))) else bO (fX6_blame (4 : Int32) w) (fun (w_29 : jWd) => some w_29)) (fun (j58_4 : Int32 → Option jWd) => if r_2 = 0 then bO (fX6_isAt (15 : Int32) w) (fun (r_33 : Int32) => if r_33 = 0 then bO (fX6_isAt (16 : Int32) w) (fun (r_35 : Int32) => if r_35 = 0 then bO (fX6_isAt (17 : Int32) w) (fun (r_37 : Int32) => if r_37 = 0 then j58_4 (19 : Int32) else j58_4 (17 : Int32)) else j58_4 (16 : Int32)) else j58_4 (15 : Int32)) else j58_4 (14 : Int32)))
-- NobodysBard$Reader.readLaw()V
def bX6_readLaw_9 (n : Nat) (rec : Int32 → jWd → Option jWd) (x1 : Int32) (w : jWd)  : Option jWd :=
  if (12 : Int32) < x1 then some w else if (wI w 189 2) = 0 then bO (fX6_isAt (0 : Int32) w) (fun (r_4 : Int32) => if r_4 = 0 then bO (fX6_readWay w) (fun (w_6 : jWd) => letV (x1 + (1 : Int32)) (fun (x1_7 : Int32) => rec x1_7 w_6)) else some w) else some w
def lX6_readLaw_9 (n : Nat) : Nat → Int32 → jWd → Option jWd
  | 0 => fun _ _ => none
  | c + 1 => fun x1 w => bX6_readLaw_9 n (lX6_readLaw_9 n c) x1 w
def fX6_readLaw (n : Nat) (w : jWd) : Option jWd :=
  bO (fX3_clear n 197 w) (fun (w_2 : jWd) => lX6_readLaw_9 n n (0 : Int32) w_2)
-- NobodysBard$Reader.scan([BI)V
def bX6_scan_33 (n : Nat) (p1 : Nat) (p2 : Int32) (p3 : Int32) (k104 : jWd → (Option jWd)) (rec : Int32 → Int32 → jWd → Option jWd) (x4 : Int32) (x5 : Int32) (w : jWd)  : Option jWd :=
  if p3 ≤ x5 then k104 w else if x5 < x4 then letV (x5 + (1 : Int32)) (fun (x5_11 : Int32) => rec x4 x5_11 w) else grd x5 (ln p1) (if (wI w p1 (x5).toNatClampNeg) = (10 : Int32) then letV (x5 + (1 : Int32)) (fun (x5_14 : Int32) => rec x4 x5_14 w) else grd x5 (ln p1) (if (wI w p1 (x5).toNatClampNeg) = (32 : Int32) then letV (x5 + (1 : Int32)) (fun (x5_27 : Int32) => rec x4 x5_27 w) else bO (fX6_endOfToken n p1 x5 p3 w) (fun (r_18 : Int32) => bO (fX6_kindOf n p1 x5 r_18 w) (fun (r_20 : Int32) => bO (fX6_numberOf n p1 x5 r_18 w) (fun (r_22 : Int32) => bO (fX6_putToken r_20 r_22 x5 w) (fun (w_24 : jWd) => letV (x5 + (1 : Int32)) (fun (x5_25 : Int32) => rec r_18 x5_25 w_24)))))))
def lX6_scan_33 (n : Nat) (p1 : Nat) (p2 : Int32) (p3 : Int32) (k104 : jWd → (Option jWd)) : Nat → Int32 → Int32 → jWd → Option jWd
  | 0 => fun _ _ _ => none
  | c + 1 => fun x4 x5 w => bX6_scan_33 n p1 p2 p3 k104 (lX6_scan_33 n p1 p2 p3 k104 c) x4 x5 w
def fX6_scan (n : Nat) (a0 : Nat) (a1 : Int32) (w : jWd) : Option jWd :=
  letV (sI w 189 2 (0 : Int32)) (fun (w_1 : jWd) => letV (sI w_1 189 3 (-1 : Int32)) (fun (w_3 : jWd) => letV (sI w_3 189 4 (0 : Int32)) (fun (w_5 : jWd) => letV (sI w_5 189 5 (0 : Int32)) (fun (w_7 : jWd) => letV ((imin a1 (Int32.ofNat (ln a0)))) (fun (x3_9 : Int32) => lX6_scan_33 n a0 a1 x3_9 (fun (w_29 : jWd) => bO (fX6_putToken (0 : Int32) (0 : Int32) a1 w_29) (fun (w_31 : jWd) => some w_31)) n (0 : Int32) (0 : Int32) w_7)))))
-- NobodysBard$Rows.canBe(I)Z
def fX7_canBe (a0 : Int32) : Int32 :=
  if a0 < 0 then (0 : Int32) else if (4 : Int32) ≤ a0 then (0 : Int32) else (1 : Int32)
-- NobodysBard$Rows.at(II)J
def fX7_at (a0 : Int32) (a1 : Int32) (w : jWd) : Option Int64 :=
  if (fX7_canBe a0) = 0 then some (0 : Int64) else if a1 < 0 then some (0 : Int64) else grd a0 (ln 186) (if (wI w 186 (a0).toNatClampNeg) ≤ a1 then some (0 : Int64) else grd ((a0 * (60 : Int32)) + a1) (ln 188) (some (wJ w 188 (((a0 * (60 : Int32)) + a1)).toNatClampNeg)))
-- NobodysBard$Rows.cut(IJ)J
def fX7_cut (a0 : Int32) (a1 : Int64) : Int64 :=
  (if a0 = (0 : Int32) then ((((((a1).toInt32)).toInt8.toInt32)).toInt64) else if a0 = (1 : Int32) then ((((((a1).toInt32)).toInt16.toInt32)).toInt64) else if a0 = (2 : Int32) then ((((a1).toInt32)).toInt64) else a1)
-- NobodysBard$Rows.lay(III)V
def fX7_lay (n : Nat) (a0 : Int32) (a1 : Int32) (a2 : Int32) (w : jWd) : Option jWd :=
  if (fX7_canBe a0) = 0 then some w else if a2 < 0 then some w else if a2 ≤ (60 : Int32) then grd a0 (ln 187) (letV (sI w 187 ((a0).toNatClampNeg) a1) (fun (w_1 : jWd) => grd a0 (ln 186) (letV (sI w_1 186 ((a0).toNatClampNeg) a2) (fun (w_4 : jWd) => bO (fJ7_fill_bad5a n 188 (a0 * (60 : Int32)) ((a0 * (60 : Int32)) + (60 : Int32)) (0 : Int64) w_4) (fun (w_8 : jWd) => some w_8))))) else some w
-- NobodysBard$Rows.put(IIJ)J
def fX7_put (a0 : Int32) (a1 : Int32) (a2 : Int64) (w : jWd) : Option (Int64 × jWd) :=
  if (fX7_canBe a0) = 0 then some ((0 : Int64), w) else if a1 < 0 then some ((0 : Int64), w) else grd a0 (ln 186) (if a1 < (wI w 186 (a0).toNatClampNeg) then grd a0 (ln 187) (letV ((fX7_cut (wI w 187 (a0).toNatClampNeg) a2)) (fun (x5_3 : Int64) => grd ((a0 * (60 : Int32)) + a1) (ln 188) (letV (sJ w 188 ((((a0 * (60 : Int32)) + a1)).toNatClampNeg) x5_3) (fun (w_5 : jWd) => some (x5_3, w_5))))) else some ((0 : Int64), w))
-- NobodysBard$Work.copy(LNobodysBard$Work;)V
def fX9_copy (t : Nat) (a0 : Nat) (w : jWd) : Option jWd :=
  letV (sI w t 0 (wI w a0 0)) (fun (w_1 : jWd) => letV (sI w_1 t 1 (wI w_1 a0 1)) (fun (w_3 : jWd) => letV (sI w_3 t 2 (wI w_3 a0 2)) (fun (w_5 : jWd) => grc (0 : Int32) (0 : Int32) (20 : Int32) (ln (a0 + 1)) (ln (t + 1)) (letV (cpI w_5 (a0 + 1) ((0 : Int32)).toNatClampNeg (t + 1) ((0 : Int32)).toNatClampNeg ((20 : Int32)).toNatClampNeg) (fun (w_7 : jWd) => grc (0 : Int32) (0 : Int32) (20 : Int32) (ln (a0 + 2)) (ln (t + 2)) (letV (cpI w_7 (a0 + 2) ((0 : Int32)).toNatClampNeg (t + 2) ((0 : Int32)).toNatClampNeg ((20 : Int32)).toNatClampNeg) (fun (w_10 : jWd) => grc (0 : Int32) (0 : Int32) (40 : Int32) (ln (a0 + 3)) (ln (t + 3)) (letV (cpI w_10 (a0 + 3) ((0 : Int32)).toNatClampNeg (t + 3) ((0 : Int32)).toNatClampNeg ((40 : Int32)).toNatClampNeg) (fun (w_13 : jWd) => grc (0 : Int32) (0 : Int32) (40 : Int32) (ln (a0 + 4)) (ln (t + 4)) (letV (cpI w_13 (a0 + 4) ((0 : Int32)).toNatClampNeg (t + 4) ((0 : Int32)).toNatClampNeg ((40 : Int32)).toNatClampNeg) (fun (w_16 : jWd) => grc (0 : Int32) (0 : Int32) (8 : Int32) (ln (a0 + 5)) (ln (t + 5)) (letV (cpI w_16 (a0 + 5) ((0 : Int32)).toNatClampNeg (t + 5) ((0 : Int32)).toNatClampNeg ((8 : Int32)).toNatClampNeg) (fun (w_19 : jWd) => grc (0 : Int32) (0 : Int32) (8 : Int32) (ln (a0 + 6)) (ln (t + 6)) (letV (cpI w_19 (a0 + 6) ((0 : Int32)).toNatClampNeg (t + 6) ((0 : Int32)).toNatClampNeg ((8 : Int32)).toNatClampNeg) (fun (w_22 : jWd) => some w_22)))))))))))))))
-- NobodysBard$State.copy(LNobodysBard$State;)V
def fX8_copy (t : Nat) (a0 : Nat) (w : jWd) : Option jWd :=
  bO (fX5_copy (t + 1) (a0 + 1) w) (fun (w_2 : jWd) => bO (fX5_copy (t + 8) (a0 + 8) w_2) (fun (w_4 : jWd) => bO (fX5_copy (t + 15) (a0 + 15) w_4) (fun (w_6 : jWd) => bO (fX5_copy (t + 22) (a0 + 22) w_6) (fun (w_8 : jWd) => grc (0 : Int32) (0 : Int32) (480 : Int32) (ln (a0 + 29)) (ln (t + 29)) (letV (cpJ w_8 (a0 + 29) ((0 : Int32)).toNatClampNeg (t + 29) ((0 : Int32)).toNatClampNeg ((480 : Int32)).toNatClampNeg) (fun (w_9 : jWd) => grc (0 : Int32) (0 : Int32) (256 : Int32) (ln (a0 + 30)) (ln (t + 30)) (letV (cpI w_9 (a0 + 30) ((0 : Int32)).toNatClampNeg (t + 30) ((0 : Int32)).toNatClampNeg ((256 : Int32)).toNatClampNeg) (fun (w_12 : jWd) => bO (fX1_copy (t + 31) (a0 + 31) w_12) (fun (w_16 : jWd) => bO (fX3_copy (t + 38) (a0 + 38) w_16) (fun (w_18 : jWd) => bO (fX0_copy (t + 40) (a0 + 40) w_18) (fun (w_20 : jWd) => bO (fX9_copy (t + 47) (a0 + 47) w_20) (fun (w_22 : jWd) => bO (fX10_copy (t + 54) (a0 + 54) w_22) (fun (w_24 : jWd) => letV (sI w_24 t 11 (wI w_24 a0 11)) (fun (w_25 : jWd) => letV (sI w_25 t 12 (wI w_25 a0 12)) (fun (w_27 : jWd) => some w_27)))))))))))))))
-- NobodysBard$State.follow(LNobodysBard$Fashion;)V
def bX8_follow_23 (n : Nat) (t : Nat) (p2 : Int32) (k78 : jWd → (Option jWd)) (rec : Int32 → jWd → Option jWd) (x3 : Int32) (w : jWd)  : Option jWd :=
  grd p2 (ln (t + 5)) (if (wI w (t + 5) (p2).toNatClampNeg) ≤ x3 then k78 w else bO (fX5_at (t + 1) p2 x3 w) (fun (r_5 : Int64) => grd p2 (ln (t + 2)) (bO (fX1_smooth n (t + 31) r_5 (wI w (t + 2) (p2).toNatClampNeg) w) (fun (r_8 : Int64) => grd ((p2 * (12 : Int32)) + x3) (ln (t + 29)) (letV (sJ w (t + 29) ((((p2 * (12 : Int32)) + x3)).toNatClampNeg) r_8) (fun (w_9 : jWd) => letV (x3 + (1 : Int32)) (fun (x3_12 : Int32) => rec x3_12 w_9)))))))
def lX8_follow_23 (n : Nat) (t : Nat) (p2 : Int32) (k78 : jWd → (Option jWd)) : Nat → Int32 → jWd → Option jWd
  | 0 => fun _ _ => none
  | c + 1 => fun x3 w => bX8_follow_23 n t p2 k78 (lX8_follow_23 n t p2 k78 c) x3 w
def bX8_follow_10 (n : Nat) (t : Nat) (rec : Int32 → jWd → Option jWd) (x2 : Int32) (w : jWd)  : Option jWd :=
  if (wI w (t + 1) 2) ≤ x2 then some w else lX8_follow_23 n t x2 (fun (w_14 : jWd) => letV (x2 + (1 : Int32)) (fun (x2_15 : Int32) => rec x2_15 w_14)) n (0 : Int32) w
def lX8_follow_10 (n : Nat) (t : Nat) : Nat → Int32 → jWd → Option jWd
  | 0 => fun _ _ => none
  | c + 1 => fun x2 w => bX8_follow_10 n t (lX8_follow_10 n t c) x2 w
def fX8_follow (n : Nat) (t : Nat) (a0 : Nat) (w : jWd) : Option jWd :=
  bO (fX1_copy (t + 31) a0 w) (fun (w_2 : jWd) => lX8_follow_10 n t n (0 : Int32) w_2)
-- NobodysBard$State.hasEarly()Z
def bX8_hasEarly_2 (n : Nat) (t : Nat) (w : jWd) (rec : Int32 → Option Int32) (x1 : Int32)  : Option Int32 :=
  if (wI w (t + 1) 2) ≤ x1 then some (0 : Int32) else bO (fX8_isEarly t x1 w) (fun (r_2 : Int32) => if r_2 = 0 then letV (x1 + (1 : Int32)) (fun (x1_3 : Int32) => rec x1_3) else some (1 : Int32))
def lX8_hasEarly_2 (n : Nat) (t : Nat) (w : jWd) : Nat → Int32 → Option Int32
  | 0 => fun _ => none
  | c + 1 => fun x1 => bX8_hasEarly_2 n t w (lX8_hasEarly_2 n t w c) x1
def fX8_hasEarly (n : Nat) (t : Nat) (w : jWd) : Option Int32 :=
  lX8_hasEarly_2 n t w n (0 : Int32)
-- NobodysBard$State.hasWordAfter(JI)Z
def bX8_hasWordAfter_3 (n : Nat) (t : Nat) (p1 : Int64) (p3 : Int32) (w : jWd) (rec : Int32 → Option Int32) (x4 : Int32)  : Option Int32 :=
  bO (fX4_length n p1) (fun (r_2 : Int32) => if r_2 ≤ x4 then some (0 : Int32) else grd (fX4_word p1 x4) (ln (t + 30)) (if (wI w (t + 30) ((fX4_word p1 x4)).toNatClampNeg) ≤ p3 then letV (x4 + (1 : Int32)) (fun (x4_4 : Int32) => rec x4_4) else some (1 : Int32)))
def lX8_hasWordAfter_3 (n : Nat) (t : Nat) (p1 : Int64) (p3 : Int32) (w : jWd) : Nat → Int32 → Option Int32
  | 0 => fun _ => none
  | c + 1 => fun x4 => bX8_hasWordAfter_3 n t p1 p3 w (lX8_hasWordAfter_3 n t p1 p3 w c) x4
def fX8_hasWordAfter (n : Nat) (t : Nat) (a0 : Int64) (a1 : Int32) (w : jWd) : Option Int32 :=
  lX8_hasWordAfter_3 n t a0 a1 w n (0 : Int32)
-- NobodysBard$State.moveAbout([JII)V
def bX8_moveAbout_6 (n : Nat) (t : Nat) (p1 : Nat) (p2 : Int32) (rec : Int32 → Int32 → jWd → Option jWd) (x4 : Int32) (x5 : Int32) (w : jWd)  : Option jWd :=
  if p2 ≤ (x5 + (1 : Int32)) then some w else if (Int32.ofNat (ln p1)) ≤ (x5 + (1 : Int32)) then some w else letV ((fX3_next x4)) (fun (x4_1 : Int32) => if (wI w (t + 38) 2) ≤ (fX3_drawn x4_1) then letV (x5 + (1 : Int32)) (fun (x5_3 : Int32) => rec x4_1 x5_3 w) else grd x5 (ln p1) (letV ((wJ w p1 (x5).toNatClampNeg)) (fun (x6_6 : Int64) => grd (x5 + (1 : Int32)) (ln p1) (grd x5 (ln p1) (letV (sJ w p1 ((x5).toNatClampNeg) (wJ w p1 ((x5 + (1 : Int32))).toNatClampNeg)) (fun (w_9 : jWd) => grd (x5 + (1 : Int32)) (ln p1) (letV (sJ w_9 p1 (((x5 + (1 : Int32))).toNatClampNeg) x6_6) (fun (w_12 : jWd) => letV (x5 + (1 : Int32)) (fun (x5_15 : Int32) => rec x4_1 x5_15 w_12)))))))))
def lX8_moveAbout_6 (n : Nat) (t : Nat) (p1 : Nat) (p2 : Int32) : Nat → Int32 → Int32 → jWd → Option jWd
  | 0 => fun _ _ _ => none
  | c + 1 => fun x4 x5 w => bX8_moveAbout_6 n t p1 p2 (lX8_moveAbout_6 n t p1 p2 c) x4 x5 w
def fX8_moveAbout (n : Nat) (t : Nat) (a0 : Nat) (a1 : Int32) (a2 : Int32) (w : jWd) : Option jWd :=
  lX8_moveAbout_6 n t a0 a1 n a2 (0 : Int32) w
-- NobodysBard$State.pile(I)LNobodysBard$Pile;
def fX8_pile (t : Nat) (a0 : Int32) : Nat :=
  (if a0 = (0 : Int32) then (t + 1) else if a0 = (1 : Int32) then (t + 8) else if a0 = (2 : Int32) then (t + 15) else (t + 22))
-- NobodysBard$State.putIntoSong(IJ)I
def fX8_putIntoSong (n : Nat) (t : Nat) (a0 : Int32) (a1 : Int64) (w : jWd) : Option (Int32 × jWd) :=
  if (fX5_has (t + 1) a0 w) = 0 then some ((-1 : Int32), w) else grd a0 (ln (t + 2)) (bO2 (fX5_put (t + 1) a0 (wI w (t + 2) (a0).toNatClampNeg) a1 w) (fun (r_4 : Int32) (w_3 : jWd) => if r_4 < 0 then some (r_4, w_3) else grd a0 (ln (t + 2)) (bO (fX1_smooth n (t + 31) a1 (wI w_3 (t + 2) (a0).toNatClampNeg) w_3) (fun (r_7 : Int64) => grd ((a0 * (12 : Int32)) + r_4) (ln (t + 29)) (letV (sJ w_3 (t + 29) ((((a0 * (12 : Int32)) + r_4)).toNatClampNeg) r_7) (fun (w_8 : jWd) => some (r_4, w_8)))))))
-- NobodysBard$State.tellOn(II[J)I
def bX8_tellOn_22 (n : Nat) (t : Nat) (p1 : Int32) (p3 : Nat) (k145 : Int32 → Int32 → jWd → (Option (Int32 × jWd))) (rec : Int32 → Int32 → Int32 → jWd → Option (Int32 × jWd)) (x4 : Int32) (x5 : Int32) (x6 : Int32) (w : jWd)  : Option (Int32 × jWd) :=
  grd p1 (ln (t + 5)) (if (wI w (t + 5) (p1).toNatClampNeg) ≤ x6 then k145 x4 x5 w else if (Int32.ofNat (ln p3)) ≤ x5 then k145 x4 x5 w else letV ((fX3_next x4)) (fun (x4_2 : Int32) => if (wI w (t + 38) 1) ≤ (fX3_drawn x4_2) then bO (fX5_at (t + 1) p1 x6 w) (fun (r_5 : Int64) => bO (fX3_respoken n (t + 38) r_5 w) (fun (r_7 : Int64) => letV ((fX3_next x4_2)) (fun (x4_8 : Int32) => letV (fun (s_10 : Int64) => grd x5 (ln p3) (letV (sJ w p3 ((x5).toNatClampNeg) s_10) (fun (w_12 : jWd) => letV (x5 + (1 : Int32)) (fun (x5_15 : Int32) => letV (x6 + (1 : Int32)) (fun (x6_17 : Int32) => rec x4_8 x5_15 x6_17 w_12))))) (fun (j135_11 : Int64 → Option (Int32 × jWd)) => if (wI w (t + 38) 3) ≤ (fX3_drawn x4_8) then j135_11 r_7 else grd p1 (ln (t + 2)) (bO (fX1_smooth n (t + 31) r_7 (wI w (t + 2) (p1).toNatClampNeg) w) (fun (r_21 : Int64) => j135_11 r_21)))))) else letV (x6 + (1 : Int32)) (fun (x6_22 : Int32) => rec x4_2 x5 x6_22 w)))
def lX8_tellOn_22 (n : Nat) (t : Nat) (p1 : Int32) (p3 : Nat) (k145 : Int32 → Int32 → jWd → (Option (Int32 × jWd))) : Nat → Int32 → Int32 → Int32 → jWd → Option (Int32 × jWd)
  | 0 => fun _ _ _ _ => none
  | c + 1 => fun x4 x5 x6 w => bX8_tellOn_22 n t p1 p3 k145 (lX8_tellOn_22 n t p1 p3 k145 c) x4 x5 x6 w
def fX8_tellOn (n : Nat) (t : Nat) (a0 : Int32) (a1 : Int32) (a2 : Nat) (w : jWd) : Option (Int32 × jWd) :=
  if (fX5_has (t + 1) a0 w) = 0 then some ((0 : Int32), w) else lX8_tellOn_22 n t a0 a2 (fun (z4_25 : Int32) (z5_26 : Int32) (w_24 : jWd) => bO (fX8_moveAbout n t a2 z5_26 z4_25 w_24) (fun (w_28 : jWd) => some (z5_26, w_28))) n a1 (0 : Int32) (0 : Int32) w
-- NobodysBard$Work.allPaid()I
def bX9_allPaid_4 (n : Nat) (t : Nat) (w : jWd) (rec : Int32 → Int32 → Option Int32) (x1 : Int32) (x2 : Int32)  : Option Int32 :=
  if (wI w t 0) ≤ x2 then some x1 else grd x2 (ln (t + 2)) (letV ((x1 + (wI w (t + 2) (x2).toNatClampNeg))) (fun (x1_2 : Int32) => letV (x2 + (1 : Int32)) (fun (x2_4 : Int32) => rec x1_2 x2_4)))
def lX9_allPaid_4 (n : Nat) (t : Nat) (w : jWd) : Nat → Int32 → Int32 → Option Int32
  | 0 => fun _ _ => none
  | c + 1 => fun x1 x2 => bX9_allPaid_4 n t w (lX9_allPaid_4 n t w c) x1 x2
def fX9_allPaid (n : Nat) (t : Nat) (w : jWd) : Option Int32 :=
  lX9_allPaid_4 n t w n (0 : Int32) (0 : Int32)
-- NobodysBard$Work.fill(II)I
def fX9_fill (t : Nat) (a0 : Int32) (a1 : Int32) (w : jWd) : Option (Int32 × jWd) :=
  letV (fun (w_1 : jWd) => some ((wI w_1 t 1), w_1)) (fun (j39_2 : jWd → Option (Int32 × jWd)) => if (40 : Int32) ≤ (wI w t 1) then j39_2 w else grd (wI w t 1) (ln (t + 3)) (letV (sI w (t + 3) (((wI w t 1)).toNatClampNeg) a0) (fun (w_3 : jWd) => grd (wI w_3 t 1) (ln (t + 4)) (letV (sI w_3 (t + 4) (((wI w_3 t 1)).toNatClampNeg) a1) (fun (w_6 : jWd) => letV (sI w_6 t 1 ((wI w_6 t 1) + (1 : Int32))) (fun (w_9 : jWd) => j39_2 w_9))))))
-- NobodysBard$Work.firstSpanEndingFrom(I)I
def bX9_firstSpanEndingFrom_4 (n : Nat) (t : Nat) (p1 : Int32) (w : jWd) (rec : Int32 → Int32 → Option Int32) (x2 : Int32) (x3 : Int32)  : Option Int32 :=
  if (wI w t 2) ≤ x3 then some x2 else grd x3 (ln (t + 6)) (if (wI w (t + 6) (x3).toNatClampNeg) < p1 then letV (x3 + (1 : Int32)) (fun (x3_2 : Int32) => rec x2 x3_2) else if x2 = (-1 : Int32) then letV (x3 + (1 : Int32)) (fun (x3_4 : Int32) => rec x3 x3_4) else grd x3 (ln (t + 5)) (grd x2 (ln (t + 5)) (if (wI w (t + 5) (x2).toNatClampNeg) ≤ (wI w (t + 5) (x3).toNatClampNeg) then letV (x3 + (1 : Int32)) (fun (x3_8 : Int32) => rec x2 x3_8) else letV (x3 + (1 : Int32)) (fun (x3_10 : Int32) => rec x3 x3_10))))
def lX9_firstSpanEndingFrom_4 (n : Nat) (t : Nat) (p1 : Int32) (w : jWd) : Nat → Int32 → Int32 → Option Int32
  | 0 => fun _ _ => none
  | c + 1 => fun x2 x3 => bX9_firstSpanEndingFrom_4 n t p1 w (lX9_firstSpanEndingFrom_4 n t p1 w c) x2 x3
def fX9_firstSpanEndingFrom (n : Nat) (t : Nat) (a0 : Int32) (w : jWd) : Option Int32 :=
  lX9_firstSpanEndingFrom_4 n t a0 w n (-1 : Int32) (0 : Int32)
-- NobodysBard$Work.freeUpTo(I)I
def bX9_freeUpTo_7 (n : Nat) (t : Nat) (p1 : Int32) (w : jWd) (rec : Int32 → Int32 → Int32 → Option Int32) (x2 : Int32) (x3 : Int32) (x4 : Int32)  : Option Int32 :=
  if (wI w t 2) ≤ x4 then some x2 else bO (fX9_firstSpanEndingFrom n t x3 w) (fun (r_2 : Int32) => if r_2 = (-1 : Int32) then some x2 else grd r_2 (ln (t + 5)) (letV ((imax x3 (wI w (t + 5) (r_2).toNatClampNeg))) (fun (x6_4 : Int32) => grd r_2 (ln (t + 6)) (letV ((imin p1 (wI w (t + 6) (r_2).toNatClampNeg))) (fun (x7_7 : Int32) => letV ((x2 + (imax (0 : Int32) ((x7_7 - x6_4) + (1 : Int32))))) (fun (x2_9 : Int32) => grd r_2 (ln (t + 6)) (letV (((wI w (t + 6) (r_2).toNatClampNeg) + (1 : Int32))) (fun (x3_12 : Int32) => letV (x4 + (1 : Int32)) (fun (x4_14 : Int32) => rec x2_9 x3_12 x4_14)))))))))
def lX9_freeUpTo_7 (n : Nat) (t : Nat) (p1 : Int32) (w : jWd) : Nat → Int32 → Int32 → Int32 → Option Int32
  | 0 => fun _ _ _ => none
  | c + 1 => fun x2 x3 x4 => bX9_freeUpTo_7 n t p1 w (lX9_freeUpTo_7 n t p1 w c) x2 x3 x4
def fX9_freeUpTo (n : Nat) (t : Nat) (a0 : Int32) (w : jWd) : Option Int32 :=
  lX9_freeUpTo_7 n t a0 w n (0 : Int32) (0 : Int32) (0 : Int32)
-- NobodysBard$Work.pagesOf(II)I
def bX9_pagesOf_5 (n : Nat) (t : Nat) (p1 : Int32) (p2 : Int32) (w : jWd) (rec : Int32 → Int32 → Option Int32) (x3 : Int32) (x4 : Int32)  : Option Int32 :=
  if (wI w t 1) ≤ x4 then some x3 else grd x4 (ln (t + 3)) (if (wI w (t + 3) (x4).toNatClampNeg) < p1 then letV (x4 + (1 : Int32)) (fun (x4_2 : Int32) => rec x3 x4_2) else grd x4 (ln (t + 3)) (if p2 < (wI w (t + 3) (x4).toNatClampNeg) then letV (x4 + (1 : Int32)) (fun (x4_5 : Int32) => rec x3 x4_5) else grd x4 (ln (t + 4)) (letV ((x3 + (wI w (t + 4) (x4).toNatClampNeg))) (fun (x3_8 : Int32) => letV (x4 + (1 : Int32)) (fun (x4_10 : Int32) => rec x3_8 x4_10)))))
def lX9_pagesOf_5 (n : Nat) (t : Nat) (p1 : Int32) (p2 : Int32) (w : jWd) : Nat → Int32 → Int32 → Option Int32
  | 0 => fun _ _ => none
  | c + 1 => fun x3 x4 => bX9_pagesOf_5 n t p1 p2 w (lX9_pagesOf_5 n t p1 p2 w c) x3 x4
def fX9_pagesOf (n : Nat) (t : Nat) (a0 : Int32) (a1 : Int32) (w : jWd) : Option Int32 :=
  lX9_pagesOf_5 n t a0 a1 w n (0 : Int32) (0 : Int32)
-- NobodysBard$Work.leastRate()I
def bX9_leastRate_4 (n : Nat) (t : Nat) (k61 : Int32 → (Option Int32)) (w : jWd) (rec : Int32 → Int32 → Option Int32) (x1 : Int32) (x2 : Int32)  : Option Int32 :=
  if (wI w t 1) ≤ x2 then k61 x1 else grd x2 (ln (t + 3)) (bO (fX9_freeUpTo n t (wI w (t + 3) (x2).toNatClampNeg) w) (fun (r_3 : Int32) => if r_3 = 0 then some (-1 : Int32) else grd x2 (ln (t + 3)) (bO (fX9_pagesOf n t (0 : Int32) (wI w (t + 3) (x2).toNatClampNeg) w) (fun (r_6 : Int32) => grzi r_3 (letV ((imax x1 (((r_6 + r_3) - (1 : Int32)) / r_3))) (fun (x1_8 : Int32) => letV (x2 + (1 : Int32)) (fun (x2_10 : Int32) => rec x1_8 x2_10)))))))
def lX9_leastRate_4 (n : Nat) (t : Nat) (k61 : Int32 → (Option Int32)) (w : jWd) : Nat → Int32 → Int32 → Option Int32
  | 0 => fun _ _ => none
  | c + 1 => fun x1 x2 => bX9_leastRate_4 n t k61 w (lX9_leastRate_4 n t k61 w c) x1 x2
def fX9_leastRate (n : Nat) (t : Nat) (w : jWd) : Option Int32 :=
  lX9_leastRate_4 n t (fun (z1_12 : Int32) => if z1_12 ≤ (99 : Int32) then some z1_12 else some (-1 : Int32)) w n (1 : Int32) (0 : Int32)
-- NobodysBard$Work.leave(II)I
def fX9_leave (t : Nat) (a0 : Int32) (a1 : Int32) (w : jWd) : Option (Int32 × jWd) :=
  letV (fun (w_1 : jWd) => some ((wI w_1 t 2), w_1)) (fun (j39_2 : jWd → Option (Int32 × jWd)) => if (8 : Int32) ≤ (wI w t 2) then j39_2 w else grd (wI w t 2) (ln (t + 5)) (letV (sI w (t + 5) (((wI w t 2)).toNatClampNeg) a0) (fun (w_3 : jWd) => grd (wI w_3 t 2) (ln (t + 6)) (letV (sI w_3 (t + 6) (((wI w_3 t 2)).toNatClampNeg) a1) (fun (w_6 : jWd) => letV (sI w_6 t 2 ((wI w_6 t 2) + (1 : Int32))) (fun (w_9 : jWd) => j39_2 w_9))))))
-- NobodysBard$Work.moreBy(I)I
def bX9_moreBy_4 (n : Nat) (t : Nat) (p1 : Int32) (w : jWd) (rec : Int32 → Int32 → Option Int32) (x2 : Int32) (x3 : Int32)  : Option Int32 :=
  if (wI w t 0) ≤ x3 then some x2 else grd x3 (ln (t + 1)) (letV ((wI w (t + 1) (x3).toNatClampNeg)) (fun (x4_2 : Int32) => bO (fX9_pagesOf n t (x4_2 + (1 : Int32)) (x4_2 + p1) w) (fun (r_5 : Int32) => bO (fX9_pagesOf n t (x4_2 - p1) (x4_2 - (1 : Int32)) w) (fun (r_7 : Int32) => letV ((x2 + (r_5 - r_7))) (fun (x2_8 : Int32) => letV (x3 + (1 : Int32)) (fun (x3_10 : Int32) => rec x2_8 x3_10))))))
def lX9_moreBy_4 (n : Nat) (t : Nat) (p1 : Int32) (w : jWd) : Nat → Int32 → Int32 → Option Int32
  | 0 => fun _ _ => none
  | c + 1 => fun x2 x3 => bX9_moreBy_4 n t p1 w (lX9_moreBy_4 n t p1 w c) x2 x3
def fX9_moreBy (n : Nat) (t : Nat) (a0 : Int32) (w : jWd) : Option Int32 :=
  lX9_moreBy_4 n t a0 w n (0 : Int32) (0 : Int32)
-- NobodysBard$Work.pay(II)I
def fX9_pay (t : Nat) (a0 : Int32) (a1 : Int32) (w : jWd) : Option (Int32 × jWd) :=
  letV (fun (w_1 : jWd) => some ((wI w_1 t 0), w_1)) (fun (j39_2 : jWd → Option (Int32 × jWd)) => if (20 : Int32) ≤ (wI w t 0) then j39_2 w else grd (wI w t 0) (ln (t + 1)) (letV (sI w (t + 1) (((wI w t 0)).toNatClampNeg) a0) (fun (w_3 : jWd) => grd (wI w_3 t 0) (ln (t + 2)) (letV (sI w_3 (t + 2) (((wI w_3 t 0)).toNatClampNeg) a1) (fun (w_6 : jWd) => letV (sI w_6 t 0 ((wI w_6 t 0) + (1 : Int32))) (fun (w_9 : jWd) => j39_2 w_9))))))
-- NobodysBard.refuse(I)I
def fX11_refuse (a0 : Int32) (w : jWd) : Option (Int32 × jWd) :=
  letV (fun (s_1 : Int32) => if s_1 < 0 then some (a0, w) else if (8 : Int32) ≤ s_1 then some (a0, w) else grd s_1 (ln 204) (grd s_1 (ln 204) (letV (sI w 204 ((s_1).toNatClampNeg) ((wI w 204 (s_1).toNatClampNeg) + (1 : Int32))) (fun (w_4 : jWd) => some (a0, w_4))))) (fun (j12_2 : Int32 → Option (Int32 × jWd)) => if (-10 : Int32) ≤ a0 then j12_2 (-a0) else j12_2 (1 : Int32))
-- NobodysBard.within(JJJ)Z
def fX11_within (a0 : Int64) (a1 : Int64) (a2 : Int64) : Int32 :=
  if (lg_cmp a0 a1) < 0 then (0 : Int32) else if 0 < (lg_cmp a0 a2) then (0 : Int32) else (1 : Int32)
-- NobodysBard.added(III)I
def fX11_added (n : Nat) (a0 : Int32) (a1 : Int32) (a2 : Int32) (w : jWd) : Option (Int32 × jWd) :=
  if (fX5_has 9 a0 w) = 0 then bO2 (fX11_refuse (-2 : Int32) w) (fun (r_9 : Int32) (w_8 : jWd) => some (r_9, w_8)) else if (fX11_within ((a1).toInt64) (0 : Int64) (9 : Int64)) = 0 then bO2 (fX11_refuse (-3 : Int32) w) (fun (r_6 : Int32) (w_5 : jWd) => some (r_6, w_5)) else if 0 ≤ a2 then bO2 (fX2_addsOf n a0 a1 a2 w) (fun (r_3 : Int32) (w_2 : jWd) => some (r_3, w_2)) else some ((-1 : Int32), w)
-- NobodysBard.adds(II)I
def fX11_adds (n : Nat) (a0 : Int32) (a1 : Int32) (w : jWd) : Option (Int32 × jWd) :=
  if (fX5_has 9 a0 w) = 0 then bO2 (fX11_refuse (-2 : Int32) w) (fun (r_9 : Int32) (w_8 : jWd) => some (r_9, w_8)) else if (fX11_within ((a1).toInt64) (0 : Int64) (9 : Int64)) = 0 then bO2 (fX11_refuse (-3 : Int32) w) (fun (r_6 : Int32) (w_5 : jWd) => some (r_6, w_5)) else bO2 (fX2_addsOf n a0 a1 (-1 : Int32) w) (fun (r_3 : Int32) (w_2 : jWd) => some (r_3, w_2))
-- NobodysBard.isGlenAndDay(II)Z
def fX11_isGlenAndDay (a0 : Int32) (a1 : Int32) : Int32 :=
  if (fX11_within ((a0).toInt64) (0 : Int64) (15 : Int64)) = 0 then (0 : Int32) else if (fX11_within ((a1).toInt64) (0 : Int64) (9999 : Int64)) = 0 then (0 : Int32) else (1 : Int32)
-- NobodysBard.answer(IIIIIJ)I
def fX11_answer (n : Nat) (a0 : Int32) (a1 : Int32) (a2 : Int32) (a3 : Int32) (a4 : Int32) (a5 : Int64) (w : jWd) : Option (Int32 × jWd) :=
  letV (bO2 (fX11_refuse (-3 : Int32) w) (fun (r_4 : Int32) (w_3 : jWd) => some (r_4, w_3))) (fun (j20_1 : Option (Int32 × jWd)) => if (fX11_isGlenAndDay a0 a1) = 0 then j20_1 else if (fX11_within ((a2).toInt64) (0 : Int64) (9 : Int64)) = 0 then j20_1 else letV (bO2 (fX11_refuse (-3 : Int32) w) (fun (r_8 : Int32) (w_7 : jWd) => some (r_8, w_7))) (fun (j53_5 : Option (Int32 × jWd)) => if (fX11_within ((a3).toInt64) (0 : Int64) (2 : Int64)) = 0 then j53_5 else if (fX11_within ((a4).toInt64) (0 : Int64) (2 : Int64)) = 0 then j53_5 else bO (fX4_clean n a5) (fun (r_10 : Int64) => letV (if (fX0_room 41 w) = 0 then bO2 (fX11_refuse (-4 : Int32) w) (fun (r_19 : Int32) (w_18 : jWd) => some (r_19, w_18)) else bO2 (fX0_start 41 a0 a1 a2 w) (fun (r_14 : Int32) (w_13 : jWd) => bO (fX0_hear 41 r_14 a3 a4 r_10 w_13) (fun (w_16 : jWd) => some (r_14, w_16)))) (fun (j88_11 : Option (Int32 × jWd)) => if (lg_cmp r_10 (0 : Int64)) = 0 then if (lg_cmp a5 (0 : Int64)) = 0 then j88_11 else bO2 (fX11_refuse (-3 : Int32) w) (fun (r_22 : Int32) (w_21 : jWd) => some (r_22, w_21)) else j88_11))))
-- NobodysBard.isHalf(I)Z
def fX11_isHalf (a0 : Int32) : Int32 :=
  if a0 = 0 then (1 : Int32) else if a0 = (1 : Int32) then (1 : Int32) else (0 : Int32)
-- NobodysBard.ask(II)I
def fX11_ask (n : Nat) (a0 : Int32) (a1 : Int32) (w : jWd) : Option (Int32 × jWd) :=
  letV (bO2 (fX11_refuse (-2 : Int32) w) (fun (r_4 : Int32) (w_3 : jWd) => some (r_4, w_3))) (fun (j21_1 : Option (Int32 × jWd)) => if (fX10_hasAll 55 a0 w) = 0 then j21_1 else if (fX11_isHalf a1) = 0 then j21_1 else bO (fX10_weigh n 55 a0 w) (fun (w_6 : jWd) => if a1 = 0 then grd a0 (ln 59) (some ((wI w_6 59 (a0).toNatClampNeg), w_6)) else grd a0 (ln 60) (some ((wI w_6 60 (a0).toNatClampNeg), w_6))))
-- NobodysBard.back(I)I
def fX11_back (n : Nat) (a0 : Int32) (w : jWd) : Option (Int32 × jWd) :=
  if (fX0_has 41 a0 w) = 0 then bO2 (fX11_refuse (-2 : Int32) w) (fun (r_6 : Int32) (w_5 : jWd) => some (r_6, w_5)) else bO2 (fX2_isBack n a0 w) (fun (r_3 : Int32) (w_2 : jWd) => if r_3 = 0 then some ((0 : Int32), w_2) else some ((1 : Int32), w_2))
-- NobodysBard.backOdds(II)I
def fX11_backOdds (n : Nat) (a0 : Int32) (a1 : Int32) (w : jWd) : Option (Int32 × jWd) :=
  letV (bO2 (fX11_refuse (-2 : Int32) w) (fun (r_4 : Int32) (w_3 : jWd) => some (r_4, w_3))) (fun (j21_1 : Option (Int32 × jWd)) => if (fX0_has 41 a0 w) = 0 then j21_1 else if (fX11_isHalf a1) = 0 then j21_1 else grd a0 (ln 47) (letV ((wJ w 47 (a0).toNatClampNeg)) (fun (x3_6 : Int64) => letV (bO (fX2_fraction n (0 : Int64) (1 : Int64) a1) (fun (r_10 : Int64) => some (((r_10).toInt32), w))) (fun (j74_8 : Option (Int32 × jWd)) => if (lg_cmp x3_6 (0 : Int64)) = 0 then j74_8 else grd a0 (ln 43) (if (wI w 19 0) < (wI w 43 (a0).toNatClampNeg) then bO2 (fX2_nearest n (8 : Int32) x3_6 (-1 : Int32) w) (fun (r_14 : Int32) (w_13 : jWd) => grd a0 (ln 44) (letV ((r_14 * ((wI w_13 44 (a0).toNatClampNeg) + (1 : Int32)))) (fun (x5_16 : Int32) => bO2 (fX2_nearest n (6 : Int32) x3_6 (-1 : Int32) w_13) (fun (r_20 : Int32) (w_19 : jWd) => letV ((r_20 * (10 : Int32))) (fun (x6_21 : Int32) => bO (fX2_fraction n ((x5_16).toInt64) ((x6_21).toInt64) a1) (fun (r_24 : Int64) => some (((r_24).toInt32), w_19))))))) else j74_8)))))
-- NobodysBard.bounds(II)I
def fX11_bounds (a0 : Int32) (a1 : Int32) (w : jWd) : Option (Int32 × jWd) :=
  letV (bO2 (fX11_refuse (-3 : Int32) w) (fun (r_4 : Int32) (w_3 : jWd) => some (r_4, w_3))) (fun (j23_1 : Option (Int32 × jWd)) => if (fX11_within ((a0).toInt64) (1 : Int64) (100 : Int64)) = 0 then j23_1 else if (fX11_within ((a1).toInt64) (1 : Int64) ((a0).toInt64)) = 0 then j23_1 else letV (sI w 1 11 a0) (fun (w_5 : jWd) => letV (sI w_5 1 12 a1) (fun (w_7 : jWd) => some ((0 : Int32), w_7))))
-- NobodysBard.isBound(I)Z
def fX11_isBound (a0 : Int32) : Int32 :=
  ((fX11_within ((a0).toInt64) (1 : Int64) (100 : Int64)) &&& 1)
-- NobodysBard.chance(II)I
def fX11_chance (n : Nat) (a0 : Int32) (a1 : Int32) (w : jWd) : Option (Int32 × jWd) :=
  if (fX11_isHalf a1) = 0 then bO2 (fX11_refuse (-2 : Int32) w) (fun (r_12 : Int32) (w_11 : jWd) => some (r_12, w_11)) else if (fX11_isBound a0) = 0 then bO2 (fX11_refuse (-3 : Int32) w) (fun (r_9 : Int32) (w_8 : jWd) => some (r_9, w_8)) else bO (fX2_pairsBy n (9 : Int32) a0 w) (fun (r_2 : Int32) => bO (fX2_pairs n (9 : Int32) w) (fun (r_4 : Int32) => bO (fX2_fraction n ((r_2).toInt64) ((r_4).toInt64) a1) (fun (r_6 : Int64) => some (((r_6).toInt32), w))))
-- NobodysBard.linesOf(LNobodysBard$Pile;I)I
def fX11_linesOf (a0 : Nat) (a1 : Int32) (w : jWd) : Option Int32 :=
  if (fX5_has a0 a1 w) = 0 then some (-1 : Int32) else grd a1 (ln (a0 + 4)) (some (wI w (a0 + 4) (a1).toNatClampNeg))
-- NobodysBard.count(I)I
def fX11_count (a0 : Int32) (w : jWd) : Option Int32 :=
  if (fX11_within ((a0).toInt64) (100 : Int64) (199 : Int64)) = 0 then if a0 < (200 : Int32) then (if a0 = (0 : Int32) then some (wI w 2 2) else if a0 = (1 : Int32) then some (wI w 9 2) else if a0 = (2 : Int32) then some (wI w 20 0) else if a0 = (3 : Int32) then some (wI w 41 0) else if a0 = (4 : Int32) then some (wI w 23 2) else if a0 = (5 : Int32) then some (wI w 48 0) else if a0 = (6 : Int32) then some (wI w 48 1) else if a0 = (7 : Int32) then some (wI w 48 2) else if a0 = (8 : Int32) then some (wI w 55 0) else if a0 = (9 : Int32) then some (wI w 32 0) else if a0 = (10 : Int32) then some (wI w 39 0) else if a0 = (11 : Int32) then some (wI w 0 8) else if a0 = (12 : Int32) then some (wI w 19 0) else some (-1 : Int32)) else bO (fX11_linesOf 9 (a0 - (200 : Int32)) w) (fun (r_15 : Int32) => some r_15) else bO (fX11_linesOf 2 (a0 - (100 : Int32)) w) (fun (r_17 : Int32) => some r_17)
-- NobodysBard.fault(I)I
def fX11_fault (a0 : Int32) (w : jWd) : Int32 :=
  if a0 = 0 then (wI w 189 2) else if a0 = (1 : Int32) then if (wI w 189 2) = 0 then (-1 : Int32) else (wI w 189 3) else (-1 : Int32)
-- NobodysBard.feedInt(I)V
def bX11_feedInt_3 (n : Nat) (p1 : Int32) (rec : Int32 → jWd → Option jWd) (x2 : Int32) (w : jWd)  : Option jWd :=
  if x2 < 0 then some w else if (400 : Int32) ≤ (wI w 0 8) then letV (x2 + (-8 : Int32)) (fun (x2_1 : Int32) => rec x2_1 w) else grd (wI w 0 8) (ln 202) (letV (sI w 202 (((wI w 0 8)).toNatClampNeg) (vp_nar .byte (((i_ushr p1 x2)).toInt8.toInt32))) (fun (w_3 : jWd) => letV (sI w_3 0 8 ((wI w_3 0 8) + (1 : Int32))) (fun (w_6 : jWd) => letV (x2 + (-8 : Int32)) (fun (x2_8 : Int32) => rec x2_8 w_6))))
def lX11_feedInt_3 (n : Nat) (p1 : Int32) : Nat → Int32 → jWd → Option jWd
  | 0 => fun _ _ => none
  | c + 1 => fun x2 w => bX11_feedInt_3 n p1 (lX11_feedInt_3 n p1 c) x2 w
def fX11_feedInt (n : Nat) (a0 : Int32) (w : jWd) : Option jWd :=
  lX11_feedInt_3 n a0 n (24 : Int32) w
-- NobodysBard.feed(IIIII)I
def fX11_feed (n : Nat) (a0 : Int32) (a1 : Int32) (a2 : Int32) (a3 : Int32) (a4 : Int32) (w : jWd) : Option (Int32 × jWd) :=
  if ((wI w 0 8) + (20 : Int32)) ≤ (400 : Int32) then bO (fX11_feedInt n a0 w) (fun (w_2 : jWd) => bO (fX11_feedInt n a1 w_2) (fun (w_4 : jWd) => bO (fX11_feedInt n a2 w_4) (fun (w_6 : jWd) => bO (fX11_feedInt n a3 w_6) (fun (w_8 : jWd) => bO (fX11_feedInt n a4 w_8) (fun (w_10 : jWd) => some ((wI w_10 0 8), w_10)))))) else bO2 (fX11_refuse (-4 : Int32) w) (fun (r_13 : Int32) (w_12 : jWd) => some (r_13, w_12))
-- NobodysBard.free(II)I
def fX11_free (a0 : Int32) (a1 : Int32) (w : jWd) : Option (Int32 × jWd) :=
  letV (bO2 (fX11_refuse (-3 : Int32) w) (fun (r_4 : Int32) (w_3 : jWd) => some (r_4, w_3))) (fun (j23_1 : Option (Int32 × jWd)) => if (fX11_within ((a1).toInt64) (0 : Int64) (9999 : Int64)) = 0 then j23_1 else if (fX11_within ((a0).toInt64) (0 : Int64) ((a1).toInt64)) = 0 then j23_1 else if (wI w 48 2) < (8 : Int32) then bO2 (fX9_leave 48 a0 a1 w) (fun (r_7 : Int32) (w_6 : jWd) => some (r_7, w_6)) else bO2 (fX11_refuse (-4 : Int32) w) (fun (r_10 : Int32) (w_9 : jWd) => some (r_10, w_9)))
-- NobodysBard.glen(II)I
def bX11_glen_36 (n : Nat) (p1 : Int32) (p2 : Int32) (rec : Int32 → Int32 → jWd → Option (Int32 × jWd)) (x3 : Int32) (x4 : Int32) (w : jWd)  : Option (Int32 × jWd) :=
  if (wI w 41 0) ≤ x4 then some (x3, w) else grd x4 (ln 42) (if (wI w 42 (x4).toNatClampNeg) = p1 then bO2 (fX2_isCounted n x4 p2 w) (fun (r_10 : Int32) (w_9 : jWd) => if r_10 = 0 then letV (x4 + (1 : Int32)) (fun (x4_11 : Int32) => rec x3 x4_11 w_9) else letV (x3 + (1 : Int32)) (fun (x3_13 : Int32) => letV (x4 + (1 : Int32)) (fun (x4_15 : Int32) => rec x3_13 x4_15 w_9))) else letV (x4 + (1 : Int32)) (fun (x4_6 : Int32) => rec x3 x4_6 w))
def lX11_glen_36 (n : Nat) (p1 : Int32) (p2 : Int32) : Nat → Int32 → Int32 → jWd → Option (Int32 × jWd)
  | 0 => fun _ _ _ => none
  | c + 1 => fun x3 x4 w => bX11_glen_36 n p1 p2 (lX11_glen_36 n p1 p2 c) x3 x4 w
def fX11_glen (n : Nat) (a0 : Int32) (a1 : Int32) (w : jWd) : Option (Int32 × jWd) :=
  letV (bO2 (fX11_refuse (-2 : Int32) w) (fun (r_4 : Int32) (w_3 : jWd) => some (r_4, w_3))) (fun (j24_1 : Option (Int32 × jWd)) => if (fX11_within ((a0).toInt64) (0 : Int64) (15 : Int64)) = 0 then j24_1 else if (fX11_within ((a1).toInt64) (0 : Int64) (3 : Int64)) = 0 then j24_1 else lX11_glen_36 n a0 a1 n (0 : Int32) (0 : Int32) w)
-- NobodysBard.imageAt(I)LNobodysBard$State;
def fX11_imageAt (a0 : Int32) : Nat :=
  if a0 = 0 then 61 else 121
-- NobodysBard.image(I)I
def fX11_image (a0 : Int32) (w : jWd) : Option (Int32 × jWd) :=
  if (fX11_isHalf a0) = 0 then bO2 (fX11_refuse (-2 : Int32) w) (fun (r_10 : Int32) (w_9 : jWd) => some (r_10, w_9)) else letV ((fX11_imageAt a0)) (fun (r_1 : Nat) => bO (fX8_copy r_1 1 w) (fun (w_4 : jWd) => grd a0 (ln 181) (letV (sI w_4 181 ((a0).toNatClampNeg) (vp_nar .boolean (1 : Int32))) (fun (w_5 : jWd) => some ((0 : Int32), w_5)))))
-- NobodysBard.late(II)I
def fX11_late (n : Nat) (a0 : Int32) (a1 : Int32) (w : jWd) : Option (Int32 × jWd) :=
  bO (fX5_has_ 2 a0 a1 w) (fun (r_2 : Int32) => if r_2 = 0 then bO2 (fX11_refuse (-2 : Int32) w) (fun (r_18 : Int32) (w_17 : jWd) => some (r_18, w_17)) else bO (fX8_isEarly 1 a0 w) (fun (r_4 : Int32) => if r_4 = 0 then bO (fX5_at 2 a0 a1 w) (fun (r_6 : Int64) => bO2 (fX2_nearest n (6 : Int32) r_6 (-1 : Int32) w) (fun (r_9 : Int32) (w_8 : jWd) => if r_9 < (wI w_8 1 11) then bO2 (fX2_nearest n (8 : Int32) r_6 (-1 : Int32) w_8) (fun (r_12 : Int32) (w_11 : jWd) => if r_12 < (wI w_11 1 11) then some ((0 : Int32), w_11) else some ((2 : Int32), w_11)) else some ((1 : Int32), w_8))) else bO2 (fX11_refuse (-5 : Int32) w) (fun (r_15 : Int32) (w_14 : jWd) => some (r_15, w_14))))
-- NobodysBard.like(JJ)I
def fX11_like (n : Nat) (a0 : Int64) (a1 : Int64) (w : jWd) : Option (Int32 × jWd) :=
  bO (fX4_clean n a0) (fun (r_2 : Int64) => bO (fX4_clean n a1) (fun (r_4 : Int64) => letV (bO2 (fX11_refuse (-3 : Int32) w) (fun (r_8 : Int32) (w_7 : jWd) => some (r_8, w_7))) (fun (j26_5 : Option (Int32 × jWd)) => if (lg_cmp r_2 (0 : Int64)) = 0 then j26_5 else if (lg_cmp r_4 (0 : Int64)) = 0 then j26_5 else bO (fX4_alike n r_2 r_4) (fun (r_10 : Int32) => some (r_10, w)))))
-- NobodysBard.line(IIIJ)I
def fX11_line (n : Nat) (a0 : Int32) (a1 : Int32) (a2 : Int32) (a3 : Int64) (w : jWd) : Option (Int32 × jWd) :=
  if (fX11_within ((a0).toInt64) (0 : Int64) (2 : Int64)) = 0 then bO2 (fX11_refuse (-2 : Int32) w) (fun (r_32 : Int32) (w_31 : jWd) => some (r_32, w_31)) else letV ((fX8_pile 1 a0)) (fun (r_1 : Nat) => letV (fun (s_3 : Int32) => if (fX5_has r_1 s_3 w) = 0 then bO2 (fX11_refuse (-2 : Int32) w) (fun (r_29 : Int32) (w_28 : jWd) => some (r_29, w_28)) else letV (bO (fX4_clean n a3) (fun (r_7 : Int64) => if (lg_cmp r_7 (0 : Int64)) = 0 then bO2 (fX11_refuse (-3 : Int32) w) (fun (r_23 : Int32) (w_22 : jWd) => some (r_23, w_22)) else bO (fX5_isFull_ r_1 s_3 w) (fun (r_9 : Int32) => if r_9 = 0 then if a0 = 0 then bO2 (fX8_putIntoSong n 1 s_3 r_7 w) (fun (r_17 : Int32) (w_16 : jWd) => some (r_17, w_16)) else letV (fun (s_10 : Int32) => bO2 (fX5_put r_1 s_3 s_10 r_7 w) (fun (r_14 : Int32) (w_13 : jWd) => some (r_14, w_13))) (fun (j150_11 : Int32 → Option (Int32 × jWd)) => if a0 = (2 : Int32) then j150_11 a2 else j150_11 (0 : Int32)) else bO2 (fX11_refuse (-4 : Int32) w) (fun (r_20 : Int32) (w_19 : jWd) => some (r_20, w_19))))) (fun (j82_5 : Option (Int32 × jWd)) => if a0 = (2 : Int32) then if (fX11_within ((a2).toInt64) (0 : Int64) (9 : Int64)) = 0 then bO2 (fX11_refuse (-3 : Int32) w) (fun (r_26 : Int32) (w_25 : jWd) => some (r_26, w_25)) else j82_5 else j82_5)) (fun (j39_4 : Int32 → Option (Int32 × jWd)) => if a0 = (2 : Int32) then j39_4 (0 : Int32) else j39_4 a1))
-- NobodysBard.matches(II)I
def fX11_matches (n : Nat) (a0 : Int32) (a1 : Int32) (w : jWd) : Option (Int32 × jWd) :=
  if (fX5_has 9 a0 w) = 0 then bO2 (fX11_refuse (-2 : Int32) w) (fun (r_8 : Int32) (w_7 : jWd) => some (r_8, w_7)) else if (fX11_isBound a1) = 0 then bO2 (fX11_refuse (-3 : Int32) w) (fun (r_5 : Int32) (w_4 : jWd) => some (r_5, w_4)) else bO (fX2_matchesOf n a0 a1 w) (fun (r_2 : Int32) => some (r_2, w))
-- NobodysBard.minister(I)I
def bX11_minister_55 (n : Nat) (p1 : Int32) (p2 : Int32) (k96 : (Option (Int32 × jWd))) (k83 : (Option (Int32 × jWd))) (w : jWd) (rec : Int32 → Option (Int32 × jWd)) (x3 : Int32)  : Option (Int32 × jWd) :=
  if p2 ≤ x3 then k96 else bO (fX7_at p1 x3 w) (fun (r_5 : Int64) => if (fX11_within r_5 (0 : Int64) (((fX0_greatest (i_rem x3 (5 : Int32)))).toInt64)) = 0 then k83 else letV (x3 + (1 : Int32)) (fun (x3_6 : Int32) => rec x3_6))
def lX11_minister_55 (n : Nat) (p1 : Int32) (p2 : Int32) (k96 : (Option (Int32 × jWd))) (k83 : (Option (Int32 × jWd))) (w : jWd) : Nat → Int32 → Option (Int32 × jWd)
  | 0 => fun _ => none
  | c + 1 => fun x3 => bX11_minister_55 n p1 p2 k96 k83 w (lX11_minister_55 n p1 p2 k96 k83 w c) x3
def bX11_minister_124 (n : Nat) (p1 : Int32) (p3 : Int32) (rec : Int32 → jWd → Option (Int32 × jWd)) (x4 : Int32) (w : jWd)  : Option (Int32 × jWd) :=
  if p3 ≤ x4 then some (p3, w) else letV ((x4 * (5 : Int32))) (fun (x5_10 : Int32) => bO (fX7_at p1 x5_10 w) (fun (r_13 : Int64) => bO (fX7_at p1 (x5_10 + (1 : Int32)) w) (fun (r_15 : Int64) => bO (fX7_at p1 (x5_10 + (2 : Int32)) w) (fun (r_17 : Int64) => bO2 (fX0_start 41 ((r_13).toInt32) ((r_15).toInt32) ((r_17).toInt32) w) (fun (r_20 : Int32) (w_19 : jWd) => bO (fX7_at p1 (x5_10 + (3 : Int32)) w_19) (fun (r_22 : Int64) => bO (fX7_at p1 (x5_10 + (4 : Int32)) w_19) (fun (r_24 : Int64) => bO (fX0_hear 41 r_20 ((r_22).toInt32) ((r_24).toInt32) (0 : Int64) w_19) (fun (w_26 : jWd) => letV (x4 + (1 : Int32)) (fun (x4_27 : Int32) => rec x4_27 w_26)))))))))
def lX11_minister_124 (n : Nat) (p1 : Int32) (p3 : Int32) : Nat → Int32 → jWd → Option (Int32 × jWd)
  | 0 => fun _ _ => none
  | c + 1 => fun x4 w => bX11_minister_124 n p1 p3 (lX11_minister_124 n p1 p3 c) x4 w
def fX11_minister (n : Nat) (a0 : Int32) (w : jWd) : Option (Int32 × jWd) :=
  if (fX7_canBe a0) = 0 then bO2 (fX11_refuse (-2 : Int32) w) (fun (r_43 : Int32) (w_42 : jWd) => some (r_43, w_42)) else grd a0 (ln 186) (letV ((wI w 186 (a0).toNatClampNeg)) (fun (x2_2 : Int32) => if x2_2 = (-1 : Int32) then bO2 (fX11_refuse (-6 : Int32) w) (fun (r_40 : Int32) (w_39 : jWd) => some (r_40, w_39)) else if (i_rem x2_2 (5 : Int32)) = 0 then lX11_minister_55 n a0 x2_2 (letV ((x2_2 / (5 : Int32))) (fun (x3_8 : Int32) => if x3_8 ≤ (fX0_room 41 w) then lX11_minister_124 n a0 x3_8 n (0 : Int32) w else bO2 (fX11_refuse (-4 : Int32) w) (fun (r_31 : Int32) (w_30 : jWd) => some (r_31, w_30)))) (bO2 (fX11_refuse (-3 : Int32) w) (fun (r_34 : Int32) (w_33 : jWd) => some (r_34, w_33))) w n (0 : Int32) else bO2 (fX11_refuse (-7 : Int32) w) (fun (r_37 : Int32) (w_36 : jWd) => some (r_37, w_36))))
-- NobodysBard.more(II)I
def fX11_more (n : Nat) (a0 : Int32) (a1 : Int32) (w : jWd) : Option (Int32 × jWd) :=
  letV (if a0 = (1 : Int32) then bO (fX9_allPaid n 48 w) (fun (r_8 : Int32) => some (r_8, w)) else if (fX11_within ((a1).toInt64) (1 : Int64) (999 : Int64)) = 0 then bO2 (fX11_refuse (-3 : Int32) w) (fun (r_6 : Int32) (w_5 : jWd) => some (r_6, w_5)) else bO (fX9_moreBy n 48 a1 w) (fun (r_3 : Int32) => some (r_3, w))) (fun (j16_1 : Option (Int32 × jWd)) => if a0 = 0 then j16_1 else if a0 = (1 : Int32) then j16_1 else bO2 (fX11_refuse (-2 : Int32) w) (fun (r_11 : Int32) (w_10 : jWd) => some (r_11, w_10)))
-- NobodysBard.most(II)I
def bX11_most_67 (n : Nat) (p1 : Int32) (p2 : Int32) (p3 : Int32) (k113 : Int32 → Int32 → Int32 → (Option (Int32 × jWd))) (w : jWd) (rec : Int32 → Int32 → Int32 → Int32 → Option (Int32 × jWd)) (x4 : Int32) (x5 : Int32) (x6 : Int32) (x7 : Int32)  : Option (Int32 × jWd) :=
  if p3 ≤ x7 then k113 x4 x5 x6 else bO (fX2_matchesOf n x7 p1 w) (fun (r_4 : Int32) => letV ((x6 + r_4)) (fun (x6_5 : Int32) => if r_4 ≤ x5 then letV (x7 + (1 : Int32)) (fun (x7_7 : Int32) => rec x4 x5 x6_5 x7_7) else letV (x7 + (1 : Int32)) (fun (x7_9 : Int32) => rec x7 r_4 x6_5 x7_9)))
def lX11_most_67 (n : Nat) (p1 : Int32) (p2 : Int32) (p3 : Int32) (k113 : Int32 → Int32 → Int32 → (Option (Int32 × jWd))) (w : jWd) : Nat → Int32 → Int32 → Int32 → Int32 → Option (Int32 × jWd)
  | 0 => fun _ _ _ _ => none
  | c + 1 => fun x4 x5 x6 x7 => bX11_most_67 n p1 p2 p3 k113 w (lX11_most_67 n p1 p2 p3 k113 w c) x4 x5 x6 x7
def fX11_most (n : Nat) (a0 : Int32) (a1 : Int32) (w : jWd) : Option (Int32 × jWd) :=
  if (fX11_within ((a1).toInt64) (0 : Int64) (2 : Int64)) = 0 then bO2 (fX11_refuse (-2 : Int32) w) (fun (r_24 : Int32) (w_23 : jWd) => some (r_24, w_23)) else if (fX11_isBound a0) = 0 then bO2 (fX11_refuse (-3 : Int32) w) (fun (r_21 : Int32) (w_20 : jWd) => some (r_21, w_20)) else letV ((wI w 9 2)) (fun (x3_1 : Int32) => if x3_1 = 0 then bO2 (fX11_refuse (-5 : Int32) w) (fun (r_18 : Int32) (w_17 : jWd) => some (r_18, w_17)) else lX11_most_67 n a0 a1 x3_1 (fun (z4_11 : Int32) (z5_12 : Int32) (z6_13 : Int32) => if a1 = (2 : Int32) then some (z4_11, w) else bO (fX2_fraction n (((z5_12 * x3_1)).toInt64) ((z6_13).toInt64) a1) (fun (r_15 : Int64) => some (((r_15).toInt32), w))) w n (0 : Int32) (0 : Int32) (0 : Int32) (0 : Int32))
-- NobodysBard.muddled(I)I
def fX11_muddled (n : Nat) (a0 : Int32) (w : jWd) : Option (Int32 × jWd) :=
  bO2 (fX2_muddledAt n a0 w) (fun (r_3 : Int32) (w_2 : jWd) => some (r_3, w_2))
-- NobodysBard.odds(II)J
def fX11_odds (n : Nat) (a0 : Int32) (a1 : Int32) (w : jWd) : Option (Int64 × jWd) :=
  if (fX11_isHalf a1) = 0 then bO2 (fX11_refuse (-2 : Int32) w) (fun (r_20 : Int32) (w_19 : jWd) => some (((r_20).toInt64), w_19)) else if (fX11_isBound a0) = 0 then bO2 (fX11_refuse (-3 : Int32) w) (fun (r_17 : Int32) (w_16 : jWd) => some (((r_17).toInt64), w_16)) else bO (fX2_pairsBy n (6 : Int32) a0 w) (fun (r_2 : Int32) => bO (fX2_pairs n (9 : Int32) w) (fun (r_4 : Int32) => letV ((((r_2).toInt64) * ((r_4).toInt64))) (fun (x3_5 : Int64) => bO (fX2_pairs n (6 : Int32) w) (fun (r_8 : Int32) => bO (fX2_pairsBy n (9 : Int32) a0 w) (fun (r_10 : Int32) => letV ((((r_8).toInt64) * ((r_10).toInt64))) (fun (x5_11 : Int64) => bO (fX2_fraction n x3_5 x5_11 a1) (fun (r_14 : Int64) => some (r_14, w))))))))
-- NobodysBard.open(IIII)I
def fX11_open (a0 : Int32) (a1 : Int32) (a2 : Int32) (a3 : Int32) (w : jWd) : Option (Int32 × jWd) :=
  letV (letV (fun (s_2 : Int64) => if (fX11_within ((a1).toInt64) (0 : Int64) s_2) = 0 then bO2 (fX11_refuse (-3 : Int32) w) (fun (r_21 : Int32) (w_20 : jWd) => some (r_21, w_20)) else letV (letV ((fX8_pile 1 a0)) (fun (r_5 : Nat) => if (fX5_isFull r_5 w) = 0 then if a0 = 0 then bO2 (fX5_start r_5 a1 a2 a3 w) (fun (r_12 : Int32) (w_11 : jWd) => some (r_12, w_11)) else bO2 (fX5_start r_5 a1 (0 : Int32) (0 : Int32) w) (fun (r_9 : Int32) (w_8 : jWd) => some (r_9, w_8)) else bO2 (fX11_refuse (-4 : Int32) w) (fun (r_15 : Int32) (w_14 : jWd) => some (r_15, w_14)))) (fun (j65_4 : Option (Int32 × jWd)) => if a0 = 0 then if (fX11_isGlenAndDay a2 a3) = 0 then bO2 (fX11_refuse (-3 : Int32) w) (fun (r_18 : Int32) (w_17 : jWd) => some (r_18, w_17)) else j65_4 else j65_4)) (fun (j32_3 : Int64 → Option (Int32 × jWd)) => if a0 = 0 then j32_3 (9 : Int64) else j32_3 (5 : Int64))) (fun (j16_1 : Option (Int32 × jWd)) => if a0 = 0 then j16_1 else if a0 = (1 : Int32) then j16_1 else bO2 (fX11_refuse (-2 : Int32) w) (fun (r_24 : Int32) (w_23 : jWd) => some (r_24, w_23)))
-- NobodysBard.pages(II)I
def fX11_pages (a0 : Int32) (a1 : Int32) (w : jWd) : Option (Int32 × jWd) :=
  letV (bO2 (fX11_refuse (-3 : Int32) w) (fun (r_4 : Int32) (w_3 : jWd) => some (r_4, w_3))) (fun (j24_1 : Option (Int32 × jWd)) => if (fX11_within ((a0).toInt64) (0 : Int64) (9999 : Int64)) = 0 then j24_1 else if (fX11_within ((a1).toInt64) (1 : Int64) (99 : Int64)) = 0 then j24_1 else if (wI w 48 1) < (40 : Int32) then bO2 (fX9_fill 48 a0 a1 w) (fun (r_7 : Int32) (w_6 : jWd) => some (r_7, w_6)) else bO2 (fX11_refuse (-4 : Int32) w) (fun (r_10 : Int32) (w_9 : jWd) => some (r_10, w_9)))
-- NobodysBard.paid(II)I
def fX11_paid (a0 : Int32) (a1 : Int32) (w : jWd) : Option (Int32 × jWd) :=
  letV (bO2 (fX11_refuse (-3 : Int32) w) (fun (r_4 : Int32) (w_3 : jWd) => some (r_4, w_3))) (fun (j24_1 : Option (Int32 × jWd)) => if (fX11_within ((a0).toInt64) (0 : Int64) (9999 : Int64)) = 0 then j24_1 else if (fX11_within ((a1).toInt64) (1 : Int64) (999 : Int64)) = 0 then j24_1 else if (wI w 48 0) < (20 : Int32) then bO2 (fX9_pay 48 a0 a1 w) (fun (r_7 : Int32) (w_6 : jWd) => some (r_7, w_6)) else bO2 (fX11_refuse (-4 : Int32) w) (fun (r_10 : Int32) (w_9 : jWd) => some (r_10, w_9)))
-- NobodysBard.parted(IZ)I
def fX11_parted (n : Nat) (a0 : Int32) (a1 : Int32) (w : jWd) : Option (Int32 × jWd) :=
  if (fX11_isHalf a0) = 0 then bO2 (fX11_refuse (-2 : Int32) w) (fun (r_8 : Int32) (w_7 : jWd) => some (r_8, w_7)) else letV (fun (s_1 : Int32) => bO2 (fX2_partedBy n a0 s_1 w) (fun (r_5 : Int32) (w_4 : jWd) => some (r_5, w_4))) (fun (j28_2 : Int32 → Option (Int32 × jWd)) => if a1 = 0 then j28_2 (0 : Int32) else j28_2 (1 : Int32))
-- NobodysBard.print(I)I
def fX11_print (a0 : Int32) (w : jWd) : Option (Int32 × jWd) :=
  if (fX11_within ((a0).toInt64) (0 : Int64) (9999 : Int64)) = 0 then bO2 (fX11_refuse (-3 : Int32) w) (fun (r_7 : Int32) (w_6 : jWd) => some (r_7, w_6)) else letV ((wI w 19 0)) (fun (x2_1 : Int32) => letV (sI w 19 0 a0) (fun (w_3 : jWd) => some (x2_1, w_3)))
-- NobodysBard.rate()I
def fX11_rate (n : Nat) (w : jWd) : Option (Int32 × jWd) :=
  if (wI w 48 1) = 0 then bO2 (fX11_refuse (-5 : Int32) w) (fun (r_5 : Int32) (w_4 : jWd) => some (r_5, w_4)) else bO (fX9_leastRate n 48 w) (fun (r_2 : Int32) => some (r_2, w))
-- NobodysBard.restore(I)I
def fX11_restore (a0 : Int32) (w : jWd) : Option (Int32 × jWd) :=
  if (fX11_isHalf a0) = 0 then bO2 (fX11_refuse (-2 : Int32) w) (fun (r_11 : Int32) (w_10 : jWd) => some (r_11, w_10)) else grd a0 (ln 181) (if (wI w 181 (a0).toNatClampNeg) = 0 then bO2 (fX11_refuse (-5 : Int32) w) (fun (r_8 : Int32) (w_7 : jWd) => some (r_8, w_7)) else letV ((fX11_imageAt a0)) (fun (r_2 : Nat) => bO (fX8_copy 1 r_2 w) (fun (w_5 : jWd) => some ((0 : Int32), w_5))))
-- NobodysBard.row(III)I
def fX11_row (n : Nat) (a0 : Int32) (a1 : Int32) (a2 : Int32) (w : jWd) : Option (Int32 × jWd) :=
  letV (bO2 (fX11_refuse (-2 : Int32) w) (fun (r_4 : Int32) (w_3 : jWd) => some (r_4, w_3))) (fun (j23_1 : Option (Int32 × jWd)) => if (fX7_canBe a0) = 0 then j23_1 else if (fX11_within ((a1).toInt64) (0 : Int64) (3 : Int64)) = 0 then j23_1 else if (fX11_within ((a2).toInt64) (0 : Int64) (60 : Int64)) = 0 then bO2 (fX11_refuse (-3 : Int32) w) (fun (r_9 : Int32) (w_8 : jWd) => some (r_9, w_8)) else bO (fX7_lay n a0 a1 a2 w) (fun (w_6 : jWd) => some ((0 : Int32), w_6)))
-- NobodysBard.say(I)I
def fX11_say (n : Nat) (a0 : Int32) (w : jWd) : Option (Int32 × jWd) :=
  bO (fX5_has_ 16 (0 : Int32) a0 w) (fun (r_2 : Int32) => if r_2 = 0 then bO2 (fX11_refuse (-2 : Int32) w) (fun (r_20 : Int32) (w_19 : jWd) => some (r_20, w_19)) else bO (fX8_hasEarly n 1 w) (fun (r_4 : Int32) => letV (bO (fX2_look n a0 w) (fun (w_7 : jWd) => (if (wI w_7 182 3) = (0 : Int32) then some ((1 : Int32), w_7) else if (wI w_7 182 3) = (1 : Int32) then some ((1 : Int32), w_7) else if (wI w_7 182 3) = (2 : Int32) then some ((2 : Int32), w_7) else if (wI w_7 182 3) = (3 : Int32) then some ((3 : Int32), w_7) else if (wI w_7 182 3) = (4 : Int32) then some ((4 : Int32), w_7) else bO (fX5_at 16 (0 : Int32) a0 w_7) (fun (r_14 : Int64) => bO2 (fX2_nearest n (7 : Int32) r_14 (-1 : Int32) w_7) (fun (r_17 : Int32) (w_16 : jWd) => if r_17 < (wI w_16 1 11) then some ((6 : Int32), w_16) else some ((5 : Int32), w_16)))))) (fun (j47_5 : Option (Int32 × jWd)) => if r_4 = 0 then if (wI w 9 2) = 0 then some ((0 : Int32), w) else j47_5 else j47_5)))
-- NobodysBard.says(III)I
def fX11_says (a0 : Int32) (a1 : Int32) (a2 : Int32) (w : jWd) : Option (Int32 × jWd) :=
  letV (bO2 (fX11_refuse (-2 : Int32) w) (fun (r_4 : Int32) (w_3 : jWd) => some (r_4, w_3))) (fun (j26_1 : Option (Int32 × jWd)) => if (fX10_has 55 a0 w) = 0 then j26_1 else if (fX11_within ((a1).toInt64) (0 : Int64) (15 : Int64)) = 0 then j26_1 else if (fX11_within ((a2).toInt64) (0 : Int64) (3 : Int64)) = 0 then bO2 (fX11_refuse (-3 : Int32) w) (fun (r_10 : Int32) (w_9 : jWd) => some (r_10, w_9)) else bO2 (fX10_tell 55 a0 a1 a2 w) (fun (r_7 : Int32) (w_6 : jWd) => some (r_7, w_6)))
-- NobodysBard.share(II)I
def fX11_share (n : Nat) (a0 : Int32) (a1 : Int32) (w : jWd) : Option (Int32 × jWd) :=
  letV (bO2 (fX11_refuse (-2 : Int32) w) (fun (r_4 : Int32) (w_3 : jWd) => some (r_4, w_3))) (fun (j19_1 : Option (Int32 × jWd)) => if (fX11_within ((a0).toInt64) (0 : Int64) (5 : Int64)) = 0 then j19_1 else if (fX11_isHalf a1) = 0 then j19_1 else letV ((wI w 20 0)) (fun (x3_5 : Int32) => if x3_5 = 0 then bO2 (fX11_refuse (-5 : Int32) w) (fun (r_15 : Int32) (w_14 : jWd) => some (r_15, w_14)) else bO (fX2_countKinds n w) (fun (w_8 : jWd) => grd a0 (ln 184) (letV ((wI w_8 184 (a0).toNatClampNeg)) (fun (x4_10 : Int32) => if a1 = 0 then some (x4_10, w_8) else grzi x3_5 (some ((((1000 : Int32) * x4_10) / x3_5), w_8)))))))
-- NobodysBard.smoothed(JI)J
def fX11_smoothed (n : Nat) (a0 : Int64) (a1 : Int32) (w : jWd) : Option (Int64 × jWd) :=
  bO (fX4_clean n a0) (fun (r_2 : Int64) => letV (bO2 (fX11_refuse (-3 : Int32) w) (fun (r_6 : Int32) (w_5 : jWd) => some (((r_6).toInt64), w_5))) (fun (j25_3 : Option (Int64 × jWd)) => if (lg_cmp r_2 (0 : Int64)) = 0 then j25_3 else if (fX11_within ((a1).toInt64) (0 : Int64) (9 : Int64)) = 0 then j25_3 else bO (fX1_smooth n 32 r_2 a1 w) (fun (r_8 : Int64) => some (r_8, w))))
-- NobodysBard.span(I)I
def fX11_span (n : Nat) (a0 : Int32) (w : jWd) : Option (Int32 × jWd) :=
  if (fX11_isHalf a0) = 0 then bO2 (fX11_refuse (-2 : Int32) w) (fun (r_17 : Int32) (w_16 : jWd) => some (r_17, w_16)) else letV ((wI w 20 0)) (fun (x2_1 : Int32) => if x2_1 = 0 then bO2 (fX11_refuse (-5 : Int32) w) (fun (r_14 : Int32) (w_13 : jWd) => some (r_14, w_13)) else bO (fX2_countKinds n w) (fun (w_4 : jWd) => letV ((((wI w_4 184 0) + (wI w_4 184 1)) + (wI w_4 184 2))) (fun (x3_5 : Int32) => letV (fun (y3_7 : Int32) => grzi x2_1 (some ((((1000 : Int32) * y3_7) / x2_1), w_4))) (fun (j92_8 : Int32 → Option (Int32 × jWd)) => if a0 = (1 : Int32) then letV ((x3_5 + (wI w_4 184 4))) (fun (x3_10 : Int32) => j92_8 x3_10) else j92_8 x3_5))))
-- NobodysBard.status(I)I
def fX11_status (a0 : Int32) (w : jWd) : Option Int32 :=
  if (fX11_within ((a0).toInt64) (1 : Int64) (7 : Int64)) = 0 then some (-1 : Int32) else grd a0 (ln 204) (some (wI w 204 (a0).toNatClampNeg))
-- NobodysBard.text(II)I
def fX11_text (n : Nat) (a0 : Int32) (a1 : Int32) (w : jWd) : Option (Int32 × jWd) :=
  letV (if (fX11_within ((a1).toInt64) (0 : Int64) (((wI w 0 8)).toInt64)) = 0 then bO2 (fX11_refuse (-3 : Int32) w) (fun (r_21 : Int32) (w_20 : jWd) => some (r_21, w_20)) else letV (sI w 0 8 (0 : Int32)) (fun (w_2 : jWd) => bO (fX6_scan n 202 a1 w_2) (fun (w_5 : jWd) => letV (fun (w_6 : jWd) => if (wI w_6 189 2) = 0 then if a0 = 0 then bO (fX8_follow n 1 190 w_6) (fun (w_11 : jWd) => some ((wI w_11 32 0), w_11)) else bO (fX3_copy 39 197 w_6) (fun (w_9 : jWd) => some ((wI w_9 39 0), w_9)) else bO2 (fX11_refuse ((-10 : Int32) - (wI w_6 189 2)) w_6) (fun (r_14 : Int32) (w_13 : jWd) => some (r_14, w_13))) (fun (j75_7 : jWd → Option (Int32 × jWd)) => if a0 = 0 then bO (fX6_readFashion n w_5) (fun (w_18 : jWd) => j75_7 w_18) else bO (fX6_readLaw n w_5) (fun (w_16 : jWd) => j75_7 w_16))))) (fun (j16_1 : Option (Int32 × jWd)) => if a0 = 0 then j16_1 else if a0 = (1 : Int32) then j16_1 else bO2 (fX11_refuse (-2 : Int32) w) (fun (r_24 : Int32) (w_23 : jWd) => some (r_24, w_23)))
-- NobodysBard.told(IIII)I
def bX11_told_113 (n : Nat) (p5 : Int32) (p6 : Int32) (rec : Int32 → jWd → Option (Int32 × jWd)) (x7 : Int32) (w : jWd)  : Option (Int32 × jWd) :=
  if p5 ≤ x7 then some (p6, w) else if (12 : Int32) ≤ x7 then some (p6, w) else grd x7 (ln 203) (bO2 (fX8_putIntoSong n 1 p6 (wJ w 203 (x7).toNatClampNeg) w) (fun (r_11 : Int32) (w_10 : jWd) => letV (x7 + (1 : Int32)) (fun (x7_12 : Int32) => rec x7_12 w_10)))
def lX11_told_113 (n : Nat) (p5 : Int32) (p6 : Int32) : Nat → Int32 → jWd → Option (Int32 × jWd)
  | 0 => fun _ _ => none
  | c + 1 => fun x7 w => bX11_told_113 n p5 p6 (lX11_told_113 n p5 p6 c) x7 w
def fX11_told (n : Nat) (a0 : Int32) (a1 : Int32) (a2 : Int32) (a3 : Int32) (w : jWd) : Option (Int32 × jWd) :=
  if (fX5_has 2 a0 w) = 0 then bO2 (fX11_refuse (-2 : Int32) w) (fun (r_25 : Int32) (w_24 : jWd) => some (r_25, w_24)) else if (fX11_isGlenAndDay a1 a2) = 0 then bO2 (fX11_refuse (-3 : Int32) w) (fun (r_22 : Int32) (w_21 : jWd) => some (r_22, w_21)) else if (fX5_isFull 2 w) = 0 then bO2 (fX8_tellOn n 1 a0 a3 203 w) (fun (r_3 : Int32) (w_2 : jWd) => if r_3 = 0 then bO2 (fX11_refuse (-5 : Int32) w_2) (fun (r_16 : Int32) (w_15 : jWd) => some (r_16, w_15)) else grd a0 (ln 3) (bO2 (fX5_start 2 (wI w_2 3 (a0).toNatClampNeg) a1 a2 w_2) (fun (r_7 : Int32) (w_6 : jWd) => lX11_told_113 n r_3 r_7 n (0 : Int32) w_6))) else bO2 (fX11_refuse (-4 : Int32) w) (fun (r_19 : Int32) (w_18 : jWd) => some (r_19, w_18))
-- NobodysBard.version(JJII)I
def fX11_version (n : Nat) (a0 : Int64) (a1 : Int64) (a2 : Int32) (a3 : Int32) (w : jWd) : Option (Int32 × jWd) :=
  bO (fX4_clean n a0) (fun (r_2 : Int64) => bO (fX4_clean n a1) (fun (r_4 : Int64) => letV (bO2 (fX11_refuse (-3 : Int32) w) (fun (r_8 : Int32) (w_7 : jWd) => some (r_8, w_7))) (fun (j26_5 : Option (Int32 × jWd)) => if (lg_cmp r_2 (0 : Int64)) = 0 then j26_5 else if (lg_cmp r_4 (0 : Int64)) = 0 then j26_5 else letV (bO2 (fX11_refuse (-3 : Int32) w) (fun (r_12 : Int32) (w_11 : jWd) => some (r_12, w_11))) (fun (j59_9 : Option (Int32 × jWd)) => if (fX11_within ((a2).toInt64) (0 : Int64) (9999 : Int64)) = 0 then j59_9 else if (fX11_within ((a3).toInt64) (0 : Int64) (9 : Int64)) = 0 then j59_9 else if (fX5_isFull 23 w) = 0 then bO2 (fX5_start 23 a3 (0 : Int32) a2 w) (fun (r_15 : Int32) (w_14 : jWd) => bO2 (fX5_put 23 r_15 a3 r_2 w_14) (fun (r_18 : Int32) (w_17 : jWd) => bO2 (fX5_put 23 r_15 a3 r_4 w_17) (fun (r_21 : Int32) (w_20 : jWd) => some (r_15, w_20)))) else bO2 (fX11_refuse (-4 : Int32) w) (fun (r_24 : Int32) (w_23 : jWd) => some (r_24, w_23))))))
-- NobodysBard.which(I)I
def fX11_which (n : Nat) (a0 : Int32) (w : jWd) : Option (Int32 × jWd) :=
  bO (fX5_has_ 23 a0 (1 : Int32) w) (fun (r_2 : Int32) => if r_2 = 0 then bO2 (fX11_refuse (-2 : Int32) w) (fun (r_19 : Int32) (w_18 : jWd) => some (r_19, w_18)) else bO (fX5_at 23 a0 (0 : Int32) w) (fun (r_4 : Int64) => bO (fX5_at 23 a0 (1 : Int32) w) (fun (r_6 : Int64) => grd a0 (ln 24) (letV ((wI w 24 (a0).toNatClampNeg)) (fun (x6_8 : Int32) => grd a0 (ln 26) (bO (fX8_hasWordAfter n 1 r_4 (wI w 26 (a0).toNatClampNeg) w) (fun (r_12 : Int32) => if r_12 = 0 then bO (fX1_smooth n 32 r_4 x6_8 w) (fun (r_14 : Int64) => if (lg_cmp r_14 r_6) = 0 then some ((0 : Int32), w) else bO (fX1_smooth n 32 r_6 x6_8 w) (fun (r_16 : Int64) => if (lg_cmp r_16 r_4) = 0 then some ((1 : Int32), w) else some ((2 : Int32), w))) else some ((1 : Int32), w))))))))
-- NobodysBard.whose(II)I
def fX11_whose (n : Nat) (a0 : Int32) (a1 : Int32) (w : jWd) : Option (Int32 × jWd) :=
  bO (fX5_has_ 16 (0 : Int32) a0 w) (fun (r_2 : Int32) => letV (bO2 (fX11_refuse (-2 : Int32) w) (fun (r_6 : Int32) (w_5 : jWd) => some (r_6, w_5))) (fun (j22_3 : Option (Int32 × jWd)) => if r_2 = 0 then j22_3 else if (fX11_isHalf a1) = 0 then j22_3 else bO (fX2_look n a0 w) (fun (w_8 : jWd) => if a1 = 0 then some ((wI w_8 182 3), w_8) else some ((wI w_8 182 4), w_8))))
-- NobodysBard.words(III)J
def fX11_words (a0 : Int32) (a1 : Int32) (a2 : Int32) (w : jWd) : Option (Int64 × jWd) :=
  if (fX11_within ((a0).toInt64) (0 : Int64) (4 : Int64)) = 0 then bO2 (fX11_refuse (-2 : Int32) w) (fun (r_16 : Int32) (w_15 : jWd) => some (((r_16).toInt64), w_15)) else letV ((fX8_pile 1 a0)) (fun (r_1 : Nat) => letV (fun (s_3 : Int32) => letV (fun (s_5 : Int32) => bO (fX5_has_ r_1 s_3 s_5 w) (fun (r_8 : Int32) => if r_8 = 0 then bO2 (fX11_refuse (-2 : Int32) w) (fun (r_13 : Int32) (w_12 : jWd) => some (((r_13).toInt64), w_12)) else bO (fX5_at r_1 s_3 s_5 w) (fun (r_10 : Int64) => some (r_10, w)))) (fun (j61_6 : Int32 → Option (Int64 × jWd)) => if a0 = (3 : Int32) then j61_6 (0 : Int32) else if a0 = (4 : Int32) then j61_6 (1 : Int32) else j61_6 a2)) (fun (j40_4 : Int32 → Option (Int64 × jWd)) => if a0 = (2 : Int32) then j40_4 (0 : Int32) else j40_4 a1))
-- NobodysBard.world(I)I
def fX11_world (a0 : Int32) (w : jWd) : Option (Int32 × jWd) :=
  if (fX11_within ((a0).toInt64) (1 : Int64) (99 : Int64)) = 0 then bO2 (fX11_refuse (-3 : Int32) w) (fun (r_9 : Int32) (w_8 : jWd) => some (r_9, w_8)) else if (wI w 55 0) < (8 : Int32) then bO2 (fX10_start 55 a0 w) (fun (r_3 : Int32) (w_2 : jWd) => some (r_3, w_2)) else bO2 (fX11_refuse (-4 : Int32) w) (fun (r_6 : Int32) (w_5 : jWd) => some (r_6, w_5))
-- NobodysBard.write(IIJ)J
def fX11_write (a0 : Int32) (a1 : Int32) (a2 : Int64) (w : jWd) : Option (Int64 × jWd) :=
  if (fX7_canBe a0) = 0 then bO2 (fX11_refuse (-2 : Int32) w) (fun (r_14 : Int32) (w_13 : jWd) => some (((r_14).toInt64), w_13)) else grd a0 (ln 186) (if (wI w 186 (a0).toNatClampNeg) = (-1 : Int32) then bO2 (fX11_refuse (-6 : Int32) w) (fun (r_11 : Int32) (w_10 : jWd) => some (((r_11).toInt64), w_10)) else grd a0 (ln 186) (if (fX11_within ((a1).toInt64) (0 : Int64) ((((wI w 186 (a0).toNatClampNeg) - (1 : Int32))).toInt64)) = 0 then bO2 (fX11_refuse (-7 : Int32) w) (fun (r_8 : Int32) (w_7 : jWd) => some (((r_8).toInt64), w_7)) else bO2 (fX7_put a0 a1 a2 w) (fun (r_5 : Int64) (w_4 : jWd) => some (r_5, w_4))))
-- NobodysBard.year(II)I
def fX11_year (a0 : Int32) (a1 : Int32) (w : jWd) : Option (Int32 × jWd) :=
  if (fX11_within ((a0).toInt64) (1 : Int64) (255 : Int64)) = 0 then bO2 (fX11_refuse (-2 : Int32) w) (fun (r_12 : Int32) (w_11 : jWd) => some (r_12, w_11)) else if (fX11_within ((a1).toInt64) (0 : Int64) (9999 : Int64)) = 0 then bO2 (fX11_refuse (-3 : Int32) w) (fun (r_9 : Int32) (w_8 : jWd) => some (r_9, w_8)) else grd a0 (ln 31) (letV ((wI w 31 (a0).toNatClampNeg)) (fun (x3_2 : Int32) => grd a0 (ln 31) (letV (sI w 31 ((a0).toNatClampNeg) a1) (fun (w_4 : jWd) => some (x3_2, w_4)))))
theorem kqX8_pile {t : Nat} {a0 : Int32} (h0 : kd t = 7) : kd (fX8_pile t a0) = 4 := by
  unfold fX8_pile
  repeat' split
  all_goals first | exact kr_7_1 h0 | exact kr_7_8 h0 | exact kr_7_15 h0 | exact kr_7_22 h0
theorem kqX2_pileOf {a0 : Int32} : kd (fX2_pileOf a0) = 4 := by
  unfold fX2_pileOf letV
  repeat' split
  all_goals rfl
theorem kqX11_imageAt {a0 : Int32} : kd (fX11_imageAt a0) = 7 := by
  unfold fX11_imageAt
  split <;> rfl
