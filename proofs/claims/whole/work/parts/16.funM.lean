/-! THE REFERENCE as functions (by program out of its bytecode) -/
-- NobodysBardModel.within(JJJ)Z
def fX12_within (a0 : Int64) (a1 : Int64) (a2 : Int64) : Int32 :=
  if (lg_cmp a0 a1) < 0 then (0 : Int32) else if 0 < (lg_cmp a0 a2) then (0 : Int32) else (1 : Int32)
-- NobodysBardModel.no(I)I
def fX12_no (a0 : Int32) (w : jWd) : Option (Int32 × jWd) :=
  grd (-a0) (ln 206) (grd (-a0) (ln 206) (letV (sI w 206 (((-a0)).toNatClampNeg) ((wI w 206 ((-a0)).toNatClampNeg) + (1 : Int32))) (fun (w_2 : jWd) => some (a0, w_2))))
-- NobodysBardModel.isEarly(I)Z
def fX12_isEarly (a0 : Int32) (w : jWd) : Option Int32 :=
  grd ((81 : Int32) + a0) (ln 207) (if (wI w 207 161) < (wI w 207 (((81 : Int32) + a0)).toNatClampNeg) then some (0 : Int32) else some (1 : Int32))
-- NobodysBardModel.wordAt(JI)I
def fX12_wordAt (a0 : Int64) (a1 : Int32) : Int32 :=
  if a1 ≤ (7 : Int32) then ((((l_ushr a0 ((56 : Int32) - ((8 : Int32) * a1)))).toInt32) &&& (255 : Int32)) else (0 : Int32)
-- NobodysBardModel.lengthOf(J)I
def bX12_lengthOf_2 (n : Nat) (p0 : Int64) (rec : Int32 → Option Int32) (x2 : Int32)  : Option Int32 :=
  if (8 : Int32) ≤ x2 then some x2 else if (fX12_wordAt p0 x2) = 0 then some x2 else letV (x2 + (1 : Int32)) (fun (x2_1 : Int32) => rec x2_1)
def lX12_lengthOf_2 (n : Nat) (p0 : Int64) : Nat → Int32 → Option Int32
  | 0 => fun _ => none
  | c + 1 => fun x2 => bX12_lengthOf_2 n p0 (lX12_lengthOf_2 n p0 c) x2
def fX12_lengthOf (n : Nat) (a0 : Int64) : Option Int32 :=
  lX12_lengthOf_2 n a0 n (0 : Int32)
-- NobodysBardModel.hasWord(I)Z
def bX12_hasWord_4 (n : Nat) (p1 : Int32) (w : jWd) (rec : Int32 → Int32 → Option Int32) (x2 : Int32) (x3 : Int32)  : Option Int32 :=
  if (wI w 205 23) ≤ x3 then some (x2 &&& 1) else if x2 = 0 then grd x3 (ln 214) (if (wI w 214 (x3).toNatClampNeg) = p1 then letV (x3 + (1 : Int32)) (fun (x3_6 : Int32) => rec (1 : Int32) x3_6) else letV (x3 + (1 : Int32)) (fun (x3_4 : Int32) => rec (0 : Int32) x3_4)) else letV (x3 + (1 : Int32)) (fun (x3_1 : Int32) => rec (1 : Int32) x3_1)
def lX12_hasWord_4 (n : Nat) (p1 : Int32) (w : jWd) : Nat → Int32 → Int32 → Option Int32
  | 0 => fun _ _ => none
  | c + 1 => fun x2 x3 => bX12_hasWord_4 n p1 w (lX12_hasWord_4 n p1 w c) x2 x3
def fX12_hasWord (n : Nat) (a0 : Int32) (w : jWd) : Option Int32 :=
  lX12_hasWord_4 n a0 w n (0 : Int32) (0 : Int32)
-- NobodysBardModel.holds(II)Z
def bX12_holds_13 (n : Nat) (p1 : Int32) (p2 : Int32) (k243 : Int32 → jWd → (Option (Int32 × jWd))) (rec : Int32 → Int32 → jWd → Option (Int32 × jWd)) (x3 : Int32) (x4 : Int32) (w : jWd)  : Option (Int32 × jWd) :=
  grd ((133 : Int32) + p1) (ln 211) (if (wI w 211 (((133 : Int32) + p1)).toNatClampNeg) ≤ x4 then k243 x3 w else grd ((145 : Int32) + ((2 : Int32) * x4)) (ln 211) (letV ((wI w 211 (((145 : Int32) + ((2 : Int32) * x4))).toNatClampNeg)) (fun (x5_6 : Int32) => grd (((145 : Int32) + ((2 : Int32) * x4)) + (1 : Int32)) (ln 211) (letV ((wI w 211 ((((145 : Int32) + ((2 : Int32) * x4)) + (1 : Int32))).toNatClampNeg)) (fun (x6_9 : Int32) => if x5_6 = (2 : Int32) then grd (x3 - (1 : Int32)) (ln 216) (letV (fun (s_39 : Int32) => grd (x3 - (1 : Int32)) (ln 216) (letV (sI w 216 (((x3 - (1 : Int32))).toNatClampNeg) (vp_nar .boolean s_39)) (fun (w_41 : jWd) => letV (x4 + (1 : Int32)) (fun (x4_44 : Int32) => rec x3 x4_44 w_41)))) (fun (j89_40 : Int32 → Option (Int32 × jWd)) => if (wI w 216 ((x3 - (1 : Int32))).toNatClampNeg) = 0 then j89_40 (1 : Int32) else j89_40 (0 : Int32))) else letV (letV (x3 + (-1 : Int32)) (fun (x3_12 : Int32) => letV (fun (s_14 : Int32) => grd (x3_12 - (1 : Int32)) (ln 216) (letV (sI w 216 (((x3_12 - (1 : Int32))).toNatClampNeg) (vp_nar .boolean s_14)) (fun (w_16 : jWd) => letV (x4 + (1 : Int32)) (fun (x4_19 : Int32) => rec x3_12 x4_19 w_16)))) (fun (j174_15 : Int32 → Option (Int32 × jWd)) => if x5_6 = (3 : Int32) then grd (x3_12 - (1 : Int32)) (ln 216) (letV (j174_15 (0 : Int32)) (fun (j145_25 : Option (Int32 × jWd)) => if (wI w 216 ((x3_12 - (1 : Int32))).toNatClampNeg) = 0 then j145_25 else grd x3_12 (ln 216) (if (wI w 216 (x3_12).toNatClampNeg) = 0 then j145_25 else j174_15 (1 : Int32)))) else grd (x3_12 - (1 : Int32)) (ln 216) (letV (j174_15 (1 : Int32)) (fun (j169_22 : Option (Int32 × jWd)) => if (wI w 216 ((x3_12 - (1 : Int32))).toNatClampNeg) = 0 then grd x3_12 (ln 216) (if (wI w 216 (x3_12).toNatClampNeg) = 0 then j174_15 (0 : Int32) else j169_22) else j169_22))))) (fun (j105_11 : Option (Int32 × jWd)) => if x5_6 = (3 : Int32) then j105_11 else if x5_6 = (4 : Int32) then j105_11 else letV (fun (s_27 : Int32) => grd x3 (ln 216) (letV (sI w 216 ((x3).toNatClampNeg) (vp_nar .boolean s_27)) (fun (w_29 : jWd) => letV (x3 + (1 : Int32)) (fun (x3_32 : Int32) => letV (x4 + (1 : Int32)) (fun (x4_34 : Int32) => rec x3_32 x4_34 w_29))))) (fun (j233_28 : Int32 → Option (Int32 × jWd)) => if x5_6 = (5 : Int32) then bO (fX12_hasWord n x6_9 w) (fun (r_37 : Int32) => j233_28 r_37) else if x5_6 = (6 : Int32) then if (wI w 205 23) < x6_9 then j233_28 (0 : Int32) else j233_28 (1 : Int32) else if x6_9 = p2 then j233_28 (1 : Int32) else j233_28 (0 : Int32))))))))
def lX12_holds_13 (n : Nat) (p1 : Int32) (p2 : Int32) (k243 : Int32 → jWd → (Option (Int32 × jWd))) : Nat → Int32 → Int32 → jWd → Option (Int32 × jWd)
  | 0 => fun _ _ _ => none
  | c + 1 => fun x3 x4 w => bX12_holds_13 n p1 p2 k243 (lX12_holds_13 n p1 p2 k243 c) x3 x4 w
def fX12_holds (n : Nat) (a0 : Int32) (a1 : Int32) (w : jWd) : Option (Int32 × jWd) :=
  grd ((121 : Int32) + a0) (ln 211) (letV ((wI w 211 (((121 : Int32) + a0)).toNatClampNeg)) (fun (x4_2 : Int32) => lX12_holds_13 n a0 a1 (fun (z3_47 : Int32) (w_46 : jWd) => if z3_47 = 0 then some ((1 : Int32), w_46) else if (wI w_46 216 0) = 0 then some ((0 : Int32), w_46) else some ((1 : Int32), w_46)) n (0 : Int32) x4_2 w))
-- NobodysBardModel.stands(I)I
def bX12_stands_25 (n : Nat) (p1 : Int32) (p2 : Int32) (k80 : Int32 → (Option Int32)) (w : jWd) (rec : Int32 → Int32 → Option Int32) (x3 : Int32) (x4 : Int32)  : Option Int32 :=
  grd ((97 : Int32) + p1) (ln 211) (if (wI w 211 (((97 : Int32) + p1)).toNatClampNeg) ≤ x4 then k80 x3 else if x3 = 0 then letV (x4 + (1 : Int32)) (fun (x4_3 : Int32) => rec (0 : Int32) x4_3) else grd (p2 + x4) (ln 214) (grd (((1 : Int32) + ((4 : Int32) * p1)) + x4) (ln 211) (if (wI w 214 ((p2 + x4)).toNatClampNeg) = (wI w 211 ((((1 : Int32) + ((4 : Int32) * p1)) + x4)).toNatClampNeg) then letV (x4 + (1 : Int32)) (fun (x4_9 : Int32) => rec (1 : Int32) x4_9) else letV (x4 + (1 : Int32)) (fun (x4_7 : Int32) => rec (0 : Int32) x4_7))))
def lX12_stands_25 (n : Nat) (p1 : Int32) (p2 : Int32) (k80 : Int32 → (Option Int32)) (w : jWd) : Nat → Int32 → Int32 → Option Int32
  | 0 => fun _ _ => none
  | c + 1 => fun x3 x4 => bX12_stands_25 n p1 p2 k80 w (lX12_stands_25 n p1 p2 k80 w c) x3 x4
def bX12_stands_2 (n : Nat) (p1 : Int32) (w : jWd) (rec : Int32 → Option Int32) (x2 : Int32)  : Option Int32 :=
  grd ((97 : Int32) + p1) (ln 211) (if (wI w 205 23) < (x2 + (wI w 211 (((97 : Int32) + p1)).toNatClampNeg)) then some (-1 : Int32) else lX12_stands_25 n p1 x2 (fun (z3_11 : Int32) => if z3_11 = 0 then letV (x2 + (1 : Int32)) (fun (x2_12 : Int32) => rec x2_12) else some x2) w n (1 : Int32) (0 : Int32))
def lX12_stands_2 (n : Nat) (p1 : Int32) (w : jWd) : Nat → Int32 → Option Int32
  | 0 => fun _ => none
  | c + 1 => fun x2 => bX12_stands_2 n p1 w (lX12_stands_2 n p1 w c) x2
def fX12_stands (n : Nat) (a0 : Int32) (w : jWd) : Option Int32 :=
  lX12_stands_2 n a0 w n (0 : Int32)
-- NobodysBardModel.does(II)Z
def bX12_does_86 (n : Nat) (p1 : Int32) (p3 : Int32) (p4 : Int32) (p5 : Int32) (p6 : Int32) (k192 : Int32 → jWd → (Option (Int32 × jWd))) (rec : Int32 → Int32 → jWd → Option (Int32 × jWd)) (x7 : Int32) (x8 : Int32) (w : jWd)  : Option (Int32 × jWd) :=
  if p6 ≤ x8 then k192 x7 w else letV (fun (s_16 : Int32) => grd x8 (ln 215) (letV (sI w 215 ((x8).toNatClampNeg) s_16) (fun (w_18 : jWd) => if x7 = 0 then grd x8 (ln 215) (grd x8 (ln 214) (if (wI w_18 215 (x8).toNatClampNeg) = (wI w_18 214 (x8).toNatClampNeg) then letV (x8 + (1 : Int32)) (fun (x8_25 : Int32) => rec (0 : Int32) x8_25 w_18) else letV (x8 + (1 : Int32)) (fun (x8_27 : Int32) => rec (1 : Int32) x8_27 w_18))) else letV (x8 + (1 : Int32)) (fun (x8_21 : Int32) => rec (1 : Int32) x8_21 w_18)))) (fun (j156_17 : Int32 → Option (Int32 × jWd)) => if p3 ≤ x8 then if (p3 + p5) ≤ x8 then grd ((x8 - p5) + p4) (ln 214) (j156_17 (wI w 214 (((x8 - p5) + p4)).toNatClampNeg)) else grd ((((49 : Int32) + ((4 : Int32) * p1)) + x8) - p3) (ln 211) (j156_17 (wI w 211 (((((49 : Int32) + ((4 : Int32) * p1)) + x8) - p3)).toNatClampNeg)) else grd x8 (ln 214) (j156_17 (wI w 214 (x8).toNatClampNeg)))
def lX12_does_86 (n : Nat) (p1 : Int32) (p3 : Int32) (p4 : Int32) (p5 : Int32) (p6 : Int32) (k192 : Int32 → jWd → (Option (Int32 × jWd))) : Nat → Int32 → Int32 → jWd → Option (Int32 × jWd)
  | 0 => fun _ _ _ => none
  | c + 1 => fun x7 x8 w => bX12_does_86 n p1 p3 p4 p5 p6 k192 (lX12_does_86 n p1 p3 p4 p5 p6 k192 c) x7 x8 w
def bX12_does_208 (n : Nat) (p6 : Int32) (rec : Int32 → jWd → Option (Int32 × jWd)) (x8 : Int32) (w : jWd)  : Option (Int32 × jWd) :=
  if p6 ≤ x8 then some ((1 : Int32), w) else grd x8 (ln 215) (grd x8 (ln 214) (letV (sI w 214 ((x8).toNatClampNeg) (wI w 215 (x8).toNatClampNeg)) (fun (w_37 : jWd) => letV (x8 + (1 : Int32)) (fun (x8_40 : Int32) => rec x8_40 w_37))))
def lX12_does_208 (n : Nat) (p6 : Int32) : Nat → Int32 → jWd → Option (Int32 × jWd)
  | 0 => fun _ _ => none
  | c + 1 => fun x8 w => bX12_does_208 n p6 (lX12_does_208 n p6 c) x8 w
def fX12_does (n : Nat) (a0 : Int32) (a1 : Int32) (w : jWd) : Option (Int32 × jWd) :=
  bO2 (fX12_holds n a0 a1 w) (fun (r_3 : Int32) (w_2 : jWd) => letV (fun (s_4 : Int32) => grd ((97 : Int32) + a0) (ln 211) (letV ((wI w_2 211 (((97 : Int32) + a0)).toNatClampNeg)) (fun (x4_7 : Int32) => grd ((109 : Int32) + a0) (ln 211) (letV ((wI w_2 211 (((109 : Int32) + a0)).toNatClampNeg)) (fun (x5_10 : Int32) => letV ((((wI w_2 205 23) - x4_7) + x5_10)) (fun (x6_12 : Int32) => if s_4 = (-1 : Int32) then some ((0 : Int32), w_2) else if x6_12 ≤ (8 : Int32) then letV (fun (s_14 : Int32) => lX12_does_86 n a0 s_4 x4_7 x5_10 x6_12 (fun (z7_33 : Int32) (w_32 : jWd) => if z7_33 = 0 then some ((0 : Int32), w_32) else letV (sI w_32 205 23 x6_12) (fun (w_34 : jWd) => lX12_does_208 n x6_12 n (0 : Int32) w_34)) n s_14 (0 : Int32) w_2) (fun (j81_15 : Int32 → Option (Int32 × jWd)) => if x6_12 = (wI w_2 205 23) then j81_15 (0 : Int32) else j81_15 (1 : Int32)) else some ((0 : Int32), w_2))))))) (fun (j18_5 : Int32 → Option (Int32 × jWd)) => if r_3 = 0 then j18_5 (-1 : Int32) else bO (fX12_stands n a0 w_2) (fun (r_43 : Int32) => j18_5 r_43)))
-- NobodysBardModel.smooth(JI)J
def bX12_smooth_11 (n : Nat) (p1 : Int64) (p3 : Int32) (k39 : jWd → (Option (Int64 × jWd))) (rec : Int32 → jWd → Option (Int64 × jWd)) (x4 : Int32) (w : jWd)  : Option (Int64 × jWd) :=
  if (wI w 205 23) ≤ x4 then k39 w else grd x4 (ln 214) (letV (sI w 214 ((x4).toNatClampNeg) (fX12_wordAt p1 x4)) (fun (w_5 : jWd) => letV (x4 + (1 : Int32)) (fun (x4_8 : Int32) => rec x4_8 w_5)))
def lX12_smooth_11 (n : Nat) (p1 : Int64) (p3 : Int32) (k39 : jWd → (Option (Int64 × jWd))) : Nat → Int32 → jWd → Option (Int64 × jWd)
  | 0 => fun _ _ => none
  | c + 1 => fun x4 w => bX12_smooth_11 n p1 p3 k39 (lX12_smooth_11 n p1 p3 k39 c) x4 w
def bX12_smooth_63 (n : Nat) (p3 : Int32) (p5 : Int32) (k94 : Int32 → jWd → (Option (Int64 × jWd))) (rec : Int32 → Int32 → jWd → Option (Int64 × jWd)) (x4 : Int32) (x6 : Int32) (w : jWd)  : Option (Int64 × jWd) :=
  if (wI w 211 0) ≤ x6 then k94 x4 w else if x4 = 0 then bO2 (fX12_does n x6 p3 w) (fun (r_13 : Int32) (w_12 : jWd) => letV (x6 + (1 : Int32)) (fun (x6_14 : Int32) => rec r_13 x6_14 w_12)) else k94 x4 w
def lX12_smooth_63 (n : Nat) (p3 : Int32) (p5 : Int32) (k94 : Int32 → jWd → (Option (Int64 × jWd))) : Nat → Int32 → Int32 → jWd → Option (Int64 × jWd)
  | 0 => fun _ _ _ => none
  | c + 1 => fun x4 x6 w => bX12_smooth_63 n p3 p5 k94 (lX12_smooth_63 n p3 p5 k94 c) x4 x6 w
def bX12_smooth_45 (n : Nat) (p3 : Int32) (k100 : jWd → (Option (Int64 × jWd))) (rec : Int32 → Int32 → jWd → Option (Int64 × jWd)) (x4 : Int32) (x5 : Int32) (w : jWd)  : Option (Int64 × jWd) :=
  if (12 : Int32) ≤ x5 then k100 w else if x4 = 0 then k100 w else lX12_smooth_63 n p3 x5 (fun (z4_17 : Int32) (w_16 : jWd) => letV (x5 + (1 : Int32)) (fun (x5_18 : Int32) => rec z4_17 x5_18 w_16)) n (0 : Int32) (0 : Int32) w
def lX12_smooth_45 (n : Nat) (p3 : Int32) (k100 : jWd → (Option (Int64 × jWd))) : Nat → Int32 → Int32 → jWd → Option (Int64 × jWd)
  | 0 => fun _ _ _ => none
  | c + 1 => fun x4 x5 w => bX12_smooth_45 n p3 k100 (lX12_smooth_45 n p3 k100 c) x4 x5 w
def bX12_smooth_106 (n : Nat) (w : jWd) (rec : Int64 → Int32 → Option (Int64 × jWd)) (x5 : Int64) (x7 : Int32)  : Option (Int64 × jWd) :=
  if (wI w 205 23) ≤ x7 then some (x5, w) else grd x7 (ln 214) (letV ((x5 ||| (l_shl (((wI w 214 (x7).toNatClampNeg)).toInt64) ((56 : Int32) - ((8 : Int32) * x7))))) (fun (x5_22 : Int64) => letV (x7 + (1 : Int32)) (fun (x7_24 : Int32) => rec x5_22 x7_24)))
def lX12_smooth_106 (n : Nat) (w : jWd) : Nat → Int64 → Int32 → Option (Int64 × jWd)
  | 0 => fun _ _ => none
  | c + 1 => fun x5 x7 => bX12_smooth_106 n w (lX12_smooth_106 n w c) x5 x7
def fX12_smooth (n : Nat) (a0 : Int64) (a1 : Int32) (w : jWd) : Option (Int64 × jWd) :=
  bO (fX12_lengthOf n a0) (fun (r_2 : Int32) => letV (sI w 205 23 r_2) (fun (w_3 : jWd) => lX12_smooth_11 n a0 a1 (fun (w_10 : jWd) => lX12_smooth_45 n a1 (fun (w_20 : jWd) => lX12_smooth_106 n w_20 n (0 : Int64) (0 : Int32)) n (1 : Int32) (0 : Int32) w_10) n (0 : Int32) w_3))
-- NobodysBardModel.smooths()V
def bX12_smooths_14 (n : Nat) (p1 : Int32) (k75 : jWd → (Option jWd)) (rec : Int32 → jWd → Option jWd) (x2 : Int32) (w : jWd)  : Option jWd :=
  grd ((121 : Int32) + p1) (ln 207) (if (wI w 207 (((121 : Int32) + p1)).toNatClampNeg) ≤ x2 then k75 w else bO (fX12_isEarly p1 w) (fun (r_3 : Int32) => if r_3 = 0 then k75 w else grd (((12 : Int32) * p1) + x2) (ln 208) (grd ((1 : Int32) + p1) (ln 207) (bO2 (fX12_smooth n (wJ w 208 ((((12 : Int32) * p1) + x2)).toNatClampNeg) (wI w 207 (((1 : Int32) + p1)).toNatClampNeg) w) (fun (r_8 : Int64) (w_7 : jWd) => grd (((12 : Int32) * p1) + x2) (ln 218) (letV (sJ w_7 218 (((((12 : Int32) * p1) + x2)).toNatClampNeg) r_8) (fun (w_9 : jWd) => letV (x2 + (1 : Int32)) (fun (x2_12 : Int32) => rec x2_12 w_9))))))))
def lX12_smooths_14 (n : Nat) (p1 : Int32) (k75 : jWd → (Option jWd)) : Nat → Int32 → jWd → Option jWd
  | 0 => fun _ _ => none
  | c + 1 => fun x2 w => bX12_smooths_14 n p1 k75 (lX12_smooths_14 n p1 k75 c) x2 w
def bX12_smooths_2 (n : Nat) (rec : Int32 → jWd → Option jWd) (x1 : Int32) (w : jWd)  : Option jWd :=
  if (wI w 207 0) ≤ x1 then some w else lX12_smooths_14 n x1 (fun (w_14 : jWd) => letV (x1 + (1 : Int32)) (fun (x1_15 : Int32) => rec x1_15 w_14)) n (0 : Int32) w
def lX12_smooths_2 (n : Nat) : Nat → Int32 → jWd → Option jWd
  | 0 => fun _ _ => none
  | c + 1 => fun x1 w => bX12_smooths_2 n (lX12_smooths_2 n c) x1 w
def fX12_smooths (n : Nat) (w : jWd) : Option jWd :=
  lX12_smooths_2 n n (0 : Int32) w
-- NobodysBardModel.likeOf(JJ)I
def bX12_likeOf_37 (n : Nat) (p1 : Int64) (p3 : Int64) (p5 : Int32) (p6 : Int32) (p7 : Int32) (k214 : jWd → (Option (Int32 × jWd))) (rec : Int32 → jWd → Option (Int32 × jWd)) (x8 : Int32) (w : jWd)  : Option (Int32 × jWd) :=
  if p6 < x8 then k214 w else letV (fun (y9_5 : Int32) => grd (((9 : Int32) * p7) + x8) (ln 210) (letV (sI w 210 (((((9 : Int32) * p7) + x8)).toNatClampNeg) y9_5) (fun (w_7 : jWd) => letV (x8 + (1 : Int32)) (fun (x8_10 : Int32) => rec x8_10 w_7)))) (fun (j193_6 : Int32 → Option (Int32 × jWd)) => if p7 ≤ 0 then j193_6 (0 : Int32) else if x8 ≤ 0 then j193_6 (0 : Int32) else grd ((((9 : Int32) * p7) - (9 : Int32)) + x8) (ln 210) (grd ((((9 : Int32) * p7) + x8) - (1 : Int32)) (ln 210) (letV (fun (s_14 : Int32) => if (fX12_wordAt p1 (p7 - (1 : Int32))) = (fX12_wordAt p3 (x8 - (1 : Int32))) then grd (((((9 : Int32) * p7) - (9 : Int32)) + x8) - (1 : Int32)) (ln 210) (if ((wI w 210 ((((((9 : Int32) * p7) - (9 : Int32)) + x8) - (1 : Int32))).toNatClampNeg) + (1 : Int32)) ≤ s_14 then j193_6 s_14 else grd (((((9 : Int32) * p7) - (9 : Int32)) + x8) - (1 : Int32)) (ln 210) (letV (((wI w 210 ((((((9 : Int32) * p7) - (9 : Int32)) + x8) - (1 : Int32))).toNatClampNeg) + (1 : Int32))) (fun (x9_18 : Int32) => j193_6 x9_18))) else j193_6 s_14) (fun (j125_15 : Int32 → Option (Int32 × jWd)) => if (wI w 210 (((((9 : Int32) * p7) - (9 : Int32)) + x8)).toNatClampNeg) ≤ (wI w 210 (((((9 : Int32) * p7) + x8) - (1 : Int32))).toNatClampNeg) then grd ((((9 : Int32) * p7) + x8) - (1 : Int32)) (ln 210) (j125_15 (wI w 210 (((((9 : Int32) * p7) + x8) - (1 : Int32))).toNatClampNeg)) else grd ((((9 : Int32) * p7) - (9 : Int32)) + x8) (ln 210) (j125_15 (wI w 210 (((((9 : Int32) * p7) - (9 : Int32)) + x8)).toNatClampNeg))))))
def lX12_likeOf_37 (n : Nat) (p1 : Int64) (p3 : Int64) (p5 : Int32) (p6 : Int32) (p7 : Int32) (k214 : jWd → (Option (Int32 × jWd))) : Nat → Int32 → jWd → Option (Int32 × jWd)
  | 0 => fun _ _ => none
  | c + 1 => fun x8 w => bX12_likeOf_37 n p1 p3 p5 p6 p7 k214 (lX12_likeOf_37 n p1 p3 p5 p6 p7 k214 c) x8 w
def bX12_likeOf_27 (n : Nat) (p1 : Int64) (p3 : Int64) (p5 : Int32) (p6 : Int32) (k220 : jWd → (Option (Int32 × jWd))) (rec : Int32 → jWd → Option (Int32 × jWd)) (x7 : Int32) (w : jWd)  : Option (Int32 × jWd) :=
  if p5 < x7 then k220 w else lX12_likeOf_37 n p1 p3 p5 p6 x7 (fun (w_22 : jWd) => letV (x7 + (1 : Int32)) (fun (x7_23 : Int32) => rec x7_23 w_22)) n (0 : Int32) w
def lX12_likeOf_27 (n : Nat) (p1 : Int64) (p3 : Int64) (p5 : Int32) (p6 : Int32) (k220 : jWd → (Option (Int32 × jWd))) : Nat → Int32 → jWd → Option (Int32 × jWd)
  | 0 => fun _ _ => none
  | c + 1 => fun x7 w => bX12_likeOf_27 n p1 p3 p5 p6 k220 (lX12_likeOf_27 n p1 p3 p5 p6 k220 c) x7 w
def fX12_likeOf (n : Nat) (a0 : Int64) (a1 : Int64) (w : jWd) : Option (Int32 × jWd) :=
  bO (fX12_lengthOf n a0) (fun (r_2 : Int32) => bO (fX12_lengthOf n a1) (fun (r_4 : Int32) => if r_2 = 0 then some ((0 : Int32), w) else if r_4 = 0 then some ((0 : Int32), w) else lX12_likeOf_27 n a0 a1 r_2 r_4 (fun (w_25 : jWd) => grd (((9 : Int32) * r_2) + r_4) (ln 210) (letV (fun (s_27 : Int32) => grzi s_27 (some ((((100 : Int32) * (wI w_25 210 ((((9 : Int32) * r_2) + r_4)).toNatClampNeg)) / s_27), w_25))) (fun (j250_28 : Int32 → Option (Int32 × jWd)) => if r_2 ≤ r_4 then j250_28 r_4 else j250_28 r_2))) n (0 : Int32) w))
-- NobodysBardModel.looks(JJI)V
def fX12_looks (n : Nat) (a0 : Int64) (a1 : Int64) (a2 : Int32) (w : jWd) : Option jWd :=
  bO2 (fX12_likeOf n a0 a1 w) (fun (r_3 : Int32) (w_2 : jWd) => if (wI w_2 205 28) < r_3 then letV (sI w_2 205 28 r_3) (fun (w_4 : jWd) => letV (sI w_4 205 29 a2) (fun (w_6 : jWd) => some w_6)) else some w_2)
-- NobodysBardModel.best(II)V
def bX12_best_181 (n : Nat) (p1 : Int32) (p2 : Int32) (p3 : Int64) (p5 : Int32) (k249 : jWd → (Option jWd)) (rec : Int32 → jWd → Option jWd) (x7 : Int32) (w : jWd)  : Option jWd :=
  grd ((121 : Int32) + p5) (ln 207) (if (wI w 207 (((121 : Int32) + p5)).toNatClampNeg) ≤ x7 then k249 w else letV (fun (s_19 : Int64) => bO (fX12_looks n p3 s_19 (((100 : Int32) * p5) + x7) w) (fun (w_22 : jWd) => letV (x7 + (1 : Int32)) (fun (x7_23 : Int32) => rec x7_23 w_22))) (fun (j232_20 : Int64 → Option jWd) => if p2 = (2 : Int32) then grd (((12 : Int32) * p5) + x7) (ln 218) (j232_20 (wJ w 218 ((((12 : Int32) * p5) + x7)).toNatClampNeg)) else grd (((12 : Int32) * p5) + x7) (ln 208) (j232_20 (wJ w 208 ((((12 : Int32) * p5) + x7)).toNatClampNeg))))
def lX12_best_181 (n : Nat) (p1 : Int32) (p2 : Int32) (p3 : Int64) (p5 : Int32) (k249 : jWd → (Option jWd)) : Nat → Int32 → jWd → Option jWd
  | 0 => fun _ _ => none
  | c + 1 => fun x7 w => bX12_best_181 n p1 p2 p3 p5 k249 (lX12_best_181 n p1 p2 p3 p5 k249 c) x7 w
def bX12_best_107 (n : Nat) (p1 : Int32) (p2 : Int32) (p3 : Int64) (rec : Int32 → jWd → Option jWd) (x5 : Int32) (w : jWd)  : Option jWd :=
  if (wI w 207 0) ≤ x5 then some w else grd ((1 : Int32) + x5) (ln 207) (grd ((163 : Int32) + p1) (ln 207) (letV (fun (s_10 : Int32) => bO (fX12_isEarly x5 w) (fun (r_13 : Int32) => if r_13 = 0 then letV (x5 + (1 : Int32)) (fun (x5_14 : Int32) => rec x5_14 w) else letV (letV (lX12_best_181 n p1 p2 p3 x5 (fun (w_27 : jWd) => letV (x5 + (1 : Int32)) (fun (x5_28 : Int32) => rec x5_28 w_27)) n (0 : Int32) w) (fun (j178_17 : Option jWd) => if p2 = (1 : Int32) then if s_10 = 0 then j178_17 else letV (x5 + (1 : Int32)) (fun (x5_30 : Int32) => rec x5_30 w) else j178_17)) (fun (j165_16 : Option jWd) => if p2 = 0 then if s_10 = 0 then letV (x5 + (1 : Int32)) (fun (x5_32 : Int32) => rec x5_32 w) else j165_16 else j165_16))) (fun (j145_11 : Int32 → Option jWd) => if (wI w 207 (((1 : Int32) + x5)).toNatClampNeg) = (wI w 207 (((163 : Int32) + p1)).toNatClampNeg) then j145_11 (1 : Int32) else j145_11 (0 : Int32))))
def lX12_best_107 (n : Nat) (p1 : Int32) (p2 : Int32) (p3 : Int64) : Nat → Int32 → jWd → Option jWd
  | 0 => fun _ _ => none
  | c + 1 => fun x5 w => bX12_best_107 n p1 p2 p3 (lX12_best_107 n p1 p2 p3 c) x5 w
def bX12_best_45 (n : Nat) (p3 : Int64) (p5 : Int32) (k97 : jWd → (Option jWd)) (rec : Int32 → jWd → Option jWd) (x6 : Int32) (w : jWd)  : Option jWd :=
  grd ((236 : Int32) + p5) (ln 207) (if (wI w 207 (((236 : Int32) + p5)).toNatClampNeg) ≤ x6 then k97 w else grd (((540 : Int32) + ((12 : Int32) * p5)) + x6) (ln 208) (bO (fX12_looks n p3 (wJ w 208 ((((540 : Int32) + ((12 : Int32) * p5)) + x6)).toNatClampNeg) (((100 : Int32) * p5) + x6) w) (fun (w_37 : jWd) => letV (x6 + (1 : Int32)) (fun (x6_38 : Int32) => rec x6_38 w_37))))
def lX12_best_45 (n : Nat) (p3 : Int64) (p5 : Int32) (k97 : jWd → (Option jWd)) : Nat → Int32 → jWd → Option jWd
  | 0 => fun _ _ => none
  | c + 1 => fun x6 w => bX12_best_45 n p3 p5 k97 (lX12_best_45 n p3 p5 k97 c) x6 w
def bX12_best_29 (n : Nat) (p3 : Int64) (rec : Int32 → jWd → Option jWd) (x5 : Int32) (w : jWd)  : Option jWd :=
  if (wI w 207 223) ≤ x5 then some w else lX12_best_45 n p3 x5 (fun (w_40 : jWd) => letV (x5 + (1 : Int32)) (fun (x5_41 : Int32) => rec x5_41 w_40)) n (0 : Int32) w
def lX12_best_29 (n : Nat) (p3 : Int64) : Nat → Int32 → jWd → Option jWd
  | 0 => fun _ _ => none
  | c + 1 => fun x5 w => bX12_best_29 n p3 (lX12_best_29 n p3 c) x5 w
def fX12_best (n : Nat) (a0 : Int32) (a1 : Int32) (w : jWd) : Option jWd :=
  letV (sI w 205 28 (-1 : Int32)) (fun (w_1 : jWd) => letV (sI w_1 205 29 (-1 : Int32)) (fun (w_3 : jWd) => grd ((480 : Int32) + a0) (ln 208) (letV ((wJ w_3 208 (((480 : Int32) + a0)).toNatClampNeg)) (fun (x3_6 : Int64) => if a1 = (3 : Int32) then lX12_best_29 n x3_6 n (0 : Int32) w_3 else lX12_best_107 n a0 a1 x3_6 n (0 : Int32) w_3))))
-- NobodysBardModel.whoseIs(I)I
def bX12_whoseIs_4 (n : Nat) (p1 : Int32) (k71 : Int32 → jWd → (Option (Int32 × jWd))) (rec : Int32 → Int32 → jWd → Option (Int32 × jWd)) (x2 : Int32) (x3 : Int32) (w : jWd)  : Option (Int32 × jWd) :=
  if (4 : Int32) ≤ x3 then k71 x2 w else bO (fX12_best n p1 x3 w) (fun (w_2 : jWd) => letV (sI w_2 205 30 (wI w_2 205 29)) (fun (w_3 : jWd) => if (wI w_3 205 28) < (wI w_3 207 248) then if x2 = 0 then if (wI w_3 205 28) < (wI w_3 207 249) then letV (x3 + (1 : Int32)) (fun (x3_7 : Int32) => rec (0 : Int32) x3_7 w_3) else letV (x3 + (1 : Int32)) (fun (x3_9 : Int32) => rec (1 : Int32) x3_9 w_3) else letV (x3 + (1 : Int32)) (fun (x3_5 : Int32) => rec (1 : Int32) x3_5 w_3) else some (x3, w_3)))
def lX12_whoseIs_4 (n : Nat) (p1 : Int32) (k71 : Int32 → jWd → (Option (Int32 × jWd))) : Nat → Int32 → Int32 → jWd → Option (Int32 × jWd)
  | 0 => fun _ _ _ => none
  | c + 1 => fun x2 x3 w => bX12_whoseIs_4 n p1 k71 (lX12_whoseIs_4 n p1 k71 c) x2 x3 w
def fX12_whoseIs (n : Nat) (a0 : Int32) (w : jWd) : Option (Int32 × jWd) :=
  lX12_whoseIs_4 n a0 (fun (z2_12 : Int32) (w_11 : jWd) => letV (sI w_11 205 30 (-1 : Int32)) (fun (w_13 : jWd) => if z2_12 = 0 then some ((5 : Int32), w_13) else some ((4 : Int32), w_13))) n (0 : Int32) (0 : Int32) w
-- NobodysBardModel.addsBy(III)I
def bX12_addsBy_42 (n : Nat) (p1 : Int32) (p2 : Int32) (p3 : Int32) (p4 : Int32) (p5 : Int32) (k154 : Int32 → jWd → (Option (Int32 × jWd))) (rec : Int32 → Int32 → jWd → Option (Int32 × jWd)) (x6 : Int32) (x7 : Int32) (w : jWd)  : Option (Int32 × jWd) :=
  grd ((236 : Int32) + p1) (ln 207) (if (wI w 207 (((236 : Int32) + p1)).toNatClampNeg) ≤ x7 then k154 x6 w else if x6 = 0 then grd (((540 : Int32) + ((12 : Int32) * p1)) + x7) (ln 208) (letV ((wJ w 208 ((((540 : Int32) + ((12 : Int32) * p1)) + x7)).toNatClampNeg)) (fun (x8_8 : Int64) => grd ((480 : Int32) + p5) (ln 208) (bO2 (fX12_likeOf n (wJ w 208 (((480 : Int32) + p5)).toNatClampNeg) x8_8 w) (fun (r_13 : Int32) (w_12 : jWd) => if (wI w_12 207 248) ≤ r_13 then letV (x7 + (1 : Int32)) (fun (x7_14 : Int32) => rec (1 : Int32) x7_14 w_12) else grd ((480 : Int32) + p5) (ln 208) (bO2 (fX12_smooth n x8_8 p2 w_12) (fun (r_19 : Int64) (w_18 : jWd) => bO2 (fX12_likeOf n (wJ w_12 208 (((480 : Int32) + p5)).toNatClampNeg) r_19 w_18) (fun (r_22 : Int32) (w_21 : jWd) => if r_22 < (wI w_21 207 248) then letV (x7 + (1 : Int32)) (fun (x7_23 : Int32) => rec (0 : Int32) x7_23 w_21) else letV (x7 + (1 : Int32)) (fun (x7_25 : Int32) => rec (1 : Int32) x7_25 w_21)))))))) else k154 x6 w)
def lX12_addsBy_42 (n : Nat) (p1 : Int32) (p2 : Int32) (p3 : Int32) (p4 : Int32) (p5 : Int32) (k154 : Int32 → jWd → (Option (Int32 × jWd))) : Nat → Int32 → Int32 → jWd → Option (Int32 × jWd)
  | 0 => fun _ _ _ => none
  | c + 1 => fun x6 x7 w => bX12_addsBy_42 n p1 p2 p3 p4 p5 k154 (lX12_addsBy_42 n p1 p2 p3 p4 p5 k154 c) x6 x7 w
def bX12_addsBy_10 (n : Nat) (p1 : Int32) (p2 : Int32) (p3 : Int32) (k180 : Int32 → jWd → (Option (Int32 × jWd))) (rec : Int32 → Int32 → jWd → Option (Int32 × jWd)) (x4 : Int32) (x5 : Int32) (w : jWd)  : Option (Int32 × jWd) :=
  if (wI w 207 162) ≤ x5 then k180 x4 w else bO2 (fX12_whoseIs n x5 w) (fun (r_5 : Int32) (w_4 : jWd) => if (3 : Int32) ≤ r_5 then lX12_addsBy_42 n p1 p2 p3 x4 x5 (fun (z6_28 : Int32) (w_27 : jWd) => if z6_28 = 0 then letV (x5 + (1 : Int32)) (fun (x5_33 : Int32) => rec x4 x5_33 w_27) else if x4 = p3 then some (x5, w_27) else letV (x4 + (1 : Int32)) (fun (x4_29 : Int32) => letV (x5 + (1 : Int32)) (fun (x5_31 : Int32) => rec x4_29 x5_31 w_27))) n (0 : Int32) (0 : Int32) w_4 else letV (x5 + (1 : Int32)) (fun (x5_35 : Int32) => rec x4 x5_35 w_4))
def lX12_addsBy_10 (n : Nat) (p1 : Int32) (p2 : Int32) (p3 : Int32) (k180 : Int32 → jWd → (Option (Int32 × jWd))) : Nat → Int32 → Int32 → jWd → Option (Int32 × jWd)
  | 0 => fun _ _ _ => none
  | c + 1 => fun x4 x5 w => bX12_addsBy_10 n p1 p2 p3 k180 (lX12_addsBy_10 n p1 p2 p3 k180 c) x4 x5 w
def fX12_addsBy (n : Nat) (a0 : Int32) (a1 : Int32) (a2 : Int32) (w : jWd) : Option (Int32 × jWd) :=
  bO (fX12_smooths n w) (fun (w_2 : jWd) => lX12_addsBy_10 n a0 a1 a2 (fun (z4_38 : Int32) (w_37 : jWd) => if a2 = (-1 : Int32) then some (z4_38, w_37) else some ((-1 : Int32), w_37)) n (0 : Int32) (0 : Int32) w_2)
-- NobodysBardModel.added(III)I
def fX12_added (n : Nat) (a0 : Int32) (a1 : Int32) (a2 : Int32) (w : jWd) : Option (Int32 × jWd) :=
  letV (sI w 205 0 (0 : Int32)) (fun (w_1 : jWd) => if (fX12_within ((a0).toInt64) (0 : Int64) ((((wI w_1 207 223) - (1 : Int32))).toInt64)) = 0 then bO2 (fX12_no (-2 : Int32) w_1) (fun (r_11 : Int32) (w_10 : jWd) => some (r_11, w_10)) else if (fX12_within ((a1).toInt64) (0 : Int64) (9 : Int64)) = 0 then bO2 (fX12_no (-3 : Int32) w_1) (fun (r_8 : Int32) (w_7 : jWd) => some (r_8, w_7)) else if 0 ≤ a2 then bO2 (fX12_addsBy n a0 a1 a2 w_1) (fun (r_5 : Int32) (w_4 : jWd) => some (r_5, w_4)) else some ((-1 : Int32), w_1))
-- NobodysBardModel.adds(II)I
def fX12_adds (n : Nat) (a0 : Int32) (a1 : Int32) (w : jWd) : Option (Int32 × jWd) :=
  letV (sI w 205 0 (0 : Int32)) (fun (w_1 : jWd) => if (fX12_within ((a0).toInt64) (0 : Int64) ((((wI w_1 207 223) - (1 : Int32))).toInt64)) = 0 then bO2 (fX12_no (-2 : Int32) w_1) (fun (r_11 : Int32) (w_10 : jWd) => some (r_11, w_10)) else if (fX12_within ((a1).toInt64) (0 : Int64) (9 : Int64)) = 0 then bO2 (fX12_no (-3 : Int32) w_1) (fun (r_8 : Int32) (w_7 : jWd) => some (r_8, w_7)) else bO2 (fX12_addsBy n a0 a1 (-1 : Int32) w_1) (fun (r_5 : Int32) (w_4 : jWd) => some (r_5, w_4)))
-- NobodysBardModel.isAnswer(JJJJJ)Z
def fX12_isAnswer (a0 : Int64) (a1 : Int64) (a2 : Int64) (a3 : Int64) (a4 : Int64) : Int32 :=
  if (fX12_within a0 (0 : Int64) (15 : Int64)) = 0 then (0 : Int32) else if (fX12_within a1 (0 : Int64) (9999 : Int64)) = 0 then (0 : Int32) else if (fX12_within a2 (0 : Int64) (9 : Int64)) = 0 then (0 : Int32) else if (fX12_within a3 (0 : Int64) (2 : Int64)) = 0 then (0 : Int32) else if (fX12_within a4 (0 : Int64) (2 : Int64)) = 0 then (0 : Int32) else (1 : Int32)
-- NobodysBardModel.plain(J)J
def bX12_plain_11 (n : Nat) (p0 : Int64) (p4 : Int32) (rec : Int64 → Int32 → Option Int64) (x2 : Int64) (x5 : Int32)  : Option Int64 :=
  if p4 ≤ x5 then some x2 else letV ((x2 ||| (l_shl (((fX12_wordAt p0 x5)).toInt64) ((56 : Int32) - ((8 : Int32) * x5))))) (fun (x2_3 : Int64) => letV (x5 + (1 : Int32)) (fun (x5_5 : Int32) => rec x2_3 x5_5))
def lX12_plain_11 (n : Nat) (p0 : Int64) (p4 : Int32) : Nat → Int64 → Int32 → Option Int64
  | 0 => fun _ _ => none
  | c + 1 => fun x2 x5 => bX12_plain_11 n p0 p4 (lX12_plain_11 n p0 p4 c) x2 x5
def fX12_plain (n : Nat) (a0 : Int64) : Option Int64 :=
  bO (fX12_lengthOf n a0) (fun (r_2 : Int32) => lX12_plain_11 n a0 r_2 n (0 : Int64) (0 : Int32))
-- NobodysBardModel.answers(IIIIIJ)V
def fX12_answers (n : Nat) (a0 : Int32) (a1 : Int32) (a2 : Int32) (a3 : Int32) (a4 : Int32) (a5 : Int64) (w : jWd) : Option jWd :=
  letV ((wI w 207 547)) (fun (x8_1 : Int32) => grd ((548 : Int32) + x8_1) (ln 207) (letV (sI w 207 ((((548 : Int32) + x8_1)).toNatClampNeg) a0) (fun (w_3 : jWd) => grd ((608 : Int32) + x8_1) (ln 207) (letV (sI w_3 207 ((((608 : Int32) + x8_1)).toNatClampNeg) a1) (fun (w_6 : jWd) => grd ((668 : Int32) + x8_1) (ln 207) (letV (sI w_6 207 ((((668 : Int32) + x8_1)).toNatClampNeg) a2) (fun (w_9 : jWd) => grd ((728 : Int32) + x8_1) (ln 207) (letV (sI w_9 207 ((((728 : Int32) + x8_1)).toNatClampNeg) a3) (fun (w_12 : jWd) => grd ((788 : Int32) + x8_1) (ln 207) (letV (sI w_12 207 ((((788 : Int32) + x8_1)).toNatClampNeg) a4) (fun (w_15 : jWd) => bO (fX12_plain n a5) (fun (r_19 : Int64) => grd ((724 : Int32) + x8_1) (ln 208) (letV (sJ w_15 208 ((((724 : Int32) + x8_1)).toNatClampNeg) r_19) (fun (w_20 : jWd) => letV (sI w_20 207 547 ((wI w_20 207 547) + (1 : Int32))) (fun (w_23 : jWd) => some w_23)))))))))))))))
-- NobodysBardModel.answer(IIIIIJ)I
def fX12_answer (n : Nat) (a0 : Int32) (a1 : Int32) (a2 : Int32) (a3 : Int32) (a4 : Int32) (a5 : Int64) (w : jWd) : Option (Int32 × jWd) :=
  letV (sI w 205 0 (0 : Int32)) (fun (w_1 : jWd) => letV (bO2 (fX12_no (-3 : Int32) w_1) (fun (r_6 : Int32) (w_5 : jWd) => some (r_6, w_5))) (fun (j38_3 : Option (Int32 × jWd)) => if (fX12_isAnswer ((a0).toInt64) ((a1).toInt64) ((a2).toInt64) ((a3).toInt64) ((a4).toInt64)) = 0 then j38_3 else letV (if (wI w_1 207 547) = (60 : Int32) then bO2 (fX12_no (-4 : Int32) w_1) (fun (r_12 : Int32) (w_11 : jWd) => some (r_12, w_11)) else bO (fX12_answers n a0 a1 a2 a3 a4 a5 w_1) (fun (w_9 : jWd) => some (((wI w_9 207 547) - (1 : Int32)), w_9))) (fun (j45_7 : Option (Int32 × jWd)) => if (lg_cmp a5 (0 : Int64)) = 0 then j45_7 else bO (fX12_lengthOf n a5) (fun (r_14 : Int32) => if r_14 = 0 then j38_3 else j45_7))))
-- NobodysBardModel.weightOf(I)I
def bX12_weightOf_4 (n : Nat) (p1 : Int32) (w : jWd) (rec : Int32 → Int32 → Option Int32) (x2 : Int32) (x3 : Int32)  : Option Int32 :=
  if (wI w 207 987) ≤ x3 then some x2 else if ((i_shr p1 x3) &&& (1 : Int32)) = (1 : Int32) then grd ((988 : Int32) + x3) (ln 207) (letV ((x2 + (wI w 207 (((988 : Int32) + x3)).toNatClampNeg))) (fun (x2_6 : Int32) => letV (x3 + (1 : Int32)) (fun (x3_8 : Int32) => rec x2_6 x3_8))) else letV ((x2 + (0 : Int32))) (fun (x2_1 : Int32) => letV (x3 + (1 : Int32)) (fun (x3_3 : Int32) => rec x2_1 x3_3))
def lX12_weightOf_4 (n : Nat) (p1 : Int32) (w : jWd) : Nat → Int32 → Int32 → Option Int32
  | 0 => fun _ _ => none
  | c + 1 => fun x2 x3 => bX12_weightOf_4 n p1 w (lX12_weightOf_4 n p1 w c) x2 x3
def fX12_weightOf (n : Nat) (a0 : Int32) (w : jWd) : Option Int32 :=
  lX12_weightOf_4 n a0 w n (0 : Int32) (0 : Int32)
-- NobodysBardModel.saying(III)I
def bX12_saying_6 (n : Nat) (p1 : Int32) (p2 : Int32) (p3 : Int32) (w : jWd) (rec : Int32 → Int32 → Option Int32) (x4 : Int32) (x5 : Int32)  : Option Int32 :=
  if (wI w 207 987) ≤ x5 then some x4 else if ((i_shr p1 x5) &&& (1 : Int32)) = (1 : Int32) then grd (((996 : Int32) + ((16 : Int32) * x5)) + p2) (ln 207) (if (wI w 207 ((((996 : Int32) + ((16 : Int32) * x5)) + p2)).toNatClampNeg) = p3 then letV ((x4 ||| (i_shl (1 : Int32) x5))) (fun (x4_6 : Int32) => letV (x5 + (1 : Int32)) (fun (x5_8 : Int32) => rec x4_6 x5_8)) else letV (x5 + (1 : Int32)) (fun (x5_4 : Int32) => rec x4 x5_4)) else letV (x5 + (1 : Int32)) (fun (x5_1 : Int32) => rec x4 x5_1)
def lX12_saying_6 (n : Nat) (p1 : Int32) (p2 : Int32) (p3 : Int32) (w : jWd) : Nat → Int32 → Int32 → Option Int32
  | 0 => fun _ _ => none
  | c + 1 => fun x4 x5 => bX12_saying_6 n p1 p2 p3 w (lX12_saying_6 n p1 p2 p3 w c) x4 x5
def fX12_saying (n : Nat) (a0 : Int32) (a1 : Int32) (a2 : Int32) (w : jWd) : Option Int32 :=
  lX12_saying_6 n a0 a1 a2 w n (0 : Int32) (0 : Int32)
-- NobodysBardModel.costBy(II)I
def bX12_costBy_9 (n : Nat) (p1 : Int32) (p2 : Int32) (w : jWd) (rec : Int32 → Int32 → Option Int32) (x3 : Int32) (x4 : Int32)  : Option Int32 :=
  if (4 : Int32) ≤ x4 then some x3 else bO (fX12_saying n p1 p2 x4 w) (fun (r_4 : Int32) => if r_4 = p1 then some (-1 : Int32) else grd r_4 (ln 220) (letV ((x3 + (wI w 220 (r_4).toNatClampNeg))) (fun (x3_6 : Int32) => letV (x4 + (1 : Int32)) (fun (x4_8 : Int32) => rec x3_6 x4_8))))
def lX12_costBy_9 (n : Nat) (p1 : Int32) (p2 : Int32) (w : jWd) : Nat → Int32 → Int32 → Option Int32
  | 0 => fun _ _ => none
  | c + 1 => fun x3 x4 => bX12_costBy_9 n p1 p2 w (lX12_costBy_9 n p1 p2 w c) x3 x4
def fX12_costBy (n : Nat) (a0 : Int32) (a1 : Int32) (w : jWd) : Option Int32 :=
  bO (fX12_weightOf n a0 w) (fun (r_2 : Int32) => lX12_costBy_9 n a0 a1 w n r_2 (0 : Int32))
-- NobodysBardModel.ask(II)I
def bX12_ask_85 (n : Nat) (p1 : Int32) (p2 : Int32) (p4 : Int32) (k146 : Int32 → jWd → (Option (Int32 × jWd))) (rec : Int32 → Int32 → jWd → Option (Int32 × jWd)) (x3 : Int32) (x5 : Int32) (w : jWd)  : Option (Int32 × jWd) :=
  if (16 : Int32) ≤ x5 then k146 x3 w else bO (fX12_costBy n p4 x5 w) (fun (r_13 : Int32) => if r_13 = (-1 : Int32) then letV (x5 + (1 : Int32)) (fun (x5_14 : Int32) => rec x3 x5_14 w) else letV (grd p4 (ln 220) (letV (sI w 220 ((p4).toNatClampNeg) r_13) (fun (w_17 : jWd) => letV (x5 + (1 : Int32)) (fun (x5_20 : Int32) => rec x5 x5_20 w_17)))) (fun (j128_16 : Option (Int32 × jWd)) => if x3 = (-1 : Int32) then j128_16 else grd p4 (ln 220) (if r_13 < (wI w 220 (p4).toNatClampNeg) then j128_16 else letV (x5 + (1 : Int32)) (fun (x5_23 : Int32) => rec x3 x5_23 w))))
def lX12_ask_85 (n : Nat) (p1 : Int32) (p2 : Int32) (p4 : Int32) (k146 : Int32 → jWd → (Option (Int32 × jWd))) : Nat → Int32 → Int32 → jWd → Option (Int32 × jWd)
  | 0 => fun _ _ _ => none
  | c + 1 => fun x3 x5 w => bX12_ask_85 n p1 p2 p4 k146 (lX12_ask_85 n p1 p2 p4 k146 c) x3 x5 w
def bX12_ask_49 (n : Nat) (p1 : Int32) (p2 : Int32) (k152 : Int32 → jWd → (Option (Int32 × jWd))) (rec : Int32 → Int32 → jWd → Option (Int32 × jWd)) (x3 : Int32) (x4 : Int32) (w : jWd)  : Option (Int32 × jWd) :=
  if p1 < x4 then k152 x3 w else grd x4 (ln 220) (letV (sI w 220 ((x4).toNatClampNeg) (0 : Int32)) (fun (w_7 : jWd) => if (x4 &&& (p1 ^^^ (-1 : Int32))) = 0 then if x4 = 0 then letV (x4 + (1 : Int32)) (fun (x4_29 : Int32) => rec (-1 : Int32) x4_29 w_7) else lX12_ask_85 n p1 p2 x4 (fun (z3_26 : Int32) (w_25 : jWd) => letV (x4 + (1 : Int32)) (fun (x4_27 : Int32) => rec z3_26 x4_27 w_25)) n (-1 : Int32) (0 : Int32) w_7 else letV (x4 + (1 : Int32)) (fun (x4_10 : Int32) => rec (-1 : Int32) x4_10 w_7)))
def lX12_ask_49 (n : Nat) (p1 : Int32) (p2 : Int32) (k152 : Int32 → jWd → (Option (Int32 × jWd))) : Nat → Int32 → Int32 → jWd → Option (Int32 × jWd)
  | 0 => fun _ _ _ => none
  | c + 1 => fun x3 x4 w => bX12_ask_49 n p1 p2 k152 (lX12_ask_49 n p1 p2 k152 c) x3 x4 w
def fX12_ask (n : Nat) (a0 : Int32) (a1 : Int32) (w : jWd) : Option (Int32 × jWd) :=
  letV (sI w 205 0 (0 : Int32)) (fun (w_1 : jWd) => letV (bO2 (fX12_no (-2 : Int32) w_1) (fun (r_6 : Int32) (w_5 : jWd) => some (r_6, w_5))) (fun (j37_3 : Option (Int32 × jWd)) => if (fX12_within ((a1).toInt64) (0 : Int64) (1 : Int64)) = 0 then j37_3 else if (fX12_within ((a0).toInt64) (0 : Int64) ((((i_shl (1 : Int32) (wI w_1 207 987)) - (1 : Int32))).toInt64)) = 0 then j37_3 else lX12_ask_49 n a0 a1 (fun (z3_32 : Int32) (w_31 : jWd) => if a1 = 0 then grd a0 (ln 220) (some ((wI w_31 220 (a0).toNatClampNeg), w_31)) else some (z3_32, w_31)) n (-1 : Int32) (0 : Int32) w_1))
-- NobodysBardModel.isThere(I)Z
def fX12_isThere (a0 : Int32) (w : jWd) : Option Int32 :=
  if a0 < 0 then some (0 : Int32) else if (wI w 207 547) ≤ a0 then some (0 : Int32) else some (1 : Int32)
-- NobodysBardModel.isBehind(I)Z
def fX12_isBehind (a0 : Int32) (w : jWd) : Option Int32 :=
  grd ((724 : Int32) + a0) (ln 208) (if (lg_cmp (wJ w 208 (((724 : Int32) + a0)).toNatClampNeg) (0 : Int64)) = 0 then some (0 : Int32) else grd ((608 : Int32) + a0) (ln 207) (if (wI w 207 (((608 : Int32) + a0)).toNatClampNeg) ≤ (wI w 207 161) then some (0 : Int32) else some (1 : Int32)))
-- NobodysBardModel.mostOfPrint(J)I
def bX12_mostOfPrint_5 (n : Nat) (p1 : Int64) (rec : Int32 → Int32 → jWd → Option (Int32 × jWd)) (x3 : Int32) (x4 : Int32) (w : jWd)  : Option (Int32 × jWd) :=
  if (wI w 207 162) ≤ x4 then some (x3, w) else grd ((480 : Int32) + x4) (ln 208) (bO2 (fX12_likeOf n p1 (wJ w 208 (((480 : Int32) + x4)).toNatClampNeg) w) (fun (r_4 : Int32) (w_3 : jWd) => if r_4 ≤ x3 then letV (x4 + (1 : Int32)) (fun (x4_5 : Int32) => rec x3 x4_5 w_3) else letV (x4 + (1 : Int32)) (fun (x4_7 : Int32) => rec r_4 x4_7 w_3)))
def lX12_mostOfPrint_5 (n : Nat) (p1 : Int64) : Nat → Int32 → Int32 → jWd → Option (Int32 × jWd)
  | 0 => fun _ _ _ => none
  | c + 1 => fun x3 x4 w => bX12_mostOfPrint_5 n p1 (lX12_mostOfPrint_5 n p1 c) x3 x4 w
def fX12_mostOfPrint (n : Nat) (a0 : Int64) (w : jWd) : Option (Int32 × jWd) :=
  lX12_mostOfPrint_5 n a0 n (-1 : Int32) (0 : Int32) w
-- NobodysBardModel.mostOfSongs(JZ)I
def bX12_mostOfSongs_20 (n : Nat) (p1 : Int64) (p3 : Int32) (p5 : Int32) (k87 : Int32 → jWd → (Option (Int32 × jWd))) (rec : Int32 → Int32 → jWd → Option (Int32 × jWd)) (x4 : Int32) (x6 : Int32) (w : jWd)  : Option (Int32 × jWd) :=
  grd ((121 : Int32) + p5) (ln 207) (if (wI w 207 (((121 : Int32) + p5)).toNatClampNeg) ≤ x6 then k87 x4 w else bO (fX12_isEarly p5 w) (fun (r_3 : Int32) => if r_3 = p3 then grd (((12 : Int32) * p5) + x6) (ln 208) (bO2 (fX12_likeOf n p1 (wJ w 208 ((((12 : Int32) * p5) + x6)).toNatClampNeg) w) (fun (r_7 : Int32) (w_6 : jWd) => if r_7 ≤ x4 then letV (x6 + (1 : Int32)) (fun (x6_8 : Int32) => rec x4 x6_8 w_6) else letV (x6 + (1 : Int32)) (fun (x6_10 : Int32) => rec r_7 x6_10 w_6))) else k87 x4 w))
def lX12_mostOfSongs_20 (n : Nat) (p1 : Int64) (p3 : Int32) (p5 : Int32) (k87 : Int32 → jWd → (Option (Int32 × jWd))) : Nat → Int32 → Int32 → jWd → Option (Int32 × jWd)
  | 0 => fun _ _ _ => none
  | c + 1 => fun x4 x6 w => bX12_mostOfSongs_20 n p1 p3 p5 k87 (lX12_mostOfSongs_20 n p1 p3 p5 k87 c) x4 x6 w
def bX12_mostOfSongs_6 (n : Nat) (p1 : Int64) (p3 : Int32) (rec : Int32 → Int32 → jWd → Option (Int32 × jWd)) (x4 : Int32) (x5 : Int32) (w : jWd)  : Option (Int32 × jWd) :=
  if (wI w 207 0) ≤ x5 then some (x4, w) else lX12_mostOfSongs_20 n p1 p3 x5 (fun (z4_13 : Int32) (w_12 : jWd) => letV (x5 + (1 : Int32)) (fun (x5_14 : Int32) => rec z4_13 x5_14 w_12)) n x4 (0 : Int32) w
def lX12_mostOfSongs_6 (n : Nat) (p1 : Int64) (p3 : Int32) : Nat → Int32 → Int32 → jWd → Option (Int32 × jWd)
  | 0 => fun _ _ _ => none
  | c + 1 => fun x4 x5 w => bX12_mostOfSongs_6 n p1 p3 (lX12_mostOfSongs_6 n p1 p3 c) x4 x5 w
def fX12_mostOfSongs (n : Nat) (a0 : Int64) (a1 : Int32) (w : jWd) : Option (Int32 × jWd) :=
  lX12_mostOfSongs_6 n a0 a1 n (-1 : Int32) (0 : Int32) w
-- NobodysBardModel.isBack(I)Z
def fX12_isBack (n : Nat) (a0 : Int32) (w : jWd) : Option (Int32 × jWd) :=
  grd ((724 : Int32) + a0) (ln 208) (letV ((wJ w 208 (((724 : Int32) + a0)).toNatClampNeg)) (fun (x2_2 : Int64) => bO (fX12_isBehind a0 w) (fun (r_5 : Int32) => if r_5 = 0 then some ((0 : Int32), w) else bO2 (fX12_mostOfPrint n x2_2 w) (fun (r_8 : Int32) (w_7 : jWd) => if r_8 < (wI w_7 207 248) then some ((0 : Int32), w_7) else bO2 (fX12_mostOfSongs n x2_2 (1 : Int32) w_7) (fun (r_11 : Int32) (w_10 : jWd) => if (wI w_10 207 248) ≤ r_11 then some ((0 : Int32), w_10) else some ((1 : Int32), w_10))))))
-- NobodysBardModel.back(I)I
def fX12_back (n : Nat) (a0 : Int32) (w : jWd) : Option (Int32 × jWd) :=
  letV (sI w 205 0 (0 : Int32)) (fun (w_1 : jWd) => bO (fX12_isThere a0 w_1) (fun (r_4 : Int32) => if r_4 = 0 then bO2 (fX12_no (-2 : Int32) w_1) (fun (r_10 : Int32) (w_9 : jWd) => some (r_10, w_9)) else bO2 (fX12_isBack n a0 w_1) (fun (r_7 : Int32) (w_6 : jWd) => if r_7 = 0 then some ((0 : Int32), w_6) else some ((1 : Int32), w_6))))
-- NobodysBardModel.common(JJ)J
def bX12_common_6 (n : Nat) (rec : Int64 → Int64 → Option Int64) (x4 : Int64) (x6 : Int64)  : Option Int64 :=
  if (lg_cmp x6 (0 : Int64)) = 0 then some x4 else grzl x6 (letV ((l_rem x4 x6)) (fun (x8_2 : Int64) => rec x6 x8_2))
def lX12_common_6 (n : Nat) : Nat → Int64 → Int64 → Option Int64
  | 0 => fun _ _ => none
  | c + 1 => fun x4 x6 => bX12_common_6 n (lX12_common_6 n c) x4 x6
def fX12_common (n : Nat) (a0 : Int64) (a1 : Int64) : Option Int64 :=
  lX12_common_6 n n a0 a1
-- NobodysBardModel.part(JJI)J
def fX12_part (n : Nat) (a0 : Int64) (a1 : Int64) (a2 : Int32) : Option Int64 :=
  bO (fX12_common n a0 a1) (fun (r_2 : Int64) => if (lg_cmp r_2 (0 : Int64)) = 0 then some (0 : Int64) else letV (fun (s_3 : Int64) => grzl r_2 (some (s_3 / r_2))) (fun (j28_4 : Int64 → Option Int64) => if a2 = 0 then j28_4 a0 else j28_4 a1))
-- NobodysBardModel.backOdds(II)I
def fX12_backOdds (n : Nat) (a0 : Int32) (a1 : Int32) (w : jWd) : Option (Int32 × jWd) :=
  letV (sI w 205 0 (0 : Int32)) (fun (w_1 : jWd) => bO (fX12_isThere a0 w_1) (fun (r_4 : Int32) => letV (bO2 (fX12_no (-2 : Int32) w_1) (fun (r_8 : Int32) (w_7 : jWd) => some (r_8, w_7))) (fun (j23_5 : Option (Int32 × jWd)) => if r_4 = 0 then j23_5 else if (fX12_within ((a1).toInt64) (0 : Int64) (1 : Int64)) = 0 then j23_5 else bO (fX12_isBehind a0 w_1) (fun (r_10 : Int32) => if r_10 = 0 then some (a1, w_1) else grd ((724 : Int32) + a0) (ln 208) (bO2 (fX12_mostOfPrint n (wJ w_1 208 (((724 : Int32) + a0)).toNatClampNeg) w_1) (fun (r_14 : Int32) (w_13 : jWd) => grd ((724 : Int32) + a0) (ln 208) (bO2 (fX12_mostOfSongs n (wJ w_13 208 (((724 : Int32) + a0)).toNatClampNeg) (1 : Int32) w_13) (fun (r_18 : Int32) (w_17 : jWd) => letV (fun (s_19 : Int32) => grd ((668 : Int32) + a0) (ln 207) (letV (fun (s_22 : Int64) => bO (fX12_part n (((s_19).toInt64) * ((((wI w_17 207 (((668 : Int32) + a0)).toNatClampNeg)).toInt64) + (1 : Int64))) s_22 a1) (fun (r_25 : Int64) => some (((r_25).toInt32), w_17))) (fun (j112_23 : Int64 → Option (Int32 × jWd)) => if 0 ≤ r_18 then j112_23 ((10 : Int64) * ((r_18).toInt64)) else j112_23 (0 : Int64)))) (fun (j81_20 : Int32 → Option (Int32 × jWd)) => if 0 ≤ r_14 then j81_20 r_14 else j81_20 (0 : Int32))))))))))
-- NobodysBardModel.bounds(II)I
def fX12_bounds (a0 : Int32) (a1 : Int32) (w : jWd) : Option (Int32 × jWd) :=
  letV (sI w 205 0 (0 : Int32)) (fun (w_1 : jWd) => letV (bO2 (fX12_no (-3 : Int32) w_1) (fun (r_6 : Int32) (w_5 : jWd) => some (r_6, w_5))) (fun (j28_3 : Option (Int32 × jWd)) => if (fX12_within ((a0).toInt64) (1 : Int64) (100 : Int64)) = 0 then j28_3 else if (fX12_within ((a1).toInt64) (1 : Int64) ((a0).toInt64)) = 0 then j28_3 else letV (sI w_1 207 248 a0) (fun (w_7 : jWd) => letV (sI w_7 207 249 a1) (fun (w_9 : jWd) => some ((0 : Int32), w_9)))))
-- NobodysBardModel.meets(IZ)V
def bX12_meets_123 (n : Nat) (p1 : Int32) (p2 : Int32) (p3 : Int32) (p4 : Int32) (p5 : Int32) (p6 : Int32) (k203 : jWd → (Option jWd)) (rec : Int32 → jWd → Option jWd) (x7 : Int32) (w : jWd)  : Option jWd :=
  if p6 ≤ x7 then k203 w else letV (sI w 205 32 ((wI w 205 32) + (1 : Int32))) (fun (w_10 : jWd) => grd ((480 : Int32) + p3) (ln 208) (letV (fun (s_13 : Int32) => grd ((s_13 + ((12 : Int32) * p5)) + x7) (ln 208) (bO2 (fX12_likeOf n (wJ w_10 208 (((480 : Int32) + p3)).toNatClampNeg) (wJ w_10 208 (((s_13 + ((12 : Int32) * p5)) + x7)).toNatClampNeg) w_10) (fun (r_18 : Int32) (w_17 : jWd) => letV (fun (s_19 : Int32) => letV (sI w_17 205 33 ((wI w_10 205 33) + s_19)) (fun (w_21 : jWd) => letV (x7 + (1 : Int32)) (fun (x7_23 : Int32) => rec x7_23 w_21))) (fun (j193_20 : Int32 → Option jWd) => if r_18 < p1 then j193_20 (0 : Int32) else j193_20 (1 : Int32))))) (fun (j171_14 : Int32 → Option jWd) => if p2 = 0 then j171_14 (0 : Int32) else j171_14 (540 : Int32))))
def lX12_meets_123 (n : Nat) (p1 : Int32) (p2 : Int32) (p3 : Int32) (p4 : Int32) (p5 : Int32) (p6 : Int32) (k203 : jWd → (Option jWd)) : Nat → Int32 → jWd → Option jWd
  | 0 => fun _ _ => none
  | c + 1 => fun x7 w => bX12_meets_123 n p1 p2 p3 p4 p5 p6 k203 (lX12_meets_123 n p1 p2 p3 p4 p5 p6 k203 c) x7 w
def bX12_meets_50 (n : Nat) (p1 : Int32) (p2 : Int32) (p3 : Int32) (p4 : Int32) (k209 : jWd → (Option jWd)) (rec : Int32 → jWd → Option jWd) (x5 : Int32) (w : jWd)  : Option jWd :=
  if p4 ≤ x5 then k209 w else letV (letV (fun (s_8 : Int32) => lX12_meets_123 n p1 p2 p3 p4 x5 s_8 (fun (w_25 : jWd) => letV (x5 + (1 : Int32)) (fun (x5_26 : Int32) => rec x5_26 w_25)) n (0 : Int32) w) (fun (j118_9 : Int32 → Option jWd) => if p2 = 0 then grd ((121 : Int32) + x5) (ln 207) (j118_9 (wI w 207 (((121 : Int32) + x5)).toNatClampNeg)) else grd ((236 : Int32) + x5) (ln 207) (j118_9 (wI w 207 (((236 : Int32) + x5)).toNatClampNeg)))) (fun (j90_7 : Option jWd) => if p2 = 0 then bO (fX12_isEarly x5 w) (fun (r_31 : Int32) => if r_31 = 0 then letV (x5 + (1 : Int32)) (fun (x5_32 : Int32) => rec x5_32 w) else j90_7) else grd ((224 : Int32) + x5) (ln 207) (if (wI w 207 (((224 : Int32) + x5)).toNatClampNeg) = 0 then letV (x5 + (1 : Int32)) (fun (x5_35 : Int32) => rec x5_35 w) else j90_7))
def lX12_meets_50 (n : Nat) (p1 : Int32) (p2 : Int32) (p3 : Int32) (p4 : Int32) (k209 : jWd → (Option jWd)) : Nat → Int32 → jWd → Option jWd
  | 0 => fun _ _ => none
  | c + 1 => fun x5 w => bX12_meets_50 n p1 p2 p3 p4 k209 (lX12_meets_50 n p1 p2 p3 p4 k209 c) x5 w
def bX12_meets_12 (n : Nat) (p1 : Int32) (p2 : Int32) (rec : Int32 → jWd → Option jWd) (x3 : Int32) (w : jWd)  : Option jWd :=
  if (wI w 207 162) ≤ x3 then some w else letV (fun (s_5 : Int32) => lX12_meets_50 n p1 p2 x3 s_5 (fun (w_37 : jWd) => letV (x3 + (1 : Int32)) (fun (x3_38 : Int32) => rec x3_38 w_37)) n (0 : Int32) w) (fun (j45_6 : Int32 → Option jWd) => if p2 = 0 then j45_6 (wI w 207 0) else j45_6 (wI w 207 223))
def lX12_meets_12 (n : Nat) (p1 : Int32) (p2 : Int32) : Nat → Int32 → jWd → Option jWd
  | 0 => fun _ _ => none
  | c + 1 => fun x3 w => bX12_meets_12 n p1 p2 (lX12_meets_12 n p1 p2 c) x3 w
def fX12_meets (n : Nat) (a0 : Int32) (a1 : Int32) (w : jWd) : Option jWd :=
  letV (sI w 205 32 (0 : Int32)) (fun (w_1 : jWd) => letV (sI w_1 205 33 (0 : Int32)) (fun (w_3 : jWd) => lX12_meets_12 n a0 a1 n (0 : Int32) w_3))
-- NobodysBardModel.chance(II)I
def fX12_chance (n : Nat) (a0 : Int32) (a1 : Int32) (w : jWd) : Option (Int32 × jWd) :=
  letV (sI w 205 0 (0 : Int32)) (fun (w_1 : jWd) => if (fX12_within ((a1).toInt64) (0 : Int64) (1 : Int64)) = 0 then bO2 (fX12_no (-2 : Int32) w_1) (fun (r_12 : Int32) (w_11 : jWd) => some (r_12, w_11)) else if (fX12_within ((a0).toInt64) (1 : Int64) (100 : Int64)) = 0 then bO2 (fX12_no (-3 : Int32) w_1) (fun (r_9 : Int32) (w_8 : jWd) => some (r_9, w_8)) else bO (fX12_meets n a0 (1 : Int32) w_1) (fun (w_4 : jWd) => bO (fX12_part n (((wI w_4 205 33)).toInt64) (((wI w_4 205 32)).toInt64) a1) (fun (r_6 : Int64) => some (((r_6).toInt32), w_4))))
-- NobodysBardModel.copies(II)V
def bX12_copies_2 (n : Nat) (p1 : Int32) (p2 : Int32) (k39 : jWd → (Option jWd)) (rec : Int32 → jWd → Option jWd) (x3 : Int32) (w : jWd)  : Option jWd :=
  if (1124 : Int32) ≤ x3 then k39 w else grd (((1124 : Int32) * p1) + x3) (ln 207) (grd (((1124 : Int32) * p2) + x3) (ln 207) (letV (sI w 207 (((((1124 : Int32) * p2) + x3)).toNatClampNeg) (wI w 207 ((((1124 : Int32) * p1) + x3)).toNatClampNeg)) (fun (w_2 : jWd) => letV (x3 + (1 : Int32)) (fun (x3_5 : Int32) => rec x3_5 w_2))))
def lX12_copies_2 (n : Nat) (p1 : Int32) (p2 : Int32) (k39 : jWd → (Option jWd)) : Nat → Int32 → jWd → Option jWd
  | 0 => fun _ _ => none
  | c + 1 => fun x3 w => bX12_copies_2 n p1 p2 k39 (lX12_copies_2 n p1 p2 k39 c) x3 w
def bX12_copies_41 (n : Nat) (p1 : Int32) (p2 : Int32) (k78 : jWd → (Option jWd)) (rec : Int32 → jWd → Option jWd) (x3 : Int32) (w : jWd)  : Option jWd :=
  if (784 : Int32) ≤ x3 then k78 w else grd (((784 : Int32) * p1) + x3) (ln 208) (grd (((784 : Int32) * p2) + x3) (ln 208) (letV (sJ w 208 (((((784 : Int32) * p2) + x3)).toNatClampNeg) (wJ w 208 ((((784 : Int32) * p1) + x3)).toNatClampNeg)) (fun (w_9 : jWd) => letV (x3 + (1 : Int32)) (fun (x3_12 : Int32) => rec x3_12 w_9))))
def lX12_copies_41 (n : Nat) (p1 : Int32) (p2 : Int32) (k78 : jWd → (Option jWd)) : Nat → Int32 → jWd → Option jWd
  | 0 => fun _ _ => none
  | c + 1 => fun x3 w => bX12_copies_41 n p1 p2 k78 (lX12_copies_41 n p1 p2 k78 c) x3 w
def bX12_copies_80 (n : Nat) (p1 : Int32) (p2 : Int32) (k117 : jWd → (Option jWd)) (rec : Int32 → jWd → Option jWd) (x3 : Int32) (w : jWd)  : Option jWd :=
  if (645 : Int32) ≤ x3 then k117 w else grd (((645 : Int32) * p1) + x3) (ln 211) (grd (((645 : Int32) * p2) + x3) (ln 211) (letV (sI w 211 (((((645 : Int32) * p2) + x3)).toNatClampNeg) (wI w 211 ((((645 : Int32) * p1) + x3)).toNatClampNeg)) (fun (w_16 : jWd) => letV (x3 + (1 : Int32)) (fun (x3_19 : Int32) => rec x3_19 w_16))))
def lX12_copies_80 (n : Nat) (p1 : Int32) (p2 : Int32) (k117 : jWd → (Option jWd)) : Nat → Int32 → jWd → Option jWd
  | 0 => fun _ _ => none
  | c + 1 => fun x3 w => bX12_copies_80 n p1 p2 k117 (lX12_copies_80 n p1 p2 k117 c) x3 w
def bX12_copies_119 (n : Nat) (p1 : Int32) (p2 : Int32) (rec : Int32 → jWd → Option jWd) (x3 : Int32) (w : jWd)  : Option jWd :=
  if (29 : Int32) ≤ x3 then some w else grd (((29 : Int32) * p1) + x3) (ln 212) (grd (((29 : Int32) * p2) + x3) (ln 212) (letV (sI w 212 (((((29 : Int32) * p2) + x3)).toNatClampNeg) (wI w 212 ((((29 : Int32) * p1) + x3)).toNatClampNeg)) (fun (w_23 : jWd) => letV (x3 + (1 : Int32)) (fun (x3_26 : Int32) => rec x3_26 w_23))))
def lX12_copies_119 (n : Nat) (p1 : Int32) (p2 : Int32) : Nat → Int32 → jWd → Option jWd
  | 0 => fun _ _ => none
  | c + 1 => fun x3 w => bX12_copies_119 n p1 p2 (lX12_copies_119 n p1 p2 c) x3 w
def fX12_copies (n : Nat) (a0 : Int32) (a1 : Int32) (w : jWd) : Option jWd :=
  lX12_copies_2 n a0 a1 (fun (w_7 : jWd) => lX12_copies_41 n a0 a1 (fun (w_14 : jWd) => lX12_copies_80 n a0 a1 (fun (w_21 : jWd) => lX12_copies_119 n a0 a1 n (0 : Int32) w_21) n (0 : Int32) w_14) n (0 : Int32) w_7) n (0 : Int32) w
-- NobodysBardModel.count(I)I
def fX12_count (a0 : Int32) (w : jWd) : Option (Int32 × jWd) :=
  letV (sI w 205 0 (0 : Int32)) (fun (w_1 : jWd) => if (fX12_within ((a0).toInt64) (100 : Int64) ((((99 : Int32) + (wI w_1 207 0))).toInt64)) = 0 then if (fX12_within ((a0).toInt64) (200 : Int64) ((((199 : Int32) + (wI w_1 207 223))).toInt64)) = 0 then (if a0 = (0 : Int32) then some ((wI w_1 207 0), w_1) else if a0 = (1 : Int32) then some ((wI w_1 207 223), w_1) else if a0 = (2 : Int32) then some ((wI w_1 207 162), w_1) else if a0 = (3 : Int32) then some ((wI w_1 207 547), w_1) else if a0 = (4 : Int32) then some ((wI w_1 207 506), w_1) else if a0 = (5 : Int32) then some ((wI w_1 207 848), w_1) else if a0 = (6 : Int32) then some ((wI w_1 207 889), w_1) else if a0 = (7 : Int32) then some ((wI w_1 207 970), w_1) else if a0 = (8 : Int32) then some ((wI w_1 207 987), w_1) else if a0 = (9 : Int32) then some ((wI w_1 211 0), w_1) else if a0 = (10 : Int32) then some ((wI w_1 212 0), w_1) else if a0 = (11 : Int32) then some ((wI w_1 205 9), w_1) else if a0 = (12 : Int32) then some ((wI w_1 207 161), w_1) else some ((-1 : Int32), w_1)) else grd (((236 : Int32) + a0) - (200 : Int32)) (ln 207) (some ((wI w_1 207 ((((236 : Int32) + a0) - (200 : Int32))).toNatClampNeg), w_1)) else grd (((121 : Int32) + a0) - (100 : Int32)) (ln 207) (some ((wI w_1 207 ((((121 : Int32) + a0) - (100 : Int32))).toNatClampNeg), w_1)))
-- NobodysBardModel.counts()V
def bX12_counts_6 (n : Nat) (k25 : jWd → (Option jWd)) (rec : Int32 → jWd → Option jWd) (x1 : Int32) (w : jWd)  : Option jWd :=
  if (6 : Int32) ≤ x1 then k25 w else grd x1 (ln 219) (letV (sI w 219 ((x1).toNatClampNeg) (0 : Int32)) (fun (w_3 : jWd) => letV (x1 + (1 : Int32)) (fun (x1_6 : Int32) => rec x1_6 w_3)))
def lX12_counts_6 (n : Nat) (k25 : jWd → (Option jWd)) : Nat → Int32 → jWd → Option jWd
  | 0 => fun _ _ => none
  | c + 1 => fun x1 w => bX12_counts_6 n k25 (lX12_counts_6 n k25 c) x1 w
def bX12_counts_27 (n : Nat) (rec : Int32 → jWd → Option jWd) (x1 : Int32) (w : jWd)  : Option jWd :=
  if (wI w 207 162) ≤ x1 then some w else bO2 (fX12_whoseIs n x1 w) (fun (r_11 : Int32) (w_10 : jWd) => grd r_11 (ln 219) (grd r_11 (ln 219) (letV (sI w_10 219 ((r_11).toNatClampNeg) ((wI w_10 219 (r_11).toNatClampNeg) + (1 : Int32))) (fun (w_13 : jWd) => letV (x1 + (1 : Int32)) (fun (x1_16 : Int32) => rec x1_16 w_13)))))
def lX12_counts_27 (n : Nat) : Nat → Int32 → jWd → Option jWd
  | 0 => fun _ _ => none
  | c + 1 => fun x1 w => bX12_counts_27 n (lX12_counts_27 n c) x1 w
def fX12_counts (n : Nat) (w : jWd) : Option jWd :=
  bO (fX12_smooths n w) (fun (w_2 : jWd) => lX12_counts_6 n (fun (w_8 : jWd) => lX12_counts_27 n n (0 : Int32) w_8) n (0 : Int32) w_2)
-- NobodysBardModel.cut(JI)J
def fX12_cut (a0 : Int64) (a1 : Int32) : Int64 :=
  if a1 = 0 then ((((((a0).toInt32)).toInt8.toInt32)).toInt64) else if a1 = (1 : Int32) then ((((((a0).toInt32)).toInt16.toInt32)).toInt64) else if a1 = (2 : Int32) then ((((a0).toInt32)).toInt64) else a0
-- NobodysBardModel.draw()I
def fX12_draw (w : jWd) : Option (Int32 × jWd) :=
  letV (sI w 205 25 (((1103515245 : Int32) * (wI w 205 25)) + (12345 : Int32))) (fun (w_1 : jWd) => some ((i_rem (i_ushr (wI w_1 205 25) (16 : Int32)) (100 : Int32)), w_1))
-- NobodysBardModel.is(I)Z
def fX12_is (a0 : Int32) (w : jWd) : Int32 :=
  if (wI w 205 15) = 0 then if (wI w 205 13) = a0 then (1 : Int32) else (0 : Int32) else (0 : Int32)
-- NobodysBardModel.see(I)I
def fX12_see (a0 : Int32) (w : jWd) : Option Int32 :=
  if (wI w 205 12) ≤ a0 then some (-1 : Int32) else grd a0 (ln 213) (some (wI w 213 (a0).toNatClampNeg))
-- NobodysBardModel.isSmall(I)Z
def fX12_isSmall (a0 : Int32) : Int32 :=
  if a0 < (97 : Int32) then (0 : Int32) else if (122 : Int32) < a0 then (0 : Int32) else (1 : Int32)
-- NobodysBardModel.keyAt()I
def bX12_keyAt_15 (n : Nat) (p1 : Int32) (p2 : Int32) (k69 : Int32 → (Option Int32)) (w : jWd) (rec : Int32 → Option Int32) (x3 : Int32)  : Option Int32 :=
  grd (p2 + x3) (strN 13) (if (strC 13 (p2 + x3)) = (32 : Int32) then k69 x3 else if (wI w 205 11) ≤ ((wI w 205 10) + x3) then k69 x3 else grd ((wI w 205 10) + x3) (ln 213) (grd (p2 + x3) (strN 13) (if (wI w 213 (((wI w 205 10) + x3)).toNatClampNeg) = (strC 13 (p2 + x3)) then letV (x3 + (1 : Int32)) (fun (x3_4 : Int32) => rec x3_4) else k69 x3)))
def lX12_keyAt_15 (n : Nat) (p1 : Int32) (p2 : Int32) (k69 : Int32 → (Option Int32)) (w : jWd) : Nat → Int32 → Option Int32
  | 0 => fun _ => none
  | c + 1 => fun x3 => bX12_keyAt_15 n p1 p2 k69 w (lX12_keyAt_15 n p1 p2 k69 w c) x3
def bX12_keyAt_97 (n : Nat) (p1 : Int32) (k114 : Int32 → (Option Int32)) (w : jWd) (rec : Int32 → Option Int32) (x2 : Int32)  : Option Int32 :=
  grd x2 (strN 13) (if (strC 13 x2) = (32 : Int32) then k114 x2 else letV (x2 + (1 : Int32)) (fun (x2_17 : Int32) => rec x2_17))
def lX12_keyAt_97 (n : Nat) (p1 : Int32) (k114 : Int32 → (Option Int32)) (w : jWd) : Nat → Int32 → Option Int32
  | 0 => fun _ => none
  | c + 1 => fun x2 => bX12_keyAt_97 n p1 k114 w (lX12_keyAt_97 n p1 k114 w c) x2
def bX12_keyAt_4 (n : Nat) (w : jWd) (rec : Int32 → Int32 → Option Int32) (x1 : Int32) (x2 : Int32)  : Option Int32 :=
  if (strL 13) ≤ x2 then some (13 : Int32) else lX12_keyAt_15 n x1 x2 (fun (z3_6 : Int32) => grd (x2 + z3_6) (strN 13) (letV (grd x2 (strN 13) (if (strC 13 x2) = (32 : Int32) then letV (x2 + (1 : Int32)) (fun (x2_10 : Int32) => letV (x1 + (1 : Int32)) (fun (x1_12 : Int32) => rec x1_12 x2_10)) else letV (x2 + (1 : Int32)) (fun (x2_14 : Int32) => lX12_keyAt_97 n x1 (fun (z2_19 : Int32) => letV (z2_19 + (1 : Int32)) (fun (x2_20 : Int32) => letV (x1 + (1 : Int32)) (fun (x1_22 : Int32) => rec x1_22 x2_20))) w n x2_14))) (fun (j97_8 : Option Int32) => if (strC 13 (x2 + z3_6)) = (32 : Int32) then if ((wI w 205 10) + z3_6) = (wI w 205 11) then some x1 else j97_8 else j97_8))) w n (0 : Int32)
def lX12_keyAt_4 (n : Nat) (w : jWd) : Nat → Int32 → Int32 → Option Int32
  | 0 => fun _ _ => none
  | c + 1 => fun x1 x2 => bX12_keyAt_4 n w (lX12_keyAt_4 n w c) x1 x2
def fX12_keyAt (n : Nat) (w : jWd) : Option Int32 :=
  lX12_keyAt_4 n w n (0 : Int32) (1 : Int32)
-- NobodysBardModel.isDigit(I)Z
def fX12_isDigit (a0 : Int32) : Int32 :=
  if a0 < (48 : Int32) then (0 : Int32) else if (57 : Int32) < a0 then (0 : Int32) else (1 : Int32)
-- NobodysBardModel.next()V
def bX12_next_8 (n : Nat) (k47 : jWd → (Option jWd)) (rec : jWd → Option jWd) (w : jWd)  : Option jWd :=
  bO (fX12_see (wI w 205 10) w) (fun (r_4 : Int32) => letV (letV (sI w 205 10 ((wI w 205 10) + (1 : Int32))) (fun (w_6 : jWd) => rec w_6)) (fun (j34_5 : Option jWd) => if r_4 = (10 : Int32) then j34_5 else bO (fX12_see (wI w 205 10) w) (fun (r_9 : Int32) => if r_9 = (32 : Int32) then j34_5 else k47 w)))
def lX12_next_8 (n : Nat) (k47 : jWd → (Option jWd)) : Nat → jWd → Option jWd
  | 0 => fun _ => none
  | c + 1 => fun w => bX12_next_8 n k47 (lX12_next_8 n k47 c) w
def bX12_next_146 (n : Nat) (k209 : jWd → (Option jWd)) (rec : jWd → Option jWd) (w : jWd)  : Option jWd :=
  bO (fX12_see (wI w 205 11) w) (fun (r_32 : Int32) => if (fX12_isDigit r_32) = 0 then k209 w else letV (fun (w_33 : jWd) => letV (sI w_33 205 11 ((wI w_33 205 11) + (1 : Int32))) (fun (w_35 : jWd) => rec w_35)) (fun (j196_34 : jWd → Option jWd) => if (3 : Int32) ≤ ((wI w 205 11) - (wI w 205 10)) then j196_34 w else bO (fX12_see (wI w 205 11) w) (fun (r_38 : Int32) => letV (sI w 205 14 ((((10 : Int32) * (wI w 205 14)) + r_38) - (48 : Int32))) (fun (w_39 : jWd) => j196_34 w_39))))
def lX12_next_146 (n : Nat) (k209 : jWd → (Option jWd)) : Nat → jWd → Option jWd
  | 0 => fun _ => none
  | c + 1 => fun w => bX12_next_146 n k209 (lX12_next_146 n k209 c) w
def bX12_next_89 (n : Nat) (k116 : jWd → (Option jWd)) (rec : jWd → Option jWd) (w : jWd)  : Option jWd :=
  bO (fX12_see (wI w 205 11) w) (fun (r_47 : Int32) => if (fX12_isSmall r_47) = 0 then k116 w else letV (sI w 205 11 ((wI w 205 11) + (1 : Int32))) (fun (w_48 : jWd) => rec w_48))
def lX12_next_89 (n : Nat) (k116 : jWd → (Option jWd)) : Nat → jWd → Option jWd
  | 0 => fun _ => none
  | c + 1 => fun w => bX12_next_89 n k116 (lX12_next_89 n k116 c) w
def fX12_next (n : Nat) (w : jWd) : Option jWd :=
  letV (sI w 205 10 (wI w 205 11)) (fun (w_1 : jWd) => lX12_next_8 n (fun (w_10 : jWd) => letV (sI w_10 205 11 (wI w_10 205 10)) (fun (w_11 : jWd) => if (wI w_11 205 10) < (wI w_11 205 12) then bO (fX12_see (wI w_11 205 10) w_11) (fun (r_14 : Int32) => if (fX12_isSmall r_14) = 0 then bO (fX12_see (wI w_11 205 10) w_11) (fun (r_16 : Int32) => if (fX12_isDigit r_16) = 0 then letV (sI w_11 205 11 ((wI w_11 205 11) + (1 : Int32))) (fun (w_17 : jWd) => bO (fX12_see (wI w_17 205 10) w_17) (fun (r_20 : Int32) => letV (fun (s_21 : Int32) => letV (sI w_17 205 13 s_21) (fun (w_23 : jWd) => some w_23)) (fun (j303_22 : Int32 → Option jWd) => if r_20 = (59 : Int32) then j303_22 (15 : Int32) else bO (fX12_see (wI w_17 205 10) w_17) (fun (r_26 : Int32) => if r_26 = (40 : Int32) then j303_22 (16 : Int32) else bO (fX12_see (wI w_17 205 10) w_17) (fun (r_28 : Int32) => if r_28 = (41 : Int32) then j303_22 (17 : Int32) else j303_22 (19 : Int32)))))) else letV (sI w_11 205 14 (0 : Int32)) (fun (w_29 : jWd) => lX12_next_146 n (fun (w_41 : jWd) => letV (fun (s_42 : Int32) => letV (sI w_41 205 13 s_42) (fun (w_44 : jWd) => some w_44)) (fun (j230_43 : Int32 → Option jWd) => if ((wI w_41 205 11) - (wI w_41 205 10)) ≤ (3 : Int32) then j230_43 (14 : Int32) else j230_43 (19 : Int32))) n w_29)) else lX12_next_89 n (fun (w_50 : jWd) => bO (fX12_keyAt n w_50) (fun (r_52 : Int32) => letV (sI w_50 205 13 r_52) (fun (w_53 : jWd) => some w_53))) n w_11) else letV (sI w_11 205 13 (18 : Int32)) (fun (w_55 : jWd) => some w_55))) n w_1)
-- NobodysBardModel.eats(I)Z
def fX12_eats (n : Nat) (a0 : Int32) (w : jWd) : Option (Int32 × jWd) :=
  if (fX12_is a0 w) = 0 then some ((0 : Int32), w) else bO (fX12_next n w) (fun (w_2 : jWd) => some ((1 : Int32), w_2))
-- NobodysBardModel.emit(II)V
def fX12_emit (a0 : Int32) (a1 : Int32) (w : jWd) : Option jWd :=
  grd ((2080 : Int32) + ((2 : Int32) * (wI w 205 18))) (ln 211) (letV (sI w 211 ((((2080 : Int32) + ((2 : Int32) * (wI w 205 18)))).toNatClampNeg) a0) (fun (w_1 : jWd) => grd (((2080 : Int32) + ((2 : Int32) * (wI w_1 205 18))) + (1 : Int32)) (ln 211) (letV (sI w_1 211 (((((2080 : Int32) + ((2 : Int32) * (wI w_1 205 18))) + (1 : Int32))).toNatClampNeg) a1) (fun (w_4 : jWd) => letV (sI w_4 205 18 ((wI w_4 205 18) + (1 : Int32))) (fun (w_7 : jWd) => some w_7)))))
-- NobodysBardModel.fails(I)V
def fX12_fails (a0 : Int32) (w : jWd) : Option jWd :=
  if (wI w 205 15) = 0 then letV (fun (s_1 : Int32) => letV (sI w 205 15 s_1) (fun (w_3 : jWd) => letV (sI w_3 205 16 (wI w_3 205 10)) (fun (w_5 : jWd) => some w_5))) (fun (j23_2 : Int32 → Option jWd) => if (wI w 205 13) = (19 : Int32) then j23_2 (1 : Int32) else j23_2 a0) else some w
-- NobodysBardModel.needs(I)V
def fX12_needs (n : Nat) (a0 : Int32) (w : jWd) : Option jWd :=
  bO2 (fX12_eats n a0 w) (fun (r_3 : Int32) (w_2 : jWd) => if r_3 = 0 then bO (fX12_fails (2 : Int32) w_2) (fun (w_5 : jWd) => some w_5) else some w_2)
-- NobodysBardModel.reads(IIZ)I
def fX12_reads (n : Nat) (a0 : Int32) (a1 : Int32) (a2 : Int32) (w : jWd) : Option (Int32 × jWd) :=
  letV (fun (w_1 : jWd) => letV ((wI w_1 205 14)) (fun (x4_3 : Int32) => if (wI w_1 205 15) = 0 then bO (fX12_next n w_1) (fun (w_6 : jWd) => some (x4_3, w_6)) else some (x4_3, w_1))) (fun (j49_2 : jWd → Option (Int32 × jWd)) => if (fX12_is (14 : Int32) w) = 0 then bO (fX12_fails (2 : Int32) w) (fun (w_12 : jWd) => j49_2 w_12) else if (fX12_within (((wI w 205 14)).toInt64) ((a0).toInt64) ((a1).toInt64)) = 0 then bO (fX12_fails (3 : Int32) w) (fun (w_10 : jWd) => j49_2 w_10) else if a2 = 0 then j49_2 w else bO (fX12_fails (4 : Int32) w) (fun (w_8 : jWd) => j49_2 w_8))
-- NobodysBardModel.parts()V
def bX12_parts_4 (n : Nat) (fact : jWd → Option jWd) (rec : jWd → Option jWd) (w : jWd)  : Option jWd :=
  bO2 (fX12_eats n (3 : Int32) w) (fun (r_5 : Int32) (w_4 : jWd) => if r_5 = 0 then some w_4 else bO (fact w_4) (fun (w_7 : jWd) => if (wI w_7 205 15) = 0 then bO (fX12_emit (3 : Int32) (0 : Int32) w_7) (fun (w_9 : jWd) => rec w_9) else rec w_7))
def lX12_parts_4 (n : Nat) (fact : jWd → Option jWd) : Nat → jWd → Option jWd
  | 0 => fun _ => none
  | c + 1 => fun w => bX12_parts_4 n fact (lX12_parts_4 n fact c) w
def fX12_partsG (n : Nat) (fact : jWd → Option jWd) (w : jWd) : Option jWd :=
  bO (fact w) (fun (w_2 : jWd) => lX12_parts_4 n fact n w_2)
-- NobodysBardModel.test()V
def bX12_test_4 (n : Nat) (fact : jWd → Option jWd) (rec : jWd → Option jWd) (w : jWd)  : Option jWd :=
  bO2 (fX12_eats n (4 : Int32) w) (fun (r_5 : Int32) (w_4 : jWd) => if r_5 = 0 then some w_4 else bO (fX12_partsG n fact w_4) (fun (w_7 : jWd) => if (wI w_7 205 15) = 0 then bO (fX12_emit (4 : Int32) (0 : Int32) w_7) (fun (w_9 : jWd) => rec w_9) else rec w_7))
def lX12_test_4 (n : Nat) (fact : jWd → Option jWd) : Nat → jWd → Option jWd
  | 0 => fun _ => none
  | c + 1 => fun w => bX12_test_4 n fact (lX12_test_4 n fact c) w
def fX12_testG (n : Nat) (fact : jWd → Option jWd) (w : jWd) : Option jWd :=
  bO (fX12_partsG n fact w) (fun (w_2 : jWd) => lX12_test_4 n fact n w_2)
-- NobodysBardModel.fact()V
def fX12_factB (n : Nat) (fact : jWd → Option jWd) (w : jWd) : Option jWd :=
  if (wI w 205 15) = 0 then letV ((wI w 205 13)) (fun (x1_1 : Int32) => letV (letV (fun (w_4 : jWd) => if (wI w_4 205 15) = 0 then bO (fX12_next n w_4) (fun (w_7 : jWd) => letV (sI w_7 205 17 ((wI w_7 205 17) + (1 : Int32))) (fun (w_8 : jWd) => letV (fun (w_10 : jWd) => letV (sI w_10 205 17 ((wI w_10 205 17) - (1 : Int32))) (fun (w_12 : jWd) => if x1_1 = (16 : Int32) then bO (fX12_needs n (17 : Int32) w_12) (fun (w_17 : jWd) => some w_17) else if (wI w_12 205 15) = 0 then bO (fX12_emit (2 : Int32) (0 : Int32) w_12) (fun (w_15 : jWd) => some w_15) else some w_12)) (fun (j76_11 : jWd → Option jWd) => if x1_1 = (2 : Int32) then bO (fact w_8) (fun (w_21 : jWd) => j76_11 w_21) else bO (fX12_testG n fact w_8) (fun (w_19 : jWd) => j76_11 w_19)))) else some w_4) (fun (j38_5 : jWd → Option jWd) => if (wI w 205 17) = (8 : Int32) then bO (fX12_fails (5 : Int32) w) (fun (w_23 : jWd) => j38_5 w_23) else j38_5 w)) (fun (j24_3 : Option jWd) => if x1_1 = (2 : Int32) then j24_3 else if x1_1 = (16 : Int32) then j24_3 else letV (bO (fX12_next n w) (fun (w_26 : jWd) => letV (fun (s_27 : Int32) (w_28 : jWd) => if (wI w_28 205 15) = 0 then bO (fX12_emit x1_1 s_27 w_28) (fun (w_31 : jWd) => some w_31) else some w_28) (fun (j184_29 : Int32 → jWd → Option jWd) => if x1_1 = (5 : Int32) then bO2 (fX12_reads n (1 : Int32) (255 : Int32) (0 : Int32) w_26) (fun (r_40 : Int32) (w_39 : jWd) => j184_29 r_40 w_39) else if x1_1 = (6 : Int32) then bO2 (fX12_reads n (1 : Int32) (8 : Int32) (0 : Int32) w_26) (fun (r_37 : Int32) (w_36 : jWd) => j184_29 r_37 w_36) else bO2 (fX12_reads n (0 : Int32) (9 : Int32) (0 : Int32) w_26) (fun (r_34 : Int32) (w_33 : jWd) => j184_29 r_34 w_33)))) (fun (j138_24 : Option jWd) => if x1_1 = (5 : Int32) then j138_24 else if x1_1 = (6 : Int32) then j138_24 else if x1_1 = (7 : Int32) then j138_24 else bO (fX12_fails (2 : Int32) w) (fun (w_42 : jWd) => some w_42)))) else some w
def fX12_fact (n : Nat) : Nat → jWd → Option jWd
  | 0 => fun _ => none
  | r + 1 => fun w => fX12_factB n (fX12_fact n r) w
def fX12_test (n : Nat) (w : jWd) : Option jWd := fX12_testG n (fX12_fact n 12) w
-- NobodysBardModel.fault(I)I
def fX12_fault (a0 : Int32) (w : jWd) : Option (Int32 × jWd) :=
  letV (sI w 205 0 (0 : Int32)) (fun (w_1 : jWd) => if a0 = 0 then some ((wI w_1 205 19), w_1) else if a0 = (1 : Int32) then some ((wI w_1 205 20), w_1) else some ((-1 : Int32), w_1))
-- NobodysBardModel.feed(IIIII)I
def bX12_feed_28 (n : Nat) (p1 : Int32) (p2 : Int32) (p3 : Int32) (p4 : Int32) (p5 : Int32) (k125 : jWd → (Option (Int32 × jWd))) (rec : Int32 → jWd → Option (Int32 × jWd)) (x6 : Int32) (w : jWd)  : Option (Int32 × jWd) :=
  if (20 : Int32) ≤ x6 then k125 w else letV (fun (s_3 : Int32) => grd (wI w 205 9) (ln 213) (letV (sI w 213 (((wI w 205 9)).toNatClampNeg) ((i_shr s_3 ((24 : Int32) - ((8 : Int32) * (i_rem x6 (4 : Int32))))) &&& (255 : Int32))) (fun (w_5 : jWd) => letV (sI w_5 205 9 ((wI w_5 205 9) + (1 : Int32))) (fun (w_8 : jWd) => letV (x6 + (1 : Int32)) (fun (x6_10 : Int32) => rec x6_10 w_8))))) (fun (j81_4 : Int32 → Option (Int32 × jWd)) => if (4 : Int32) ≤ x6 then if (8 : Int32) ≤ x6 then if (12 : Int32) ≤ x6 then if (16 : Int32) ≤ x6 then j81_4 p5 else j81_4 p4 else j81_4 p3 else j81_4 p2 else j81_4 p1)
def lX12_feed_28 (n : Nat) (p1 : Int32) (p2 : Int32) (p3 : Int32) (p4 : Int32) (p5 : Int32) (k125 : jWd → (Option (Int32 × jWd))) : Nat → Int32 → jWd → Option (Int32 × jWd)
  | 0 => fun _ _ => none
  | c + 1 => fun x6 w => bX12_feed_28 n p1 p2 p3 p4 p5 k125 (lX12_feed_28 n p1 p2 p3 p4 p5 k125 c) x6 w
def fX12_feed (n : Nat) (a0 : Int32) (a1 : Int32) (a2 : Int32) (a3 : Int32) (a4 : Int32) (w : jWd) : Option (Int32 × jWd) :=
  letV (sI w 205 0 (0 : Int32)) (fun (w_1 : jWd) => if ((wI w_1 205 9) + (20 : Int32)) ≤ (400 : Int32) then lX12_feed_28 n a0 a1 a2 a3 a4 (fun (w_12 : jWd) => some ((wI w_12 205 9), w_12)) n (0 : Int32) w_1 else bO2 (fX12_no (-4 : Int32) w_1) (fun (r_15 : Int32) (w_14 : jWd) => some (r_15, w_14)))
-- NobodysBardModel.free(II)I
def fX12_free (a0 : Int32) (a1 : Int32) (w : jWd) : Option (Int32 × jWd) :=
  letV (sI w 205 0 (0 : Int32)) (fun (w_1 : jWd) => letV (bO2 (fX12_no (-3 : Int32) w_1) (fun (r_6 : Int32) (w_5 : jWd) => some (r_6, w_5))) (fun (j30_3 : Option (Int32 × jWd)) => if (fX12_within ((a0).toInt64) (0 : Int64) (9999 : Int64)) = 0 then j30_3 else if (fX12_within ((a1).toInt64) ((a0).toInt64) (9999 : Int64)) = 0 then j30_3 else if (wI w_1 207 970) = (8 : Int32) then bO2 (fX12_no (-4 : Int32) w_1) (fun (r_17 : Int32) (w_16 : jWd) => some (r_17, w_16)) else grd ((971 : Int32) + (wI w_1 207 970)) (ln 207) (letV (sI w_1 207 ((((971 : Int32) + (wI w_1 207 970))).toNatClampNeg) a0) (fun (w_7 : jWd) => grd ((979 : Int32) + (wI w_7 207 970)) (ln 207) (letV (sI w_7 207 ((((979 : Int32) + (wI w_7 207 970))).toNatClampNeg) a1) (fun (w_10 : jWd) => letV (sI w_10 207 970 ((wI w_10 207 970) + (1 : Int32))) (fun (w_13 : jWd) => some ((wI w_13 207 970), w_13))))))))
-- NobodysBardModel.isFree(I)Z
def bX12_isFree_4 (n : Nat) (p1 : Int32) (w : jWd) (rec : Int32 → Int32 → Option Int32) (x2 : Int32) (x3 : Int32)  : Option Int32 :=
  if (wI w 207 970) ≤ x3 then some (x2 &&& 1) else if x2 = 0 then grd ((971 : Int32) + x3) (ln 207) (grd ((979 : Int32) + x3) (ln 207) (if (fX12_within ((p1).toInt64) (((wI w 207 (((971 : Int32) + x3)).toNatClampNeg)).toInt64) (((wI w 207 (((979 : Int32) + x3)).toNatClampNeg)).toInt64)) = 0 then letV (x3 + (1 : Int32)) (fun (x3_5 : Int32) => rec (0 : Int32) x3_5) else letV (x3 + (1 : Int32)) (fun (x3_7 : Int32) => rec (1 : Int32) x3_7))) else letV (x3 + (1 : Int32)) (fun (x3_1 : Int32) => rec (1 : Int32) x3_1)
def lX12_isFree_4 (n : Nat) (p1 : Int32) (w : jWd) : Nat → Int32 → Int32 → Option Int32
  | 0 => fun _ _ => none
  | c + 1 => fun x2 x3 => bX12_isFree_4 n p1 w (lX12_isFree_4 n p1 w c) x2 x3
def fX12_isFree (n : Nat) (a0 : Int32) (w : jWd) : Option Int32 :=
  lX12_isFree_4 n a0 w n (0 : Int32) (0 : Int32)
-- NobodysBardModel.freeUpTo(I)I
def bX12_freeUpTo_4 (n : Nat) (p1 : Int32) (w : jWd) (rec : Int32 → Int32 → Option Int32) (x2 : Int32) (x3 : Int32)  : Option Int32 :=
  if p1 < x3 then some x2 else bO (fX12_isFree n x3 w) (fun (r_2 : Int32) => if r_2 = 0 then letV ((x2 + (0 : Int32))) (fun (x2_3 : Int32) => letV (x3 + (1 : Int32)) (fun (x3_5 : Int32) => rec x2_3 x3_5)) else letV ((x2 + (1 : Int32))) (fun (x2_7 : Int32) => letV (x3 + (1 : Int32)) (fun (x3_9 : Int32) => rec x2_7 x3_9)))
def lX12_freeUpTo_4 (n : Nat) (p1 : Int32) (w : jWd) : Nat → Int32 → Int32 → Option Int32
  | 0 => fun _ _ => none
  | c + 1 => fun x2 x3 => bX12_freeUpTo_4 n p1 w (lX12_freeUpTo_4 n p1 w c) x2 x3
def fX12_freeUpTo (n : Nat) (a0 : Int32) (w : jWd) : Option Int32 :=
  lX12_freeUpTo_4 n a0 w n (0 : Int32) (0 : Int32)
-- NobodysBardModel.glen(II)I
def bX12_glen_41 (n : Nat) (p1 : Int32) (p2 : Int32) (rec : Int32 → Int32 → jWd → Option (Int32 × jWd)) (x3 : Int32) (x4 : Int32) (w : jWd)  : Option (Int32 × jWd) :=
  if (wI w 207 547) ≤ x4 then some (x3, w) else letV (fun (s_7 : Int32) (w_8 : jWd) => grd ((548 : Int32) + x4) (ln 207) (if (wI w_8 207 (((548 : Int32) + x4)).toNatClampNeg) = p1 then if s_7 = 0 then letV ((x3 + (0 : Int32))) (fun (x3_15 : Int32) => letV (x4 + (1 : Int32)) (fun (x4_17 : Int32) => rec x3_15 x4_17 w_8)) else letV ((x3 + (1 : Int32))) (fun (x3_19 : Int32) => letV (x4 + (1 : Int32)) (fun (x4_21 : Int32) => rec x3_19 x4_21 w_8)) else letV ((x3 + (0 : Int32))) (fun (x3_11 : Int32) => letV (x4 + (1 : Int32)) (fun (x4_13 : Int32) => rec x3_11 x4_13 w_8)))) (fun (j117_9 : Int32 → jWd → Option (Int32 × jWd)) => letV (fun (w_23 : jWd) => j117_9 (1 : Int32) w_23) (fun (j112_24 : jWd → Option (Int32 × jWd)) => if p2 = 0 then j112_24 w else letV (letV (letV (fun (w_27 : jWd) => j117_9 (0 : Int32) w_27) (fun (j116_28 : jWd → Option (Int32 × jWd)) => if p2 = (3 : Int32) then bO2 (fX12_isBack n x4 w) (fun (r_31 : Int32) (w_30 : jWd) => if r_31 = 0 then j116_28 w_30 else j112_24 w_30) else j116_28 w)) (fun (j98_26 : Option (Int32 × jWd)) => if p2 = (2 : Int32) then grd ((788 : Int32) + x4) (ln 207) (if (wI w 207 (((788 : Int32) + x4)).toNatClampNeg) = (1 : Int32) then j112_24 w else j98_26) else j98_26)) (fun (j78_25 : Option (Int32 × jWd)) => if p2 = (1 : Int32) then grd ((728 : Int32) + x4) (ln 207) (if (wI w 207 (((728 : Int32) + x4)).toNatClampNeg) = (1 : Int32) then j112_24 w else j78_25) else j78_25)))
def lX12_glen_41 (n : Nat) (p1 : Int32) (p2 : Int32) : Nat → Int32 → Int32 → jWd → Option (Int32 × jWd)
  | 0 => fun _ _ _ => none
  | c + 1 => fun x3 x4 w => bX12_glen_41 n p1 p2 (lX12_glen_41 n p1 p2 c) x3 x4 w
def fX12_glen (n : Nat) (a0 : Int32) (a1 : Int32) (w : jWd) : Option (Int32 × jWd) :=
  letV (sI w 205 0 (0 : Int32)) (fun (w_1 : jWd) => letV (bO2 (fX12_no (-2 : Int32) w_1) (fun (r_6 : Int32) (w_5 : jWd) => some (r_6, w_5))) (fun (j29_3 : Option (Int32 × jWd)) => if (fX12_within ((a0).toInt64) (0 : Int64) (15 : Int64)) = 0 then j29_3 else if (fX12_within ((a1).toInt64) (0 : Int64) (3 : Int64)) = 0 then j29_3 else lX12_glen_41 n a0 a1 n (0 : Int32) (0 : Int32) w_1))
-- NobodysBardModel.image(I)I
def fX12_image (n : Nat) (a0 : Int32) (w : jWd) : Option (Int32 × jWd) :=
  letV (sI w 205 0 (0 : Int32)) (fun (w_1 : jWd) => if (fX12_within ((a0).toInt64) (0 : Int64) (1 : Int64)) = 0 then bO2 (fX12_no (-2 : Int32) w_1) (fun (r_10 : Int32) (w_9 : jWd) => some (r_10, w_9)) else bO (fX12_copies n (0 : Int32) (a0 + (1 : Int32)) w_1) (fun (w_4 : jWd) => grd a0 (ln 209) (letV (sI w_4 209 ((a0).toNatClampNeg) (vp_nar .boolean (1 : Int32))) (fun (w_5 : jWd) => some ((0 : Int32), w_5)))))
-- NobodysBardModel.isAnyEarly()Z
def bX12_isAnyEarly_4 (n : Nat) (w : jWd) (rec : Int32 → Int32 → Option Int32) (x1 : Int32) (x2 : Int32)  : Option Int32 :=
  if (wI w 207 0) ≤ x2 then some (x1 &&& 1) else if x1 = 0 then bO (fX12_isEarly x2 w) (fun (r_4 : Int32) => if r_4 = 0 then letV (x2 + (1 : Int32)) (fun (x2_5 : Int32) => rec (0 : Int32) x2_5) else letV (x2 + (1 : Int32)) (fun (x2_7 : Int32) => rec (1 : Int32) x2_7)) else letV (x2 + (1 : Int32)) (fun (x2_1 : Int32) => rec (1 : Int32) x2_1)
def lX12_isAnyEarly_4 (n : Nat) (w : jWd) : Nat → Int32 → Int32 → Option Int32
  | 0 => fun _ _ => none
  | c + 1 => fun x1 x2 => bX12_isAnyEarly_4 n w (lX12_isAnyEarly_4 n w c) x1 x2
def fX12_isAnyEarly (n : Nat) (w : jWd) : Option Int32 :=
  lX12_isAnyEarly_4 n w n (0 : Int32) (0 : Int32)
-- NobodysBardModel.isLine(III)Z
def fX12_isLine (a0 : Int32) (a1 : Int32) (a2 : Int32) (w : jWd) : Option Int32 :=
  (if a0 = (0 : Int32) then if (fX12_within ((a1).toInt64) (0 : Int64) ((((wI w 207 0) - (1 : Int32))).toInt64)) = 0 then some (0 : Int32) else grd ((121 : Int32) + a1) (ln 207) (if (fX12_within ((a2).toInt64) (0 : Int64) ((((wI w 207 (((121 : Int32) + a1)).toNatClampNeg) - (1 : Int32))).toInt64)) = 0 then some (0 : Int32) else some (1 : Int32)) else if a0 = (1 : Int32) then if (fX12_within ((a1).toInt64) (0 : Int64) ((((wI w 207 223) - (1 : Int32))).toInt64)) = 0 then some (0 : Int32) else grd ((236 : Int32) + a1) (ln 207) (if (fX12_within ((a2).toInt64) (0 : Int64) ((((wI w 207 (((236 : Int32) + a1)).toNatClampNeg) - (1 : Int32))).toInt64)) = 0 then some (0 : Int32) else some (1 : Int32)) else if a0 = (2 : Int32) then some ((fX12_within ((a2).toInt64) (0 : Int64) ((((wI w 207 162) - (1 : Int32))).toInt64)) &&& 1) else if a0 = (3 : Int32) then some ((fX12_within ((a1).toInt64) (0 : Int64) ((((wI w 207 506) - (1 : Int32))).toInt64)) &&& 1) else if a0 = (4 : Int32) then some ((fX12_within ((a1).toInt64) (0 : Int64) ((((wI w 207 506) - (1 : Int32))).toInt64)) &&& 1) else some (0 : Int32))
-- NobodysBardModel.isMuddled(I)Z
def fX12_isMuddled (n : Nat) (a0 : Int32) (w : jWd) : Option (Int32 × jWd) :=
  grd ((724 : Int32) + a0) (ln 208) (letV ((wJ w 208 (((724 : Int32) + a0)).toNatClampNeg)) (fun (x2_2 : Int64) => grd ((788 : Int32) + a0) (ln 207) (if (wI w 207 (((788 : Int32) + a0)).toNatClampNeg) = (1 : Int32) then if (lg_cmp x2_2 (0 : Int64)) = 0 then some ((0 : Int32), w) else bO2 (fX12_mostOfSongs n x2_2 (1 : Int32) w) (fun (r_7 : Int32) (w_6 : jWd) => if r_7 < (wI w_6 207 248) then some ((0 : Int32), w_6) else bO2 (fX12_mostOfPrint n x2_2 w_6) (fun (r_10 : Int32) (w_9 : jWd) => if (wI w_9 207 248) ≤ r_10 then some ((0 : Int32), w_9) else some ((1 : Int32), w_9))) else some ((0 : Int32), w))))
-- NobodysBardModel.late(II)I
def fX12_late (n : Nat) (a0 : Int32) (a1 : Int32) (w : jWd) : Option (Int32 × jWd) :=
  letV (sI w 205 0 (0 : Int32)) (fun (w_1 : jWd) => bO (fX12_isLine (0 : Int32) a0 a1 w_1) (fun (r_4 : Int32) => if r_4 = 0 then bO2 (fX12_no (-2 : Int32) w_1) (fun (r_21 : Int32) (w_20 : jWd) => some (r_21, w_20)) else bO (fX12_isEarly a0 w_1) (fun (r_6 : Int32) => if r_6 = 0 then grd (((12 : Int32) * a0) + a1) (ln 208) (letV ((wJ w_1 208 ((((12 : Int32) * a0) + a1)).toNatClampNeg)) (fun (x3_8 : Int64) => bO2 (fX12_mostOfSongs n x3_8 (1 : Int32) w_1) (fun (r_12 : Int32) (w_11 : jWd) => if r_12 < (wI w_11 207 248) then bO2 (fX12_mostOfPrint n x3_8 w_11) (fun (r_15 : Int32) (w_14 : jWd) => if r_15 < (wI w_14 207 248) then some ((0 : Int32), w_14) else some ((2 : Int32), w_14)) else some ((1 : Int32), w_11)))) else bO2 (fX12_no (-5 : Int32) w_1) (fun (r_18 : Int32) (w_17 : jWd) => some (r_18, w_17)))))
-- NobodysBardModel.like(JJ)I
def fX12_like (n : Nat) (a0 : Int64) (a1 : Int64) (w : jWd) : Option (Int32 × jWd) :=
  letV (sI w 205 0 (0 : Int32)) (fun (w_1 : jWd) => bO (fX12_lengthOf n a0) (fun (r_4 : Int32) => letV (bO2 (fX12_no (-3 : Int32) w_1) (fun (r_8 : Int32) (w_7 : jWd) => some (r_8, w_7))) (fun (j19_5 : Option (Int32 × jWd)) => if r_4 = 0 then j19_5 else bO (fX12_lengthOf n a1) (fun (r_10 : Int32) => if r_10 = 0 then j19_5 else bO2 (fX12_likeOf n a0 a1 w_1) (fun (r_13 : Int32) (w_12 : jWd) => some (r_13, w_12))))))
-- NobodysBardModel.line(IIIJ)I
def fX12_line (n : Nat) (a0 : Int32) (a1 : Int32) (a2 : Int32) (a3 : Int64) (w : jWd) : Option (Int32 × jWd) :=
  letV (sI w 205 0 (0 : Int32)) (fun (w_1 : jWd) => letV (bO2 (fX12_no (-2 : Int32) w_1) (fun (r_6 : Int32) (w_5 : jWd) => some (r_6, w_5))) (fun (j63_3 : Option (Int32 × jWd)) => letV (bO (fX12_lengthOf n a3) (fun (r_9 : Int32) => letV (bO2 (fX12_no (-3 : Int32) w_1) (fun (r_13 : Int32) (w_12 : jWd) => some (r_13, w_12))) (fun (j95_10 : Option (Int32 × jWd)) => if r_9 = 0 then j95_10 else letV (if a0 = (2 : Int32) then if (wI w_1 207 162) = (60 : Int32) then bO2 (fX12_no (-4 : Int32) w_1) (fun (r_46 : Int32) (w_45 : jWd) => some (r_46, w_45)) else grd ((163 : Int32) + (wI w_1 207 162)) (ln 207) (letV (sI w_1 207 ((((163 : Int32) + (wI w_1 207 162))).toNatClampNeg) a2) (fun (w_34 : jWd) => bO (fX12_plain n a3) (fun (r_38 : Int64) => grd ((480 : Int32) + (wI w_34 207 162)) (ln 208) (letV (sJ w_34 208 ((((480 : Int32) + (wI w_34 207 162))).toNatClampNeg) r_38) (fun (w_39 : jWd) => letV (sI w_39 207 162 ((wI w_39 207 162) + (1 : Int32))) (fun (w_42 : jWd) => some (((wI w_42 207 162) - (1 : Int32)), w_42))))))) else letV (fun (s_15 : Int32) => grd s_15 (ln 207) (if (wI w_1 207 (s_15).toNatClampNeg) = (12 : Int32) then bO2 (fX12_no (-4 : Int32) w_1) (fun (r_33 : Int32) (w_32 : jWd) => some (r_33, w_32)) else letV (fun (s_18 : Int32) => grd s_15 (ln 207) (bO (fX12_plain n a3) (fun (r_22 : Int64) => grd ((s_18 + ((12 : Int32) * a1)) + (wI w_1 207 (s_15).toNatClampNeg)) (ln 208) (letV (sJ w_1 208 ((((s_18 + ((12 : Int32) * a1)) + (wI w_1 207 (s_15).toNatClampNeg))).toNatClampNeg) r_22) (fun (w_23 : jWd) => grd s_15 (ln 207) (grd s_15 (ln 207) (letV (sI w_23 207 ((s_15).toNatClampNeg) ((wI w_23 207 (s_15).toNatClampNeg) + (1 : Int32))) (fun (w_27 : jWd) => grd s_15 (ln 207) (some (((wI w_27 207 (s_15).toNatClampNeg) - (1 : Int32)), w_27)))))))))) (fun (j242_19 : Int32 → Option (Int32 × jWd)) => if a0 = 0 then j242_19 (0 : Int32) else j242_19 (540 : Int32)))) (fun (j206_16 : Int32 → Option (Int32 × jWd)) => if a0 = 0 then j206_16 ((121 : Int32) + a1) else j206_16 ((236 : Int32) + a1))) (fun (j102_14 : Option (Int32 × jWd)) => if a0 = (2 : Int32) then if (fX12_within ((a2).toInt64) (0 : Int64) (9 : Int64)) = 0 then j95_10 else j102_14 else j102_14)))) (fun (j70_7 : Option (Int32 × jWd)) => if a0 = 0 then if (fX12_within ((a1).toInt64) (0 : Int64) ((((wI w_1 207 0) - (1 : Int32))).toInt64)) = 0 then j63_3 else j70_7 else if a0 = (1 : Int32) then if (fX12_within ((a1).toInt64) (0 : Int64) ((((wI w_1 207 223) - (1 : Int32))).toInt64)) = 0 then j63_3 else j70_7 else if a0 = (2 : Int32) then j70_7 else j63_3)))
-- NobodysBardModel.matchesOf(II)I
def bX12_matchesOf_24 (n : Nat) (p1 : Int32) (p2 : Int32) (p3 : Int32) (p4 : Int32) (k92 : Int32 → jWd → (Option (Int32 × jWd))) (rec : Int32 → Int32 → jWd → Option (Int32 × jWd)) (x5 : Int32) (x6 : Int32) (w : jWd)  : Option (Int32 × jWd) :=
  grd ((236 : Int32) + p1) (ln 207) (if (wI w 207 (((236 : Int32) + p1)).toNatClampNeg) ≤ x6 then k92 x5 w else if x5 = 0 then grd ((480 : Int32) + p4) (ln 208) (grd (((540 : Int32) + ((12 : Int32) * p1)) + x6) (ln 208) (bO2 (fX12_likeOf n (wJ w 208 (((480 : Int32) + p4)).toNatClampNeg) (wJ w 208 ((((540 : Int32) + ((12 : Int32) * p1)) + x6)).toNatClampNeg) w) (fun (r_6 : Int32) (w_5 : jWd) => if r_6 < p2 then letV (x6 + (1 : Int32)) (fun (x6_7 : Int32) => rec (0 : Int32) x6_7 w_5) else letV (x6 + (1 : Int32)) (fun (x6_9 : Int32) => rec (1 : Int32) x6_9 w_5)))) else k92 x5 w)
def lX12_matchesOf_24 (n : Nat) (p1 : Int32) (p2 : Int32) (p3 : Int32) (p4 : Int32) (k92 : Int32 → jWd → (Option (Int32 × jWd))) : Nat → Int32 → Int32 → jWd → Option (Int32 × jWd)
  | 0 => fun _ _ _ => none
  | c + 1 => fun x5 x6 w => bX12_matchesOf_24 n p1 p2 p3 p4 k92 (lX12_matchesOf_24 n p1 p2 p3 p4 k92 c) x5 x6 w
def bX12_matchesOf_5 (n : Nat) (p1 : Int32) (p2 : Int32) (rec : Int32 → Int32 → jWd → Option (Int32 × jWd)) (x3 : Int32) (x4 : Int32) (w : jWd)  : Option (Int32 × jWd) :=
  if (wI w 207 162) ≤ x4 then some (x3, w) else lX12_matchesOf_24 n p1 p2 x3 x4 (fun (z5_12 : Int32) (w_11 : jWd) => if z5_12 = 0 then letV ((x3 + (0 : Int32))) (fun (x3_13 : Int32) => letV (x4 + (1 : Int32)) (fun (x4_15 : Int32) => rec x3_13 x4_15 w_11)) else letV ((x3 + (1 : Int32))) (fun (x3_17 : Int32) => letV (x4 + (1 : Int32)) (fun (x4_19 : Int32) => rec x3_17 x4_19 w_11))) n (0 : Int32) (0 : Int32) w
def lX12_matchesOf_5 (n : Nat) (p1 : Int32) (p2 : Int32) : Nat → Int32 → Int32 → jWd → Option (Int32 × jWd)
  | 0 => fun _ _ _ => none
  | c + 1 => fun x3 x4 w => bX12_matchesOf_5 n p1 p2 (lX12_matchesOf_5 n p1 p2 c) x3 x4 w
def fX12_matchesOf (n : Nat) (a0 : Int32) (a1 : Int32) (w : jWd) : Option (Int32 × jWd) :=
  lX12_matchesOf_5 n a0 a1 n (0 : Int32) (0 : Int32) w
-- NobodysBardModel.matches(II)I
def fX12_matches (n : Nat) (a0 : Int32) (a1 : Int32) (w : jWd) : Option (Int32 × jWd) :=
  letV (sI w 205 0 (0 : Int32)) (fun (w_1 : jWd) => if (fX12_within ((a0).toInt64) (0 : Int64) ((((wI w_1 207 223) - (1 : Int32))).toInt64)) = 0 then bO2 (fX12_no (-2 : Int32) w_1) (fun (r_11 : Int32) (w_10 : jWd) => some (r_11, w_10)) else if (fX12_within ((a1).toInt64) (1 : Int64) (100 : Int64)) = 0 then bO2 (fX12_no (-3 : Int32) w_1) (fun (r_8 : Int32) (w_7 : jWd) => some (r_8, w_7)) else bO2 (fX12_matchesOf n a0 a1 w_1) (fun (r_5 : Int32) (w_4 : jWd) => some (r_5, w_4)))
-- NobodysBardModel.minister(I)I
def bX12_minister_70 (n : Nat) (p1 : Int32) (p2 : Int32) (k147 : (Option (Int32 × jWd))) (k134 : (Option (Int32 × jWd))) (w : jWd) (rec : Int32 → Option (Int32 × jWd)) (x3 : Int32)  : Option (Int32 × jWd) :=
  if p2 ≤ x3 then k147 else letV ((((60 : Int32) * p1) + ((5 : Int32) * x3))) (fun (x4_8 : Int32) => grd x4_8 (ln 223) (grd (x4_8 + (1 : Int32)) (ln 223) (grd (x4_8 + (2 : Int32)) (ln 223) (grd (x4_8 + (3 : Int32)) (ln 223) (grd (x4_8 + (4 : Int32)) (ln 223) (if (fX12_isAnswer (wJ w 223 (x4_8).toNatClampNeg) (wJ w 223 ((x4_8 + (1 : Int32))).toNatClampNeg) (wJ w 223 ((x4_8 + (2 : Int32))).toNatClampNeg) (wJ w 223 ((x4_8 + (3 : Int32))).toNatClampNeg) (wJ w 223 ((x4_8 + (4 : Int32))).toNatClampNeg)) = 0 then k134 else letV (x3 + (1 : Int32)) (fun (x3_15 : Int32) => rec x3_15)))))))
def lX12_minister_70 (n : Nat) (p1 : Int32) (p2 : Int32) (k147 : (Option (Int32 × jWd))) (k134 : (Option (Int32 × jWd))) (w : jWd) : Nat → Int32 → Option (Int32 × jWd)
  | 0 => fun _ => none
  | c + 1 => fun x3 => bX12_minister_70 n p1 p2 k147 k134 w (lX12_minister_70 n p1 p2 k147 k134 w c) x3
def bX12_minister_171 (n : Nat) (p1 : Int32) (p2 : Int32) (rec : Int32 → jWd → Option (Int32 × jWd)) (x3 : Int32) (w : jWd)  : Option (Int32 × jWd) :=
  if p2 ≤ x3 then some (p2, w) else letV ((((60 : Int32) * p1) + ((5 : Int32) * x3))) (fun (x4_17 : Int32) => grd x4_17 (ln 223) (grd (x4_17 + (1 : Int32)) (ln 223) (grd (x4_17 + (2 : Int32)) (ln 223) (grd (x4_17 + (3 : Int32)) (ln 223) (grd (x4_17 + (4 : Int32)) (ln 223) (bO (fX12_answers n (((wJ w 223 (x4_17).toNatClampNeg)).toInt32) (((wJ w 223 ((x4_17 + (1 : Int32))).toNatClampNeg)).toInt32) (((wJ w 223 ((x4_17 + (2 : Int32))).toNatClampNeg)).toInt32) (((wJ w 223 ((x4_17 + (3 : Int32))).toNatClampNeg)).toInt32) (((wJ w 223 ((x4_17 + (4 : Int32))).toNatClampNeg)).toInt32) (0 : Int64) w) (fun (w_25 : jWd) => letV (x3 + (1 : Int32)) (fun (x3_26 : Int32) => rec x3_26 w_25))))))))
def lX12_minister_171 (n : Nat) (p1 : Int32) (p2 : Int32) : Nat → Int32 → jWd → Option (Int32 × jWd)
  | 0 => fun _ _ => none
  | c + 1 => fun x3 w => bX12_minister_171 n p1 p2 (lX12_minister_171 n p1 p2 c) x3 w
def fX12_minister (n : Nat) (a0 : Int32) (w : jWd) : Option (Int32 × jWd) :=
  letV (sI w 205 0 (0 : Int32)) (fun (w_1 : jWd) => if (fX12_within ((a0).toInt64) (0 : Int64) (3 : Int64)) = 0 then bO2 (fX12_no (-2 : Int32) w_1) (fun (r_42 : Int32) (w_41 : jWd) => some (r_42, w_41)) else grd a0 (ln 221) (if (wI w_1 221 (a0).toNatClampNeg) = (-1 : Int32) then bO2 (fX12_no (-6 : Int32) w_1) (fun (r_39 : Int32) (w_38 : jWd) => some (r_39, w_38)) else grd a0 (ln 222) (if (i_rem (wI w_1 222 (a0).toNatClampNeg) (5 : Int32)) = 0 then grd a0 (ln 222) (letV (((wI w_1 222 (a0).toNatClampNeg) / (5 : Int32))) (fun (x2_6 : Int32) => lX12_minister_70 n a0 x2_6 (if ((wI w_1 207 547) + x2_6) ≤ (60 : Int32) then lX12_minister_171 n a0 x2_6 n (0 : Int32) w_1 else bO2 (fX12_no (-4 : Int32) w_1) (fun (r_30 : Int32) (w_29 : jWd) => some (r_30, w_29))) (bO2 (fX12_no (-3 : Int32) w_1) (fun (r_33 : Int32) (w_32 : jWd) => some (r_33, w_32))) w_1 n (0 : Int32))) else bO2 (fX12_no (-7 : Int32) w_1) (fun (r_36 : Int32) (w_35 : jWd) => some (r_36, w_35)))))
-- NobodysBardModel.pagesIn(II)I
def bX12_pagesIn_5 (n : Nat) (p1 : Int32) (p2 : Int32) (w : jWd) (rec : Int32 → Int32 → Option Int32) (x3 : Int32) (x4 : Int32)  : Option Int32 :=
  if (wI w 207 889) ≤ x4 then some x3 else grd ((890 : Int32) + x4) (ln 207) (if (fX12_within (((wI w 207 (((890 : Int32) + x4)).toNatClampNeg)).toInt64) ((p1).toInt64) ((p2).toInt64)) = 0 then letV ((x3 + (0 : Int32))) (fun (x3_2 : Int32) => letV (x4 + (1 : Int32)) (fun (x4_4 : Int32) => rec x3_2 x4_4)) else grd ((930 : Int32) + x4) (ln 207) (letV ((x3 + (wI w 207 (((930 : Int32) + x4)).toNatClampNeg))) (fun (x3_7 : Int32) => letV (x4 + (1 : Int32)) (fun (x4_9 : Int32) => rec x3_7 x4_9))))
def lX12_pagesIn_5 (n : Nat) (p1 : Int32) (p2 : Int32) (w : jWd) : Nat → Int32 → Int32 → Option Int32
  | 0 => fun _ _ => none
  | c + 1 => fun x3 x4 => bX12_pagesIn_5 n p1 p2 w (lX12_pagesIn_5 n p1 p2 w c) x3 x4
def fX12_pagesIn (n : Nat) (a0 : Int32) (a1 : Int32) (w : jWd) : Option Int32 :=
  lX12_pagesIn_5 n a0 a1 w n (0 : Int32) (0 : Int32)
-- NobodysBardModel.more(II)I
def bX12_more_50 (n : Nat) (p1 : Int32) (p2 : Int32) (w : jWd) (rec : Int32 → Int32 → Option (Int32 × jWd)) (x3 : Int32) (x4 : Int32)  : Option (Int32 × jWd) :=
  if (wI w 207 848) ≤ x4 then some (x3, w) else grd ((849 : Int32) + x4) (ln 207) (letV ((wI w 207 (((849 : Int32) + x4)).toNatClampNeg)) (fun (x5_5 : Int32) => if p1 = (1 : Int32) then grd ((869 : Int32) + x4) (ln 207) (letV ((x3 + (wI w 207 (((869 : Int32) + x4)).toNatClampNeg))) (fun (x3_16 : Int32) => letV (x4 + (1 : Int32)) (fun (x4_18 : Int32) => rec x3_16 x4_18))) else bO (fX12_pagesIn n (x5_5 + (1 : Int32)) (x5_5 + p2) w) (fun (r_8 : Int32) => bO (fX12_pagesIn n (x5_5 - p2) (x5_5 - (1 : Int32)) w) (fun (r_10 : Int32) => letV ((x3 + (r_8 - r_10))) (fun (x3_11 : Int32) => letV (x4 + (1 : Int32)) (fun (x4_13 : Int32) => rec x3_11 x4_13))))))
def lX12_more_50 (n : Nat) (p1 : Int32) (p2 : Int32) (w : jWd) : Nat → Int32 → Int32 → Option (Int32 × jWd)
  | 0 => fun _ _ => none
  | c + 1 => fun x3 x4 => bX12_more_50 n p1 p2 w (lX12_more_50 n p1 p2 w c) x3 x4
def fX12_more (n : Nat) (a0 : Int32) (a1 : Int32) (w : jWd) : Option (Int32 × jWd) :=
  letV (sI w 205 0 (0 : Int32)) (fun (w_1 : jWd) => if (fX12_within ((a0).toInt64) (0 : Int64) (1 : Int64)) = 0 then bO2 (fX12_no (-2 : Int32) w_1) (fun (r_25 : Int32) (w_24 : jWd) => some (r_25, w_24)) else letV (lX12_more_50 n a0 a1 w_1 n (0 : Int32) (0 : Int32)) (fun (j45_3 : Option (Int32 × jWd)) => if a0 = 0 then if (fX12_within ((a1).toInt64) (1 : Int64) (999 : Int64)) = 0 then bO2 (fX12_no (-3 : Int32) w_1) (fun (r_22 : Int32) (w_21 : jWd) => some (r_22, w_21)) else j45_3 else j45_3))
-- NobodysBardModel.most(II)I
def bX12_most_72 (n : Nat) (p1 : Int32) (p2 : Int32) (k124 : Int32 → Int32 → Int32 → jWd → (Option (Int32 × jWd))) (rec : Int32 → Int32 → Int32 → Int32 → jWd → Option (Int32 × jWd)) (x3 : Int32) (x4 : Int32) (x5 : Int32) (x6 : Int32) (w : jWd)  : Option (Int32 × jWd) :=
  if (wI w 207 223) ≤ x6 then k124 x3 x4 x5 w else bO2 (fX12_matchesOf n x6 p1 w) (fun (r_5 : Int32) (w_4 : jWd) => letV ((x5 + r_5)) (fun (x5_6 : Int32) => if x4 < r_5 then letV (x6 + (1 : Int32)) (fun (x6_8 : Int32) => rec x6 r_5 x5_6 x6_8 w_4) else letV (x6 + (1 : Int32)) (fun (x6_10 : Int32) => rec x3 x4 x5_6 x6_10 w_4)))
def lX12_most_72 (n : Nat) (p1 : Int32) (p2 : Int32) (k124 : Int32 → Int32 → Int32 → jWd → (Option (Int32 × jWd))) : Nat → Int32 → Int32 → Int32 → Int32 → jWd → Option (Int32 × jWd)
  | 0 => fun _ _ _ _ _ => none
  | c + 1 => fun x3 x4 x5 x6 w => bX12_most_72 n p1 p2 k124 (lX12_most_72 n p1 p2 k124 c) x3 x4 x5 x6 w
def fX12_most (n : Nat) (a0 : Int32) (a1 : Int32) (w : jWd) : Option (Int32 × jWd) :=
  letV (sI w 205 0 (0 : Int32)) (fun (w_1 : jWd) => if (fX12_within ((a1).toInt64) (0 : Int64) (2 : Int64)) = 0 then bO2 (fX12_no (-2 : Int32) w_1) (fun (r_26 : Int32) (w_25 : jWd) => some (r_26, w_25)) else if (fX12_within ((a0).toInt64) (1 : Int64) (100 : Int64)) = 0 then bO2 (fX12_no (-3 : Int32) w_1) (fun (r_23 : Int32) (w_22 : jWd) => some (r_23, w_22)) else if (wI w_1 207 223) = 0 then bO2 (fX12_no (-5 : Int32) w_1) (fun (r_20 : Int32) (w_19 : jWd) => some (r_20, w_19)) else lX12_most_72 n a0 a1 (fun (z3_13 : Int32) (z4_14 : Int32) (z5_15 : Int32) (w_12 : jWd) => if a1 = (2 : Int32) then some (z3_13, w_12) else bO (fX12_part n (((z4_14 * (wI w_12 207 223))).toInt64) ((z5_15).toInt64) a1) (fun (r_17 : Int64) => some (((r_17).toInt32), w_12))) n (0 : Int32) (0 : Int32) (0 : Int32) (0 : Int32) w_1)
-- NobodysBardModel.muddled(I)I
def bX12_muddled_9 (n : Nat) (p1 : Int32) (k48 : Int32 → jWd → (Option (Int32 × jWd))) (rec : Int32 → Int32 → jWd → Option (Int32 × jWd)) (x2 : Int32) (x3 : Int32) (w : jWd)  : Option (Int32 × jWd) :=
  if (wI w 207 547) ≤ x3 then k48 x2 w else bO2 (fX12_isMuddled n x3 w) (fun (r_5 : Int32) (w_4 : jWd) => if r_5 = 0 then letV (x3 + (1 : Int32)) (fun (x3_10 : Int32) => rec x2 x3_10 w_4) else if x2 = p1 then some (x3, w_4) else letV (x2 + (1 : Int32)) (fun (x2_6 : Int32) => letV (x3 + (1 : Int32)) (fun (x3_8 : Int32) => rec x2_6 x3_8 w_4)))
def lX12_muddled_9 (n : Nat) (p1 : Int32) (k48 : Int32 → jWd → (Option (Int32 × jWd))) : Nat → Int32 → Int32 → jWd → Option (Int32 × jWd)
  | 0 => fun _ _ _ => none
  | c + 1 => fun x2 x3 w => bX12_muddled_9 n p1 k48 (lX12_muddled_9 n p1 k48 c) x2 x3 w
def fX12_muddled (n : Nat) (a0 : Int32) (w : jWd) : Option (Int32 × jWd) :=
  letV (sI w 205 0 (0 : Int32)) (fun (w_1 : jWd) => lX12_muddled_9 n a0 (fun (z2_13 : Int32) (w_12 : jWd) => if a0 = (-1 : Int32) then some (z2_13, w_12) else some ((-1 : Int32), w_12)) n (0 : Int32) (0 : Int32) w_1)
-- NobodysBardModel.odds(II)J
def fX12_odds (n : Nat) (a0 : Int32) (a1 : Int32) (w : jWd) : Option (Int64 × jWd) :=
  letV (sI w 205 0 (0 : Int32)) (fun (w_1 : jWd) => if (fX12_within ((a1).toInt64) (0 : Int64) (1 : Int64)) = 0 then bO2 (fX12_no (-2 : Int32) w_1) (fun (r_18 : Int32) (w_17 : jWd) => some (((r_18).toInt64), w_17)) else if (fX12_within ((a0).toInt64) (1 : Int64) (100 : Int64)) = 0 then bO2 (fX12_no (-3 : Int32) w_1) (fun (r_15 : Int32) (w_14 : jWd) => some (((r_15).toInt64), w_14)) else bO (fX12_meets n a0 (1 : Int32) w_1) (fun (w_4 : jWd) => letV ((((wI w_4 205 33)).toInt64)) (fun (x3_5 : Int64) => letV ((((wI w_4 205 32)).toInt64)) (fun (x5_7 : Int64) => bO (fX12_meets n a0 (0 : Int32) w_4) (fun (w_10 : jWd) => bO (fX12_part n ((((wI w_10 205 33)).toInt64) * x5_7) ((((wI w_10 205 32)).toInt64) * x3_5) a1) (fun (r_12 : Int64) => some (r_12, w_10)))))))
-- NobodysBardModel.opens(III)I
def fX12_opens (a0 : Int32) (a1 : Int32) (a2 : Int32) (w : jWd) : Option (Int32 × jWd) :=
  letV ((wI w 207 0)) (fun (x4_1 : Int32) => grd ((1 : Int32) + x4_1) (ln 207) (letV (sI w 207 ((((1 : Int32) + x4_1)).toNatClampNeg) a0) (fun (w_3 : jWd) => grd ((41 : Int32) + x4_1) (ln 207) (letV (sI w_3 207 ((((41 : Int32) + x4_1)).toNatClampNeg) a1) (fun (w_6 : jWd) => grd ((81 : Int32) + x4_1) (ln 207) (letV (sI w_6 207 ((((81 : Int32) + x4_1)).toNatClampNeg) a2) (fun (w_9 : jWd) => grd ((121 : Int32) + x4_1) (ln 207) (letV (sI w_9 207 ((((121 : Int32) + x4_1)).toNatClampNeg) (0 : Int32)) (fun (w_12 : jWd) => letV (sI w_12 207 0 ((wI w_12 207 0) + (1 : Int32))) (fun (w_15 : jWd) => some (x4_1, w_15)))))))))))
-- NobodysBardModel.open(IIII)I
def fX12_open (a0 : Int32) (a1 : Int32) (a2 : Int32) (a3 : Int32) (w : jWd) : Option (Int32 × jWd) :=
  letV (sI w 205 0 (0 : Int32)) (fun (w_1 : jWd) => if (fX12_within ((a0).toInt64) (0 : Int64) (1 : Int64)) = 0 then bO2 (fX12_no (-2 : Int32) w_1) (fun (r_26 : Int32) (w_25 : jWd) => some (r_26, w_25)) else letV (bO2 (fX12_no (-3 : Int32) w_1) (fun (r_6 : Int32) (w_5 : jWd) => some (r_6, w_5))) (fun (j78_3 : Option (Int32 × jWd)) => letV (letV (bO2 (fX12_no (-4 : Int32) w_1) (fun (r_11 : Int32) (w_10 : jWd) => some (r_11, w_10))) (fun (j116_8 : Option (Int32 × jWd)) => letV (if a0 = (1 : Int32) then grd ((224 : Int32) + (wI w_1 207 223)) (ln 207) (letV (sI w_1 207 ((((224 : Int32) + (wI w_1 207 223))).toNatClampNeg) a1) (fun (w_16 : jWd) => grd ((236 : Int32) + (wI w_16 207 223)) (ln 207) (letV (sI w_16 207 ((((236 : Int32) + (wI w_16 207 223))).toNatClampNeg) (0 : Int32)) (fun (w_19 : jWd) => letV (sI w_19 207 223 ((wI w_19 207 223) + (1 : Int32))) (fun (w_22 : jWd) => some (((wI w_22 207 223) - (1 : Int32)), w_22)))))) else bO2 (fX12_opens a1 a2 a3 w_1) (fun (r_15 : Int32) (w_14 : jWd) => some (r_15, w_14))) (fun (j123_12 : Option (Int32 × jWd)) => if a0 = 0 then if (wI w_1 207 0) = (40 : Int32) then j116_8 else j123_12 else if (wI w_1 207 223) = (12 : Int32) then j116_8 else j123_12))) (fun (j85_7 : Option (Int32 × jWd)) => if a0 = 0 then if (fX12_within ((a1).toInt64) (0 : Int64) (9 : Int64)) = 0 then j78_3 else if (fX12_within ((a2).toInt64) (0 : Int64) (15 : Int64)) = 0 then j78_3 else if (fX12_within ((a3).toInt64) (0 : Int64) (9999 : Int64)) = 0 then j78_3 else j85_7 else if (fX12_within ((a1).toInt64) (0 : Int64) (5 : Int64)) = 0 then j78_3 else j85_7)))
-- NobodysBardModel.pages(II)I
def fX12_pages (a0 : Int32) (a1 : Int32) (w : jWd) : Option (Int32 × jWd) :=
  letV (sI w 205 0 (0 : Int32)) (fun (w_1 : jWd) => letV (bO2 (fX12_no (-3 : Int32) w_1) (fun (r_6 : Int32) (w_5 : jWd) => some (r_6, w_5))) (fun (j29_3 : Option (Int32 × jWd)) => if (fX12_within ((a0).toInt64) (0 : Int64) (9999 : Int64)) = 0 then j29_3 else if (fX12_within ((a1).toInt64) (1 : Int64) (99 : Int64)) = 0 then j29_3 else if (wI w_1 207 889) = (40 : Int32) then bO2 (fX12_no (-4 : Int32) w_1) (fun (r_17 : Int32) (w_16 : jWd) => some (r_17, w_16)) else grd ((890 : Int32) + (wI w_1 207 889)) (ln 207) (letV (sI w_1 207 ((((890 : Int32) + (wI w_1 207 889))).toNatClampNeg) a0) (fun (w_7 : jWd) => grd ((930 : Int32) + (wI w_7 207 889)) (ln 207) (letV (sI w_7 207 ((((930 : Int32) + (wI w_7 207 889))).toNatClampNeg) a1) (fun (w_10 : jWd) => letV (sI w_10 207 889 ((wI w_10 207 889) + (1 : Int32))) (fun (w_13 : jWd) => some ((wI w_13 207 889), w_13))))))))
-- NobodysBardModel.paid(II)I
def fX12_paid (a0 : Int32) (a1 : Int32) (w : jWd) : Option (Int32 × jWd) :=
  letV (sI w 205 0 (0 : Int32)) (fun (w_1 : jWd) => letV (bO2 (fX12_no (-3 : Int32) w_1) (fun (r_6 : Int32) (w_5 : jWd) => some (r_6, w_5))) (fun (j29_3 : Option (Int32 × jWd)) => if (fX12_within ((a0).toInt64) (0 : Int64) (9999 : Int64)) = 0 then j29_3 else if (fX12_within ((a1).toInt64) (1 : Int64) (999 : Int64)) = 0 then j29_3 else if (wI w_1 207 848) = (20 : Int32) then bO2 (fX12_no (-4 : Int32) w_1) (fun (r_17 : Int32) (w_16 : jWd) => some (r_17, w_16)) else grd ((849 : Int32) + (wI w_1 207 848)) (ln 207) (letV (sI w_1 207 ((((849 : Int32) + (wI w_1 207 848))).toNatClampNeg) a0) (fun (w_7 : jWd) => grd ((869 : Int32) + (wI w_7 207 848)) (ln 207) (letV (sI w_7 207 ((((869 : Int32) + (wI w_7 207 848))).toNatClampNeg) a1) (fun (w_10 : jWd) => letV (sI w_10 207 848 ((wI w_10 207 848) + (1 : Int32))) (fun (w_13 : jWd) => some ((wI w_13 207 848), w_13))))))))
-- NobodysBardModel.parted(IZ)I
def bX12_parted_27 (n : Nat) (p1 : Int32) (p2 : Int32) (rec : Int32 → Int32 → jWd → Option (Int32 × jWd)) (x3 : Int32) (x4 : Int32) (w : jWd)  : Option (Int32 × jWd) :=
  if (wI w 207 547) ≤ x4 then some (x3, w) else letV (fun (s_3 : Int32) => grd (s_3 + x4) (ln 207) (letV ((wI w 207 ((s_3 + x4)).toNatClampNeg)) (fun (x5_6 : Int32) => letV (fun (s_8 : Int32) => if x5_6 = s_8 then bO2 (fX12_isBack n x4 w) (fun (r_14 : Int32) (w_13 : jWd) => if r_14 = 0 then grd ((668 : Int32) + x4) (ln 207) (letV ((x3 + ((10 : Int32) - (wI w_13 207 (((668 : Int32) + x4)).toNatClampNeg)))) (fun (x3_18 : Int32) => letV (x4 + (1 : Int32)) (fun (x4_20 : Int32) => rec x3_18 x4_20 w_13))) else letV (x4 + (1 : Int32)) (fun (x4_15 : Int32) => rec x3 x4_15 w_13)) else letV (x4 + (1 : Int32)) (fun (x4_10 : Int32) => rec x3 x4_10 w)) (fun (j74_9 : Int32 → Option (Int32 × jWd)) => if p2 = 0 then j74_9 (0 : Int32) else j74_9 (1 : Int32))))) (fun (j57_4 : Int32 → Option (Int32 × jWd)) => if p1 = 0 then j57_4 (728 : Int32) else j57_4 (788 : Int32))
def lX12_parted_27 (n : Nat) (p1 : Int32) (p2 : Int32) : Nat → Int32 → Int32 → jWd → Option (Int32 × jWd)
  | 0 => fun _ _ _ => none
  | c + 1 => fun x3 x4 w => bX12_parted_27 n p1 p2 (lX12_parted_27 n p1 p2 c) x3 x4 w
def fX12_parted (n : Nat) (a0 : Int32) (a1 : Int32) (w : jWd) : Option (Int32 × jWd) :=
  letV (sI w 205 0 (0 : Int32)) (fun (w_1 : jWd) => if (fX12_within ((a0).toInt64) (0 : Int64) (1 : Int64)) = 0 then bO2 (fX12_no (-2 : Int32) w_1) (fun (r_24 : Int32) (w_23 : jWd) => some (r_24, w_23)) else lX12_parted_27 n a0 a1 n (0 : Int32) (0 : Int32) w_1)
-- NobodysBardModel.print(I)I
def fX12_print (a0 : Int32) (w : jWd) : Option (Int32 × jWd) :=
  letV (sI w 205 0 (0 : Int32)) (fun (w_1 : jWd) => if (fX12_within ((a0).toInt64) (0 : Int64) (9999 : Int64)) = 0 then bO2 (fX12_no (-3 : Int32) w_1) (fun (r_9 : Int32) (w_8 : jWd) => some (r_9, w_8)) else letV ((wI w_1 207 161)) (fun (x2_3 : Int32) => letV (sI w_1 207 161 a0) (fun (w_5 : jWd) => some (x2_3, w_5))))
-- NobodysBardModel.rate()I
def bX12_rate_27 (n : Nat) (k106 : Int32 → (Option (Int32 × jWd))) (w : jWd) (rec : Int32 → Int32 → Option (Int32 × jWd)) (x1 : Int32) (x2 : Int32)  : Option (Int32 × jWd) :=
  if (wI w 207 889) ≤ x2 then k106 x1 else grd ((890 : Int32) + x2) (ln 207) (bO (fX12_freeUpTo n (wI w 207 (((890 : Int32) + x2)).toNatClampNeg) w) (fun (r_5 : Int32) => grd ((890 : Int32) + x2) (ln 207) (bO (fX12_pagesIn n (0 : Int32) (wI w 207 (((890 : Int32) + x2)).toNatClampNeg) w) (fun (r_8 : Int32) => if r_5 = 0 then some ((-1 : Int32), w) else grzi r_5 (letV ((((r_8 + r_5) - (1 : Int32)) / r_5)) (fun (x5_10 : Int32) => if x5_10 ≤ x1 then letV (x2 + (1 : Int32)) (fun (x2_12 : Int32) => rec x1 x2_12) else letV (x2 + (1 : Int32)) (fun (x2_14 : Int32) => rec x5_10 x2_14)))))))
def lX12_rate_27 (n : Nat) (k106 : Int32 → (Option (Int32 × jWd))) (w : jWd) : Nat → Int32 → Int32 → Option (Int32 × jWd)
  | 0 => fun _ _ => none
  | c + 1 => fun x1 x2 => bX12_rate_27 n k106 w (lX12_rate_27 n k106 w c) x1 x2
def fX12_rate (n : Nat) (w : jWd) : Option (Int32 × jWd) :=
  letV (sI w 205 0 (0 : Int32)) (fun (w_1 : jWd) => if (wI w_1 207 889) = 0 then bO2 (fX12_no (-5 : Int32) w_1) (fun (r_19 : Int32) (w_18 : jWd) => some (r_19, w_18)) else lX12_rate_27 n (fun (z1_16 : Int32) => if z1_16 ≤ (99 : Int32) then some (z1_16, w_1) else some ((-1 : Int32), w_1)) w_1 n (1 : Int32) (0 : Int32))
-- NobodysBardModel.side(IZ)I
def bX12_side_5 (n : Nat) (p1 : Int32) (p2 : Int32) (rec : Int32 → Int32 → jWd → Option (Int32 × jWd)) (x3 : Int32) (x4 : Int32) (w : jWd)  : Option (Int32 × jWd) :=
  if x4 = 0 then some (x3, w) else letV (fun (s_1 : Int32) => bO2 (fX12_reads n (1 : Int32) (255 : Int32) s_1 w) (fun (r_5 : Int32) (w_4 : jWd) => letV (fun (w_6 : jWd) => letV (x3 + (1 : Int32)) (fun (x3_8 : Int32) => letV ((fX12_is (14 : Int32) w_6)) (fun (x4_10 : Int32) => rec x3_8 x4_10 w_6))) (fun (j55_7 : jWd → Option (Int32 × jWd)) => if (wI w_4 205 15) = 0 then grd (p1 + x3) (ln 211) (letV (sI w_4 211 (((p1 + x3)).toNatClampNeg) r_5) (fun (w_12 : jWd) => j55_7 w_12)) else j55_7 w_4))) (fun (j33_2 : Int32 → Option (Int32 × jWd)) => if x3 = 0 then j33_2 p2 else if x3 = (4 : Int32) then j33_2 (1 : Int32) else j33_2 (0 : Int32))
def lX12_side_5 (n : Nat) (p1 : Int32) (p2 : Int32) : Nat → Int32 → Int32 → jWd → Option (Int32 × jWd)
  | 0 => fun _ _ _ => none
  | c + 1 => fun x3 x4 w => bX12_side_5 n p1 p2 (lX12_side_5 n p1 p2 c) x3 x4 w
def fX12_side (n : Nat) (a0 : Int32) (a1 : Int32) (w : jWd) : Option (Int32 × jWd) :=
  lX12_side_5 n a0 a1 n (0 : Int32) (1 : Int32) w
-- NobodysBardModel.readRule()V
def fX12_readRule (n : Nat) (w : jWd) : Option jWd :=
  letV ((wI w 211 1935)) (fun (x2_1 : Int32) => letV (fun (s_3 : Int32) => letV (fun (s_5 : Int32) => bO2 (fX12_side n (((1935 : Int32) + (1 : Int32)) + ((4 : Int32) * s_5)) s_3 w) (fun (r_9 : Int32) (w_8 : jWd) => bO (fX12_needs n (0 : Int32) w_8) (fun (w_11 : jWd) => letV (fun (s_12 : Int32) (w_13 : jWd) => if (wI w_13 205 15) = 0 then grd (((1935 : Int32) + (97 : Int32)) + x2_1) (ln 211) (letV (sI w_13 211 (((((1935 : Int32) + (97 : Int32)) + x2_1)).toNatClampNeg) r_9) (fun (w_15 : jWd) => grd (((1935 : Int32) + (109 : Int32)) + x2_1) (ln 211) (letV (sI w_15 211 (((((1935 : Int32) + (109 : Int32)) + x2_1)).toNatClampNeg) s_12) (fun (w_18 : jWd) => grd (((1935 : Int32) + (121 : Int32)) + x2_1) (ln 211) (letV (sI w_18 211 (((((1935 : Int32) + (121 : Int32)) + x2_1)).toNatClampNeg) (wI w_18 205 18)) (fun (w_21 : jWd) => bO2 (fX12_eats n (1 : Int32) w_21) (fun (r_26 : Int32) (w_25 : jWd) => letV (fun (w_27 : jWd) => grd (((1935 : Int32) + (133 : Int32)) + x2_1) (ln 211) (letV (sI w_27 211 (((((1935 : Int32) + (133 : Int32)) + x2_1)).toNatClampNeg) (wI w_27 205 18)) (fun (w_29 : jWd) => bO (fX12_needs n (15 : Int32) w_29) (fun (w_33 : jWd) => letV (sI w_33 211 1935 ((wI w_33 211 1935) + (1 : Int32))) (fun (w_34 : jWd) => some w_34))))) (fun (j137_28 : jWd → Option jWd) => if r_26 = 0 then j137_28 w_25 else bO (fX12_test n w_25) (fun (w_37 : jWd) => j137_28 w_37))))))))) else some w_13) (fun (j74_14 : Int32 → jWd → Option jWd) => if (wI w_11 205 15) = 0 then bO2 (fX12_side n (((1935 : Int32) + (49 : Int32)) + ((4 : Int32) * x2_1)) (0 : Int32) w_11) (fun (r_40 : Int32) (w_39 : jWd) => j74_14 r_40 w_39) else j74_14 (0 : Int32) w_11)))) (fun (j37_6 : Int32 → Option jWd) => if s_3 = 0 then j37_6 x2_1 else j37_6 (0 : Int32))) (fun (j22_4 : Int32 → Option jWd) => if x2_1 = (12 : Int32) then j22_4 (1 : Int32) else j22_4 (0 : Int32)))
-- NobodysBardModel.readWay()V
def fX12_readWay (n : Nat) (w : jWd) : Option jWd :=
  letV (fun (w_1 : jWd) => letV (fun (w_3 : jWd) => if (wI w_3 205 15) = 0 then letV ((wI w_3 205 13)) (fun (x2_5 : Int32) => bO (fX12_next n w_3) (fun (w_8 : jWd) => letV (fun (w_9 : jWd) => bO (fX12_needs n (15 : Int32) w_9) (fun (w_12 : jWd) => letV (sI w_12 212 87 ((wI w_12 212 87) + (1 : Int32))) (fun (w_13 : jWd) => some w_13))) (fun (j189_10 : jWd → Option jWd) => if x2_5 = (11 : Int32) then bO2 (fX12_reads n (1 : Int32) (255 : Int32) (0 : Int32) w_8) (fun (r_25 : Int32) (w_24 : jWd) => bO (fX12_needs n (12 : Int32) w_24) (fun (w_27 : jWd) => bO2 (fX12_reads n (1 : Int32) (255 : Int32) (0 : Int32) w_27) (fun (r_30 : Int32) (w_29 : jWd) => grd ((87 : Int32) + (4 : Int32)) (ln 212) (grd (((87 : Int32) + (5 : Int32)) + (wI w_29 212 (((87 : Int32) + (4 : Int32))).toNatClampNeg)) (ln 212) (letV (sI w_29 212 (((((87 : Int32) + (5 : Int32)) + (wI w_29 212 (((87 : Int32) + (4 : Int32))).toNatClampNeg))).toNatClampNeg) r_25) (fun (w_32 : jWd) => grd ((87 : Int32) + (4 : Int32)) (ln 212) (grd (((87 : Int32) + (17 : Int32)) + (wI w_32 212 (((87 : Int32) + (4 : Int32))).toNatClampNeg)) (ln 212) (letV (sI w_32 212 (((((87 : Int32) + (17 : Int32)) + (wI w_32 212 (((87 : Int32) + (4 : Int32))).toNatClampNeg))).toNatClampNeg) r_30) (fun (w_36 : jWd) => grd ((87 : Int32) + (4 : Int32)) (ln 212) (grd ((87 : Int32) + (4 : Int32)) (ln 212) (letV (sI w_36 212 ((((87 : Int32) + (4 : Int32))).toNatClampNeg) ((wI w_36 212 (((87 : Int32) + (4 : Int32))).toNatClampNeg) + (1 : Int32))) (fun (w_40 : jWd) => j189_10 w_40)))))))))))) else bO2 (fX12_reads n (0 : Int32) (99 : Int32) (0 : Int32) w_8) (fun (r_17 : Int32) (w_16 : jWd) => letV (fun (s_18 : Int32) => grd ((87 : Int32) + s_18) (ln 212) (letV (sI w_16 212 ((((87 : Int32) + s_18)).toNatClampNeg) r_17) (fun (w_20 : jWd) => j189_10 w_20))) (fun (j186_19 : Int32 → Option jWd) => if x2_5 = (8 : Int32) then j186_19 (1 : Int32) else if x2_5 = (9 : Int32) then j186_19 (2 : Int32) else j186_19 (3 : Int32)))))) else some w_3) (fun (j48_4 : jWd → Option jWd) => if (wI w_1 212 87) = (12 : Int32) then bO (fX12_fails (4 : Int32) w_1) (fun (w_44 : jWd) => j48_4 w_44) else j48_4 w_1)) (fun (j32_2 : jWd → Option jWd) => if (wI w 205 15) = 0 then if (fX12_within (((wI w 205 13)).toInt64) (8 : Int64) (11 : Int64)) = 0 then bO (fX12_fails (2 : Int32) w) (fun (w_46 : jWd) => j32_2 w_46) else j32_2 w else j32_2 w)
-- NobodysBardModel.restore(I)I
def fX12_restore (n : Nat) (a0 : Int32) (w : jWd) : Option (Int32 × jWd) :=
  letV (sI w 205 0 (0 : Int32)) (fun (w_1 : jWd) => if (fX12_within ((a0).toInt64) (0 : Int64) (1 : Int64)) = 0 then bO2 (fX12_no (-2 : Int32) w_1) (fun (r_11 : Int32) (w_10 : jWd) => some (r_11, w_10)) else grd a0 (ln 209) (if (wI w_1 209 (a0).toNatClampNeg) = 0 then bO2 (fX12_no (-5 : Int32) w_1) (fun (r_8 : Int32) (w_7 : jWd) => some (r_8, w_7)) else bO (fX12_copies n (a0 + (1 : Int32)) (0 : Int32) w_1) (fun (w_5 : jWd) => some ((0 : Int32), w_5))))
-- NobodysBardModel.row(III)I
def bX12_row_72 (n : Nat) (p1 : Int32) (p3 : Int32) (rec : Int32 → jWd → Option (Int32 × jWd)) (x4 : Int32) (w : jWd)  : Option (Int32 × jWd) :=
  if p3 ≤ x4 then some ((0 : Int32), w) else grd (((60 : Int32) * p1) + x4) (ln 223) (letV (sJ w 223 (((((60 : Int32) * p1) + x4)).toNatClampNeg) (0 : Int64)) (fun (w_13 : jWd) => letV (x4 + (1 : Int32)) (fun (x4_16 : Int32) => rec x4_16 w_13)))
def lX12_row_72 (n : Nat) (p1 : Int32) (p3 : Int32) : Nat → Int32 → jWd → Option (Int32 × jWd)
  | 0 => fun _ _ => none
  | c + 1 => fun x4 w => bX12_row_72 n p1 p3 (lX12_row_72 n p1 p3 c) x4 w
def fX12_row (n : Nat) (a0 : Int32) (a1 : Int32) (a2 : Int32) (w : jWd) : Option (Int32 × jWd) :=
  letV (sI w 205 0 (0 : Int32)) (fun (w_1 : jWd) => letV (bO2 (fX12_no (-2 : Int32) w_1) (fun (r_6 : Int32) (w_5 : jWd) => some (r_6, w_5))) (fun (j29_3 : Option (Int32 × jWd)) => if (fX12_within ((a0).toInt64) (0 : Int64) (3 : Int64)) = 0 then j29_3 else if (fX12_within ((a1).toInt64) (0 : Int64) (3 : Int64)) = 0 then j29_3 else if (fX12_within ((a2).toInt64) (0 : Int64) (60 : Int64)) = 0 then bO2 (fX12_no (-3 : Int32) w_1) (fun (r_20 : Int32) (w_19 : jWd) => some (r_20, w_19)) else grd a0 (ln 221) (letV (sI w_1 221 ((a0).toNatClampNeg) a1) (fun (w_7 : jWd) => grd a0 (ln 222) (letV (sI w_7 222 ((a0).toNatClampNeg) a2) (fun (w_10 : jWd) => lX12_row_72 n a0 a2 n (0 : Int32) w_10))))))
-- NobodysBardModel.said(J)J
def bX12_said_32 (n : Nat) (p1 : Int64) (p3 : Int64) (p5 : Int32) (p6 : Int32) (k86 : Int32 → (Option Int64)) (w : jWd) (rec : Int32 → Int32 → Int32 → Option Int64) (x7 : Int32) (x8 : Int32) (x9 : Int32)  : Option Int64 :=
  if (wI w 212 4) ≤ x9 then k86 x7 else if x8 = 0 then grd ((17 : Int32) + x9) (ln 212) (if (wI w 212 (((17 : Int32) + x9)).toNatClampNeg) = x7 then grd ((5 : Int32) + x9) (ln 212) (letV ((wI w 212 (((5 : Int32) + x9)).toNatClampNeg)) (fun (x7_7 : Int32) => letV (x9 + (1 : Int32)) (fun (x9_9 : Int32) => rec x7_7 (1 : Int32) x9_9))) else letV (x9 + (1 : Int32)) (fun (x9_11 : Int32) => rec x7 x8 x9_11)) else k86 x7
def lX12_said_32 (n : Nat) (p1 : Int64) (p3 : Int64) (p5 : Int32) (p6 : Int32) (k86 : Int32 → (Option Int64)) (w : jWd) : Nat → Int32 → Int32 → Int32 → Option Int64
  | 0 => fun _ _ _ => none
  | c + 1 => fun x7 x8 x9 => bX12_said_32 n p1 p3 p5 p6 k86 w (lX12_said_32 n p1 p3 p5 p6 k86 w c) x7 x8 x9
def bX12_said_11 (n : Nat) (p1 : Int64) (p5 : Int32) (w : jWd) (rec : Int64 → Int32 → Option Int64) (x3 : Int64) (x6 : Int32)  : Option Int64 :=
  if p5 ≤ x6 then some x3 else letV ((fX12_wordAt p1 x6)) (fun (x7_3 : Int32) => lX12_said_32 n p1 x3 p5 x6 (fun (z7_13 : Int32) => letV ((x3 ||| (l_shl ((z7_13).toInt64) ((56 : Int32) - ((8 : Int32) * x6))))) (fun (x3_14 : Int64) => letV (x6 + (1 : Int32)) (fun (x6_16 : Int32) => rec x3_14 x6_16))) w n x7_3 (0 : Int32) (0 : Int32))
def lX12_said_11 (n : Nat) (p1 : Int64) (p5 : Int32) (w : jWd) : Nat → Int64 → Int32 → Option Int64
  | 0 => fun _ _ => none
  | c + 1 => fun x3 x6 => bX12_said_11 n p1 p5 w (lX12_said_11 n p1 p5 w c) x3 x6
def fX12_said (n : Nat) (a0 : Int64) (w : jWd) : Option Int64 :=
  bO (fX12_lengthOf n a0) (fun (r_2 : Int32) => lX12_said_11 n a0 r_2 w n (0 : Int64) (0 : Int32))
-- NobodysBardModel.say(I)I
def fX12_say (n : Nat) (a0 : Int32) (w : jWd) : Option (Int32 × jWd) :=
  letV (sI w 205 0 (0 : Int32)) (fun (w_1 : jWd) => if (fX12_within ((a0).toInt64) (0 : Int64) ((((wI w_1 207 162) - (1 : Int32))).toInt64)) = 0 then bO2 (fX12_no (-2 : Int32) w_1) (fun (r_17 : Int32) (w_16 : jWd) => some (r_17, w_16)) else letV (bO (fX12_smooths n w_1) (fun (w_5 : jWd) => bO2 (fX12_whoseIs n a0 w_5) (fun (r_8 : Int32) (w_7 : jWd) => if r_8 = (5 : Int32) then grd ((480 : Int32) + a0) (ln 208) (bO2 (fX12_mostOfSongs n (wJ w_7 208 (((480 : Int32) + a0)).toNatClampNeg) (0 : Int32) w_7) (fun (r_12 : Int32) (w_11 : jWd) => if r_12 < (wI w_11 207 248) then some ((6 : Int32), w_11) else some ((5 : Int32), w_11))) else if (2 : Int32) ≤ r_8 then some (r_8, w_7) else some ((1 : Int32), w_7)))) (fun (j52_3 : Option (Int32 × jWd)) => if (wI w_1 207 223) = 0 then bO (fX12_isAnyEarly n w_1) (fun (r_14 : Int32) => if r_14 = 0 then some ((0 : Int32), w_1) else j52_3) else j52_3))
-- NobodysBardModel.says(III)I
def fX12_says (a0 : Int32) (a1 : Int32) (a2 : Int32) (w : jWd) : Option (Int32 × jWd) :=
  letV (sI w 205 0 (0 : Int32)) (fun (w_1 : jWd) => letV (bO2 (fX12_no (-2 : Int32) w_1) (fun (r_6 : Int32) (w_5 : jWd) => some (r_6, w_5))) (fun (j37_3 : Option (Int32 × jWd)) => if (fX12_within ((a0).toInt64) (0 : Int64) ((((wI w_1 207 987) - (1 : Int32))).toInt64)) = 0 then j37_3 else if (fX12_within ((a1).toInt64) (0 : Int64) (15 : Int64)) = 0 then j37_3 else if (fX12_within ((a2).toInt64) (0 : Int64) (3 : Int64)) = 0 then bO2 (fX12_no (-3 : Int32) w_1) (fun (r_15 : Int32) (w_14 : jWd) => some (r_15, w_14)) else grd (((996 : Int32) + ((16 : Int32) * a0)) + a1) (ln 207) (letV ((wI w_1 207 ((((996 : Int32) + ((16 : Int32) * a0)) + a1)).toNatClampNeg)) (fun (x4_8 : Int32) => grd (((996 : Int32) + ((16 : Int32) * a0)) + a1) (ln 207) (letV (sI w_1 207 (((((996 : Int32) + ((16 : Int32) * a0)) + a1)).toNatClampNeg) a2) (fun (w_10 : jWd) => some (x4_8, w_10)))))))
-- NobodysBardModel.share(II)I
def fX12_share (n : Nat) (a0 : Int32) (a1 : Int32) (w : jWd) : Option (Int32 × jWd) :=
  letV (sI w 205 0 (0 : Int32)) (fun (w_1 : jWd) => letV (bO2 (fX12_no (-2 : Int32) w_1) (fun (r_6 : Int32) (w_5 : jWd) => some (r_6, w_5))) (fun (j27_3 : Option (Int32 × jWd)) => if (fX12_within ((a0).toInt64) (0 : Int64) (5 : Int64)) = 0 then j27_3 else if (fX12_within ((a1).toInt64) (0 : Int64) (1 : Int64)) = 0 then j27_3 else if (wI w_1 207 162) = 0 then bO2 (fX12_no (-5 : Int32) w_1) (fun (r_14 : Int32) (w_13 : jWd) => some (r_14, w_13)) else bO (fX12_counts n w_1) (fun (w_8 : jWd) => if a1 = 0 then grd a0 (ln 219) (some ((wI w_8 219 (a0).toNatClampNeg), w_8)) else grd a0 (ln 219) (grzi (wI w_8 207 162) (some ((((1000 : Int32) * (wI w_8 219 (a0).toNatClampNeg)) / (wI w_8 207 162)), w_8))))))
-- NobodysBardModel.smoothed(JI)J
def fX12_smoothed (n : Nat) (a0 : Int64) (a1 : Int32) (w : jWd) : Option (Int64 × jWd) :=
  letV (sI w 205 0 (0 : Int32)) (fun (w_1 : jWd) => bO (fX12_lengthOf n a0) (fun (r_4 : Int32) => letV (bO2 (fX12_no (-3 : Int32) w_1) (fun (r_8 : Int32) (w_7 : jWd) => some (((r_8).toInt64), w_7))) (fun (j24_5 : Option (Int64 × jWd)) => if r_4 = 0 then j24_5 else if (fX12_within ((a1).toInt64) (0 : Int64) (9 : Int64)) = 0 then j24_5 else bO2 (fX12_smooth n a0 a1 w_1) (fun (r_11 : Int64) (w_10 : jWd) => some (r_11, w_10)))))
-- NobodysBardModel.span(I)I
def fX12_span (n : Nat) (a0 : Int32) (w : jWd) : Option (Int32 × jWd) :=
  letV (sI w 205 0 (0 : Int32)) (fun (w_1 : jWd) => if (fX12_within ((a0).toInt64) (0 : Int64) (1 : Int64)) = 0 then bO2 (fX12_no (-2 : Int32) w_1) (fun (r_13 : Int32) (w_12 : jWd) => some (r_13, w_12)) else if (wI w_1 207 162) = 0 then bO2 (fX12_no (-5 : Int32) w_1) (fun (r_10 : Int32) (w_9 : jWd) => some (r_10, w_9)) else bO (fX12_counts n w_1) (fun (w_4 : jWd) => letV (fun (s_5 : Int32) => grzi (wI w_4 207 162) (some ((((1000 : Int32) * ((((wI w_4 219 0) + (wI w_4 219 1)) + (wI w_4 219 2)) + s_5)) / (wI w_4 207 162)), w_4))) (fun (j82_6 : Int32 → Option (Int32 × jWd)) => if a0 = (1 : Int32) then j82_6 (wI w_4 219 4) else j82_6 (0 : Int32))))
-- NobodysBardModel.status(I)I
def fX12_status (a0 : Int32) (w : jWd) : Option (Int32 × jWd) :=
  letV (sI w 205 0 (0 : Int32)) (fun (w_1 : jWd) => if (fX12_within ((a0).toInt64) (1 : Int64) (7 : Int64)) = 0 then some ((-1 : Int32), w_1) else grd a0 (ln 206) (some ((wI w_1 206 (a0).toNatClampNeg), w_1)))
-- NobodysBardModel.text(II)I
def bX12_text_84 (n : Nat) (p1 : Int32) (k106 : jWd → (Option (Int32 × jWd))) (rec : Int32 → jWd → Option (Int32 × jWd)) (x3 : Int32) (w : jWd)  : Option (Int32 × jWd) :=
  if (29 : Int32) ≤ x3 then k106 w else grd ((87 : Int32) + x3) (ln 212) (letV (sI w 212 ((((87 : Int32) + x3)).toNatClampNeg) (0 : Int32)) (fun (w_17 : jWd) => letV (x3 + (1 : Int32)) (fun (x3_20 : Int32) => rec x3_20 w_17)))
def lX12_text_84 (n : Nat) (p1 : Int32) (k106 : jWd → (Option (Int32 × jWd))) : Nat → Int32 → jWd → Option (Int32 × jWd)
  | 0 => fun _ _ => none
  | c + 1 => fun x3 w => bX12_text_84 n p1 k106 (lX12_text_84 n p1 k106 c) x3 w
def bX12_text_110 (n : Nat) (p1 : Int32) (k144 : jWd → (Option (Int32 × jWd))) (rec : jWd → Option (Int32 × jWd)) (w : jWd)  : Option (Int32 × jWd) :=
  if (wI w 205 15) = 0 then if (wI w 205 13) = (18 : Int32) then k144 w else if p1 = 0 then bO (fX12_readRule n w) (fun (w_28 : jWd) => rec w_28) else bO (fX12_readWay n w) (fun (w_26 : jWd) => rec w_26) else k144 w
def lX12_text_110 (n : Nat) (p1 : Int32) (k144 : jWd → (Option (Int32 × jWd))) : Nat → jWd → Option (Int32 × jWd)
  | 0 => fun _ => none
  | c + 1 => fun w => bX12_text_110 n p1 k144 (lX12_text_110 n p1 k144 c) w
def bX12_text_236 (n : Nat) (p1 : Int32) (k263 : jWd → (Option (Int32 × jWd))) (rec : Int32 → jWd → Option (Int32 × jWd)) (x3 : Int32) (w : jWd)  : Option (Int32 × jWd) :=
  if (29 : Int32) ≤ x3 then k263 w else grd ((87 : Int32) + x3) (ln 212) (grd x3 (ln 212) (letV (sI w 212 ((x3).toNatClampNeg) (wI w 212 (((87 : Int32) + x3)).toNatClampNeg)) (fun (w_39 : jWd) => letV (x3 + (1 : Int32)) (fun (x3_42 : Int32) => rec x3_42 w_39))))
def lX12_text_236 (n : Nat) (p1 : Int32) (k263 : jWd → (Option (Int32 × jWd))) : Nat → Int32 → jWd → Option (Int32 × jWd)
  | 0 => fun _ _ => none
  | c + 1 => fun x3 w => bX12_text_236 n p1 k263 (lX12_text_236 n p1 k263 c) x3 w
def bX12_text_202 (n : Nat) (p1 : Int32) (k231 : jWd → (Option (Int32 × jWd))) (rec : Int32 → jWd → Option (Int32 × jWd)) (x3 : Int32) (w : jWd)  : Option (Int32 × jWd) :=
  if (645 : Int32) ≤ x3 then k231 w else grd ((1935 : Int32) + x3) (ln 211) (grd x3 (ln 211) (letV (sI w 211 ((x3).toNatClampNeg) (wI w 211 (((1935 : Int32) + x3)).toNatClampNeg)) (fun (w_46 : jWd) => letV (x3 + (1 : Int32)) (fun (x3_49 : Int32) => rec x3_49 w_46))))
def lX12_text_202 (n : Nat) (p1 : Int32) (k231 : jWd → (Option (Int32 × jWd))) : Nat → Int32 → jWd → Option (Int32 × jWd)
  | 0 => fun _ _ => none
  | c + 1 => fun x3 w => bX12_text_202 n p1 k231 (lX12_text_202 n p1 k231 c) x3 w
def fX12_text (n : Nat) (a0 : Int32) (a1 : Int32) (w : jWd) : Option (Int32 × jWd) :=
  letV (sI w 205 0 (0 : Int32)) (fun (w_1 : jWd) => if (fX12_within ((a0).toInt64) (0 : Int64) (1 : Int64)) = 0 then bO2 (fX12_no (-2 : Int32) w_1) (fun (r_59 : Int32) (w_58 : jWd) => some (r_59, w_58)) else if (fX12_within ((a1).toInt64) (0 : Int64) (((wI w_1 205 9)).toInt64)) = 0 then bO2 (fX12_no (-3 : Int32) w_1) (fun (r_56 : Int32) (w_55 : jWd) => some (r_56, w_55)) else letV (sI w_1 205 12 a1) (fun (w_3 : jWd) => letV (sI w_3 205 9 (0 : Int32)) (fun (w_5 : jWd) => letV (sI w_5 205 11 (0 : Int32)) (fun (w_7 : jWd) => letV (sI w_7 205 15 (0 : Int32)) (fun (w_9 : jWd) => letV (sI w_9 205 17 (0 : Int32)) (fun (w_11 : jWd) => letV (sI w_11 205 18 (0 : Int32)) (fun (w_13 : jWd) => letV (sI w_13 211 1935 (0 : Int32)) (fun (w_15 : jWd) => lX12_text_84 n a0 (fun (w_22 : jWd) => bO (fX12_next n w_22) (fun (w_24 : jWd) => lX12_text_110 n a0 (fun (w_29 : jWd) => letV (sI w_29 205 19 (wI w_29 205 15)) (fun (w_30 : jWd) => letV (fun (s_32 : Int32) => letV (sI w_30 205 20 s_32) (fun (w_34 : jWd) => if (wI w_34 205 15) = 0 then letV (fun (w_36 : jWd) => if a0 = 0 then some ((wI w_36 211 0), w_36) else some ((wI w_36 212 0), w_36)) (fun (j263_37 : jWd → Option (Int32 × jWd)) => if a0 = 0 then lX12_text_202 n a0 (fun (w_51 : jWd) => j263_37 w_51) n (0 : Int32) w_34 else lX12_text_236 n a0 (fun (w_44 : jWd) => j263_37 w_44) n (0 : Int32) w_34) else letV (sI w_34 206 1 ((wI w_34 206 1) + (1 : Int32))) (fun (w_52 : jWd) => some (((-10 : Int32) - (wI w_52 205 15)), w_52)))) (fun (j168_33 : Int32 → Option (Int32 × jWd)) => if (wI w_30 205 15) = 0 then j168_33 (-1 : Int32) else j168_33 (wI w_30 205 16)))) n w_24)) n (0 : Int32) w_15))))))))
-- NobodysBardModel.told(IIII)I
def bX12_told_91 (n : Nat) (p1 : Int32) (p2 : Int32) (p3 : Int32) (k187 : Int32 → jWd → (Option (Int32 × jWd))) (rec : Int32 → Int32 → jWd → Option (Int32 × jWd)) (x5 : Int32) (x6 : Int32) (w : jWd)  : Option (Int32 × jWd) :=
  grd ((121 : Int32) + p1) (ln 207) (if (wI w 207 (((121 : Int32) + p1)).toNatClampNeg) ≤ x6 then k187 x5 w else bO2 (fX12_draw w) (fun (r_12 : Int32) (w_11 : jWd) => if (wI w_11 212 1) ≤ r_12 then grd (((12 : Int32) * p1) + x6) (ln 208) (bO (fX12_said n (wJ w_11 208 ((((12 : Int32) * p1) + x6)).toNatClampNeg) w_11) (fun (r_15 : Int64) => bO2 (fX12_draw w_11) (fun (r_18 : Int32) (w_17 : jWd) => letV (fun (s_19 : Int64) (w_20 : jWd) => grd x5 (ln 217) (letV (sJ w_20 217 ((x5).toNatClampNeg) s_19) (fun (w_22 : jWd) => letV (x5 + (1 : Int32)) (fun (x5_25 : Int32) => letV (x6 + (1 : Int32)) (fun (x6_27 : Int32) => rec x5_25 x6_27 w_22))))) (fun (j177_21 : Int64 → jWd → Option (Int32 × jWd)) => if (wI w_17 212 3) ≤ r_18 then j177_21 r_15 w_17 else grd ((1 : Int32) + p1) (ln 207) (bO2 (fX12_smooth n r_15 (wI w_17 207 (((1 : Int32) + p1)).toNatClampNeg) w_17) (fun (r_32 : Int64) (w_31 : jWd) => j177_21 r_32 w_31)))))) else letV (x6 + (1 : Int32)) (fun (x6_33 : Int32) => rec x5 x6_33 w_11)))
def lX12_told_91 (n : Nat) (p1 : Int32) (p2 : Int32) (p3 : Int32) (k187 : Int32 → jWd → (Option (Int32 × jWd))) : Nat → Int32 → Int32 → jWd → Option (Int32 × jWd)
  | 0 => fun _ _ _ => none
  | c + 1 => fun x5 x6 w => bX12_told_91 n p1 p2 p3 k187 (lX12_told_91 n p1 p2 p3 k187 c) x5 x6 w
def bX12_told_202 (n : Nat) (p1 : Int32) (p2 : Int32) (p3 : Int32) (p5 : Int32) (k269 : jWd → (Option (Int32 × jWd))) (rec : Int32 → jWd → Option (Int32 × jWd)) (x6 : Int32) (w : jWd)  : Option (Int32 × jWd) :=
  if p5 ≤ (x6 + (1 : Int32)) then k269 w else bO2 (fX12_draw w) (fun (r_39 : Int32) (w_38 : jWd) => if r_39 < (wI w_38 212 2) then grd x6 (ln 217) (letV ((wJ w_38 217 (x6).toNatClampNeg)) (fun (x7_41 : Int64) => grd (x6 + (1 : Int32)) (ln 217) (grd x6 (ln 217) (letV (sJ w_38 217 ((x6).toNatClampNeg) (wJ w_38 217 ((x6 + (1 : Int32))).toNatClampNeg)) (fun (w_44 : jWd) => grd (x6 + (1 : Int32)) (ln 217) (letV (sJ w_44 217 (((x6 + (1 : Int32))).toNatClampNeg) x7_41) (fun (w_47 : jWd) => letV (x6 + (1 : Int32)) (fun (x6_50 : Int32) => rec x6_50 w_47)))))))) else letV (x6 + (1 : Int32)) (fun (x6_52 : Int32) => rec x6_52 w_38))
def lX12_told_202 (n : Nat) (p1 : Int32) (p2 : Int32) (p3 : Int32) (p5 : Int32) (k269 : jWd → (Option (Int32 × jWd))) : Nat → Int32 → jWd → Option (Int32 × jWd)
  | 0 => fun _ _ => none
  | c + 1 => fun x6 w => bX12_told_202 n p1 p2 p3 p5 k269 (lX12_told_202 n p1 p2 p3 p5 k269 c) x6 w
def bX12_told_288 (n : Nat) (p5 : Int32) (p6 : Int32) (k321 : jWd → (Option (Int32 × jWd))) (rec : Int32 → jWd → Option (Int32 × jWd)) (x7 : Int32) (w : jWd)  : Option (Int32 × jWd) :=
  if p5 ≤ x7 then k321 w else grd x7 (ln 217) (grd (((12 : Int32) * p6) + x7) (ln 208) (letV (sJ w 208 (((((12 : Int32) * p6) + x7)).toNatClampNeg) (wJ w 217 (x7).toNatClampNeg)) (fun (w_60 : jWd) => letV (x7 + (1 : Int32)) (fun (x7_63 : Int32) => rec x7_63 w_60))))
def lX12_told_288 (n : Nat) (p5 : Int32) (p6 : Int32) (k321 : jWd → (Option (Int32 × jWd))) : Nat → Int32 → jWd → Option (Int32 × jWd)
  | 0 => fun _ _ => none
  | c + 1 => fun x7 w => bX12_told_288 n p5 p6 k321 (lX12_told_288 n p5 p6 k321 c) x7 w
def fX12_told (n : Nat) (a0 : Int32) (a1 : Int32) (a2 : Int32) (a3 : Int32) (w : jWd) : Option (Int32 × jWd) :=
  letV (sI w 205 0 (0 : Int32)) (fun (w_1 : jWd) => if (fX12_within ((a0).toInt64) (0 : Int64) ((((wI w_1 207 0) - (1 : Int32))).toInt64)) = 0 then bO2 (fX12_no (-2 : Int32) w_1) (fun (r_77 : Int32) (w_76 : jWd) => some (r_77, w_76)) else letV (bO2 (fX12_no (-3 : Int32) w_1) (fun (r_6 : Int32) (w_5 : jWd) => some (r_6, w_5))) (fun (j54_3 : Option (Int32 × jWd)) => if (fX12_within ((a1).toInt64) (0 : Int64) (15 : Int64)) = 0 then j54_3 else if (fX12_within ((a2).toInt64) (0 : Int64) (9999 : Int64)) = 0 then j54_3 else if (wI w_1 207 0) = (40 : Int32) then bO2 (fX12_no (-4 : Int32) w_1) (fun (r_74 : Int32) (w_73 : jWd) => some (r_74, w_73)) else letV (sI w_1 205 25 a3) (fun (w_7 : jWd) => lX12_told_91 n a0 a1 a2 (fun (z5_36 : Int32) (w_35 : jWd) => if z5_36 = 0 then bO2 (fX12_no (-5 : Int32) w_35) (fun (r_71 : Int32) (w_70 : jWd) => some (r_71, w_70)) else lX12_told_202 n a0 a1 a2 z5_36 (fun (w_54 : jWd) => grd ((1 : Int32) + a0) (ln 207) (bO2 (fX12_opens (wI w_54 207 (((1 : Int32) + a0)).toNatClampNeg) a1 a2 w_54) (fun (r_58 : Int32) (w_57 : jWd) => lX12_told_288 n z5_36 r_58 (fun (w_65 : jWd) => grd ((121 : Int32) + r_58) (ln 207) (letV (sI w_65 207 ((((121 : Int32) + r_58)).toNatClampNeg) z5_36) (fun (w_66 : jWd) => some (r_58, w_66)))) n (0 : Int32) w_57))) n (0 : Int32) w_35) n (0 : Int32) (0 : Int32) w_7)))
-- NobodysBardModel.version(JJII)I
def fX12_version (n : Nat) (a0 : Int64) (a1 : Int64) (a2 : Int32) (a3 : Int32) (w : jWd) : Option (Int32 × jWd) :=
  letV (sI w 205 0 (0 : Int32)) (fun (w_1 : jWd) => bO (fX12_lengthOf n a0) (fun (r_4 : Int32) => letV (bO2 (fX12_no (-3 : Int32) w_1) (fun (r_8 : Int32) (w_7 : jWd) => some (r_8, w_7))) (fun (j45_5 : Option (Int32 × jWd)) => if r_4 = 0 then j45_5 else bO (fX12_lengthOf n a1) (fun (r_10 : Int32) => if r_10 = 0 then j45_5 else if (fX12_within ((a2).toInt64) (0 : Int64) (9999 : Int64)) = 0 then j45_5 else if (fX12_within ((a3).toInt64) (0 : Int64) (9 : Int64)) = 0 then j45_5 else letV ((wI w_1 207 506)) (fun (x7_11 : Int32) => if x7_11 = (20 : Int32) then bO2 (fX12_no (-4 : Int32) w_1) (fun (r_33 : Int32) (w_32 : jWd) => some (r_33, w_32)) else bO (fX12_plain n a0) (fun (r_14 : Int64) => grd ((684 : Int32) + x7_11) (ln 208) (letV (sJ w_1 208 ((((684 : Int32) + x7_11)).toNatClampNeg) r_14) (fun (w_15 : jWd) => bO (fX12_plain n a1) (fun (r_19 : Int64) => grd ((704 : Int32) + x7_11) (ln 208) (letV (sJ w_15 208 ((((704 : Int32) + x7_11)).toNatClampNeg) r_19) (fun (w_20 : jWd) => grd ((507 : Int32) + x7_11) (ln 207) (letV (sI w_20 207 ((((507 : Int32) + x7_11)).toNatClampNeg) a2) (fun (w_23 : jWd) => grd ((527 : Int32) + x7_11) (ln 207) (letV (sI w_23 207 ((((527 : Int32) + x7_11)).toNatClampNeg) a3) (fun (w_26 : jWd) => letV (sI w_26 207 506 ((wI w_26 207 506) + (1 : Int32))) (fun (w_29 : jWd) => some (x7_11, w_29)))))))))))))))))
-- NobodysBardModel.which(I)I
def bX12_which_58 (n : Nat) (p1 : Int32) (p2 : Int64) (p4 : Int64) (k103 : (Option (Int32 × jWd))) (w : jWd) (rec : Int32 → Option (Int32 × jWd)) (x6 : Int32)  : Option (Int32 × jWd) :=
  bO (fX12_lengthOf n p2) (fun (r_10 : Int32) => if r_10 ≤ x6 then k103 else grd ((250 : Int32) + (fX12_wordAt p2 x6)) (ln 207) (grd ((507 : Int32) + p1) (ln 207) (if (wI w 207 (((250 : Int32) + (fX12_wordAt p2 x6))).toNatClampNeg) ≤ (wI w 207 (((507 : Int32) + p1)).toNatClampNeg) then letV (x6 + (1 : Int32)) (fun (x6_13 : Int32) => rec x6_13) else some ((1 : Int32), w))))
def lX12_which_58 (n : Nat) (p1 : Int32) (p2 : Int64) (p4 : Int64) (k103 : (Option (Int32 × jWd))) (w : jWd) : Nat → Int32 → Option (Int32 × jWd)
  | 0 => fun _ => none
  | c + 1 => fun x6 => bX12_which_58 n p1 p2 p4 k103 w (lX12_which_58 n p1 p2 p4 k103 w c) x6
def fX12_which (n : Nat) (a0 : Int32) (w : jWd) : Option (Int32 × jWd) :=
  letV (sI w 205 0 (0 : Int32)) (fun (w_1 : jWd) => if (fX12_within ((a0).toInt64) (0 : Int64) ((((wI w_1 207 506) - (1 : Int32))).toInt64)) = 0 then bO2 (fX12_no (-2 : Int32) w_1) (fun (r_25 : Int32) (w_24 : jWd) => some (r_25, w_24)) else grd ((684 : Int32) + a0) (ln 208) (letV ((wJ w_1 208 (((684 : Int32) + a0)).toNatClampNeg)) (fun (x2_4 : Int64) => grd ((704 : Int32) + a0) (ln 208) (letV ((wJ w_1 208 (((704 : Int32) + a0)).toNatClampNeg)) (fun (x4_7 : Int64) => lX12_which_58 n a0 x2_4 x4_7 (grd ((527 : Int32) + a0) (ln 207) (bO2 (fX12_smooth n x2_4 (wI w_1 207 (((527 : Int32) + a0)).toNatClampNeg) w_1) (fun (r_18 : Int64) (w_17 : jWd) => if (lg_cmp r_18 x4_7) = 0 then some ((0 : Int32), w_17) else grd ((527 : Int32) + a0) (ln 207) (bO2 (fX12_smooth n x4_7 (wI w_17 207 (((527 : Int32) + a0)).toNatClampNeg) w_17) (fun (r_22 : Int64) (w_21 : jWd) => if (lg_cmp r_22 x2_4) = 0 then some ((1 : Int32), w_21) else some ((2 : Int32), w_21)))))) w_1 n (0 : Int32))))))
-- NobodysBardModel.whose(II)I
def fX12_whose (n : Nat) (a0 : Int32) (a1 : Int32) (w : jWd) : Option (Int32 × jWd) :=
  letV (sI w 205 0 (0 : Int32)) (fun (w_1 : jWd) => letV (bO2 (fX12_no (-2 : Int32) w_1) (fun (r_6 : Int32) (w_5 : jWd) => some (r_6, w_5))) (fun (j35_3 : Option (Int32 × jWd)) => if (fX12_within ((a0).toInt64) (0 : Int64) ((((wI w_1 207 162) - (1 : Int32))).toInt64)) = 0 then j35_3 else if (fX12_within ((a1).toInt64) (0 : Int64) (1 : Int64)) = 0 then j35_3 else bO (fX12_smooths n w_1) (fun (w_8 : jWd) => bO2 (fX12_whoseIs n a0 w_8) (fun (r_11 : Int32) (w_10 : jWd) => if a1 = 0 then some (r_11, w_10) else some ((wI w_10 205 30), w_10)))))
-- NobodysBardModel.words(III)J
def fX12_words (a0 : Int32) (a1 : Int32) (a2 : Int32) (w : jWd) : Option (Int64 × jWd) :=
  letV (sI w 205 0 (0 : Int32)) (fun (w_1 : jWd) => bO (fX12_isLine a0 a1 a2 w_1) (fun (r_4 : Int32) => if r_4 = 0 then bO2 (fX12_no (-2 : Int32) w_1) (fun (r_16 : Int32) (w_15 : jWd) => some (((r_16).toInt64), w_15)) else (if a0 = (0 : Int32) then grd (((12 : Int32) * a1) + a2) (ln 208) (some ((wJ w_1 208 ((((12 : Int32) * a1) + a2)).toNatClampNeg), w_1)) else if a0 = (1 : Int32) then grd (((540 : Int32) + ((12 : Int32) * a1)) + a2) (ln 208) (some ((wJ w_1 208 ((((540 : Int32) + ((12 : Int32) * a1)) + a2)).toNatClampNeg), w_1)) else if a0 = (2 : Int32) then grd ((480 : Int32) + a2) (ln 208) (some ((wJ w_1 208 (((480 : Int32) + a2)).toNatClampNeg), w_1)) else if a0 = (3 : Int32) then grd ((684 : Int32) + a1) (ln 208) (some ((wJ w_1 208 (((684 : Int32) + a1)).toNatClampNeg), w_1)) else grd ((704 : Int32) + a1) (ln 208) (some ((wJ w_1 208 (((704 : Int32) + a1)).toNatClampNeg), w_1)))))
-- NobodysBardModel.world(I)I
def bX12_world_64 (n : Nat) (k99 : jWd → (Option (Int32 × jWd))) (rec : Int32 → jWd → Option (Int32 × jWd)) (x2 : Int32) (w : jWd)  : Option (Int32 × jWd) :=
  if (16 : Int32) ≤ x2 then k99 w else grd (((996 : Int32) + ((16 : Int32) * (wI w 207 987))) + x2) (ln 207) (letV (sI w 207 (((((996 : Int32) + ((16 : Int32) * (wI w 207 987))) + x2)).toNatClampNeg) (0 : Int32)) (fun (w_6 : jWd) => letV (x2 + (1 : Int32)) (fun (x2_9 : Int32) => rec x2_9 w_6)))
def lX12_world_64 (n : Nat) (k99 : jWd → (Option (Int32 × jWd))) : Nat → Int32 → jWd → Option (Int32 × jWd)
  | 0 => fun _ _ => none
  | c + 1 => fun x2 w => bX12_world_64 n k99 (lX12_world_64 n k99 c) x2 w
def fX12_world (n : Nat) (a0 : Int32) (w : jWd) : Option (Int32 × jWd) :=
  letV (sI w 205 0 (0 : Int32)) (fun (w_1 : jWd) => if (fX12_within ((a0).toInt64) (1 : Int64) (99 : Int64)) = 0 then bO2 (fX12_no (-3 : Int32) w_1) (fun (r_19 : Int32) (w_18 : jWd) => some (r_19, w_18)) else if (wI w_1 207 987) = (8 : Int32) then bO2 (fX12_no (-4 : Int32) w_1) (fun (r_16 : Int32) (w_15 : jWd) => some (r_16, w_15)) else grd ((988 : Int32) + (wI w_1 207 987)) (ln 207) (letV (sI w_1 207 ((((988 : Int32) + (wI w_1 207 987))).toNatClampNeg) a0) (fun (w_3 : jWd) => lX12_world_64 n (fun (w_11 : jWd) => letV (sI w_11 207 987 ((wI w_11 207 987) + (1 : Int32))) (fun (w_12 : jWd) => some (((wI w_12 207 987) - (1 : Int32)), w_12))) n (0 : Int32) w_3)))
-- NobodysBardModel.write(IIJ)J
def fX12_write (a0 : Int32) (a1 : Int32) (a2 : Int64) (w : jWd) : Option (Int64 × jWd) :=
  letV (sI w 205 0 (0 : Int32)) (fun (w_1 : jWd) => if (fX12_within ((a0).toInt64) (0 : Int64) (3 : Int64)) = 0 then bO2 (fX12_no (-2 : Int32) w_1) (fun (r_18 : Int32) (w_17 : jWd) => some (((r_18).toInt64), w_17)) else grd a0 (ln 221) (if (wI w_1 221 (a0).toNatClampNeg) = (-1 : Int32) then bO2 (fX12_no (-6 : Int32) w_1) (fun (r_15 : Int32) (w_14 : jWd) => some (((r_15).toInt64), w_14)) else grd a0 (ln 222) (if (fX12_within ((a1).toInt64) (0 : Int64) ((((wI w_1 222 (a0).toNatClampNeg) - (1 : Int32))).toInt64)) = 0 then bO2 (fX12_no (-7 : Int32) w_1) (fun (r_12 : Int32) (w_11 : jWd) => some (((r_12).toInt64), w_11)) else grd a0 (ln 221) (grd (((60 : Int32) * a0) + a1) (ln 223) (letV (sJ w_1 223 (((((60 : Int32) * a0) + a1)).toNatClampNeg) (fX12_cut a2 (wI w_1 221 (a0).toNatClampNeg))) (fun (w_6 : jWd) => grd (((60 : Int32) * a0) + a1) (ln 223) (some ((wJ w_6 223 ((((60 : Int32) * a0) + a1)).toNatClampNeg), w_6))))))))
-- NobodysBardModel.year(II)I
def fX12_year (a0 : Int32) (a1 : Int32) (w : jWd) : Option (Int32 × jWd) :=
  letV (sI w 205 0 (0 : Int32)) (fun (w_1 : jWd) => if (fX12_within ((a0).toInt64) (1 : Int64) (255 : Int64)) = 0 then bO2 (fX12_no (-2 : Int32) w_1) (fun (r_14 : Int32) (w_13 : jWd) => some (r_14, w_13)) else if (fX12_within ((a1).toInt64) (0 : Int64) (9999 : Int64)) = 0 then bO2 (fX12_no (-3 : Int32) w_1) (fun (r_11 : Int32) (w_10 : jWd) => some (r_11, w_10)) else grd ((250 : Int32) + a0) (ln 207) (letV ((wI w_1 207 (((250 : Int32) + a0)).toNatClampNeg)) (fun (x3_4 : Int32) => grd ((250 : Int32) + a0) (ln 207) (letV (sI w_1 207 ((((250 : Int32) + a0)).toNatClampNeg) a1) (fun (w_6 : jWd) => some (x3_4, w_6))))))
