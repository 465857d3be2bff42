def f_X0_has (S : HSt) (a1 a2 : Int32) : Option Int32 := (h_ld S 8 28 ((a1 * 4) + a2)).bind (fun v1 => if v1 = 1 then (some 1) else (some 0))
def f_X3_slot (a0 a1 : Int32) : Option Int32 := some ((a0 * 4) + a1)
def f_X0_handNothing_41 (k2 : HSt → Int32 → Int32 → Option HSt) (S : HSt) (x1 x2 : Int32) : Option HSt := k2 S x1 (x2 + 1)
def f_X0_handNothing_2_s (k2 : HSt → Int32 → Int32 → Option HSt) (S : HSt) (x1 x2 : Int32) : Option HSt := (f_X3_slot (2 * (S.1 0)) 0).bind (fun r1 => if r1 ≤ x2 then (some S) else ((h_ld S 0 24 (x2 / 4)).bind (fun v4 => if v4 = x1 then ((h_st S 6 96 x2 0).bind (fun S7 => f_X0_handNothing_41 k2 S7 x1 x2)) else (f_X0_handNothing_41 k2 S x1 x2))))
def f_X0_handNothing_2 : Nat → HSt → Int32 → Int32 → Option HSt
  | 0, _, _, _ => none
  | n + 1, S, x1, x2 => f_X0_handNothing_2_s (f_X0_handNothing_2 n) S x1 x2
def f_X0_handNothing (S : HSt) (a1 : Int32) : Option HSt := f_X0_handNothing_2 h_fu S a1 0
def f_X0_changeMode (S : HSt) (a1 a2 a3 : Int32) : Option (Int32 × HSt) := (h_ld S 8 28 ((a1 * 4) + a2)).bind (fun v1 => (h_st S 8 28 ((a1 * 4) + a2) a3).bind (fun S3 => if a2 = 2 then (if a3 = v1 then (some (v1, S3)) else ((f_X0_handNothing S3 a1).bind (fun S9 => some (v1, S9)))) else (some (v1, S3))))
def f_X0_forgetLink_8_s (k8 : HSt → Int32 → Int32 → Option HSt) (S : HSt) (x1 x2 : Int32) : Option HSt := (f_X3_slot ((2 * x1) + 2) 0).bind (fun r1 => if r1 ≤ x2 then (some S) else ((h_st S 6 96 x2 0).bind (fun S4 => (h_st S4 7 96 x2 0).bind (fun S6 => k8 S6 x1 (x2 + 1)))))
def f_X0_forgetLink_8 : Nat → HSt → Int32 → Int32 → Option HSt
  | 0, _, _, _ => none
  | n + 1, S, x1, x2 => f_X0_forgetLink_8_s (f_X0_forgetLink_8 n) S x1 x2
def f_X0_forgetLink (S : HSt) (a1 : Int32) : Option HSt := (f_X3_slot (2 * a1) 0).bind (fun r1 => f_X0_forgetLink_8 h_fu S a1 r1)
def f_X3_pair (a0 a1 : Int32) : Option Int32 := some ((a0 * 4) + a1)
def f_X0_slipUsed (S : HSt) (a1 a2 : Int32) : Option Int32 := (f_X3_pair a1 a2).bind (fun r1 => (h_ld S 5 28 r1).bind (fun v3 => if v3 = (-1) then (some 0) else ((f_X3_slot v3 a2).bind (fun r6 => (h_ld S 7 96 r6).bind (fun v8 => some v8)))))
def f_X3_labelOf (a0 : Int32) : Option Int32 := some (a0 >>> (4 &&& 31))
def f_X0_classMeant_107 (S : HSt) (k55 : Int32 → Int32 → Int32 → Int32 → Int32 → Int32 → Option Int32) (x1 x3 x4 x5 x6 x7 : Int32) : Option Int32 := k55 x1 x3 x4 x5 x6 (x7 + 1)
def f_X0_classMeant_55_s (S : HSt) (k45 : Int32 → Int32 → Int32 → Int32 → Int32 → Option Int32) (k55 : Int32 → Int32 → Int32 → Int32 → Int32 → Int32 → Option Int32) (x1 x3 x4 x5 x6 x7 : Int32) : Option Int32 := if x5 ≤ x7 then (k45 x1 x3 x4 x5 (x6 + 1)) else ((f_X3_slot x7 x6).bind (fun r2 => (h_ld S 6 96 r2).bind (fun v4 => (h_ld S 0 24 x7).bind (fun v6 => if v6 = x1 then (if v4 = 0 then (f_X0_classMeant_107 S k55 x1 x3 x4 x5 x6 x7) else ((f_X3_labelOf v4).bind (fun r10 => if r10 = x3 then (some x6) else (f_X0_classMeant_107 S k55 x1 x3 x4 x5 x6 x7)))) else (f_X0_classMeant_107 S k55 x1 x3 x4 x5 x6 x7)))))
def f_X0_classMeant_55 (S : HSt) (k45 : Int32 → Int32 → Int32 → Int32 → Int32 → Option Int32) : Nat → Int32 → Int32 → Int32 → Int32 → Int32 → Int32 → Option Int32
  | 0, _, _, _, _, _, _ => none
  | n + 1, x1, x3, x4, x5, x6, x7 => f_X0_classMeant_55_s S k45 (f_X0_classMeant_55 S k45 n) x1 x3 x4 x5 x6 x7
def f_X0_classMeant_45_s (S : HSt) (k45 : Int32 → Int32 → Int32 → Int32 → Int32 → Option Int32) (x1 x3 x4 x5 x6 : Int32) : Option Int32 := if 4 ≤ x6 then (some (-1)) else (f_X0_classMeant_55 S k45 h_fu x1 x3 x4 x5 x6 x4)
def f_X0_classMeant_45 (S : HSt) : Nat → Int32 → Int32 → Int32 → Int32 → Int32 → Option Int32
  | 0, _, _, _, _, _ => none
  | n + 1, x1, x3, x4, x5, x6 => f_X0_classMeant_45_s S (f_X0_classMeant_45 S n) x1 x3 x4 x5 x6
def f_X0_classMeant_40 (S : HSt) (x1 x3 x4 t0 : Int32) : Option Int32 := f_X0_classMeant_45 S h_fu x1 x3 x4 t0 0
def f_X0_classMeant_14 (S : HSt) (x1 x2 x3 t0 : Int32) : Option Int32 := (f_X0_has S x1 2).bind (fun r1 => if r1 = 0 then (f_X0_classMeant_40 S x1 x3 t0 (2 * (S.1 0))) else (f_X0_classMeant_40 S x1 x3 t0 (x2 + 1)))
def f_X0_classMeant (S : HSt) (a1 a2 a3 : Int32) : Option Int32 := (f_X0_has S a1 2).bind (fun r1 => if r1 = 0 then (f_X0_classMeant_14 S a1 a2 a3 0) else (f_X0_classMeant_14 S a1 a2 a3 a2))
def f_X0_greatestLabel_4_s (S : HSt) (k4 : Int32 → Int32 → Option Int32) (x1 x2 : Int32) : Option Int32 := if 96 ≤ x2 then (some x1) else ((h_ld S 6 96 x2).bind (fun v2 => (f_X3_labelOf v2).bind (fun r4 => k4 (if x1 < r4 then r4 else x1) (x2 + 1))))
def f_X0_greatestLabel_4 (S : HSt) : Nat → Int32 → Int32 → Option Int32
  | 0, _, _ => none
  | n + 1, x1, x2 => f_X0_greatestLabel_4_s S (f_X0_greatestLabel_4 S n) x1 x2
def f_X0_greatestLabel (S : HSt) : Option Int32 := f_X0_greatestLabel_4 S h_fu 0 0
def f_X3_countOf (a0 : Int32) : Option Int32 := some (a0 &&& 15)
def f_X0_countToHand (S : HSt) (a1 a2 : Int32) : Option Int32 := (h_ld S 3 4 a2).bind (fun v1 => if v1 = a1 then (some 0) else ((f_X3_pair a1 a2).bind (fun r4 => (h_ld S 5 28 r4).bind (fun v6 => if v6 = (-1) then (some (-1)) else ((f_X0_slipUsed S a1 a2).bind (fun r9 => if r9 = 0 then (if (S.1 1) = 1 then (some (-1)) else (some 1)) else ((f_X3_countOf r9).bind (fun r12 => if (r12 + 1) ≤ (S.1 2) then (some (r12 + 1)) else (some (-1))))))))))
def f_X1_isUpSide (S : HSt) (a1 : Int32) : Option Int32 := (h_ld S 2 12 (a1 >>> (1 &&& 31))).bind (fun v1 => if v1 = 1 then (some 1) else (some 0))
def f_X0_goesOver_61 (S : HSt) : Option Int32 := some 1
def f_X0_goesOver (S : HSt) (a1 a2 : Int32) : Option Int32 := (f_X1_isUpSide S a1).bind (fun r1 => if r1 = 0 then (some 0) else ((h_ld S 0 24 (a1 ^^^ 1)).bind (fun v4 => (h_ld S 0 24 a1).bind (fun v6 => (f_X0_has S v6 0).bind (fun r8 => if r8 = 0 then (f_X0_goesOver_61 S) else ((f_X3_pair v4 a2).bind (fun r11 => (h_ld S 5 28 r11).bind (fun v13 => if v13 = (a1 ^^^ 1) then (f_X0_goesOver_61 S) else (some 0)))))))))
def f_X3_slipWith (a0 a1 : Int32) : Option Int32 := some ((a0 * 16) + a1)
def f_X0_placeOver_59 (k2 : HSt → Int32 → Int32 → Option HSt) (S : HSt) (x1 x2 t0 t1 : Int32) : Option HSt := (h_st S 9 96 t1 t0).bind (fun S1 => k2 S1 x1 (x2 + 1))
def f_X0_placeOver_31 (k2 : HSt → Int32 → Int32 → Option HSt) (S : HSt) (x1 x2 t0 : Int32) : Option HSt := (f_X3_slot x1 x2).bind (fun r1 => if t0 = 0 then (f_X0_placeOver_59 k2 S x1 x2 0 r1) else ((h_ld S 10 4 x2).bind (fun v4 => (f_X3_slipWith 1 v4).bind (fun r6 => f_X0_placeOver_59 k2 S x1 x2 r6 r1))))
def f_X0_placeOver_30 (k2 : HSt → Int32 → Int32 → Option HSt) (S : HSt) (x1 x2 : Int32) : Option HSt := f_X0_placeOver_31 k2 S x1 x2 0
def f_X0_placeOver_2_s (k2 : HSt → Int32 → Int32 → Option HSt) (S : HSt) (x1 x2 : Int32) : Option HSt := if 4 ≤ x2 then (some S) else ((h_ld S 10 4 x2).bind (fun v2 => if v2 = (-1) then (f_X0_placeOver_30 k2 S x1 x2) else ((f_X0_goesOver S x1 x2).bind (fun r5 => if r5 = 0 then (f_X0_placeOver_30 k2 S x1 x2) else (f_X0_placeOver_31 k2 S x1 x2 1)))))
def f_X0_placeOver_2 : Nat → HSt → Int32 → Int32 → Option HSt
  | 0, _, _, _ => none
  | n + 1, S, x1, x2 => f_X0_placeOver_2_s (f_X0_placeOver_2 n) S x1 x2
def f_X0_placeOver (S : HSt) (a1 : Int32) : Option HSt := f_X0_placeOver_2 h_fu S a1 0
def f_X0_placeSlips_58 (k27 : HSt → Int32 → Int32 → Option HSt) (S : HSt) (x1 x2 : Int32) : Option HSt := k27 S x1 (x2 + 1)
def f_X0_placeSlips_27_s (k27 : HSt → Int32 → Int32 → Option HSt) (S : HSt) (x1 x2 : Int32) : Option HSt := if (2 * (S.1 0)) ≤ x2 then (some S) else ((h_ld S 0 24 x2).bind (fun v2 => if v2 = x1 then ((f_X0_placeOver S x2).bind (fun S7 => f_X0_placeSlips_58 k27 S7 x1 x2)) else (f_X0_placeSlips_58 k27 S x1 x2)))
def f_X0_placeSlips_27 : Nat → HSt → Int32 → Int32 → Option HSt
  | 0, _, _, _ => none
  | n + 1, S, x1, x2 => f_X0_placeSlips_27_s (f_X0_placeSlips_27 n) S x1 x2
def f_X0_placeSlips_2_s (k2 : HSt → Int32 → Int32 → Option HSt) (S : HSt) (x1 x2 : Int32) : Option HSt := if 4 ≤ x2 then (f_X0_placeSlips_27 h_fu S x1 0) else ((f_X0_countToHand S x1 x2).bind (fun r2 => (h_st S 10 4 x2 r2).bind (fun S4 => k2 S4 x1 (x2 + 1))))
def f_X0_placeSlips_2 : Nat → HSt → Int32 → Int32 → Option HSt
  | 0, _, _, _ => none
  | n + 1, S, x1, x2 => f_X0_placeSlips_2_s (f_X0_placeSlips_2 n) S x1 x2
def f_X0_placeSlips (S : HSt) (a1 : Int32) : Option HSt := f_X0_placeSlips_2 h_fu S a1 0
def f_X0_labelAhead_88 (S : HSt) (k9 : Int32 → Int32 → Int32 → Int32 → Int32 → Int32 → Option Int32) (x1 x2 x4 x5 x6 x7 : Int32) : Option Int32 := k9 x1 x2 x4 x5 x6 (x7 + 1)
def f_X0_labelAhead_86 (S : HSt) (k9 : Int32 → Int32 → Int32 → Int32 → Int32 → Int32 → Option Int32) (x1 x2 x4 x5 x7 t0 : Int32) : Option Int32 := f_X0_labelAhead_88 S k9 x1 x2 x4 x5 t0 x7
def f_X0_labelAhead_54 (S : HSt) (k9 : Int32 → Int32 → Int32 → Int32 → Int32 → Int32 → Option Int32) (x1 x2 x4 x6 x7 t0 : Int32) : Option Int32 := (f_X3_slot x7 x2).bind (fun r1 => (h_ld S 6 96 r1).bind (fun v3 => (f_X3_labelOf v3).bind (fun r5 => if r5 < 16 then (f_X0_labelAhead_86 S k9 x1 x2 x4 t0 x7 x6) else (f_X0_labelAhead_86 S k9 x1 x2 x4 t0 x7 r5))))
def f_X0_labelAhead_49 (S : HSt) (k9 : Int32 → Int32 → Int32 → Int32 → Int32 → Int32 → Option Int32) (x1 x2 x4 x6 x7 : Int32) : Option Int32 := f_X0_labelAhead_54 S k9 x1 x2 x4 x6 x7 1
def f_X0_labelAhead_9_s (S : HSt) (k9 : Int32 → Int32 → Int32 → Int32 → Int32 → Int32 → Option Int32) (x1 x2 x4 x5 x6 x7 : Int32) : Option Int32 := if x4 ≤ x7 then (if x5 = 0 then (some (-1)) else ((h_ld S 3 4 x2).bind (fun v3 => if v3 = x1 then ((f_X0_has S x1 3).bind (fun r6 => if r6 = 0 then (some x6) else (some 3))) else (some x6)))) else ((h_ld S 0 24 x7).bind (fun v9 => if v9 = x1 then (if x5 = 0 then ((f_X3_slot x7 x2).bind (fun r13 => (h_ld S 9 96 r13).bind (fun v15 => if v15 = 0 then (f_X0_labelAhead_54 S k9 x1 x2 x4 x6 x7 0) else (f_X0_labelAhead_49 S k9 x1 x2 x4 x6 x7)))) else (f_X0_labelAhead_49 S k9 x1 x2 x4 x6 x7)) else (f_X0_labelAhead_88 S k9 x1 x2 x4 x5 x6 x7)))
def f_X0_labelAhead_9 (S : HSt) : Nat → Int32 → Int32 → Int32 → Int32 → Int32 → Int32 → Option Int32
  | 0, _, _, _, _, _, _ => none
  | n + 1, x1, x2, x4, x5, x6, x7 => f_X0_labelAhead_9_s S (f_X0_labelAhead_9 S n) x1 x2 x4 x5 x6 x7
def f_X0_labelAhead (S : HSt) (a1 a2 a3 a4 : Int32) : Option Int32 := f_X0_labelAhead_9 S h_fu a1 a2 a4 0 0 a3
def f_X0_bitOf (a0 : Int32) : Option Int32 := if a0 < 16 then (some 0) else (some (1 <<< ((a0 - 16) &&& 31)))
def f_X0_leastFree_3_s (k3 : Int32 → Int32 → Option Int32) (x0 x1 : Int32) : Option Int32 := if 20 ≤ x1 then (some 20) else ((f_X0_bitOf x1).bind (fun r2 => if (x0 &&& r2) = 0 then (some x1) else (k3 x0 (x1 + 1))))
def f_X0_leastFree_3 : Nat → Int32 → Int32 → Option Int32
  | 0, _, _ => none
  | n + 1, x0, x1 => f_X0_leastFree_3_s (f_X0_leastFree_3 n) x0 x1
def f_X0_leastFree (a0 : Int32) : Option Int32 := f_X0_leastFree_3 h_fu a0 16
def f_X0_labelOver_45 (k2 : HSt → Int32 → Int32 → Option HSt) (S : HSt) (x1 x2 : Int32) : Option HSt := k2 S x1 (x2 + 1)
def f_X0_labelOver_2_s (k2 : HSt → Int32 → Int32 → Option HSt) (S : HSt) (x1 x2 : Int32) : Option HSt := if 4 ≤ x2 then (some S) else ((f_X3_slot x1 x2).bind (fun r2 => (h_ld S 9 96 r2).bind (fun v4 => if v4 = 0 then (f_X0_labelOver_45 k2 S x1 x2) else ((f_X3_slot x1 x2).bind (fun r7 => (h_ld S 11 4 x2).bind (fun v9 => (f_X3_countOf v4).bind (fun r11 => (f_X3_slipWith v9 r11).bind (fun r13 => (h_st S 9 96 r7 r13).bind (fun S15 => f_X0_labelOver_45 k2 S15 x1 x2)))))))))
def f_X0_labelOver_2 : Nat → HSt → Int32 → Int32 → Option HSt
  | 0, _, _, _ => none
  | n + 1, S, x1, x2 => f_X0_labelOver_2_s (f_X0_labelOver_2 n) S x1 x2
def f_X0_labelOver (S : HSt) (a1 : Int32) : Option HSt := f_X0_labelOver_2 h_fu S a1 0
def f_X0_fillRow_130 (k104 : HSt → Int32 → Int32 → Int32 → Option HSt) (S : HSt) (x1 x3 x5 : Int32) : Option HSt := k104 S x1 x3 (x5 + 1)
def f_X0_fillRow_104_s (k104 : HSt → Int32 → Int32 → Int32 → Option HSt) (S : HSt) (x1 x3 x5 : Int32) : Option HSt := if x3 ≤ x5 then (some S) else ((h_ld S 0 24 x5).bind (fun v2 => if v2 = x1 then ((f_X0_labelOver S x5).bind (fun S7 => f_X0_fillRow_130 k104 S7 x1 x3 x5)) else (f_X0_fillRow_130 k104 S x1 x3 x5)))
def f_X0_fillRow_104 : Nat → HSt → Int32 → Int32 → Int32 → Option HSt
  | 0, _, _, _, _ => none
  | n + 1, S, x1, x3, x5 => f_X0_fillRow_104_s (f_X0_fillRow_104 n) S x1 x3 x5
def f_X0_fillRow_95 (k52 : HSt → Int32 → Int32 → Int32 → Int32 → Int32 → Option HSt) (S : HSt) (x1 x2 x3 x4 x5 : Int32) : Option HSt := k52 S x1 x2 x3 x4 (x5 + 1)
def f_X0_fillRow_52_s (k52 : HSt → Int32 → Int32 → Int32 → Int32 → Int32 → Option HSt) (S : HSt) (x1 x2 x3 x4 x5 : Int32) : Option HSt := if 4 ≤ x5 then (f_X0_fillRow_104 h_fu S x1 x3 x2) else ((h_ld S 11 4 x5).bind (fun v2 => if v2 = 0 then ((f_X0_leastFree x4).bind (fun r5 => (h_st S 11 4 x5 r5).bind (fun S7 => (h_ld S7 11 4 x5).bind (fun v9 => (f_X0_bitOf v9).bind (fun r11 => f_X0_fillRow_95 k52 S7 x1 x2 x3 (x4 ||| r11) x5))))) else (f_X0_fillRow_95 k52 S x1 x2 x3 x4 x5)))
def f_X0_fillRow_52 : Nat → HSt → Int32 → Int32 → Int32 → Int32 → Int32 → Option HSt
  | 0, _, _, _, _, _, _ => none
  | n + 1, S, x1, x2, x3, x4, x5 => f_X0_fillRow_52_s (f_X0_fillRow_52 n) S x1 x2 x3 x4 x5
def f_X0_fillRow_6_s (k6 : HSt → Int32 → Int32 → Int32 → Int32 → Int32 → Option HSt) (S : HSt) (x1 x2 x3 x4 x5 : Int32) : Option HSt := if 4 ≤ x5 then (f_X0_fillRow_52 h_fu S x1 x2 x3 x4 0) else ((f_X0_labelAhead S x1 x5 x2 x3).bind (fun r2 => (h_st S 11 4 x5 r2).bind (fun S4 => (h_ld S4 11 4 x5).bind (fun v6 => (f_X0_bitOf v6).bind (fun r8 => k6 S4 x1 x2 x3 (x4 ||| r8) (x5 + 1))))))
def f_X0_fillRow_6 : Nat → HSt → Int32 → Int32 → Int32 → Int32 → Int32 → Option HSt
  | 0, _, _, _, _, _, _ => none
  | n + 1, S, x1, x2, x3, x4, x5 => f_X0_fillRow_6_s (f_X0_fillRow_6 n) S x1 x2 x3 x4 x5
def f_X0_fillRow (S : HSt) (a1 a2 a3 : Int32) : Option HSt := f_X0_fillRow_6 h_fu S a1 a2 a3 0 0
def f_X0_fillRows_62 (k27 : HSt → Int32 → Int32 → Option HSt) (S : HSt) (x1 x2 : Int32) : Option HSt := k27 S x1 (x2 + 1)
def f_X0_fillRows_27_s (k27 : HSt → Int32 → Int32 → Option HSt) (S : HSt) (x1 x2 : Int32) : Option HSt := if (2 * (S.1 0)) ≤ x2 then (some S) else ((h_ld S 0 24 x2).bind (fun v2 => if v2 = x1 then ((f_X0_fillRow S x1 x2 (x2 + 1)).bind (fun S7 => f_X0_fillRows_62 k27 S7 x1 x2)) else (f_X0_fillRows_62 k27 S x1 x2)))
def f_X0_fillRows_27 : Nat → HSt → Int32 → Int32 → Option HSt
  | 0, _, _, _ => none
  | n + 1, S, x1, x2 => f_X0_fillRows_27_s (f_X0_fillRows_27 n) S x1 x2
def f_X0_fillRows (S : HSt) (a1 : Int32) : Option HSt := (f_X0_has S a1 2).bind (fun r1 => if r1 = 0 then ((f_X0_fillRow S a1 0 (2 * (S.1 0))).bind (fun S6 => some S6)) else (f_X0_fillRows_27 h_fu S a1 0))
def f_X0_takeFresh_45 (k4 : HSt → Int32 → Int32 → Option (Int32 × HSt)) (S : HSt) (x2 t0 : Int32) : Option (Int32 × HSt) := (h_ld S 9 96 x2).bind (fun v1 => (h_st S 6 96 x2 v1).bind (fun S3 => k4 S3 t0 (x2 + 1)))
def f_X0_takeFresh_40 (k4 : HSt → Int32 → Int32 → Option (Int32 × HSt)) (S : HSt) (x2 : Int32) : Option (Int32 × HSt) := f_X0_takeFresh_45 k4 S x2 1
def f_X0_takeFresh_4_s (k4 : HSt → Int32 → Int32 → Option (Int32 × HSt)) (S : HSt) (x1 x2 : Int32) : Option (Int32 × HSt) := (f_X3_slot (2 * (S.1 0)) 0).bind (fun r1 => if r1 ≤ x2 then (h_b x1 (some (x1, S))) else (if x1 = 0 then ((h_ld S 6 96 x2).bind (fun v5 => (h_ld S 9 96 x2).bind (fun v7 => if v5 = v7 then (f_X0_takeFresh_45 k4 S x2 0) else (f_X0_takeFresh_40 k4 S x2)))) else (f_X0_takeFresh_40 k4 S x2)))
def f_X0_takeFresh_4 : Nat → HSt → Int32 → Int32 → Option (Int32 × HSt)
  | 0, _, _, _ => none
  | n + 1, S, x1, x2 => f_X0_takeFresh_4_s (f_X0_takeFresh_4 n) S x1 x2
def f_X0_takeFresh (S : HSt) : Option (Int32 × HSt) := f_X0_takeFresh_4 h_fu S 0 0
def f_X0_slipToKeep_38 (S : HSt) (x1 x2 : Int32) : Option Int32 := (f_X3_slot (x1 ^^^ 1) x2).bind (fun r1 => (h_ld S 6 96 r1).bind (fun v3 => some v3))
def f_X0_slipToKeep (S : HSt) (a1 a2 : Int32) : Option Int32 := (h_ld S 0 24 a1).bind (fun v1 => (f_X0_has S v1 1).bind (fun r3 => if r3 = 0 then (f_X0_slipToKeep_38 S a1 a2) else ((f_X3_pair v1 a2).bind (fun r6 => (h_ld S 5 28 r6).bind (fun v8 => if v8 = a1 then (f_X0_slipToKeep_38 S a1 a2) else (some 0))))))
def f_X0_keepAll_56 (k19 : HSt → Int32 → Int32 → Int32 → Option (Int32 × HSt)) (S : HSt) (x2 x3 x4 t0 : Int32) : Option (Int32 × HSt) := (f_X3_slot x2 x3).bind (fun r1 => (h_st S 7 96 r1 x4).bind (fun S3 => k19 S3 t0 x2 (x3 + 1)))
def f_X0_keepAll_51 (k19 : HSt → Int32 → Int32 → Int32 → Option (Int32 × HSt)) (S : HSt) (x2 x3 x4 : Int32) : Option (Int32 × HSt) := f_X0_keepAll_56 k19 S x2 x3 x4 1
def f_X0_keepAll_19_s (k4 : HSt → Int32 → Int32 → Option (Int32 × HSt)) (k19 : HSt → Int32 → Int32 → Int32 → Option (Int32 × HSt)) (S : HSt) (x1 x2 x3 : Int32) : Option (Int32 × HSt) := if 4 ≤ x3 then (k4 S x1 (x2 + 1)) else ((f_X0_slipToKeep S x2 x3).bind (fun r2 => if x1 = 0 then ((f_X3_slot x2 x3).bind (fun r5 => (h_ld S 7 96 r5).bind (fun v7 => if v7 = r2 then (f_X0_keepAll_56 k19 S x2 x3 r2 0) else (f_X0_keepAll_51 k19 S x2 x3 r2)))) else (f_X0_keepAll_51 k19 S x2 x3 r2)))
def f_X0_keepAll_19 (k4 : HSt → Int32 → Int32 → Option (Int32 × HSt)) : Nat → HSt → Int32 → Int32 → Int32 → Option (Int32 × HSt)
  | 0, _, _, _, _ => none
  | n + 1, S, x1, x2, x3 => f_X0_keepAll_19_s k4 (f_X0_keepAll_19 k4 n) S x1 x2 x3
def f_X0_keepAll_4_s (k4 : HSt → Int32 → Int32 → Option (Int32 × HSt)) (S : HSt) (x1 x2 : Int32) : Option (Int32 × HSt) := if (2 * (S.1 0)) ≤ x2 then (h_b x1 (some (x1, S))) else (f_X0_keepAll_19 k4 h_fu S x1 x2 0)
def f_X0_keepAll_4 : Nat → HSt → Int32 → Int32 → Option (Int32 × HSt)
  | 0, _, _, _ => none
  | n + 1, S, x1, x2 => f_X0_keepAll_4_s (f_X0_keepAll_4 n) S x1 x2
def f_X0_keepAll (S : HSt) : Option (Int32 × HSt) := f_X0_keepAll_4 h_fu S 0 0
def f_X0_tick_36 (S : HSt) (t0 : Int32) : Option (Int32 × HSt) := h_bi (f_X0_keepAll S ) (fun r1 S3 => if r1 = 0 then (some (t0, S3)) else (some (t0 ||| 2, S3)))
def f_X0_tick_2_s (k2 : HSt → Int32 → Option (Int32 × HSt)) (S : HSt) (x1 : Int32) : Option (Int32 × HSt) := if 7 ≤ x1 then (h_bi (f_X0_takeFresh S ) (fun r2 S4 => if r2 = 0 then (f_X0_tick_36 S4 0) else (f_X0_tick_36 S4 1))) else ((f_X0_placeSlips S x1).bind (fun S8 => (f_X0_fillRows S8 x1).bind (fun S11 => k2 S11 (x1 + 1))))
def f_X0_tick_2 : Nat → HSt → Int32 → Option (Int32 × HSt)
  | 0, _, _ => none
  | n + 1, S, x1 => f_X0_tick_2_s (f_X0_tick_2 n) S x1
def f_X0_tick (S : HSt) : Option (Int32 × HSt) := f_X0_tick_2 h_fu S 0
def f_X0_runTicks_21 (k4 : HSt → Int32 → Int32 → Int32 → Option (Int32 × HSt)) (S : HSt) (x1 x2 x3 : Int32) : Option (Int32 × HSt) := k4 S x1 x2 (x3 + 1)
def f_X0_runTicks_4_s (k4 : HSt → Int32 → Int32 → Int32 → Option (Int32 × HSt)) (S : HSt) (x1 x2 x3 : Int32) : Option (Int32 × HSt) := if x1 ≤ x3 then ((some (h_put S 3 ((S.1 3) + x1))).bind (fun S2 => some (x2, S2))) else (h_bi (f_X0_tick S ) (fun r4 S6 => if (r4 &&& 1) = 0 then (f_X0_runTicks_21 k4 S6 x1 x2 x3) else (f_X0_runTicks_21 k4 S6 x1 (x2 + 1) x3)))
def f_X0_runTicks_4 : Nat → HSt → Int32 → Int32 → Int32 → Option (Int32 × HSt)
  | 0, _, _, _, _ => none
  | n + 1, S, x1, x2, x3 => f_X0_runTicks_4_s (f_X0_runTicks_4 n) S x1 x2 x3
def f_X0_runTicks (S : HSt) (a1 : Int32) : Option (Int32 × HSt) := f_X0_runTicks_4 h_fu S a1 0 0
def f_X0_ticksTillStill_68 (S : HSt) (x1 : Int32) : Option (Int32 × HSt) := (some (h_cp S 12 6 96)).bind (fun S1 => (some (h_cp S1 13 7 96)).bind (fun S3 => some (x1, S3)))
def f_X0_ticksTillStill_62 (k41 : HSt → Int32 → Int32 → Option (Int32 × HSt)) (S : HSt) (x1 x2 : Int32) : Option (Int32 × HSt) := k41 S x1 (x2 + 1)
def f_X0_ticksTillStill_41_s (k41 : HSt → Int32 → Int32 → Option (Int32 × HSt)) (S : HSt) (x1 x2 : Int32) : Option (Int32 × HSt) := if x1 = (-9) then (if 30 ≤ x2 then (f_X0_ticksTillStill_68 S x1) else (h_bi (f_X0_tick S ) (fun r3 S5 => if r3 = 0 then (f_X0_ticksTillStill_62 k41 S5 x2 x2) else (f_X0_ticksTillStill_62 k41 S5 x1 x2)))) else (f_X0_ticksTillStill_68 S x1)
def f_X0_ticksTillStill_41 : Nat → HSt → Int32 → Int32 → Option (Int32 × HSt)
  | 0, _, _, _ => none
  | n + 1, S, x1, x2 => f_X0_ticksTillStill_41_s (f_X0_ticksTillStill_41 n) S x1 x2
def f_X0_ticksTillStill (S : HSt) : Option (Int32 × HSt) := (some (h_cp S 6 12 96)).bind (fun S1 => (some (h_cp S1 7 13 96)).bind (fun S3 => f_X0_ticksTillStill_41 h_fu S3 (-9) 0))
def f_X1_isLink (S : HSt) (a1 : Int32) : Option Int32 := if a1 < 0 then (some 0) else (if (S.1 0) ≤ a1 then (some 0) else (some 1))
def f_X1_sideAt (S : HSt) (a1 a2 : Int32) : Option Int32 := (h_ld S 0 24 (2 * a1)).bind (fun v1 => if v1 = a2 then (some (2 * a1)) else ((h_ld S 0 24 ((2 * a1) + 1)).bind (fun v4 => if v4 = a2 then (some ((2 * a1) + 1)) else (some (-1)))))
def f_X1_joined_32 (S : HSt) (k2 : Int32 → Int32 → Int32 → Option Int32) (x1 x2 x3 : Int32) : Option Int32 := k2 x1 x2 (x3 + 1)
def f_X1_joined_2_s (S : HSt) (k2 : Int32 → Int32 → Int32 → Option Int32) (x1 x2 x3 : Int32) : Option Int32 := if (S.1 0) ≤ x3 then (some 0) else ((f_X1_sideAt S x3 x1).bind (fun r2 => if r2 = (-1) then (f_X1_joined_32 S k2 x1 x2 x3) else ((f_X1_sideAt S x3 x2).bind (fun r5 => if r5 = (-1) then (f_X1_joined_32 S k2 x1 x2 x3) else (some 1)))))
def f_X1_joined_2 (S : HSt) : Nat → Int32 → Int32 → Int32 → Option Int32
  | 0, _, _, _ => none
  | n + 1, x1, x2, x3 => f_X1_joined_2_s S (f_X1_joined_2 S n) x1 x2 x3
def f_X1_joined (S : HSt) (a1 a2 : Int32) : Option Int32 := f_X1_joined_2 S h_fu a1 a2 0
def f_X1_shorten_108 (k4 : HSt → Int32 → Int32 → Int32 → Option (Int32 × HSt)) (S : HSt) (x1 x2 x3 : Int32) : Option (Int32 × HSt) := k4 S x1 x2 (x3 + 1)
def f_X1_shorten_97 (k4 : HSt → Int32 → Int32 → Int32 → Option (Int32 × HSt)) (S : HSt) (x1 x3 x5 x6 : Int32) : Option (Int32 × HSt) := (h_st S 4 28 x5 x6).bind (fun S1 => f_X1_shorten_108 k4 S1 x1 1 x3)
def f_X1_shorten_4_s (k4 : HSt → Int32 → Int32 → Int32 → Option (Int32 × HSt)) (S : HSt) (x1 x2 x3 : Int32) : Option (Int32 × HSt) := if (2 * (S.1 0)) ≤ x3 then (h_b x2 (some (x2, S))) else ((h_ld S 0 24 (x3 ^^^ 1)).bind (fun v2 => (f_X3_pair v2 x1).bind (fun r4 => (h_ld S 4 28 r4).bind (fun v6 => (f_X1_isUpSide S x3).bind (fun r8 => if r8 = 0 then (f_X1_shorten_108 k4 S x1 x2 x3) else (if v6 = (-9) then (f_X1_shorten_108 k4 S x1 x2 x3) else ((h_ld S 0 24 x3).bind (fun v12 => (f_X3_pair v12 x1).bind (fun r14 => (h_ld S 1 12 (x3 >>> (1 &&& 31))).bind (fun v16 => (h_ld S 4 28 r14).bind (fun v18 => if v18 = (-9) then (f_X1_shorten_97 k4 S x1 x3 r14 (v6 + v16)) else ((h_ld S 4 28 r14).bind (fun v21 => if v21 ≤ (v6 + v16) then (f_X1_shorten_108 k4 S x1 x2 x3) else (f_X1_shorten_97 k4 S x1 x3 r14 (v6 + v16)))))))))))))))
def f_X1_shorten_4 : Nat → HSt → Int32 → Int32 → Int32 → Option (Int32 × HSt)
  | 0, _, _, _, _ => none
  | n + 1, S, x1, x2, x3 => f_X1_shorten_4_s (f_X1_shorten_4 n) S x1 x2 x3
def f_X1_shorten (S : HSt) (a1 : Int32) : Option (Int32 × HSt) := f_X1_shorten_4 h_fu S a1 0 0
def f_X1_leadsOn (S : HSt) (a1 a2 : Int32) : Option Int32 := (h_ld S 0 24 (a1 ^^^ 1)).bind (fun v1 => (f_X3_pair v1 a2).bind (fun r3 => (h_ld S 4 28 r3).bind (fun v5 => (f_X1_isUpSide S a1).bind (fun r7 => if r7 = 0 then (some 0) else (if v5 = (-9) then (some 0) else ((h_ld S 1 12 (a1 >>> (1 &&& 31))).bind (fun v11 => (h_ld S 0 24 a1).bind (fun v13 => (f_X3_pair v13 a2).bind (fun r15 => (h_ld S 4 28 r15).bind (fun v17 => if (v5 + v11) = v17 then (some 1) else (some 0)))))))))))
def f_X1_findNextSide_92 (S : HSt) (k32 : Int32 → Int32 → Int32 → Int32 → Option Int32) (x1 x2 x3 x4 : Int32) : Option Int32 := k32 x1 x2 x3 (x4 + 1)
def f_X1_findNextSide_89 (S : HSt) (k32 : Int32 → Int32 → Int32 → Int32 → Option Int32) (x1 x2 x4 : Int32) : Option Int32 := f_X1_findNextSide_92 S k32 x1 x2 x4 x4
def f_X1_findNextSide_32_s (S : HSt) (k32 : Int32 → Int32 → Int32 → Int32 → Option Int32) (x1 x2 x3 x4 : Int32) : Option Int32 := if (2 * (S.1 0)) ≤ x4 then (some x3) else ((h_ld S 0 24 x4).bind (fun v2 => if v2 = x1 then ((f_X1_leadsOn S x4 x2).bind (fun r5 => if r5 = 0 then (f_X1_findNextSide_92 S k32 x1 x2 x3 x4) else (if x3 = (-1) then (f_X1_findNextSide_89 S k32 x1 x2 x4) else ((h_ld S 0 24 (x4 ^^^ 1)).bind (fun v9 => (h_ld S 0 24 (x3 ^^^ 1)).bind (fun v11 => if v11 ≤ v9 then (f_X1_findNextSide_92 S k32 x1 x2 x3 x4) else (f_X1_findNextSide_89 S k32 x1 x2 x4))))))) else (f_X1_findNextSide_92 S k32 x1 x2 x3 x4)))
def f_X1_findNextSide_32 (S : HSt) : Nat → Int32 → Int32 → Int32 → Int32 → Option Int32
  | 0, _, _, _, _ => none
  | n + 1, x1, x2, x3, x4 => f_X1_findNextSide_32_s S (f_X1_findNextSide_32 S n) x1 x2 x3 x4
def f_X1_findNextSide (S : HSt) (a1 a2 : Int32) : Option Int32 := (h_ld S 3 4 a2).bind (fun v1 => if a1 = v1 then (some (-1)) else ((f_X3_pair a1 a2).bind (fun r4 => (h_ld S 4 28 r4).bind (fun v6 => if v6 = (-9) then (some (-1)) else (f_X1_findNextSide_32 S h_fu a1 a2 (-1) 0)))))
def f_X1_findWaysOf_83_s (k83 : HSt → Int32 → Int32 → Option HSt) (S : HSt) (x1 x3 : Int32) : Option HSt := if 7 ≤ x3 then (some S) else ((f_X3_pair x3 x1).bind (fun r2 => (f_X1_findNextSide S x3 x1).bind (fun r4 => (h_st S 5 28 r2 r4).bind (fun S6 => k83 S6 x1 (x3 + 1)))))
def f_X1_findWaysOf_83 : Nat → HSt → Int32 → Int32 → Option HSt
  | 0, _, _, _ => none
  | n + 1, S, x1, x3 => f_X1_findWaysOf_83_s (f_X1_findWaysOf_83 n) S x1 x3
def f_X1_findWaysOf_81 (S : HSt) (x1 : Int32) : Option HSt := f_X1_findWaysOf_83 h_fu S x1 0
def f_X1_findWaysOf_59_s (k59 : HSt → Int32 → Int32 → Int32 → Option HSt) (S : HSt) (x1 x2 x3 : Int32) : Option HSt := if x2 = 0 then (f_X1_findWaysOf_81 S x1) else (if 7 ≤ x3 then (f_X1_findWaysOf_81 S x1) else (h_bi (f_X1_shorten S x1) (fun r3 S5 => k59 S5 x1 r3 (x3 + 1))))
def f_X1_findWaysOf_59 : Nat → HSt → Int32 → Int32 → Int32 → Option HSt
  | 0, _, _, _, _ => none
  | n + 1, S, x1, x2, x3 => f_X1_findWaysOf_59_s (f_X1_findWaysOf_59 n) S x1 x2 x3
def f_X1_findWaysOf_56 (S : HSt) (x1 t0 : Int32) : Option HSt := f_X1_findWaysOf_59 h_fu S x1 t0 0
def f_X1_findWaysOf_33 (k2 : HSt → Int32 → Int32 → Option HSt) (S : HSt) (x1 x2 t0 t1 : Int32) : Option HSt := (h_st S 4 28 t1 t0).bind (fun S1 => k2 S1 x1 (x2 + 1))
def f_X1_findWaysOf_2_s (k2 : HSt → Int32 → Int32 → Option HSt) (S : HSt) (x1 x2 : Int32) : Option HSt := if 7 ≤ x2 then ((h_ld S 3 4 x1).bind (fun v2 => if v2 = (-9) then (f_X1_findWaysOf_56 S x1 0) else (f_X1_findWaysOf_56 S x1 1))) else ((f_X3_pair x2 x1).bind (fun r5 => (h_ld S 3 4 x1).bind (fun v7 => if x2 = v7 then (f_X1_findWaysOf_33 k2 S x1 x2 0 r5) else (f_X1_findWaysOf_33 k2 S x1 x2 (-9) r5))))
def f_X1_findWaysOf_2 : Nat → HSt → Int32 → Int32 → Option HSt
  | 0, _, _, _ => none
  | n + 1, S, x1, x2 => f_X1_findWaysOf_2_s (f_X1_findWaysOf_2 n) S x1 x2
def f_X1_findWaysOf (S : HSt) (a1 : Int32) : Option HSt := f_X1_findWaysOf_2 h_fu S a1 0
def f_X1_findWays_2_s (k2 : HSt → Int32 → Option HSt) (S : HSt) (x1 : Int32) : Option HSt := if 4 ≤ x1 then (some S) else ((f_X1_findWaysOf S x1).bind (fun S4 => k2 S4 (x1 + 1)))
def f_X1_findWays_2 : Nat → HSt → Int32 → Option HSt
  | 0, _, _ => none
  | n + 1, S, x1 => f_X1_findWays_2_s (f_X1_findWays_2 n) S x1
def f_X1_findWays (S : HSt) : Option HSt := f_X1_findWays_2 h_fu S 0
def f_X1_addLink (S : HSt) (a1 a2 a3 : Int32) : Option (Int32 × HSt) := (some (h_put S 0 ((S.1 0) + 1))).bind (fun S1 => (h_st S1 0 24 (2 * (S.1 0)) a1).bind (fun S3 => (h_st S3 0 24 ((2 * (S.1 0)) + 1) a2).bind (fun S5 => (h_st S5 1 12 (S.1 0) a3).bind (fun S7 => (h_st S7 2 12 (S.1 0) 1).bind (fun S9 => (f_X1_findWays S9 ).bind (fun S13 => some (S.1 0, S13)))))))
def f_X1_setCost (S : HSt) (a1 a2 : Int32) : Option HSt := (h_st S 1 12 a1 a2).bind (fun S1 => (f_X1_findWays S1 ).bind (fun S5 => some S5))
def f_X1_setUp (S : HSt) (a1 a2 : Int32) : Option HSt := (h_st S 2 12 a1 a2).bind (fun S1 => (f_X1_findWays S1 ).bind (fun S5 => some S5))
def f_X1_setEnd (S : HSt) (a1 a2 : Int32) : Option HSt := (h_st S 3 4 a1 a2).bind (fun S1 => (f_X1_findWaysOf S1 a1).bind (fun S5 => some S5))
def f_X1_nextBox (S : HSt) (a1 a2 : Int32) : Option Int32 := (f_X3_pair a1 a2).bind (fun r1 => (h_ld S 5 28 r1).bind (fun v3 => if v3 = (-1) then (some (-9)) else ((h_ld S 0 24 (v3 ^^^ 1)).bind (fun v6 => some v6))))
def f_X1_linksUp_4_s (S : HSt) (k4 : Int32 → Int32 → Option Int32) (x1 x2 : Int32) : Option Int32 := if (S.1 0) ≤ x2 then (some x1) else ((h_ld S 2 12 x2).bind (fun v2 => k4 (x1 + v2) (x2 + 1)))
def f_X1_linksUp_4 (S : HSt) : Nat → Int32 → Int32 → Option Int32
  | 0, _, _ => none
  | n + 1, x1, x2 => f_X1_linksUp_4_s S (f_X1_linksUp_4 S n) x1 x2
def f_X1_linksUp (S : HSt) : Option Int32 := f_X1_linksUp_4 S h_fu 0 0
def f_X1_classesWithEnd_23 (S : HSt) (k4 : Int32 → Int32 → Option Int32) (x1 x2 : Int32) : Option Int32 := k4 x1 (x2 + 1)
def f_X1_classesWithEnd_4_s (S : HSt) (k4 : Int32 → Int32 → Option Int32) (x1 x2 : Int32) : Option Int32 := if 4 ≤ x2 then (some x1) else ((h_ld S 3 4 x2).bind (fun v2 => if v2 = (-9) then (f_X1_classesWithEnd_23 S k4 x1 x2) else (f_X1_classesWithEnd_23 S k4 (x1 + 1) x2)))
def f_X1_classesWithEnd_4 (S : HSt) : Nat → Int32 → Int32 → Option Int32
  | 0, _, _ => none
  | n + 1, x1, x2 => f_X1_classesWithEnd_4_s S (f_X1_classesWithEnd_4 S n) x1 x2
def f_X1_classesWithEnd (S : HSt) : Option Int32 := f_X1_classesWithEnd_4 S h_fu 0 0
def f_X2_walkT_156 (k11 : HSt → Int32 → Int32 → Int32 → Int32 → Int32 → Option (Int32 × HSt)) (S : HSt) (x2 x6 x8 t0 : Int32) : Option (Int32 × HSt) := (h_ld S 0 24 (x8 ^^^ 1)).bind (fun v1 => k11 S x2 v1 t0 (x8 ^^^ 1) (x6 + 1))
def f_X2_walkT_138 (k11 : HSt → Int32 → Int32 → Int32 → Int32 → Int32 → Option (Int32 × HSt)) (S : HSt) (x2 x6 x8 x9 : Int32) : Option (Int32 × HSt) := (f_X3_labelOf x9).bind (fun r1 => if r1 = 3 then (f_X2_walkT_156 k11 S x2 x6 x8 0) else ((f_X3_labelOf x9).bind (fun r4 => f_X2_walkT_156 k11 S x2 x6 x8 r4)))
def f_X2_walkT_64 (k11 : HSt → Int32 → Int32 → Int32 → Int32 → Int32 → Option (Int32 × HSt)) (S : HSt) (x2 x3 x4 x6 t0 : Int32) : Option (Int32 × HSt) := if t0 = (-1) then (some (2, S)) else ((h_ld S 3 4 t0).bind (fun v2 => if v2 = x3 then (some (0, S)) else ((f_X3_pair x3 t0).bind (fun r5 => (h_ld S 5 28 r5).bind (fun v7 => if v7 = (-1) then (some (1, S)) else ((f_X0_slipUsed S x3 t0).bind (fun r10 => if r10 = 0 then (if x4 = 0 then (f_X2_walkT_138 k11 S x2 x6 v7 r10) else (some (3, S))) else (f_X2_walkT_138 k11 S x2 x6 v7 r10))))))))
def f_X2_walkT_11_s (k11 : HSt → Int32 → Int32 → Int32 → Int32 → Int32 → Option (Int32 × HSt)) (S : HSt) (x2 x3 x4 x5 x6 : Int32) : Option (Int32 × HSt) := if 14 < x6 then (some (4, S)) else ((h_st S 14 15 x6 x3).bind (fun S2 => (h_st S2 15 15 x6 x4).bind (fun S4 => (some (h_put S4 4 (x6 + 1))).bind (fun S6 => if x4 = 0 then (f_X2_walkT_64 k11 S6 x2 x3 x4 x6 x2) else ((f_X0_classMeant S6 x3 x5 x4).bind (fun r9 => f_X2_walkT_64 k11 S6 x2 x3 x4 x6 r9))))))
def f_X2_walkT_11 : Nat → HSt → Int32 → Int32 → Int32 → Int32 → Int32 → Option (Int32 × HSt)
  | 0, _, _, _, _, _, _ => none
  | n + 1, S, x2, x3, x4, x5, x6 => f_X2_walkT_11_s (f_X2_walkT_11 n) S x2 x3 x4 x5 x6
def f_X2_walkT (S : HSt) (a1 a2 : Int32) : Option (Int32 × HSt) := f_X2_walkT_11 h_fu S a2 a1 0 (-1) 0
def f_X2_walkR_156 (k11 : HSt → Int32 → Int32 → Int32 → Int32 → Int32 → Option (Int32 × HSt)) (S : HSt) (x2 x6 x8 t0 : Int32) : Option (Int32 × HSt) := (h_ld S 0 24 (x8 ^^^ 1)).bind (fun v1 => k11 S x2 v1 t0 (x8 ^^^ 1) (x6 + 1))
def f_X2_walkR_138 (k11 : HSt → Int32 → Int32 → Int32 → Int32 → Int32 → Option (Int32 × HSt)) (S : HSt) (x2 x6 x8 x9 : Int32) : Option (Int32 × HSt) := (f_X3_labelOf x9).bind (fun r1 => if r1 = 3 then (f_X2_walkR_156 k11 S x2 x6 x8 0) else ((f_X3_labelOf x9).bind (fun r4 => f_X2_walkR_156 k11 S x2 x6 x8 r4)))
def f_X2_walkR_64 (k11 : HSt → Int32 → Int32 → Int32 → Int32 → Int32 → Option (Int32 × HSt)) (S : HSt) (x2 x3 x4 x6 t0 : Int32) : Option (Int32 × HSt) := if t0 = (-1) then (some (2, S)) else ((h_ld S 3 4 t0).bind (fun v2 => if v2 = x3 then (some (0, S)) else ((f_X3_pair x3 t0).bind (fun r5 => (h_ld S 5 28 r5).bind (fun v7 => if v7 = (-1) then (some (1, S)) else ((f_X0_slipUsed S x3 t0).bind (fun r10 => if r10 = 0 then (if x4 = 0 then (f_X2_walkR_138 k11 S x2 x6 v7 r10) else (some (3, S))) else (f_X2_walkR_138 k11 S x2 x6 v7 r10))))))))
def f_X2_walkR_11_s (k11 : HSt → Int32 → Int32 → Int32 → Int32 → Int32 → Option (Int32 × HSt)) (S : HSt) (x2 x3 x4 x5 x6 : Int32) : Option (Int32 × HSt) := if 14 < x6 then (some (4, S)) else ((h_st S 16 15 x6 x3).bind (fun S2 => (h_st S2 17 15 x6 x4).bind (fun S4 => (some (h_put S4 5 (x6 + 1))).bind (fun S6 => if x4 = 0 then (f_X2_walkR_64 k11 S6 x2 x3 x4 x6 x2) else ((f_X0_classMeant S6 x3 x5 x4).bind (fun r9 => f_X2_walkR_64 k11 S6 x2 x3 x4 x6 r9))))))
def f_X2_walkR_11 : Nat → HSt → Int32 → Int32 → Int32 → Int32 → Int32 → Option (Int32 × HSt)
  | 0, _, _, _, _, _, _ => none
  | n + 1, S, x2, x3, x4, x5, x6 => f_X2_walkR_11_s (f_X2_walkR_11 n) S x2 x3 x4 x5 x6
def f_X2_walkR (S : HSt) (a1 a2 : Int32) : Option (Int32 × HSt) := f_X2_walkR_11 h_fu S a2 a1 0 (-1) 0
def f_X2_labelledBetweenR_2_s (S : HSt) (k2 : Int32 → Option Int32) (x1 : Int32) : Option Int32 := if ((S.1 5) - 1) ≤ x1 then (some 1) else ((h_ld S 17 15 x1).bind (fun v2 => if v2 = 0 then (some 0) else (k2 (x1 + 1))))
def f_X2_labelledBetweenR_2 (S : HSt) : Nat → Int32 → Option Int32
  | 0, _ => none
  | n + 1, x1 => f_X2_labelledBetweenR_2_s S (f_X2_labelledBetweenR_2 S n) x1
def f_X2_labelledBetweenR (S : HSt) : Option Int32 := f_X2_labelledBetweenR_2 S h_fu 1
def f_X3_isBox (a0 : Int32) : Option Int32 := if a0 < 0 then (some 0) else (if 7 ≤ a0 then (some 0) else (some 1))
def f_X3_isCost (a0 : Int32) : Option Int32 := if a0 < 1 then (some 0) else (if 9 < a0 then (some 0) else (some 1))
def f_X3_link (S : HSt) (a1 a2 a3 : Int32) : Option (Int32 × HSt) := (f_X3_isBox a1).bind (fun r1 => if r1 = 0 then (some ((-1), S)) else ((f_X3_isBox a2).bind (fun r4 => if r4 = 0 then (some ((-1), S)) else ((f_X3_isCost a3).bind (fun r7 => if r7 = 0 then (some ((-2), S)) else (if a1 = a2 then (some ((-3), S)) else ((f_X1_joined S a1 a2).bind (fun r11 => if r11 = 0 then (if (S.1 0) < 12 then (h_bi (f_X1_addLink S (if a2 < a1 then a2 else a1) (if a1 < a2 then a2 else a1) a3) (fun r15 S17 => some (r15, S17))) else (some ((-4), S))) else (some ((-3), S))))))))))
def f_X3_cost (S : HSt) (a1 a2 : Int32) : Option (Int32 × HSt) := (f_X1_isLink S a1).bind (fun r1 => if r1 = 0 then (some ((-1), S)) else ((f_X3_isCost a2).bind (fun r4 => if r4 = 0 then (some ((-2), S)) else ((h_ld S 1 12 a1).bind (fun v7 => (f_X1_setCost S a1 a2).bind (fun S11 => some (v7, S11)))))))
def f_X3_isYesNo_9 : Option Int32 := some 1
def f_X3_isYesNo (a0 : Int32) : Option Int32 := if a0 = 0 then f_X3_isYesNo_9 else (if a0 = 1 then f_X3_isYesNo_9 else (some 0))
def f_X3_up (S : HSt) (a1 a2 : Int32) : Option (Int32 × HSt) := (f_X1_isLink S a1).bind (fun r1 => if r1 = 0 then (some ((-1), S)) else ((f_X3_isYesNo a2).bind (fun r4 => if r4 = 0 then (some ((-2), S)) else ((h_ld S 2 12 a1).bind (fun v7 => (f_X1_setUp S a1 a2).bind (fun S11 => if a2 = 0 then ((f_X0_forgetLink S11 a1).bind (fun S15 => some (v7, S15))) else (some (v7, S11))))))))
def f_X3_isClass (a0 : Int32) : Option Int32 := if a0 < 0 then (some 0) else (if 4 ≤ a0 then (some 0) else (some 1))
def f_X3_end_25 (S : HSt) (x1 x2 : Int32) : Option (Int32 × HSt) := (h_ld S 3 4 x1).bind (fun v1 => (f_X1_setEnd S x1 x2).bind (fun S5 => some (v1, S5)))
def f_X3_end (S : HSt) (a1 a2 : Int32) : Option (Int32 × HSt) := (f_X3_isClass a1).bind (fun r1 => if r1 = 0 then (some ((-1), S)) else ((f_X3_isBox a2).bind (fun r4 => if r4 = 0 then (if a2 = (-9) then (f_X3_end_25 S a1 a2) else (some ((-2), S))) else (f_X3_end_25 S a1 a2))))
def f_X3_ofLink (S : HSt) (a1 a2 : Int32) : Option Int32 := (f_X1_isLink S a1).bind (fun r1 => if r1 = 0 then (some (-1)) else (if a2 = 0 then ((h_ld S 0 24 (2 * a1)).bind (fun v5 => some v5)) else (if a2 = 1 then ((h_ld S 0 24 ((2 * a1) + 1)).bind (fun v8 => some v8)) else (if a2 = 2 then ((h_ld S 1 12 a1).bind (fun v11 => some v11)) else (if a2 = 3 then ((h_ld S 2 12 a1).bind (fun v14 => some v14)) else (some (-2)))))))
def f_X3_next (S : HSt) (a1 a2 : Int32) : Option Int32 := (f_X3_isBox a1).bind (fun r1 => if r1 = 0 then (some (-1)) else ((f_X3_isClass a2).bind (fun r4 => if r4 = 0 then (some (-1)) else ((f_X1_nextBox S a1 a2).bind (fun r7 => some r7)))))
def f_X3_far (S : HSt) (a1 a2 : Int32) : Option Int32 := (f_X3_isBox a1).bind (fun r1 => if r1 = 0 then (some (-1)) else ((f_X3_isClass a2).bind (fun r4 => if r4 = 0 then (some (-1)) else ((f_X3_pair a1 a2).bind (fun r7 => (h_ld S 4 28 r7).bind (fun v9 => some v9))))))
def f_X3_mode (S : HSt) (a1 a2 a3 : Int32) : Option (Int32 × HSt) := (f_X3_isBox a1).bind (fun r1 => if r1 = 0 then (some ((-1), S)) else (if a2 < 0 then (some ((-2), S)) else (if 4 ≤ a2 then (some ((-2), S)) else ((f_X3_isYesNo a3).bind (fun r6 => if r6 = 0 then (some ((-2), S)) else (h_bi (f_X0_changeMode S a1 a2 a3) (fun r9 S11 => some (r9, S11))))))))
def f_X3_setting_29 (S : HSt) (x1 x2 : Int32) : Option (Int32 × HSt) := if x1 = 1 then (if x2 < 1 then (some ((-2), S)) else (if 9 < x2 then (some ((-2), S)) else ((some (h_put S 2 x2)).bind (fun S4 => some (S.1 2, S4))))) else (some ((-2), S))
def f_X3_setting (S : HSt) (a1 a2 : Int32) : Option (Int32 × HSt) := if a1 = 0 then ((f_X3_isYesNo a2).bind (fun r2 => if r2 = 0 then (f_X3_setting_29 S a1 a2) else ((some (h_put S 1 a2)).bind (fun S5 => some (S.1 1, S5))))) else (f_X3_setting_29 S a1 a2)
def f_X3_ticks (S : HSt) (a1 : Int32) : Option (Int32 × HSt) := if a1 < 0 then (some ((-2), S)) else (if a1 ≤ 20 then (h_bi (f_X0_runTicks S a1) (fun r3 S5 => some (r3, S5))) else (some ((-2), S)))
def f_X3_sideFor (S : HSt) (a1 a2 : Int32) : Option Int32 := (f_X3_isBox a1).bind (fun r1 => if r1 = 0 then (some (-1)) else ((f_X1_isLink S a2).bind (fun r4 => if r4 = 0 then (some (-1)) else ((f_X1_sideAt S a2 a1).bind (fun r7 => some r7)))))
def f_X3_partOf (a0 a1 : Int32) : Option Int32 := if a1 < 0 then (some (-2)) else (if a1 ≤ 1 then (if a0 = 0 then (some (-9)) else (if a1 = 0 then ((f_X3_labelOf a0).bind (fun r7 => some r7)) else ((f_X3_countOf a0).bind (fun r5 => some r5)))) else (some (-2)))
def f_X3_handed (S : HSt) (a1 a2 a3 a4 : Int32) : Option Int32 := (f_X3_sideFor S a1 a2).bind (fun r1 => if r1 = (-1) then (some (-1)) else ((f_X3_isClass a3).bind (fun r4 => if r4 = 0 then (some (-1)) else ((f_X3_slot r1 a3).bind (fun r7 => (h_ld S 6 96 r7).bind (fun v9 => (f_X3_partOf v9 a4).bind (fun r11 => some r11)))))))
def f_X3_kept (S : HSt) (a1 a2 a3 a4 : Int32) : Option Int32 := (f_X3_sideFor S a1 a2).bind (fun r1 => if r1 = (-1) then (some (-1)) else ((f_X3_isClass a3).bind (fun r4 => if r4 = 0 then (some (-1)) else ((f_X3_slot r1 a3).bind (fun r7 => (h_ld S 7 96 r7).bind (fun v9 => (f_X3_partOf v9 a4).bind (fun r11 => some r11)))))))
def f_X3_used (S : HSt) (a1 a2 : Int32) : Option Int32 := (f_X3_isBox a1).bind (fun r1 => if r1 = 0 then (some (-1)) else ((f_X3_isClass a2).bind (fun r4 => if r4 = 0 then (some (-1)) else ((f_X0_slipUsed S a1 a2).bind (fun r7 => if r7 = 0 then (some (-9)) else ((f_X3_labelOf r7).bind (fun r10 => some r10)))))))
def f_X3_meaning (S : HSt) (a1 a2 a3 : Int32) : Option Int32 := (f_X3_sideFor S a1 a2).bind (fun r1 => if r1 = (-1) then (some (-1)) else (if a3 < 0 then (some (-2)) else (if a3 ≤ 99 then ((f_X0_classMeant S a1 r1 a3).bind (fun r6 => if r6 = (-1) then (some (-9)) else (some r6))) else (some (-2)))))
def f_X3_settles (S : HSt) : Option (Int32 × HSt) := h_bi (f_X0_ticksTillStill S ) (fun r1 S3 => some (r1, S3))
def f_X3_letter (S : HSt) (a1 a2 : Int32) : Option (Int32 × HSt) := (f_X3_isBox a1).bind (fun r1 => if r1 = 0 then (some ((-1), S)) else ((f_X3_isClass a2).bind (fun r4 => if r4 = 0 then (some ((-1), S)) else (h_bi (f_X2_walkT S a1 a2) (fun r7 S9 => some (r7, S9))))))
def f_X3_trace (S : HSt) (a1 a2 : Int32) : Option Int32 := if a1 < 0 then (some (-2)) else (if 14 < a1 then (some (-2)) else (if a2 < 0 then (some (-2)) else (if a2 ≤ 1 then (if a1 < (S.1 4) then (if a2 = 0 then ((h_ld S 14 15 a1).bind (fun v9 => some v9)) else ((h_ld S 15 15 a1).bind (fun v7 => some v7))) else (some (-9))) else (some (-2)))))
def f_X3_isServed_17 (S : HSt) (x3 t0 : Int32) : Option (Int32 × HSt) := if x3 = 0 then (h_b t0 (some (t0, S))) else (if x3 = 1 then (if t0 = 0 then (some (1, S)) else (some (0, S))) else (if t0 = 0 then (some (0, S)) else ((f_X2_labelledBetweenR S ).bind (fun r4 => if r4 = 0 then (some (0, S)) else (some (1, S))))))
def f_X3_isServed (S : HSt) (a1 a2 a3 : Int32) : Option (Int32 × HSt) := h_bi (f_X2_walkR S a1 a2) (fun r1 S3 => if r1 = 0 then (f_X3_isServed_17 S3 a3 1) else (f_X3_isServed_17 S3 a3 0))
def f_X3_served_51 (k26 : HSt → Int32 → Int32 → Int32 → Int32 → Option (Int32 × HSt)) (S : HSt) (x1 x2 x3 x4 : Int32) : Option (Int32 × HSt) := k26 S x1 x2 x3 (x4 + 1)
def f_X3_served_26_s (k26 : HSt → Int32 → Int32 → Int32 → Int32 → Option (Int32 × HSt)) (S : HSt) (x1 x2 x3 x4 : Int32) : Option (Int32 × HSt) := if 7 ≤ x4 then (some (x3, S)) else (h_bi (f_X3_isServed S x4 x1 x2) (fun r2 S4 => if r2 = 0 then (f_X3_served_51 k26 S4 x1 x2 x3 x4) else (f_X3_served_51 k26 S4 x1 x2 (x3 ||| (1 <<< (x4 &&& 31))) x4)))
def f_X3_served_26 : Nat → HSt → Int32 → Int32 → Int32 → Int32 → Option (Int32 × HSt)
  | 0, _, _, _, _, _ => none
  | n + 1, S, x1, x2, x3, x4 => f_X3_served_26_s (f_X3_served_26 n) S x1 x2 x3 x4
def f_X3_served (S : HSt) (a1 a2 : Int32) : Option (Int32 × HSt) := (f_X3_isClass a1).bind (fun r1 => if r1 = 0 then (some ((-1), S)) else (if a2 < 0 then (some ((-2), S)) else (if a2 ≤ 2 then (f_X3_served_26 h_fu S a1 a2 0 0) else (some ((-2), S)))))
def f_X3_merged_62 (S : HSt) (k21 : Int32 → Int32 → Int32 → Int32 → Option Int32) (x1 x2 x3 x4 : Int32) : Option Int32 := k21 x1 x2 x3 (x4 + 1)
def f_X3_merged_21_s (S : HSt) (k21 : Int32 → Int32 → Int32 → Int32 → Option Int32) (x1 x2 x3 x4 : Int32) : Option Int32 := if 7 ≤ x4 then (some x3) else ((f_X1_nextBox S x4 x2).bind (fun r2 => if r2 = x1 then ((f_X0_slipUsed S x4 x2).bind (fun r5 => if r5 = 0 then (f_X3_merged_62 S k21 x1 x2 x3 x4) else (f_X3_merged_62 S k21 x1 x2 (x3 ||| (1 <<< (x4 &&& 31))) x4))) else (f_X3_merged_62 S k21 x1 x2 x3 x4)))
def f_X3_merged_21 (S : HSt) : Nat → Int32 → Int32 → Int32 → Int32 → Option Int32
  | 0, _, _, _, _ => none
  | n + 1, x1, x2, x3, x4 => f_X3_merged_21_s S (f_X3_merged_21 S n) x1 x2 x3 x4
def f_X3_merged (S : HSt) (a1 a2 : Int32) : Option Int32 := (f_X3_isBox a1).bind (fun r1 => if r1 = 0 then (some (-1)) else ((f_X3_isClass a2).bind (fun r4 => if r4 = 0 then (some (-1)) else (f_X3_merged_21 S h_fu a1 a2 0 0))))
def f_X3_countSlipsH_19 (S : HSt) (k4 : Int32 → Int32 → Option Int32) (x1 x2 : Int32) : Option Int32 := k4 x1 (x2 + 1)
def f_X3_countSlipsH_4_s (S : HSt) (k4 : Int32 → Int32 → Option Int32) (x1 x2 : Int32) : Option Int32 := if 96 ≤ x2 then (some x1) else ((h_ld S 6 96 x2).bind (fun v2 => if v2 = 0 then (f_X3_countSlipsH_19 S k4 x1 x2) else (f_X3_countSlipsH_19 S k4 (x1 + 1) x2)))
def f_X3_countSlipsH_4 (S : HSt) : Nat → Int32 → Int32 → Option Int32
  | 0, _, _ => none
  | n + 1, x1, x2 => f_X3_countSlipsH_4_s S (f_X3_countSlipsH_4 S n) x1 x2
def f_X3_countSlipsH (S : HSt) : Option Int32 := f_X3_countSlipsH_4 S h_fu 0 0
def f_X3_countSlipsK_19 (S : HSt) (k4 : Int32 → Int32 → Option Int32) (x1 x2 : Int32) : Option Int32 := k4 x1 (x2 + 1)
def f_X3_countSlipsK_4_s (S : HSt) (k4 : Int32 → Int32 → Option Int32) (x1 x2 : Int32) : Option Int32 := if 96 ≤ x2 then (some x1) else ((h_ld S 7 96 x2).bind (fun v2 => if v2 = 0 then (f_X3_countSlipsK_19 S k4 x1 x2) else (f_X3_countSlipsK_19 S k4 (x1 + 1) x2)))
def f_X3_countSlipsK_4 (S : HSt) : Nat → Int32 → Int32 → Option Int32
  | 0, _, _ => none
  | n + 1, x1, x2 => f_X3_countSlipsK_4_s S (f_X3_countSlipsK_4 S n) x1 x2
def f_X3_countSlipsK (S : HSt) : Option Int32 := f_X3_countSlipsK_4 S h_fu 0 0
def f_X3_many (S : HSt) (a1 : Int32) : Option Int32 := if a1 = 0 then (some (S.1 0)) else (if a1 = 1 then ((f_X1_linksUp S ).bind (fun r3 => some r3)) else (if a1 = 2 then ((f_X3_countSlipsH S ).bind (fun r6 => some r6)) else (if a1 = 3 then ((f_X3_countSlipsK S ).bind (fun r9 => some r9)) else (if a1 = 4 then ((f_X1_classesWithEnd S ).bind (fun r12 => some r12)) else (if a1 = 5 then (some (S.1 3)) else (if a1 = 6 then ((f_X0_greatestLabel S ).bind (fun r16 => some r16)) else (some (-2))))))))
def f_X4_within (a0 a1 a2 : Int32) : Option Int32 := if a0 < a1 then (some 0) else (if a2 < a0 then (some 0) else (some 1))
def f_X4_isBox (a0 : Int32) : Option Int32 := (f_X4_within a0 0 6).bind (fun r1 => h_b r1 (some r1))
def f_X4_isClass (a0 : Int32) : Option Int32 := (f_X4_within a0 0 3).bind (fun r1 => h_b r1 (some r1))
def f_X4_isLink (S : HSt) (a1 : Int32) : Option Int32 := (f_X4_within a1 0 ((S.1 0) - 1)).bind (fun r1 => h_b r1 (some r1))
def f_X4_linkBetween_52 (S : HSt) (k2 : Int32 → Int32 → Int32 → Option Int32) (x1 x2 x3 : Int32) : Option Int32 := k2 x1 x2 (x3 + 1)
def f_X4_linkBetween_30 (S : HSt) (k2 : Int32 → Int32 → Int32 → Option Int32) (x1 x2 x3 : Int32) : Option Int32 := (h_ld S 0 12 x3).bind (fun v1 => if v1 = x2 then ((h_ld S 1 12 x3).bind (fun v4 => if v4 = x1 then (some x3) else (f_X4_linkBetween_52 S k2 x1 x2 x3))) else (f_X4_linkBetween_52 S k2 x1 x2 x3))
def f_X4_linkBetween_2_s (S : HSt) (k2 : Int32 → Int32 → Int32 → Option Int32) (x1 x2 x3 : Int32) : Option Int32 := if (S.1 0) ≤ x3 then (some (-9)) else ((h_ld S 0 12 x3).bind (fun v2 => if v2 = x1 then ((h_ld S 1 12 x3).bind (fun v5 => if v5 = x2 then (some x3) else (f_X4_linkBetween_30 S k2 x1 x2 x3))) else (f_X4_linkBetween_30 S k2 x1 x2 x3)))
def f_X4_linkBetween_2 (S : HSt) : Nat → Int32 → Int32 → Int32 → Option Int32
  | 0, _, _, _ => none
  | n + 1, x1, x2, x3 => f_X4_linkBetween_2_s S (f_X4_linkBetween_2 S n) x1 x2 x3
def f_X4_linkBetween (S : HSt) (a1 a2 : Int32) : Option Int32 := f_X4_linkBetween_2 S h_fu a1 a2 0
def f_X4_isAt_20 (S : HSt) : Option Int32 := some 1
def f_X4_isAt (S : HSt) (a1 a2 : Int32) : Option Int32 := (h_ld S 0 12 a1).bind (fun v1 => if v1 = a2 then (f_X4_isAt_20 S) else ((h_ld S 1 12 a1).bind (fun v4 => if v4 = a2 then (f_X4_isAt_20 S) else (some 0))))
def f_X4_otherOf (S : HSt) (a1 a2 : Int32) : Option Int32 := (h_ld S 0 12 a1).bind (fun v1 => if v1 = a2 then ((h_ld S 1 12 a1).bind (fun v6 => some v6)) else ((h_ld S 0 12 a1).bind (fun v4 => some v4)))
def f_X4_link_97 (S : HSt) (x3 t0 t1 : Int32) : Option (Int32 × HSt) := (h_st S 1 12 t1 t0).bind (fun S1 => (h_st S1 2 12 (S1.1 0) x3).bind (fun S3 => (h_stz S3 3 12 (S3.1 0) 1).bind (fun S5 => (some (h_put S5 0 ((S5.1 0) + 1))).bind (fun S7 => some ((S7.1 0) - 1, S7)))))
def f_X4_link_78 (S : HSt) (x1 x2 x3 t0 t1 : Int32) : Option (Int32 × HSt) := (h_st S 0 12 t1 t0).bind (fun S1 => if x2 ≤ x1 then (f_X4_link_97 S1 x3 x1 (S1.1 0)) else (f_X4_link_97 S1 x3 x2 (S1.1 0)))
def f_X4_link (S : HSt) (a1 a2 a3 : Int32) : Option (Int32 × HSt) := (f_X4_isBox a1).bind (fun r1 => if r1 = 0 then (some ((-1), S)) else ((f_X4_isBox a2).bind (fun r4 => if r4 = 0 then (some ((-1), S)) else ((f_X4_within a3 1 9).bind (fun r7 => if r7 = 0 then (some ((-2), S)) else (if a1 = a2 then (some ((-3), S)) else ((f_X4_linkBetween S a1 a2).bind (fun r11 => if r11 = (-9) then (if (S.1 0) = 12 then (some ((-4), S)) else (if a2 ≤ a1 then (f_X4_link_78 S a1 a2 a3 a2 (S.1 0)) else (f_X4_link_78 S a1 a2 a3 a1 (S.1 0)))) else (some ((-3), S))))))))))
def f_X4_cost (S : HSt) (a1 a2 : Int32) : Option (Int32 × HSt) := (f_X4_isLink S a1).bind (fun r1 => if r1 = 0 then (some ((-1), S)) else ((f_X4_within a2 1 9).bind (fun r4 => if r4 = 0 then (some ((-2), S)) else ((h_ld S 2 12 a1).bind (fun v7 => (h_st S 2 12 a1 a2).bind (fun S9 => some (v7, S9)))))))
def f_X4_up_95 (k56 : HSt → Int32 → Int32 → Int32 → Int32 → Option (Int32 × HSt)) (S : HSt) (x1 x2 x3 x4 : Int32) : Option (Int32 × HSt) := k56 S x1 x2 x3 (x4 + 1)
def f_X4_up_56_s (k56 : HSt → Int32 → Int32 → Int32 → Int32 → Option (Int32 × HSt)) (S : HSt) (x1 x2 x3 x4 : Int32) : Option (Int32 × HSt) := if 336 ≤ x4 then (some (x3, S)) else (if x2 = 0 then (if ((x4 / 4) - (x4 / 4) / 12 * 12) = x1 then ((h_st S 8 336 x4 0).bind (fun S4 => (h_st S4 10 336 x4 0).bind (fun S6 => f_X4_up_95 k56 S6 x1 x2 x3 x4))) else (f_X4_up_95 k56 S x1 x2 x3 x4)) else (some (x3, S)))
def f_X4_up_56 : Nat → HSt → Int32 → Int32 → Int32 → Int32 → Option (Int32 × HSt)
  | 0, _, _, _, _, _ => none
  | n + 1, S, x1, x2, x3, x4 => f_X4_up_56_s (f_X4_up_56 n) S x1 x2 x3 x4
def f_X4_up_52 (S : HSt) (x1 x2 x3 t0 t1 : Int32) : Option (Int32 × HSt) := (h_stz S 3 12 t1 t0).bind (fun S1 => f_X4_up_56 h_fu S1 x1 x2 x3 0)
def f_X4_up_36 (S : HSt) (x1 x2 t0 : Int32) : Option (Int32 × HSt) := if x2 = 1 then (f_X4_up_52 S x1 x2 t0 1 x1) else (f_X4_up_52 S x1 x2 t0 0 x1)
def f_X4_up (S : HSt) (a1 a2 : Int32) : Option (Int32 × HSt) := (f_X4_isLink S a1).bind (fun r1 => if r1 = 0 then (some ((-1), S)) else ((f_X4_within a2 0 1).bind (fun r4 => if r4 = 0 then (some ((-2), S)) else ((h_ld S 3 12 a1).bind (fun v7 => if v7 = 0 then (f_X4_up_36 S a1 a2 0) else (f_X4_up_36 S a1 a2 1))))))
def f_X4_end_25 (S : HSt) (x1 x2 : Int32) : Option (Int32 × HSt) := (h_ld S 4 4 x1).bind (fun v1 => (h_st S 4 4 x1 x2).bind (fun S3 => some (v1, S3)))
def f_X4_end (S : HSt) (a1 a2 : Int32) : Option (Int32 × HSt) := (f_X4_isClass a1).bind (fun r1 => if r1 = 0 then (some ((-1), S)) else (if a2 = (-9) then (f_X4_end_25 S a1 a2) else ((f_X4_isBox a2).bind (fun r5 => if r5 = 0 then (some ((-2), S)) else (f_X4_end_25 S a1 a2)))))
def f_X4_ofLink (S : HSt) (a1 a2 : Int32) : Option Int32 := (f_X4_isLink S a1).bind (fun r1 => if r1 = 0 then (some (-1)) else (if a2 = 0 then ((h_ld S 0 12 a1).bind (fun v5 => some v5)) else (if a2 = 1 then ((h_ld S 1 12 a1).bind (fun v8 => some v8)) else (if a2 = 2 then ((h_ld S 2 12 a1).bind (fun v11 => some v11)) else (if a2 = 3 then ((h_ld S 3 12 a1).bind (fun v14 => if v14 = 0 then (some 0) else (some 1))) else (some (-2)))))))
def f_X4_findFar_183 (k47 : HSt → Int32 → Int32 → Option HSt) (S : HSt) (x2 x3 : Int32) : Option HSt := k47 S x2 (x3 + 1)
def f_X4_findFar_127 (k47 : HSt → Int32 → Int32 → Option HSt) (S : HSt) (x2 x3 x4 x5 : Int32) : Option HSt := (h_ld S 3 12 x3).bind (fun v1 => if v1 = 0 then (f_X4_findFar_183 k47 S x2 x3) else ((h_ld S 5 7 x5).bind (fun v4 => (h_ld S 2 12 x3).bind (fun v6 => (h_ld S 5 7 x4).bind (fun v8 => if v8 ≤ (v4 + v6) then (f_X4_findFar_183 k47 S x2 x3) else ((h_ld S 5 7 x5).bind (fun v11 => (h_ld S 2 12 x3).bind (fun v13 => (h_st S 5 7 x4 (v11 + v13)).bind (fun S15 => f_X4_findFar_183 k47 S15 1 x3)))))))))
def f_X4_findFar_47_s (k39 : HSt → Int32 → Option HSt) (k47 : HSt → Int32 → Int32 → Option HSt) (S : HSt) (x2 x3 : Int32) : Option HSt := if (S.1 0) ≤ x3 then (k39 S x2) else ((h_ld S 0 12 x3).bind (fun v2 => (h_ld S 1 12 x3).bind (fun v4 => (h_ld S 3 12 x3).bind (fun v6 => if v6 = 0 then (f_X4_findFar_127 k47 S x2 x3 v2 v4) else ((h_ld S 5 7 v2).bind (fun v9 => (h_ld S 2 12 x3).bind (fun v11 => (h_ld S 5 7 v4).bind (fun v13 => if v13 ≤ (v9 + v11) then (f_X4_findFar_127 k47 S x2 x3 v2 v4) else ((h_ld S 5 7 v2).bind (fun v16 => (h_ld S 2 12 x3).bind (fun v18 => (h_st S 5 7 v4 (v16 + v18)).bind (fun S20 => f_X4_findFar_127 k47 S20 1 x3 v2 v4))))))))))))
def f_X4_findFar_47 (k39 : HSt → Int32 → Option HSt) : Nat → HSt → Int32 → Int32 → Option HSt
  | 0, _, _, _ => none
  | n + 1, S, x2, x3 => f_X4_findFar_47_s k39 (f_X4_findFar_47 k39 n) S x2 x3
def f_X4_findFar_39_s (k39 : HSt → Int32 → Option HSt) (S : HSt) (x2 : Int32) : Option HSt := if x2 = 0 then (some S) else (f_X4_findFar_47 k39 h_fu S 0 0)
def f_X4_findFar_39 : Nat → HSt → Int32 → Option HSt
  | 0, _, _ => none
  | n + 1, S, x2 => f_X4_findFar_39_s (f_X4_findFar_39 n) S x2
def f_X4_findFar_30 (k2 : HSt → Int32 → Int32 → Option HSt) (S : HSt) (x1 x2 t0 t1 : Int32) : Option HSt := (h_st S 5 7 t1 t0).bind (fun S1 => k2 S1 x1 (x2 + 1))
def f_X4_findFar_2_s (k2 : HSt → Int32 → Int32 → Option HSt) (S : HSt) (x1 x2 : Int32) : Option HSt := if 7 ≤ x2 then (f_X4_findFar_39 h_fu S 1) else ((h_ld S 4 4 x1).bind (fun v2 => if v2 = x2 then (f_X4_findFar_30 k2 S x1 x2 0 x2) else (f_X4_findFar_30 k2 S x1 x2 1000 x2)))
def f_X4_findFar_2 : Nat → HSt → Int32 → Int32 → Option HSt
  | 0, _, _, _ => none
  | n + 1, S, x1, x2 => f_X4_findFar_2_s (f_X4_findFar_2 n) S x1 x2
def f_X4_findFar (S : HSt) (a1 : Int32) : Option HSt := f_X4_findFar_2 h_fu S a1 0
def f_X4_nextOf_84 (k7 : HSt → Int32 → Int32 → Option (Int32 × HSt)) (S : HSt) (x1 x3 : Int32) : Option (Int32 × HSt) := k7 S x1 (x3 + 1)
def f_X4_nextOf_7_s (k7 : HSt → Int32 → Int32 → Option (Int32 × HSt)) (S : HSt) (x1 x3 : Int32) : Option (Int32 × HSt) := if 7 ≤ x3 then (some ((-9), S)) else ((h_ld S 5 7 x1).bind (fun v2 => if v2 ≤ 0 then (some ((-9), S)) else ((h_ld S 5 7 x1).bind (fun v5 => if 1000 ≤ v5 then (some ((-9), S)) else ((f_X4_linkBetween S x1 x3).bind (fun r8 => if r8 = (-9) then (f_X4_nextOf_84 k7 S x1 x3) else ((h_ld S 3 12 r8).bind (fun v11 => if v11 = 0 then (f_X4_nextOf_84 k7 S x1 x3) else ((h_ld S 5 7 x3).bind (fun v14 => (h_ld S 2 12 r8).bind (fun v16 => (h_ld S 5 7 x1).bind (fun v18 => if (v14 + v16) = v18 then (some (x3, S)) else (f_X4_nextOf_84 k7 S x1 x3)))))))))))))
def f_X4_nextOf_7 : Nat → HSt → Int32 → Int32 → Option (Int32 × HSt)
  | 0, _, _, _ => none
  | n + 1, S, x1, x3 => f_X4_nextOf_7_s (f_X4_nextOf_7 n) S x1 x3
def f_X4_nextOf (S : HSt) (a1 a2 : Int32) : Option (Int32 × HSt) := (f_X4_findFar S a2).bind (fun S3 => f_X4_nextOf_7 h_fu S3 a1 0)
def f_X4_next (S : HSt) (a1 a2 : Int32) : Option (Int32 × HSt) := (f_X4_isBox a1).bind (fun r1 => if r1 = 0 then (some ((-1), S)) else ((f_X4_isClass a2).bind (fun r4 => if r4 = 0 then (some ((-1), S)) else (h_bi (f_X4_nextOf S a1 a2) (fun r7 S9 => some (r7, S9))))))
def f_X4_far (S : HSt) (a1 a2 : Int32) : Option (Int32 × HSt) := (f_X4_isBox a1).bind (fun r1 => if r1 = 0 then (some ((-1), S)) else ((f_X4_isClass a2).bind (fun r4 => if r4 = 0 then (some ((-1), S)) else ((f_X4_findFar S a2).bind (fun S9 => (h_ld S9 5 7 a1).bind (fun v10 => if 1000 ≤ v10 then (some ((-9), S9)) else ((h_ld S9 5 7 a1).bind (fun v13 => some (v13, S9)))))))))
def f_X4_at (a0 a1 a2 : Int32) : Option Int32 := some ((4 * ((12 * a0) + a1)) + a2)
def f_X4_is (S : HSt) (a1 a2 : Int32) : Option Int32 := (h_ld S 6 28 ((4 * a1) + a2)).bind (fun v1 => if v1 = 1 then (some 1) else (some 0))
def f_X4_mode_61_s (k61 : HSt → Int32 → Int32 → Int32 → Int32 → Int32 → Option (Int32 × HSt)) (S : HSt) (x1 x2 x3 x4 x5 : Int32) : Option (Int32 × HSt) := (f_X4_at (x1 + 1) 0 0).bind (fun r1 => if r1 ≤ x5 then (some (x4, S)) else (if x2 = 2 then (if x4 = x3 then (some (x4, S)) else ((h_st S 8 336 x5 0).bind (fun S6 => k61 S6 x1 x2 x3 x4 (x5 + 1)))) else (some (x4, S))))
def f_X4_mode_61 : Nat → HSt → Int32 → Int32 → Int32 → Int32 → Int32 → Option (Int32 × HSt)
  | 0, _, _, _, _, _, _ => none
  | n + 1, S, x1, x2, x3, x4, x5 => f_X4_mode_61_s (f_X4_mode_61 n) S x1 x2 x3 x4 x5
def f_X4_mode (S : HSt) (a1 a2 a3 : Int32) : Option (Int32 × HSt) := (f_X4_isBox a1).bind (fun r1 => if r1 = 0 then (some ((-1), S)) else ((f_X4_within a2 0 3).bind (fun r4 => if r4 = 0 then (some ((-2), S)) else ((f_X4_within a3 0 1).bind (fun r7 => if r7 = 0 then (some ((-2), S)) else ((h_ld S 6 28 ((4 * a1) + a2)).bind (fun v10 => (h_st S 6 28 ((4 * a1) + a2) a3).bind (fun S12 => (f_X4_at a1 0 0).bind (fun r14 => f_X4_mode_61 h_fu S12 a1 a2 a3 v10 r14)))))))))
def f_X4_setting_33 (S : HSt) (x1 x2 t0 : Int32) : Option (Int32 × HSt) := if t0 = 0 then (some ((-2), S)) else ((h_ld S 7 2 x1).bind (fun v2 => (h_st S 7 2 x1 x2).bind (fun S4 => some (v2, S4))))
def f_X4_setting_32 (S : HSt) (x1 x2 : Int32) : Option (Int32 × HSt) := f_X4_setting_33 S x1 x2 0
def f_X4_setting (S : HSt) (a1 a2 : Int32) : Option (Int32 × HSt) := if a1 = 0 then ((f_X4_within a2 0 1).bind (fun r6 => f_X4_setting_33 S a1 a2 r6)) else (if a1 = 1 then ((f_X4_within a2 1 9).bind (fun r3 => if r3 = 0 then (f_X4_setting_32 S a1 a2) else (f_X4_setting_33 S a1 a2 1))) else (f_X4_setting_32 S a1 a2))
def f_X4_usedAt (S : HSt) (a1 a2 : Int32) : Option (Int32 × HSt) := h_bi (f_X4_nextOf S a1 a2) (fun r1 S3 => if r1 = (-9) then (some ((-9), S3)) else ((f_X4_linkBetween S3 a1 r1).bind (fun r5 => (f_X4_at a1 r5 a2).bind (fun r7 => some (r7, S3)))))
def f_X4_countOf (S : HSt) (a1 a2 : Int32) : Option (Int32 × HSt) := (h_ld S 4 4 a2).bind (fun v1 => if v1 = a1 then (some (0, S)) else (h_bi (f_X4_usedAt S a1 a2) (fun r4 S6 => if r4 = (-9) then (some ((-9), S6)) else ((h_ld S6 10 336 r4).bind (fun v8 => if v8 = 0 then ((h_ld S6 7 2 0).bind (fun v18 => if v18 = 1 then (some ((-9), S6)) else (some (1, S6)))) else ((h_ld S6 11 336 r4).bind (fun v11 => (h_ld S6 7 2 1).bind (fun v13 => if (v11 + 1) ≤ v13 then ((h_ld S6 11 336 r4).bind (fun v16 => some (v16 + 1, S6))) else (some ((-9), S6))))))))))
def f_X4_hands_63 (S : HSt) : Option Int32 := some 1
def f_X4_hands (S : HSt) (a1 a2 a3 : Int32) : Option Int32 := (f_X4_isAt S a2 a1).bind (fun r1 => if r1 = 0 then (some 0) else ((h_ld S 3 12 a2).bind (fun v4 => if v4 = 0 then (some 0) else ((h_ld S 17 28 ((4 * a1) + a3)).bind (fun v7 => if v7 = (-9) then (some 0) else ((f_X4_is S a1 0).bind (fun r10 => if r10 = 0 then (f_X4_hands_63 S) else ((f_X4_otherOf S a2 a1).bind (fun r13 => (h_ld S 16 28 ((4 * r13) + a3)).bind (fun v15 => if v15 = a1 then (f_X4_hands_63 S) else (some 0)))))))))))
def f_X4_labelWas_48 (S : HSt) (k3 : Int32 → Int32 → Int32 → Int32 → Option Int32) (x1 x2 x3 x4 : Int32) : Option Int32 := k3 x1 x2 x3 (x4 + 1)
def f_X4_labelWas_38 (S : HSt) (k3 : Int32 → Int32 → Int32 → Int32 → Option Int32) (x1 x2 x3 x4 x5 : Int32) : Option Int32 := if x5 < 16 then (f_X4_labelWas_48 S k3 x1 x2 x3 x4) else (some x5)
def f_X4_labelWas_3_s (S : HSt) (k3 : Int32 → Int32 → Int32 → Int32 → Option Int32) (x1 x2 x3 x4 : Int32) : Option Int32 := if (S.1 0) ≤ x4 then (some 0) else ((f_X4_at x1 x4 x3).bind (fun r2 => (h_ld S 12 336 r2).bind (fun v4 => if x2 = (-9) then (f_X4_labelWas_38 S k3 x1 x2 x3 x4 v4) else (if x2 = x4 then (f_X4_labelWas_38 S k3 x1 x2 x3 x4 v4) else (f_X4_labelWas_48 S k3 x1 x2 x3 x4)))))
def f_X4_labelWas_3 (S : HSt) : Nat → Int32 → Int32 → Int32 → Int32 → Option Int32
  | 0, _, _, _, _ => none
  | n + 1, x1, x2, x3, x4 => f_X4_labelWas_3_s S (f_X4_labelWas_3 S n) x1 x2 x3 x4
def f_X4_labelWas (S : HSt) (a1 a2 a3 : Int32) : Option Int32 := f_X4_labelWas_3 S h_fu a1 a2 a3 0
def f_X4_isInRow_52 (S : HSt) (k15 : Int32 → Int32 → Int32 → Int32 → Int32 → Option Int32) (x1 x2 x3 x4 x5 : Int32) : Option Int32 := k15 x1 x2 x3 x4 (x5 + 1)
def f_X4_isInRow_33 (S : HSt) (k15 : Int32 → Int32 → Int32 → Int32 → Int32 → Option Int32) (x1 x2 x3 x4 x5 : Int32) : Option Int32 := (f_X4_at x1 x4 x5).bind (fun r1 => (h_ld S 8 336 r1).bind (fun v3 => if v3 = x3 then (some 1) else (f_X4_isInRow_52 S k15 x1 x2 x3 x4 x5)))
def f_X4_isInRow_15_s (S : HSt) (k3 : Int32 → Int32 → Int32 → Int32 → Option Int32) (k15 : Int32 → Int32 → Int32 → Int32 → Int32 → Option Int32) (x1 x2 x3 x4 x5 : Int32) : Option Int32 := if 4 ≤ x5 then (k3 x1 x2 x3 (x4 + 1)) else (if x2 = (-9) then (f_X4_isInRow_33 S k15 x1 x2 x3 x4 x5) else (if x2 = x4 then (f_X4_isInRow_33 S k15 x1 x2 x3 x4 x5) else (f_X4_isInRow_52 S k15 x1 x2 x3 x4 x5)))
def f_X4_isInRow_15 (S : HSt) (k3 : Int32 → Int32 → Int32 → Int32 → Option Int32) : Nat → Int32 → Int32 → Int32 → Int32 → Int32 → Option Int32
  | 0, _, _, _, _, _ => none
  | n + 1, x1, x2, x3, x4, x5 => f_X4_isInRow_15_s S k3 (f_X4_isInRow_15 S k3 n) x1 x2 x3 x4 x5
def f_X4_isInRow_3_s (S : HSt) (k3 : Int32 → Int32 → Int32 → Int32 → Option Int32) (x1 x2 x3 x4 : Int32) : Option Int32 := if (S.1 0) ≤ x4 then (some 0) else (f_X4_isInRow_15 S k3 h_fu x1 x2 x3 x4 0)
def f_X4_isInRow_3 (S : HSt) : Nat → Int32 → Int32 → Int32 → Int32 → Option Int32
  | 0, _, _, _, _ => none
  | n + 1, x1, x2, x3, x4 => f_X4_isInRow_3_s S (f_X4_isInRow_3 S n) x1 x2 x3 x4
def f_X4_isInRow (S : HSt) (a1 a2 a3 : Int32) : Option Int32 := f_X4_isInRow_3 S h_fu a1 a2 a3 0
def f_X4_isNew_19 (S : HSt) (x1 x2 x3 : Int32) : Option Int32 := (f_X4_labelWas S x1 x2 x3).bind (fun r1 => if r1 = 0 then (some 1) else (some 0))
def f_X4_isNew (S : HSt) (a1 a2 a3 : Int32) : Option Int32 := (h_ld S 4 4 a3).bind (fun v1 => if v1 = a1 then ((f_X4_is S a1 3).bind (fun r4 => if r4 = 0 then (f_X4_isNew_19 S a1 a2 a3) else (some 0))) else (f_X4_isNew_19 S a1 a2 a3))
def f_X4_labels_71 (k3 : HSt → Int32 → Int32 → Int32 → Int32 → Int32 → Option HSt) (S : HSt) (x1 x2 x3 x4 x5 : Int32) : Option HSt := k3 S x1 x2 x3 x4 (x5 + 1)
def f_X4_labels_24 (k3 : HSt → Int32 → Int32 → Int32 → Int32 → Int32 → Option HSt) (S : HSt) (x1 x2 x3 x4 x5 : Int32) : Option HSt := (f_X4_hands S x1 x5 x3).bind (fun r1 => if r1 = 0 then (f_X4_labels_71 k3 S x1 x2 x3 x4 x5) else ((f_X4_at x1 x5 x3).bind (fun r4 => (h_st S 8 336 r4 x4).bind (fun S6 => (f_X4_at x1 x5 x3).bind (fun r8 => (h_ld S6 17 28 ((4 * x1) + x3)).bind (fun v10 => (h_st S6 9 336 r8 v10).bind (fun S12 => f_X4_labels_71 k3 S12 x1 x2 x3 x4 x5)))))))
def f_X4_labels_3_s (k3 : HSt → Int32 → Int32 → Int32 → Int32 → Int32 → Option HSt) (S : HSt) (x1 x2 x3 x4 x5 : Int32) : Option HSt := if (S.1 0) ≤ x5 then (some S) else (if x2 = (-9) then (f_X4_labels_24 k3 S x1 x2 x3 x4 x5) else (if x2 = x5 then (f_X4_labels_24 k3 S x1 x2 x3 x4 x5) else (f_X4_labels_71 k3 S x1 x2 x3 x4 x5)))
def f_X4_labels_3 : Nat → HSt → Int32 → Int32 → Int32 → Int32 → Int32 → Option HSt
  | 0, _, _, _, _, _, _ => none
  | n + 1, S, x1, x2, x3, x4, x5 => f_X4_labels_3_s (f_X4_labels_3 n) S x1 x2 x3 x4 x5
def f_X4_labels (S : HSt) (a1 a2 a3 a4 : Int32) : Option HSt := f_X4_labels_3 h_fu S a1 a2 a3 a4 0
def f_X4_handsInRow_37 (S : HSt) (k3 : Int32 → Int32 → Int32 → Int32 → Option Int32) (x1 x2 x3 x4 : Int32) : Option Int32 := k3 x1 x2 x3 (x4 + 1)
def f_X4_handsInRow_24 (S : HSt) (k3 : Int32 → Int32 → Int32 → Int32 → Option Int32) (x1 x2 x3 x4 : Int32) : Option Int32 := (f_X4_hands S x1 x4 x3).bind (fun r1 => if r1 = 0 then (f_X4_handsInRow_37 S k3 x1 x2 x3 x4) else (some 1))
def f_X4_handsInRow_3_s (S : HSt) (k3 : Int32 → Int32 → Int32 → Int32 → Option Int32) (x1 x2 x3 x4 : Int32) : Option Int32 := if (S.1 0) ≤ x4 then (some 0) else (if x2 = (-9) then (f_X4_handsInRow_24 S k3 x1 x2 x3 x4) else (if x2 = x4 then (f_X4_handsInRow_24 S k3 x1 x2 x3 x4) else (f_X4_handsInRow_37 S k3 x1 x2 x3 x4)))
def f_X4_handsInRow_3 (S : HSt) : Nat → Int32 → Int32 → Int32 → Int32 → Option Int32
  | 0, _, _, _, _ => none
  | n + 1, x1, x2, x3, x4 => f_X4_handsInRow_3_s S (f_X4_handsInRow_3 S n) x1 x2 x3 x4
def f_X4_handsInRow (S : HSt) (a1 a2 a3 : Int32) : Option Int32 := f_X4_handsInRow_3 S h_fu a1 a2 a3 0
def f_X4_handsRow_117 (k62 : HSt → Int32 → Int32 → Int32 → Option HSt) (S : HSt) (x1 x2 x3 : Int32) : Option HSt := k62 S x1 x2 (x3 + 1)
def f_X4_handsRow_91_s (k62 : HSt → Int32 → Int32 → Int32 → Option HSt) (k91 : HSt → Int32 → Int32 → Int32 → Int32 → Option HSt) (S : HSt) (x1 x2 x3 x4 : Int32) : Option HSt := (f_X4_isInRow S x1 x2 x4).bind (fun r1 => if r1 = 0 then ((f_X4_labels S x1 x2 x3 x4).bind (fun S6 => f_X4_handsRow_117 k62 S6 x1 x2 x3)) else (k91 S x1 x2 x3 (x4 + 1)))
def f_X4_handsRow_91 (k62 : HSt → Int32 → Int32 → Int32 → Option HSt) : Nat → HSt → Int32 → Int32 → Int32 → Int32 → Option HSt
  | 0, _, _, _, _, _ => none
  | n + 1, S, x1, x2, x3, x4 => f_X4_handsRow_91_s k62 (f_X4_handsRow_91 k62 n) S x1 x2 x3 x4
def f_X4_handsRow_62_s (k62 : HSt → Int32 → Int32 → Int32 → Option HSt) (S : HSt) (x1 x2 x3 : Int32) : Option HSt := if 4 ≤ x3 then (some S) else ((f_X4_isNew S x1 x2 x3).bind (fun r2 => if r2 = 0 then (f_X4_handsRow_117 k62 S x1 x2 x3) else ((f_X4_handsInRow S x1 x2 x3).bind (fun r5 => if r5 = 0 then (f_X4_handsRow_117 k62 S x1 x2 x3) else (f_X4_handsRow_91 k62 h_fu S x1 x2 x3 16)))))
def f_X4_handsRow_62 : Nat → HSt → Int32 → Int32 → Int32 → Option HSt
  | 0, _, _, _, _ => none
  | n + 1, S, x1, x2, x3 => f_X4_handsRow_62_s (f_X4_handsRow_62 n) S x1 x2 x3
def f_X4_handsRow_54 (k2 : HSt → Int32 → Int32 → Int32 → Option HSt) (S : HSt) (x1 x2 x3 : Int32) : Option HSt := k2 S x1 x2 (x3 + 1)
def f_X4_handsRow_51 (k2 : HSt → Int32 → Int32 → Int32 → Option HSt) (S : HSt) (x1 x2 x3 t0 t1 t2 t3 : Int32) : Option HSt := (f_X4_labels S t3 t2 t1 t0).bind (fun S3 => f_X4_handsRow_54 k2 S3 x1 x2 x3)
def f_X4_handsRow_44 (k2 : HSt → Int32 → Int32 → Int32 → Option HSt) (S : HSt) (x1 x2 x3 t0 t1 t2 : Int32) : Option HSt := (f_X4_labelWas S x1 x2 x3).bind (fun r1 => f_X4_handsRow_51 k2 S x1 x2 x3 r1 t0 t1 t2)
def f_X4_handsRow_2_s (k2 : HSt → Int32 → Int32 → Int32 → Option HSt) (S : HSt) (x1 x2 x3 : Int32) : Option HSt := if 4 ≤ x3 then (f_X4_handsRow_62 h_fu S x1 x2 0) else ((f_X4_isNew S x1 x2 x3).bind (fun r2 => if r2 = 0 then ((h_ld S 4 4 x3).bind (fun v5 => if v5 = x1 then ((f_X4_is S x1 3).bind (fun r8 => if r8 = 0 then (f_X4_handsRow_44 k2 S x1 x2 x3 x3 x2 x1) else (f_X4_handsRow_51 k2 S x1 x2 x3 3 x3 x2 x1))) else (f_X4_handsRow_44 k2 S x1 x2 x3 x3 x2 x1))) else (f_X4_handsRow_54 k2 S x1 x2 x3)))
def f_X4_handsRow_2 : Nat → HSt → Int32 → Int32 → Int32 → Option HSt
  | 0, _, _, _, _ => none
  | n + 1, S, x1, x2, x3 => f_X4_handsRow_2_s (f_X4_handsRow_2 n) S x1 x2 x3
def f_X4_handsRow (S : HSt) (a1 a2 : Int32) : Option HSt := f_X4_handsRow_2 h_fu S a1 a2 0
def f_X4_handsAll_19_s (k19 : HSt → Int32 → Int32 → Option HSt) (S : HSt) (x1 x2 : Int32) : Option HSt := if (S.1 0) ≤ x2 then (some S) else ((f_X4_handsRow S x1 x2).bind (fun S4 => k19 S4 x1 (x2 + 1)))
def f_X4_handsAll_19 : Nat → HSt → Int32 → Int32 → Option HSt
  | 0, _, _, _ => none
  | n + 1, S, x1, x2 => f_X4_handsAll_19_s (f_X4_handsAll_19 n) S x1 x2
def f_X4_handsAll (S : HSt) (a1 : Int32) : Option HSt := (f_X4_is S a1 2).bind (fun r1 => if r1 = 0 then ((f_X4_handsRow S a1 (-9)).bind (fun S6 => some S6)) else (f_X4_handsAll_19 h_fu S a1 0))
def f_X4_keeps_146 (k2 : HSt → Int32 → Option HSt) (S : HSt) (x1 : Int32) : Option HSt := k2 S (x1 + 1)
def f_X4_keeps_126 (k2 : HSt → Int32 → Option HSt) (S : HSt) (x1 x3 x4 x5 t0 t1 : Int32) : Option HSt := (h_st S 10 336 t1 t0).bind (fun S1 => (f_X4_at x5 x3 x4).bind (fun r3 => (h_ld S1 9 336 r3).bind (fun v5 => (h_st S1 11 336 x1 v5).bind (fun S7 => f_X4_keeps_146 k2 S7 x1))))
def f_X4_keeps_97 (k2 : HSt → Int32 → Option HSt) (S : HSt) (x1 x3 x4 x5 t0 : Int32) : Option HSt := if t0 = 0 then (f_X4_keeps_126 k2 S x1 x3 x4 x5 0 x1) else ((f_X4_at x5 x3 x4).bind (fun r2 => (h_ld S 8 336 r2).bind (fun v4 => f_X4_keeps_126 k2 S x1 x3 x4 x5 v4 x1)))
def f_X4_keeps_92 (k2 : HSt → Int32 → Option HSt) (S : HSt) (x1 x3 x4 x5 : Int32) : Option HSt := f_X4_keeps_97 k2 S x1 x3 x4 x5 1
def f_X4_keeps_2_s (k2 : HSt → Int32 → Option HSt) (S : HSt) (x1 : Int32) : Option HSt := if 336 ≤ x1 then (some S) else ((h_st S 10 336 x1 0).bind (fun S2 => (f_X4_isLink S2 ((x1 / 4) - (x1 / 4) / 12 * 12)).bind (fun r4 => if r4 = 0 then (f_X4_keeps_146 k2 S2 x1) else ((f_X4_isAt S2 ((x1 / 4) - (x1 / 4) / 12 * 12) (x1 / 48)).bind (fun r7 => if r7 = 0 then (f_X4_keeps_146 k2 S2 x1) else ((h_ld S2 3 12 ((x1 / 4) - (x1 / 4) / 12 * 12)).bind (fun v10 => if v10 = 0 then (f_X4_keeps_146 k2 S2 x1) else ((f_X4_otherOf S2 ((x1 / 4) - (x1 / 4) / 12 * 12) (x1 / 48)).bind (fun r13 => (f_X4_is S2 (x1 / 48) 1).bind (fun r15 => if r15 = 0 then (f_X4_keeps_92 k2 S2 x1 ((x1 / 4) - (x1 / 4) / 12 * 12) (x1 - x1 / 4 * 4) r13) else ((h_ld S2 16 28 ((4 * (x1 / 48)) + (x1 - x1 / 4 * 4))).bind (fun v18 => if v18 = r13 then (f_X4_keeps_92 k2 S2 x1 ((x1 / 4) - (x1 / 4) / 12 * 12) (x1 - x1 / 4 * 4) r13) else (f_X4_keeps_97 k2 S2 x1 ((x1 / 4) - (x1 / 4) / 12 * 12) (x1 - x1 / 4 * 4) r13 0)))))))))))))
def f_X4_keeps_2 : Nat → HSt → Int32 → Option HSt
  | 0, _, _ => none
  | n + 1, S, x1 => f_X4_keeps_2_s (f_X4_keeps_2 n) S x1
def f_X4_keeps (S : HSt) : Option HSt := f_X4_keeps_2 h_fu S 0
def f_X4_goesOn_118_s (k118 : HSt → Int32 → Option HSt) (S : HSt) (x1 : Int32) : Option HSt := if 7 ≤ x1 then ((f_X4_keeps S ).bind (fun S4 => some S4)) else ((f_X4_handsAll S x1).bind (fun S7 => k118 S7 (x1 + 1)))
def f_X4_goesOn_118 : Nat → HSt → Int32 → Option HSt
  | 0, _, _ => none
  | n + 1, S, x1 => f_X4_goesOn_118_s (f_X4_goesOn_118 n) S x1
def f_X4_goesOn_48_s (k48 : HSt → Int32 → Option HSt) (S : HSt) (x1 : Int32) : Option HSt := if 336 ≤ x1 then (f_X4_goesOn_118 h_fu S 0) else ((h_ld S 8 336 x1).bind (fun v2 => (h_st S 12 336 x1 v2).bind (fun S4 => (h_ld S4 9 336 x1).bind (fun v6 => (h_st S4 13 336 x1 v6).bind (fun S8 => (h_ld S8 10 336 x1).bind (fun v10 => (h_st S8 14 336 x1 v10).bind (fun S12 => (h_ld S12 11 336 x1).bind (fun v14 => (h_st S12 15 336 x1 v14).bind (fun S16 => (h_st S16 8 336 x1 0).bind (fun S18 => k48 S18 (x1 + 1)))))))))))
def f_X4_goesOn_48 : Nat → HSt → Int32 → Option HSt
  | 0, _, _ => none
  | n + 1, S, x1 => f_X4_goesOn_48_s (f_X4_goesOn_48 n) S x1
def f_X4_goesOn_2_s (k2 : HSt → Int32 → Option HSt) (S : HSt) (x1 : Int32) : Option HSt := if 28 ≤ x1 then (f_X4_goesOn_48 h_fu S 0) else (h_bi (f_X4_nextOf S (x1 / 4) (x1 - x1 / 4 * 4)) (fun r2 S4 => (h_st S4 16 28 x1 r2).bind (fun S5 => h_bi (f_X4_countOf S5 (x1 / 4) (x1 - x1 / 4 * 4)) (fun r7 S9 => (h_st S9 17 28 x1 r7).bind (fun S10 => k2 S10 (x1 + 1))))))
def f_X4_goesOn_2 : Nat → HSt → Int32 → Option HSt
  | 0, _, _ => none
  | n + 1, S, x1 => f_X4_goesOn_2_s (f_X4_goesOn_2 n) S x1
def f_X4_goesOn (S : HSt) : Option HSt := f_X4_goesOn_2 h_fu S 0
def f_X4_isChanged_115 (S : HSt) (k2 : Int32 → Int32 → Option Int32) (x1 x2 : Int32) : Option Int32 := k2 x1 (x2 + 1)
def f_X4_isChanged_98 (S : HSt) (k2 : Int32 → Int32 → Option Int32) (x1 x2 x3 t0 : Int32) : Option Int32 := if x3 = 0 then (if x1 = 0 then (f_X4_isChanged_115 S k2 x1 x2) else (if t0 = 0 then (f_X4_isChanged_115 S k2 x1 x2) else (some 1))) else (some 1)
def f_X4_isChanged_93 (S : HSt) (k2 : Int32 → Int32 → Option Int32) (x1 x2 x3 : Int32) : Option Int32 := f_X4_isChanged_98 S k2 x1 x2 x3 1
def f_X4_isChanged_97 (S : HSt) (k2 : Int32 → Int32 → Option Int32) (x1 x2 x3 : Int32) : Option Int32 := f_X4_isChanged_98 S k2 x1 x2 x3 0
def f_X4_isChanged_53 (S : HSt) (k2 : Int32 → Int32 → Option Int32) (x1 x2 t0 : Int32) : Option Int32 := (h_ld S 10 336 x2).bind (fun v1 => (h_ld S 14 336 x2).bind (fun v3 => if v1 = v3 then ((h_ld S 10 336 x2).bind (fun v6 => if v6 ≤ 0 then (f_X4_isChanged_97 S k2 x1 x2 t0) else ((h_ld S 11 336 x2).bind (fun v9 => (h_ld S 15 336 x2).bind (fun v11 => if v9 = v11 then (f_X4_isChanged_97 S k2 x1 x2 t0) else (f_X4_isChanged_93 S k2 x1 x2 t0)))))) else (f_X4_isChanged_93 S k2 x1 x2 t0)))
def f_X4_isChanged_48 (S : HSt) (k2 : Int32 → Int32 → Option Int32) (x1 x2 : Int32) : Option Int32 := f_X4_isChanged_53 S k2 x1 x2 1
def f_X4_isChanged_52 (S : HSt) (k2 : Int32 → Int32 → Option Int32) (x1 x2 : Int32) : Option Int32 := f_X4_isChanged_53 S k2 x1 x2 0
def f_X4_isChanged_2_s (S : HSt) (k2 : Int32 → Int32 → Option Int32) (x1 x2 : Int32) : Option Int32 := if 336 ≤ x2 then (some 0) else ((h_ld S 8 336 x2).bind (fun v2 => (h_ld S 12 336 x2).bind (fun v4 => if v2 = v4 then ((h_ld S 8 336 x2).bind (fun v7 => if v7 ≤ 0 then (f_X4_isChanged_52 S k2 x1 x2) else ((h_ld S 9 336 x2).bind (fun v10 => (h_ld S 13 336 x2).bind (fun v12 => if v10 = v12 then (f_X4_isChanged_52 S k2 x1 x2) else (f_X4_isChanged_48 S k2 x1 x2)))))) else (f_X4_isChanged_48 S k2 x1 x2))))
def f_X4_isChanged_2 (S : HSt) : Nat → Int32 → Int32 → Option Int32
  | 0, _, _ => none
  | n + 1, x1, x2 => f_X4_isChanged_2_s S (f_X4_isChanged_2 S n) x1 x2
def f_X4_isChanged (S : HSt) (a1 : Int32) : Option Int32 := f_X4_isChanged_2 S h_fu a1 0
def f_X4_ticks_50 (k17 : HSt → Int32 → Int32 → Int32 → Option (Int32 × HSt)) (S : HSt) (x1 x3 t0 t1 : Int32) : Option (Int32 × HSt) := k17 S x1 (t1 + t0) (x3 + 1)
def f_X4_ticks_17_s (k17 : HSt → Int32 → Int32 → Int32 → Option (Int32 × HSt)) (S : HSt) (x1 x2 x3 : Int32) : Option (Int32 × HSt) := if x1 ≤ x3 then (some (x2, S)) else ((f_X4_goesOn S ).bind (fun S4 => (some (h_put S4 1 ((S4.1 1) + 1))).bind (fun S5 => (f_X4_isChanged S5 0).bind (fun r7 => if r7 = 0 then (f_X4_ticks_50 k17 S5 x1 x3 0 x2) else (f_X4_ticks_50 k17 S5 x1 x3 1 x2)))))
def f_X4_ticks_17 : Nat → HSt → Int32 → Int32 → Int32 → Option (Int32 × HSt)
  | 0, _, _, _, _ => none
  | n + 1, S, x1, x2, x3 => f_X4_ticks_17_s (f_X4_ticks_17 n) S x1 x2 x3
def f_X4_ticks (S : HSt) (a1 : Int32) : Option (Int32 × HSt) := (f_X4_within a1 0 20).bind (fun r1 => if r1 = 0 then (some ((-2), S)) else (f_X4_ticks_17 h_fu S a1 0 0))
def f_X4_isThere (S : HSt) (a1 a2 : Int32) : Option Int32 := (f_X4_isBox a1).bind (fun r1 => if r1 = 0 then (some 0) else ((f_X4_isLink S a2).bind (fun r4 => if r4 = 0 then (some 0) else ((f_X4_isAt S a2 a1).bind (fun r7 => if r7 = 0 then (some 0) else (some 1))))))
def f_X4_tell (a0 a1 a2 : Int32) : Option Int32 := (f_X4_within a2 0 1).bind (fun r1 => if r1 = 0 then (some (-2)) else (if a0 = 0 then (some (-9)) else (if a2 = 0 then (some a0) else (some a1))))
def f_X4_handed (S : HSt) (a1 a2 a3 a4 : Int32) : Option Int32 := (f_X4_isThere S a1 a2).bind (fun r1 => if r1 = 0 then (some (-1)) else ((f_X4_isClass a3).bind (fun r4 => if r4 = 0 then (some (-1)) else ((f_X4_at a1 a2 a3).bind (fun r7 => (h_ld S 8 336 r7).bind (fun v9 => (f_X4_at a1 a2 a3).bind (fun r11 => (h_ld S 9 336 r11).bind (fun v13 => (f_X4_tell v9 v13 a4).bind (fun r15 => some r15)))))))))
def f_X4_kept (S : HSt) (a1 a2 a3 a4 : Int32) : Option Int32 := (f_X4_isThere S a1 a2).bind (fun r1 => if r1 = 0 then (some (-1)) else ((f_X4_isClass a3).bind (fun r4 => if r4 = 0 then (some (-1)) else ((f_X4_at a1 a2 a3).bind (fun r7 => (h_ld S 10 336 r7).bind (fun v9 => (f_X4_at a1 a2 a3).bind (fun r11 => (h_ld S 11 336 r11).bind (fun v13 => (f_X4_tell v9 v13 a4).bind (fun r15 => some r15)))))))))
def f_X4_usedLabel (S : HSt) (a1 a2 : Int32) : Option (Int32 × HSt) := h_bi (f_X4_usedAt S a1 a2) (fun r1 S3 => if r1 = (-9) then (some (0, S3)) else ((h_ld S3 10 336 r1).bind (fun v5 => some (v5, S3))))
def f_X4_used (S : HSt) (a1 a2 : Int32) : Option (Int32 × HSt) := (f_X4_isBox a1).bind (fun r1 => if r1 = 0 then (some ((-1), S)) else ((f_X4_isClass a2).bind (fun r4 => if r4 = 0 then (some ((-1), S)) else (h_bi (f_X4_usedLabel S a1 a2) (fun r7 S9 => if r7 = 0 then (some ((-9), S9)) else (some (r7, S9)))))))
def f_X4_meaningOf_84 (S : HSt) (k12 : Int32 → Int32 → Int32 → Int32 → Int32 → Option Int32) (x1 x2 x3 x4 x5 : Int32) : Option Int32 := k12 x1 x2 x3 x4 (x5 + 1)
def f_X4_meaningOf_59 (S : HSt) (k12 : Int32 → Int32 → Int32 → Int32 → Int32 → Option Int32) (x1 x2 x3 x4 x5 t0 : Int32) : Option Int32 := if t0 = 0 then (f_X4_meaningOf_84 S k12 x1 x2 x3 x4 x5) else ((f_X4_is S x1 2).bind (fun r2 => if r2 = 0 then (some x4) else (if x5 = x2 then (some x4) else (f_X4_meaningOf_84 S k12 x1 x2 x3 x4 x5))))
def f_X4_meaningOf_58 (S : HSt) (k12 : Int32 → Int32 → Int32 → Int32 → Int32 → Option Int32) (x1 x2 x3 x4 x5 : Int32) : Option Int32 := f_X4_meaningOf_59 S k12 x1 x2 x3 x4 x5 0
def f_X4_meaningOf_12_s (S : HSt) (k3 : Int32 → Int32 → Int32 → Int32 → Option Int32) (k12 : Int32 → Int32 → Int32 → Int32 → Int32 → Option Int32) (x1 x2 x3 x4 x5 : Int32) : Option Int32 := if (S.1 0) ≤ x5 then (k3 x1 x2 x3 (x4 + 1)) else ((f_X4_at x1 x5 x4).bind (fun r2 => (h_ld S 8 336 r2).bind (fun v4 => if v4 ≤ 0 then (f_X4_meaningOf_58 S k12 x1 x2 x3 x4 x5) else ((f_X4_at x1 x5 x4).bind (fun r7 => (h_ld S 8 336 r7).bind (fun v9 => if v9 = x3 then (f_X4_meaningOf_59 S k12 x1 x2 x3 x4 x5 1) else (f_X4_meaningOf_58 S k12 x1 x2 x3 x4 x5)))))))
def f_X4_meaningOf_12 (S : HSt) (k3 : Int32 → Int32 → Int32 → Int32 → Option Int32) : Nat → Int32 → Int32 → Int32 → Int32 → Int32 → Option Int32
  | 0, _, _, _, _, _ => none
  | n + 1, x1, x2, x3, x4, x5 => f_X4_meaningOf_12_s S k3 (f_X4_meaningOf_12 S k3 n) x1 x2 x3 x4 x5
def f_X4_meaningOf_3_s (S : HSt) (k3 : Int32 → Int32 → Int32 → Int32 → Option Int32) (x1 x2 x3 x4 : Int32) : Option Int32 := if 4 ≤ x4 then (some (-9)) else (f_X4_meaningOf_12 S k3 h_fu x1 x2 x3 x4 0)
def f_X4_meaningOf_3 (S : HSt) : Nat → Int32 → Int32 → Int32 → Int32 → Option Int32
  | 0, _, _, _, _ => none
  | n + 1, x1, x2, x3, x4 => f_X4_meaningOf_3_s S (f_X4_meaningOf_3 S n) x1 x2 x3 x4
def f_X4_meaningOf (S : HSt) (a1 a2 a3 : Int32) : Option Int32 := f_X4_meaningOf_3 S h_fu a1 a2 a3 0
def f_X4_meaning (S : HSt) (a1 a2 a3 : Int32) : Option Int32 := (f_X4_isThere S a1 a2).bind (fun r1 => if r1 = 0 then (some (-1)) else ((f_X4_within a3 0 99).bind (fun r4 => if r4 = 0 then (some (-2)) else ((f_X4_meaningOf S a1 a2 a3).bind (fun r7 => some r7)))))
def f_X4_putsAside_136 (k2 : HSt → Int32 → Int32 → Option HSt) (S : HSt) (x1 x2 : Int32) : Option HSt := k2 S x1 (x2 + 1)
def f_X4_putsAside_2_s (k2 : HSt → Int32 → Int32 → Option HSt) (S : HSt) (x1 x2 : Int32) : Option HSt := if 336 ≤ x2 then (some S) else (if x1 = 0 then ((h_ld S 8 336 x2).bind (fun v3 => (h_st S 18 1344 x2 v3).bind (fun S5 => (h_ld S5 9 336 x2).bind (fun v7 => (h_st S5 18 1344 (336 + x2) v7).bind (fun S9 => (h_ld S9 10 336 x2).bind (fun v11 => (h_st S9 18 1344 (672 + x2) v11).bind (fun S13 => (h_ld S13 11 336 x2).bind (fun v15 => (h_st S13 18 1344 (1008 + x2) v15).bind (fun S17 => f_X4_putsAside_136 k2 S17 x1 x2))))))))) else ((h_ld S 18 1344 x2).bind (fun v19 => (h_st S 8 336 x2 v19).bind (fun S21 => (h_ld S21 18 1344 (336 + x2)).bind (fun v23 => (h_st S21 9 336 x2 v23).bind (fun S25 => (h_ld S25 18 1344 (672 + x2)).bind (fun v27 => (h_st S25 10 336 x2 v27).bind (fun S29 => (h_ld S29 18 1344 (1008 + x2)).bind (fun v31 => (h_st S29 11 336 x2 v31).bind (fun S33 => f_X4_putsAside_136 k2 S33 x1 x2))))))))))
def f_X4_putsAside_2 : Nat → HSt → Int32 → Int32 → Option HSt
  | 0, _, _, _ => none
  | n + 1, S, x1, x2 => f_X4_putsAside_2_s (f_X4_putsAside_2 n) S x1 x2
def f_X4_putsAside (S : HSt) (a1 : Int32) : Option HSt := f_X4_putsAside_2 h_fu S a1 0
def f_X4_settles_44 (S : HSt) (x1 x2 : Int32) : Option (Int32 × HSt) := (f_X4_putsAside S 1).bind (fun S3 => if x2 = 0 then (some (x1, S3)) else (some ((-9), S3)))
def f_X4_settles_39 (k9 : HSt → Int32 → Int32 → Option (Int32 × HSt)) (S : HSt) (x2 t0 t1 : Int32) : Option (Int32 × HSt) := k9 S (t1 + t0) x2
def f_X4_settles_9_s (k9 : HSt → Int32 → Int32 → Option (Int32 × HSt)) (S : HSt) (x1 x2 : Int32) : Option (Int32 × HSt) := if x2 = 0 then (f_X4_settles_44 S x1 x2) else (if 30 ≤ x1 then (f_X4_settles_44 S x1 x2) else ((f_X4_goesOn S ).bind (fun S5 => (f_X4_isChanged S5 1).bind (fun r6 => if r6 = 0 then (f_X4_settles_39 k9 S5 r6 0 x1) else (f_X4_settles_39 k9 S5 r6 1 x1)))))
def f_X4_settles_9 : Nat → HSt → Int32 → Int32 → Option (Int32 × HSt)
  | 0, _, _, _ => none
  | n + 1, S, x1, x2 => f_X4_settles_9_s (f_X4_settles_9 n) S x1 x2
def f_X4_settles (S : HSt) : Option (Int32 × HSt) := (f_X4_putsAside S 0).bind (fun S3 => f_X4_settles_9 h_fu S3 0 1)
def f_X4_goes_149 (k14 : HSt → Int32 → Int32 → Int32 → Int32 → Option (Int32 × HSt)) (S : HSt) (x2 x3 x7 t0 : Int32) : Option (Int32 × HSt) := (f_X4_linkBetween S x3 x7).bind (fun r1 => k14 S x2 x7 t0 r1)
def f_X4_goes_126 (k14 : HSt → Int32 → Int32 → Int32 → Int32 → Option (Int32 × HSt)) (S : HSt) (x2 x3 x7 x8 : Int32) : Option (Int32 × HSt) := if (S.1 2) ≤ 14 then (if x8 = 3 then (f_X4_goes_149 k14 S x2 x3 x7 0) else (f_X4_goes_149 k14 S x2 x3 x7 x8)) else (some (4, S))
def f_X4_goes_63 (k14 : HSt → Int32 → Int32 → Int32 → Int32 → Option (Int32 × HSt)) (S : HSt) (x2 x3 x4 t0 : Int32) : Option (Int32 × HSt) := if t0 = (-9) then (some (2, S)) else ((h_ld S 4 4 t0).bind (fun v2 => if v2 = x3 then (some (0, S)) else (h_bi (f_X4_nextOf S x3 t0) (fun r5 S7 => if r5 = (-9) then (some (1, S7)) else (h_bi (f_X4_usedLabel S7 x3 t0) (fun r9 S11 => if r9 = 0 then (if x4 ≤ 0 then (f_X4_goes_126 k14 S11 x2 x3 r5 r9) else (some (3, S11))) else (f_X4_goes_126 k14 S11 x2 x3 r5 r9)))))))
def f_X4_goes_14_s (k14 : HSt → Int32 → Int32 → Int32 → Int32 → Option (Int32 × HSt)) (S : HSt) (x2 x3 x4 x5 : Int32) : Option (Int32 × HSt) := (h_st S 19 15 (S.1 2) x3).bind (fun S1 => (h_st S1 20 15 (S1.1 2) x4).bind (fun S3 => (some (h_put S3 2 ((S3.1 2) + 1))).bind (fun S5 => if x4 = 0 then (f_X4_goes_63 k14 S5 x2 x3 x4 x2) else ((f_X4_meaningOf S5 x3 x5 x4).bind (fun r8 => f_X4_goes_63 k14 S5 x2 x3 x4 r8)))))
def f_X4_goes_14 : Nat → HSt → Int32 → Int32 → Int32 → Int32 → Option (Int32 × HSt)
  | 0, _, _, _, _, _ => none
  | n + 1, S, x2, x3, x4, x5 => f_X4_goes_14_s (f_X4_goes_14 n) S x2 x3 x4 x5
def f_X4_goes (S : HSt) (a1 a2 : Int32) : Option (Int32 × HSt) := (some (h_put S 2 0)).bind (fun S1 => f_X4_goes_14 h_fu S1 a2 a1 0 (-9))
def f_X4_letter_34_s (k34 : HSt → Int32 → Int32 → Option (Int32 × HSt)) (S : HSt) (x3 x4 : Int32) : Option (Int32 × HSt) := if (S.1 2) ≤ x4 then (some (x3, S)) else ((h_ld S 19 15 x4).bind (fun v2 => (h_st S 21 15 x4 v2).bind (fun S4 => (h_ld S4 20 15 x4).bind (fun v6 => (h_st S4 22 15 x4 v6).bind (fun S8 => k34 S8 x3 (x4 + 1))))))
def f_X4_letter_34 : Nat → HSt → Int32 → Int32 → Option (Int32 × HSt)
  | 0, _, _, _ => none
  | n + 1, S, x3, x4 => f_X4_letter_34_s (f_X4_letter_34 n) S x3 x4
def f_X4_letter (S : HSt) (a1 a2 : Int32) : Option (Int32 × HSt) := (f_X4_isBox a1).bind (fun r1 => if r1 = 0 then (some ((-1), S)) else ((f_X4_isClass a2).bind (fun r4 => if r4 = 0 then (some ((-1), S)) else (h_bi (f_X4_goes S a1 a2) (fun r7 S9 => (some (h_put S9 3 (S9.1 2))).bind (fun S10 => f_X4_letter_34 h_fu S10 r7 0))))))
def f_X4_trace (S : HSt) (a1 a2 : Int32) : Option Int32 := (f_X4_within a1 0 14).bind (fun r1 => if r1 = 0 then (some (-2)) else ((f_X4_within a2 0 1).bind (fun r4 => if r4 = 0 then (some (-2)) else (if a1 < (S.1 3) then (if a2 = 0 then ((h_ld S 21 15 a1).bind (fun v11 => some v11)) else ((h_ld S 22 15 a1).bind (fun v9 => some v9))) else (some (-9))))))
def f_X4_isCarried_2_s (S : HSt) (k2 : Int32 → Option Int32) (x1 : Int32) : Option Int32 := if ((S.1 2) - 1) ≤ x1 then (some 1) else ((h_ld S 20 15 x1).bind (fun v2 => if v2 = 0 then (some 0) else (k2 (x1 + 1))))
def f_X4_isCarried_2 (S : HSt) : Nat → Int32 → Option Int32
  | 0, _ => none
  | n + 1, x1 => f_X4_isCarried_2_s S (f_X4_isCarried_2 S n) x1
def f_X4_isCarried (S : HSt) : Option Int32 := f_X4_isCarried_2 S h_fu 1
def f_X4_served_110 (k26 : HSt → Int32 → Int32 → Int32 → Int32 → Option (Int32 × HSt)) (S : HSt) (x1 x2 x4 t0 t1 : Int32) : Option (Int32 × HSt) := k26 S x1 x2 (t1 ||| t0) (x4 + 1)
def f_X4_served_94 (k26 : HSt → Int32 → Int32 → Int32 → Int32 → Option (Int32 × HSt)) (S : HSt) (x1 x2 x3 x4 t0 : Int32) : Option (Int32 × HSt) := if t0 = 0 then (f_X4_served_110 k26 S x1 x2 x4 0 x3) else (f_X4_served_110 k26 S x1 x2 x4 (1 <<< (x4 &&& 31)) x3)
def f_X4_served_93 (k26 : HSt → Int32 → Int32 → Int32 → Int32 → Option (Int32 × HSt)) (S : HSt) (x1 x2 x3 x4 : Int32) : Option (Int32 × HSt) := f_X4_served_94 k26 S x1 x2 x3 x4 0
def f_X4_served_48 (k26 : HSt → Int32 → Int32 → Int32 → Int32 → Option (Int32 × HSt)) (S : HSt) (x1 x2 x3 x4 t0 : Int32) : Option (Int32 × HSt) := if x2 = 0 then (f_X4_served_94 k26 S x1 x2 x3 x4 t0) else (if x2 = 1 then (if t0 = 0 then (f_X4_served_94 k26 S x1 x2 x3 x4 1) else (f_X4_served_94 k26 S x1 x2 x3 x4 0)) else (if t0 = 0 then (f_X4_served_93 k26 S x1 x2 x3 x4) else ((f_X4_isCarried S ).bind (fun r4 => if r4 = 0 then (f_X4_served_93 k26 S x1 x2 x3 x4) else (f_X4_served_94 k26 S x1 x2 x3 x4 1)))))
def f_X4_served_26_s (k26 : HSt → Int32 → Int32 → Int32 → Int32 → Option (Int32 × HSt)) (S : HSt) (x1 x2 x3 x4 : Int32) : Option (Int32 × HSt) := if 7 ≤ x4 then (some (x3, S)) else (h_bi (f_X4_goes S x4 x1) (fun r2 S4 => if r2 = 0 then (f_X4_served_48 k26 S4 x1 x2 x3 x4 1) else (f_X4_served_48 k26 S4 x1 x2 x3 x4 0)))
def f_X4_served_26 : Nat → HSt → Int32 → Int32 → Int32 → Int32 → Option (Int32 × HSt)
  | 0, _, _, _, _, _ => none
  | n + 1, S, x1, x2, x3, x4 => f_X4_served_26_s (f_X4_served_26 n) S x1 x2 x3 x4
def f_X4_served (S : HSt) (a1 a2 : Int32) : Option (Int32 × HSt) := (f_X4_isClass a1).bind (fun r1 => if r1 = 0 then (some ((-1), S)) else ((f_X4_within a2 0 2).bind (fun r4 => if r4 = 0 then (some ((-2), S)) else (f_X4_served_26 h_fu S a1 a2 0 0))))
def f_X4_merged_58 (k21 : HSt → Int32 → Int32 → Int32 → Int32 → Option (Int32 × HSt)) (S : HSt) (x1 x2 x4 t0 t1 : Int32) : Option (Int32 × HSt) := k21 S x1 x2 (t1 ||| t0) (x4 + 1)
def f_X4_merged_57 (k21 : HSt → Int32 → Int32 → Int32 → Int32 → Option (Int32 × HSt)) (S : HSt) (x1 x2 x4 t0 : Int32) : Option (Int32 × HSt) := f_X4_merged_58 k21 S x1 x2 x4 0 t0
def f_X4_merged_21_s (k21 : HSt → Int32 → Int32 → Int32 → Int32 → Option (Int32 × HSt)) (S : HSt) (x1 x2 x3 x4 : Int32) : Option (Int32 × HSt) := if 7 ≤ x4 then (some (x3, S)) else (h_bi (f_X4_nextOf S x4 x2) (fun r2 S4 => if r2 = x1 then (h_bi (f_X4_usedLabel S4 x4 x2) (fun r6 S8 => if r6 ≤ 0 then (f_X4_merged_57 k21 S8 x1 x2 x4 x3) else (f_X4_merged_58 k21 S8 x1 x2 x4 (1 <<< (x4 &&& 31)) x3))) else (f_X4_merged_57 k21 S4 x1 x2 x4 x3)))
def f_X4_merged_21 : Nat → HSt → Int32 → Int32 → Int32 → Int32 → Option (Int32 × HSt)
  | 0, _, _, _, _, _ => none
  | n + 1, S, x1, x2, x3, x4 => f_X4_merged_21_s (f_X4_merged_21 n) S x1 x2 x3 x4
def f_X4_merged (S : HSt) (a1 a2 : Int32) : Option (Int32 × HSt) := (f_X4_isBox a1).bind (fun r1 => if r1 = 0 then (some ((-1), S)) else ((f_X4_isClass a2).bind (fun r4 => if r4 = 0 then (some ((-1), S)) else (f_X4_merged_21 h_fu S a1 a2 0 0))))
def f_X4_manyInL_23 (S : HSt) (k4 : Int32 → Int32 → Option Int32) (x2 t0 t1 : Int32) : Option Int32 := k4 (t1 + t0) (x2 + 1)
def f_X4_manyInL_4_s (S : HSt) (k4 : Int32 → Int32 → Option Int32) (x1 x2 : Int32) : Option Int32 := if 336 ≤ x2 then (some x1) else ((h_ld S 8 336 x2).bind (fun v2 => if v2 ≤ 0 then (f_X4_manyInL_23 S k4 x2 0 x1) else (f_X4_manyInL_23 S k4 x2 1 x1)))
def f_X4_manyInL_4 (S : HSt) : Nat → Int32 → Int32 → Option Int32
  | 0, _, _ => none
  | n + 1, x1, x2 => f_X4_manyInL_4_s S (f_X4_manyInL_4 S n) x1 x2
def f_X4_manyInL (S : HSt) : Option Int32 := f_X4_manyInL_4 S h_fu 0 0
def f_X4_manyInK_23 (S : HSt) (k4 : Int32 → Int32 → Option Int32) (x2 t0 t1 : Int32) : Option Int32 := k4 (t1 + t0) (x2 + 1)
def f_X4_manyInK_4_s (S : HSt) (k4 : Int32 → Int32 → Option Int32) (x1 x2 : Int32) : Option Int32 := if 336 ≤ x2 then (some x1) else ((h_ld S 10 336 x2).bind (fun v2 => if v2 ≤ 0 then (f_X4_manyInK_23 S k4 x2 0 x1) else (f_X4_manyInK_23 S k4 x2 1 x1)))
def f_X4_manyInK_4 (S : HSt) : Nat → Int32 → Int32 → Option Int32
  | 0, _, _ => none
  | n + 1, x1, x2 => f_X4_manyInK_4_s S (f_X4_manyInK_4 S n) x1 x2
def f_X4_manyInK (S : HSt) : Option Int32 := f_X4_manyInK_4 S h_fu 0 0
def f_X4_many_74 (S : HSt) (k51 : Int32 → Int32 → Option Int32) (x3 t0 t1 : Int32) : Option Int32 := k51 (t1 + t0) (x3 + 1)
def f_X4_many_51_s (S : HSt) (k51 : Int32 → Int32 → Option Int32) (x2 x3 : Int32) : Option Int32 := if (S.1 0) ≤ x3 then (some x2) else ((h_ld S 3 12 x3).bind (fun v2 => if v2 = 0 then (f_X4_many_74 S k51 x3 0 x2) else (f_X4_many_74 S k51 x3 1 x2)))
def f_X4_many_51 (S : HSt) : Nat → Int32 → Int32 → Option Int32
  | 0, _, _ => none
  | n + 1, x2, x3 => f_X4_many_51_s S (f_X4_many_51 S n) x2 x3
def f_X4_many_124 (S : HSt) (k102 : Int32 → Int32 → Option Int32) (x3 t0 t1 : Int32) : Option Int32 := k102 (t1 + t0) (x3 + 1)
def f_X4_many_102_s (S : HSt) (k102 : Int32 → Int32 → Option Int32) (x2 x3 : Int32) : Option Int32 := if 4 ≤ x3 then (some x2) else ((h_ld S 4 4 x3).bind (fun v2 => if v2 = (-9) then (f_X4_many_124 S k102 x3 0 x2) else (f_X4_many_124 S k102 x3 1 x2)))
def f_X4_many_102 (S : HSt) : Nat → Int32 → Int32 → Option Int32
  | 0, _, _ => none
  | n + 1, x2, x3 => f_X4_many_102_s S (f_X4_many_102 S n) x2 x3
def f_X4_many_168 (S : HSt) (k141 : Int32 → Int32 → Option Int32) (x3 t0 : Int32) : Option Int32 := k141 t0 (x3 + 1)
def f_X4_many_141_s (S : HSt) (k141 : Int32 → Int32 → Option Int32) (x2 x3 : Int32) : Option Int32 := if 336 ≤ x3 then (some x2) else ((h_ld S 8 336 x3).bind (fun v2 => if v2 ≤ x2 then (f_X4_many_168 S k141 x3 x2) else ((h_ld S 8 336 x3).bind (fun v5 => f_X4_many_168 S k141 x3 v5))))
def f_X4_many_141 (S : HSt) : Nat → Int32 → Int32 → Option Int32
  | 0, _, _ => none
  | n + 1, x2, x3 => f_X4_many_141_s S (f_X4_many_141 S n) x2 x3
def f_X4_many (S : HSt) (a1 : Int32) : Option Int32 := if a1 = 0 then (some (S.1 0)) else (if a1 = 1 then (f_X4_many_51 S h_fu 0 0) else (if a1 = 2 then ((f_X4_manyInL S ).bind (fun r4 => some r4)) else (if a1 = 3 then ((f_X4_manyInK S ).bind (fun r7 => some r7)) else (if a1 = 4 then (f_X4_many_102 S h_fu 0 0) else (if a1 = 5 then (some (S.1 1)) else (if a1 = 6 then (f_X4_many_141 S h_fu 0 0) else (some (-2))))))))
