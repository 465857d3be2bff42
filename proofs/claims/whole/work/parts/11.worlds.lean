def wC (q : Nat → Nat) (cI : ClassId) (S : HSt) : va_W := [(q 0, .inr (3, [.ref (q 1), .ref (q 2), .ref (q 3), .ref (q 4)])), (q 1, .inr (1, [.int (S.1 0), .ref (q 5), .ref (q 6), .ref (q 7), .ref (q 8), .ref (q 9), .ref (q 10)])), (q 2, .inr (0, [.ref (q 1), .int (S.1 1), .int (S.1 2), .int (S.1 3), .ref (q 11), .ref (q 12), .ref (q 13), .ref (q 14), .ref (q 15), .ref (q 16), .ref (q 17), .ref (q 18)])), (q 3, .inr (2, [.ref (q 1), .ref (q 2), .int (S.1 4), .ref (q 19), .ref (q 20)])), (q 4, .inr (2, [.ref (q 1), .ref (q 2), .int (S.1 5), .ref (q 21), .ref (q 22)])), (q 5, .inl (cI, 24, .inl (S.2 0))), (q 6, .inl (cI, 12, .inl (S.2 1))), (q 7, .inl (cI, 12, .inl (S.2 2))), (q 8, .inl (cI, 4, .inl (S.2 3))), (q 9, .inl (cI, 28, .inl (S.2 4))), (q 10, .inl (cI, 28, .inl (S.2 5))), (q 11, .inl (cI, 96, .inl (S.2 6))), (q 12, .inl (cI, 96, .inl (S.2 7))), (q 13, .inl (cI, 28, .inl (S.2 8))), (q 14, .inl (cI, 96, .inl (S.2 9))), (q 15, .inl (cI, 4, .inl (S.2 10))), (q 16, .inl (cI, 4, .inl (S.2 11))), (q 17, .inl (cI, 96, .inl (S.2 12))), (q 18, .inl (cI, 96, .inl (S.2 13))), (q 19, .inl (cI, 15, .inl (S.2 14))), (q 20, .inl (cI, 15, .inl (S.2 15))), (q 21, .inl (cI, 15, .inl (S.2 16))), (q 22, .inl (cI, 15, .inl (S.2 17)))]
theorem wC_p0 (q : Nat → Nat) (cI : ClassId) (S : HSt) : (wC q cI S)[0]? = some (q 0, .inr (3, [.ref (q 1), .ref (q 2), .ref (q 3), .ref (q 4)])) := rfl
theorem wC_p1 (q : Nat → Nat) (cI : ClassId) (S : HSt) : (wC q cI S)[1]? = some (q 1, .inr (1, [.int (S.1 0), .ref (q 5), .ref (q 6), .ref (q 7), .ref (q 8), .ref (q 9), .ref (q 10)])) := rfl
theorem wC_p2 (q : Nat → Nat) (cI : ClassId) (S : HSt) : (wC q cI S)[2]? = some (q 2, .inr (0, [.ref (q 1), .int (S.1 1), .int (S.1 2), .int (S.1 3), .ref (q 11), .ref (q 12), .ref (q 13), .ref (q 14), .ref (q 15), .ref (q 16), .ref (q 17), .ref (q 18)])) := rfl
theorem wC_p3 (q : Nat → Nat) (cI : ClassId) (S : HSt) : (wC q cI S)[3]? = some (q 3, .inr (2, [.ref (q 1), .ref (q 2), .int (S.1 4), .ref (q 19), .ref (q 20)])) := rfl
theorem wC_p4 (q : Nat → Nat) (cI : ClassId) (S : HSt) : (wC q cI S)[4]? = some (q 4, .inr (2, [.ref (q 1), .ref (q 2), .int (S.1 5), .ref (q 21), .ref (q 22)])) := rfl
theorem wC_p5 (q : Nat → Nat) (cI : ClassId) (S : HSt) : (wC q cI S)[5]? = some (q 5, .inl (cI, 24, .inl (S.2 0))) := rfl
theorem wC_p6 (q : Nat → Nat) (cI : ClassId) (S : HSt) : (wC q cI S)[6]? = some (q 6, .inl (cI, 12, .inl (S.2 1))) := rfl
theorem wC_p7 (q : Nat → Nat) (cI : ClassId) (S : HSt) : (wC q cI S)[7]? = some (q 7, .inl (cI, 12, .inl (S.2 2))) := rfl
theorem wC_p8 (q : Nat → Nat) (cI : ClassId) (S : HSt) : (wC q cI S)[8]? = some (q 8, .inl (cI, 4, .inl (S.2 3))) := rfl
theorem wC_p9 (q : Nat → Nat) (cI : ClassId) (S : HSt) : (wC q cI S)[9]? = some (q 9, .inl (cI, 28, .inl (S.2 4))) := rfl
theorem wC_p10 (q : Nat → Nat) (cI : ClassId) (S : HSt) : (wC q cI S)[10]? = some (q 10, .inl (cI, 28, .inl (S.2 5))) := rfl
theorem wC_p11 (q : Nat → Nat) (cI : ClassId) (S : HSt) : (wC q cI S)[11]? = some (q 11, .inl (cI, 96, .inl (S.2 6))) := rfl
theorem wC_p12 (q : Nat → Nat) (cI : ClassId) (S : HSt) : (wC q cI S)[12]? = some (q 12, .inl (cI, 96, .inl (S.2 7))) := rfl
theorem wC_p13 (q : Nat → Nat) (cI : ClassId) (S : HSt) : (wC q cI S)[13]? = some (q 13, .inl (cI, 28, .inl (S.2 8))) := rfl
theorem wC_p14 (q : Nat → Nat) (cI : ClassId) (S : HSt) : (wC q cI S)[14]? = some (q 14, .inl (cI, 96, .inl (S.2 9))) := rfl
theorem wC_p15 (q : Nat → Nat) (cI : ClassId) (S : HSt) : (wC q cI S)[15]? = some (q 15, .inl (cI, 4, .inl (S.2 10))) := rfl
theorem wC_p16 (q : Nat → Nat) (cI : ClassId) (S : HSt) : (wC q cI S)[16]? = some (q 16, .inl (cI, 4, .inl (S.2 11))) := rfl
theorem wC_p17 (q : Nat → Nat) (cI : ClassId) (S : HSt) : (wC q cI S)[17]? = some (q 17, .inl (cI, 96, .inl (S.2 12))) := rfl
theorem wC_p18 (q : Nat → Nat) (cI : ClassId) (S : HSt) : (wC q cI S)[18]? = some (q 18, .inl (cI, 96, .inl (S.2 13))) := rfl
theorem wC_p19 (q : Nat → Nat) (cI : ClassId) (S : HSt) : (wC q cI S)[19]? = some (q 19, .inl (cI, 15, .inl (S.2 14))) := rfl
theorem wC_p20 (q : Nat → Nat) (cI : ClassId) (S : HSt) : (wC q cI S)[20]? = some (q 20, .inl (cI, 15, .inl (S.2 15))) := rfl
theorem wC_p21 (q : Nat → Nat) (cI : ClassId) (S : HSt) : (wC q cI S)[21]? = some (q 21, .inl (cI, 15, .inl (S.2 16))) := rfl
theorem wC_p22 (q : Nat → Nat) (cI : ClassId) (S : HSt) : (wC q cI S)[22]? = some (q 22, .inl (cI, 15, .inl (S.2 17))) := rfl
theorem wC_i0 (q : Nat → Nat) (cI : ClassId) (S : HSt) (x : Int32) : (wC q cI S).set 1 (q 1, .inr (1, ([.int (S.1 0), .ref (q 5), .ref (q 6), .ref (q 7), .ref (q 8), .ref (q 9), .ref (q 10)] : List Value).set 0 (.int x))) = wC q cI (h_put S 0 x) := rfl
theorem wC_i1 (q : Nat → Nat) (cI : ClassId) (S : HSt) (x : Int32) : (wC q cI S).set 2 (q 2, .inr (0, ([.ref (q 1), .int (S.1 1), .int (S.1 2), .int (S.1 3), .ref (q 11), .ref (q 12), .ref (q 13), .ref (q 14), .ref (q 15), .ref (q 16), .ref (q 17), .ref (q 18)] : List Value).set 1 (.int x))) = wC q cI (h_put S 1 x) := rfl
theorem wC_i2 (q : Nat → Nat) (cI : ClassId) (S : HSt) (x : Int32) : (wC q cI S).set 2 (q 2, .inr (0, ([.ref (q 1), .int (S.1 1), .int (S.1 2), .int (S.1 3), .ref (q 11), .ref (q 12), .ref (q 13), .ref (q 14), .ref (q 15), .ref (q 16), .ref (q 17), .ref (q 18)] : List Value).set 2 (.int x))) = wC q cI (h_put S 2 x) := rfl
theorem wC_i3 (q : Nat → Nat) (cI : ClassId) (S : HSt) (x : Int32) : (wC q cI S).set 2 (q 2, .inr (0, ([.ref (q 1), .int (S.1 1), .int (S.1 2), .int (S.1 3), .ref (q 11), .ref (q 12), .ref (q 13), .ref (q 14), .ref (q 15), .ref (q 16), .ref (q 17), .ref (q 18)] : List Value).set 3 (.int x))) = wC q cI (h_put S 3 x) := rfl
theorem wC_i4 (q : Nat → Nat) (cI : ClassId) (S : HSt) (x : Int32) : (wC q cI S).set 3 (q 3, .inr (2, ([.ref (q 1), .ref (q 2), .int (S.1 4), .ref (q 19), .ref (q 20)] : List Value).set 2 (.int x))) = wC q cI (h_put S 4 x) := rfl
theorem wC_i5 (q : Nat → Nat) (cI : ClassId) (S : HSt) (x : Int32) : (wC q cI S).set 4 (q 4, .inr (2, ([.ref (q 1), .ref (q 2), .int (S.1 5), .ref (q 21), .ref (q 22)] : List Value).set 2 (.int x))) = wC q cI (h_put S 5 x) := rfl
theorem wC_s5 (q : Nat → Nat) (cI : ClassId) (S : HSt) (f : Nat → Int32) : (wC q cI S).set 5 (q 5, .inl (cI, 24, .inl f)) = wC q cI (S.1, va_up S.2 0 f) := rfl
theorem wC_s6 (q : Nat → Nat) (cI : ClassId) (S : HSt) (f : Nat → Int32) : (wC q cI S).set 6 (q 6, .inl (cI, 12, .inl f)) = wC q cI (S.1, va_up S.2 1 f) := rfl
theorem wC_s7 (q : Nat → Nat) (cI : ClassId) (S : HSt) (f : Nat → Int32) : (wC q cI S).set 7 (q 7, .inl (cI, 12, .inl f)) = wC q cI (S.1, va_up S.2 2 f) := rfl
theorem wC_s8 (q : Nat → Nat) (cI : ClassId) (S : HSt) (f : Nat → Int32) : (wC q cI S).set 8 (q 8, .inl (cI, 4, .inl f)) = wC q cI (S.1, va_up S.2 3 f) := rfl
theorem wC_s9 (q : Nat → Nat) (cI : ClassId) (S : HSt) (f : Nat → Int32) : (wC q cI S).set 9 (q 9, .inl (cI, 28, .inl f)) = wC q cI (S.1, va_up S.2 4 f) := rfl
theorem wC_s10 (q : Nat → Nat) (cI : ClassId) (S : HSt) (f : Nat → Int32) : (wC q cI S).set 10 (q 10, .inl (cI, 28, .inl f)) = wC q cI (S.1, va_up S.2 5 f) := rfl
theorem wC_s11 (q : Nat → Nat) (cI : ClassId) (S : HSt) (f : Nat → Int32) : (wC q cI S).set 11 (q 11, .inl (cI, 96, .inl f)) = wC q cI (S.1, va_up S.2 6 f) := rfl
theorem wC_s12 (q : Nat → Nat) (cI : ClassId) (S : HSt) (f : Nat → Int32) : (wC q cI S).set 12 (q 12, .inl (cI, 96, .inl f)) = wC q cI (S.1, va_up S.2 7 f) := rfl
theorem wC_s13 (q : Nat → Nat) (cI : ClassId) (S : HSt) (f : Nat → Int32) : (wC q cI S).set 13 (q 13, .inl (cI, 28, .inl f)) = wC q cI (S.1, va_up S.2 8 f) := rfl
theorem wC_s14 (q : Nat → Nat) (cI : ClassId) (S : HSt) (f : Nat → Int32) : (wC q cI S).set 14 (q 14, .inl (cI, 96, .inl f)) = wC q cI (S.1, va_up S.2 9 f) := rfl
theorem wC_s15 (q : Nat → Nat) (cI : ClassId) (S : HSt) (f : Nat → Int32) : (wC q cI S).set 15 (q 15, .inl (cI, 4, .inl f)) = wC q cI (S.1, va_up S.2 10 f) := rfl
theorem wC_s16 (q : Nat → Nat) (cI : ClassId) (S : HSt) (f : Nat → Int32) : (wC q cI S).set 16 (q 16, .inl (cI, 4, .inl f)) = wC q cI (S.1, va_up S.2 11 f) := rfl
theorem wC_s17 (q : Nat → Nat) (cI : ClassId) (S : HSt) (f : Nat → Int32) : (wC q cI S).set 17 (q 17, .inl (cI, 96, .inl f)) = wC q cI (S.1, va_up S.2 12 f) := rfl
theorem wC_s18 (q : Nat → Nat) (cI : ClassId) (S : HSt) (f : Nat → Int32) : (wC q cI S).set 18 (q 18, .inl (cI, 96, .inl f)) = wC q cI (S.1, va_up S.2 13 f) := rfl
theorem wC_s19 (q : Nat → Nat) (cI : ClassId) (S : HSt) (f : Nat → Int32) : (wC q cI S).set 19 (q 19, .inl (cI, 15, .inl f)) = wC q cI (S.1, va_up S.2 14 f) := rfl
theorem wC_s20 (q : Nat → Nat) (cI : ClassId) (S : HSt) (f : Nat → Int32) : (wC q cI S).set 20 (q 20, .inl (cI, 15, .inl f)) = wC q cI (S.1, va_up S.2 15 f) := rfl
theorem wC_s21 (q : Nat → Nat) (cI : ClassId) (S : HSt) (f : Nat → Int32) : (wC q cI S).set 21 (q 21, .inl (cI, 15, .inl f)) = wC q cI (S.1, va_up S.2 16 f) := rfl
theorem wC_s22 (q : Nat → Nat) (cI : ClassId) (S : HSt) (f : Nat → Int32) : (wC q cI S).set 22 (q 22, .inl (cI, 15, .inl f)) = wC q cI (S.1, va_up S.2 17 f) := rfl
def wM (q : Nat → Nat) (cI cZ : ClassId) (S : HSt) : va_W := [(q 0, .inr (4, [.int (S.1 0), .ref (q 1), .ref (q 2), .ref (q 3), .ref (q 4), .ref (q 5), .ref (q 6), .ref (q 7), .ref (q 8), .ref (q 9), .ref (q 10), .ref (q 11), .ref (q 12), .int (S.1 1), .ref (q 13), .ref (q 14), .ref (q 15), .ref (q 16), .ref (q 17), .ref (q 18), .ref (q 19), .ref (q 20), .ref (q 21), .int (S.1 2), .ref (q 22), .ref (q 23), .int (S.1 3)])), (q 1, .inl (cI, 12, .inl (S.2 0))), (q 2, .inl (cI, 12, .inl (S.2 1))), (q 3, .inl (cI, 12, .inl (S.2 2))), (q 4, .inl (cZ, 12, .inl (S.2 3))), (q 5, .inl (cI, 4, .inl (S.2 4))), (q 6, .inl (cI, 7, .inl (S.2 5))), (q 7, .inl (cI, 28, .inl (S.2 6))), (q 8, .inl (cI, 2, .inl (S.2 7))), (q 9, .inl (cI, 336, .inl (S.2 8))), (q 10, .inl (cI, 336, .inl (S.2 9))), (q 11, .inl (cI, 336, .inl (S.2 10))), (q 12, .inl (cI, 336, .inl (S.2 11))), (q 13, .inl (cI, 336, .inl (S.2 12))), (q 14, .inl (cI, 336, .inl (S.2 13))), (q 15, .inl (cI, 336, .inl (S.2 14))), (q 16, .inl (cI, 336, .inl (S.2 15))), (q 17, .inl (cI, 28, .inl (S.2 16))), (q 18, .inl (cI, 28, .inl (S.2 17))), (q 19, .inl (cI, 1344, .inl (S.2 18))), (q 20, .inl (cI, 15, .inl (S.2 19))), (q 21, .inl (cI, 15, .inl (S.2 20))), (q 22, .inl (cI, 15, .inl (S.2 21))), (q 23, .inl (cI, 15, .inl (S.2 22)))]
theorem wM_p0 (q : Nat → Nat) (cI cZ : ClassId) (S : HSt) : (wM q cI cZ S)[0]? = some (q 0, .inr (4, [.int (S.1 0), .ref (q 1), .ref (q 2), .ref (q 3), .ref (q 4), .ref (q 5), .ref (q 6), .ref (q 7), .ref (q 8), .ref (q 9), .ref (q 10), .ref (q 11), .ref (q 12), .int (S.1 1), .ref (q 13), .ref (q 14), .ref (q 15), .ref (q 16), .ref (q 17), .ref (q 18), .ref (q 19), .ref (q 20), .ref (q 21), .int (S.1 2), .ref (q 22), .ref (q 23), .int (S.1 3)])) := rfl
theorem wM_p1 (q : Nat → Nat) (cI cZ : ClassId) (S : HSt) : (wM q cI cZ S)[1]? = some (q 1, .inl (cI, 12, .inl (S.2 0))) := rfl
theorem wM_p2 (q : Nat → Nat) (cI cZ : ClassId) (S : HSt) : (wM q cI cZ S)[2]? = some (q 2, .inl (cI, 12, .inl (S.2 1))) := rfl
theorem wM_p3 (q : Nat → Nat) (cI cZ : ClassId) (S : HSt) : (wM q cI cZ S)[3]? = some (q 3, .inl (cI, 12, .inl (S.2 2))) := rfl
theorem wM_p4 (q : Nat → Nat) (cI cZ : ClassId) (S : HSt) : (wM q cI cZ S)[4]? = some (q 4, .inl (cZ, 12, .inl (S.2 3))) := rfl
theorem wM_p5 (q : Nat → Nat) (cI cZ : ClassId) (S : HSt) : (wM q cI cZ S)[5]? = some (q 5, .inl (cI, 4, .inl (S.2 4))) := rfl
theorem wM_p6 (q : Nat → Nat) (cI cZ : ClassId) (S : HSt) : (wM q cI cZ S)[6]? = some (q 6, .inl (cI, 7, .inl (S.2 5))) := rfl
theorem wM_p7 (q : Nat → Nat) (cI cZ : ClassId) (S : HSt) : (wM q cI cZ S)[7]? = some (q 7, .inl (cI, 28, .inl (S.2 6))) := rfl
theorem wM_p8 (q : Nat → Nat) (cI cZ : ClassId) (S : HSt) : (wM q cI cZ S)[8]? = some (q 8, .inl (cI, 2, .inl (S.2 7))) := rfl
theorem wM_p9 (q : Nat → Nat) (cI cZ : ClassId) (S : HSt) : (wM q cI cZ S)[9]? = some (q 9, .inl (cI, 336, .inl (S.2 8))) := rfl
theorem wM_p10 (q : Nat → Nat) (cI cZ : ClassId) (S : HSt) : (wM q cI cZ S)[10]? = some (q 10, .inl (cI, 336, .inl (S.2 9))) := rfl
theorem wM_p11 (q : Nat → Nat) (cI cZ : ClassId) (S : HSt) : (wM q cI cZ S)[11]? = some (q 11, .inl (cI, 336, .inl (S.2 10))) := rfl
theorem wM_p12 (q : Nat → Nat) (cI cZ : ClassId) (S : HSt) : (wM q cI cZ S)[12]? = some (q 12, .inl (cI, 336, .inl (S.2 11))) := rfl
theorem wM_p13 (q : Nat → Nat) (cI cZ : ClassId) (S : HSt) : (wM q cI cZ S)[13]? = some (q 13, .inl (cI, 336, .inl (S.2 12))) := rfl
theorem wM_p14 (q : Nat → Nat) (cI cZ : ClassId) (S : HSt) : (wM q cI cZ S)[14]? = some (q 14, .inl (cI, 336, .inl (S.2 13))) := rfl
theorem wM_p15 (q : Nat → Nat) (cI cZ : ClassId) (S : HSt) : (wM q cI cZ S)[15]? = some (q 15, .inl (cI, 336, .inl (S.2 14))) := rfl
theorem wM_p16 (q : Nat → Nat) (cI cZ : ClassId) (S : HSt) : (wM q cI cZ S)[16]? = some (q 16, .inl (cI, 336, .inl (S.2 15))) := rfl
theorem wM_p17 (q : Nat → Nat) (cI cZ : ClassId) (S : HSt) : (wM q cI cZ S)[17]? = some (q 17, .inl (cI, 28, .inl (S.2 16))) := rfl
theorem wM_p18 (q : Nat → Nat) (cI cZ : ClassId) (S : HSt) : (wM q cI cZ S)[18]? = some (q 18, .inl (cI, 28, .inl (S.2 17))) := rfl
theorem wM_p19 (q : Nat → Nat) (cI cZ : ClassId) (S : HSt) : (wM q cI cZ S)[19]? = some (q 19, .inl (cI, 1344, .inl (S.2 18))) := rfl
theorem wM_p20 (q : Nat → Nat) (cI cZ : ClassId) (S : HSt) : (wM q cI cZ S)[20]? = some (q 20, .inl (cI, 15, .inl (S.2 19))) := rfl
theorem wM_p21 (q : Nat → Nat) (cI cZ : ClassId) (S : HSt) : (wM q cI cZ S)[21]? = some (q 21, .inl (cI, 15, .inl (S.2 20))) := rfl
theorem wM_p22 (q : Nat → Nat) (cI cZ : ClassId) (S : HSt) : (wM q cI cZ S)[22]? = some (q 22, .inl (cI, 15, .inl (S.2 21))) := rfl
theorem wM_p23 (q : Nat → Nat) (cI cZ : ClassId) (S : HSt) : (wM q cI cZ S)[23]? = some (q 23, .inl (cI, 15, .inl (S.2 22))) := rfl
theorem wM_i0 (q : Nat → Nat) (cI cZ : ClassId) (S : HSt) (x : Int32) : (wM q cI cZ S).set 0 (q 0, .inr (4, ([.int (S.1 0), .ref (q 1), .ref (q 2), .ref (q 3), .ref (q 4), .ref (q 5), .ref (q 6), .ref (q 7), .ref (q 8), .ref (q 9), .ref (q 10), .ref (q 11), .ref (q 12), .int (S.1 1), .ref (q 13), .ref (q 14), .ref (q 15), .ref (q 16), .ref (q 17), .ref (q 18), .ref (q 19), .ref (q 20), .ref (q 21), .int (S.1 2), .ref (q 22), .ref (q 23), .int (S.1 3)] : List Value).set 0 (.int x))) = wM q cI cZ (h_put S 0 x) := rfl
theorem wM_i1 (q : Nat → Nat) (cI cZ : ClassId) (S : HSt) (x : Int32) : (wM q cI cZ S).set 0 (q 0, .inr (4, ([.int (S.1 0), .ref (q 1), .ref (q 2), .ref (q 3), .ref (q 4), .ref (q 5), .ref (q 6), .ref (q 7), .ref (q 8), .ref (q 9), .ref (q 10), .ref (q 11), .ref (q 12), .int (S.1 1), .ref (q 13), .ref (q 14), .ref (q 15), .ref (q 16), .ref (q 17), .ref (q 18), .ref (q 19), .ref (q 20), .ref (q 21), .int (S.1 2), .ref (q 22), .ref (q 23), .int (S.1 3)] : List Value).set 13 (.int x))) = wM q cI cZ (h_put S 1 x) := rfl
theorem wM_i2 (q : Nat → Nat) (cI cZ : ClassId) (S : HSt) (x : Int32) : (wM q cI cZ S).set 0 (q 0, .inr (4, ([.int (S.1 0), .ref (q 1), .ref (q 2), .ref (q 3), .ref (q 4), .ref (q 5), .ref (q 6), .ref (q 7), .ref (q 8), .ref (q 9), .ref (q 10), .ref (q 11), .ref (q 12), .int (S.1 1), .ref (q 13), .ref (q 14), .ref (q 15), .ref (q 16), .ref (q 17), .ref (q 18), .ref (q 19), .ref (q 20), .ref (q 21), .int (S.1 2), .ref (q 22), .ref (q 23), .int (S.1 3)] : List Value).set 23 (.int x))) = wM q cI cZ (h_put S 2 x) := rfl
theorem wM_i3 (q : Nat → Nat) (cI cZ : ClassId) (S : HSt) (x : Int32) : (wM q cI cZ S).set 0 (q 0, .inr (4, ([.int (S.1 0), .ref (q 1), .ref (q 2), .ref (q 3), .ref (q 4), .ref (q 5), .ref (q 6), .ref (q 7), .ref (q 8), .ref (q 9), .ref (q 10), .ref (q 11), .ref (q 12), .int (S.1 1), .ref (q 13), .ref (q 14), .ref (q 15), .ref (q 16), .ref (q 17), .ref (q 18), .ref (q 19), .ref (q 20), .ref (q 21), .int (S.1 2), .ref (q 22), .ref (q 23), .int (S.1 3)] : List Value).set 26 (.int x))) = wM q cI cZ (h_put S 3 x) := rfl
theorem wM_s1 (q : Nat → Nat) (cI cZ : ClassId) (S : HSt) (f : Nat → Int32) : (wM q cI cZ S).set 1 (q 1, .inl (cI, 12, .inl f)) = wM q cI cZ (S.1, va_up S.2 0 f) := rfl
theorem wM_s2 (q : Nat → Nat) (cI cZ : ClassId) (S : HSt) (f : Nat → Int32) : (wM q cI cZ S).set 2 (q 2, .inl (cI, 12, .inl f)) = wM q cI cZ (S.1, va_up S.2 1 f) := rfl
theorem wM_s3 (q : Nat → Nat) (cI cZ : ClassId) (S : HSt) (f : Nat → Int32) : (wM q cI cZ S).set 3 (q 3, .inl (cI, 12, .inl f)) = wM q cI cZ (S.1, va_up S.2 2 f) := rfl
theorem wM_s4 (q : Nat → Nat) (cI cZ : ClassId) (S : HSt) (f : Nat → Int32) : (wM q cI cZ S).set 4 (q 4, .inl (cZ, 12, .inl f)) = wM q cI cZ (S.1, va_up S.2 3 f) := rfl
theorem wM_s5 (q : Nat → Nat) (cI cZ : ClassId) (S : HSt) (f : Nat → Int32) : (wM q cI cZ S).set 5 (q 5, .inl (cI, 4, .inl f)) = wM q cI cZ (S.1, va_up S.2 4 f) := rfl
theorem wM_s6 (q : Nat → Nat) (cI cZ : ClassId) (S : HSt) (f : Nat → Int32) : (wM q cI cZ S).set 6 (q 6, .inl (cI, 7, .inl f)) = wM q cI cZ (S.1, va_up S.2 5 f) := rfl
theorem wM_s7 (q : Nat → Nat) (cI cZ : ClassId) (S : HSt) (f : Nat → Int32) : (wM q cI cZ S).set 7 (q 7, .inl (cI, 28, .inl f)) = wM q cI cZ (S.1, va_up S.2 6 f) := rfl
theorem wM_s8 (q : Nat → Nat) (cI cZ : ClassId) (S : HSt) (f : Nat → Int32) : (wM q cI cZ S).set 8 (q 8, .inl (cI, 2, .inl f)) = wM q cI cZ (S.1, va_up S.2 7 f) := rfl
theorem wM_s9 (q : Nat → Nat) (cI cZ : ClassId) (S : HSt) (f : Nat → Int32) : (wM q cI cZ S).set 9 (q 9, .inl (cI, 336, .inl f)) = wM q cI cZ (S.1, va_up S.2 8 f) := rfl
theorem wM_s10 (q : Nat → Nat) (cI cZ : ClassId) (S : HSt) (f : Nat → Int32) : (wM q cI cZ S).set 10 (q 10, .inl (cI, 336, .inl f)) = wM q cI cZ (S.1, va_up S.2 9 f) := rfl
theorem wM_s11 (q : Nat → Nat) (cI cZ : ClassId) (S : HSt) (f : Nat → Int32) : (wM q cI cZ S).set 11 (q 11, .inl (cI, 336, .inl f)) = wM q cI cZ (S.1, va_up S.2 10 f) := rfl
theorem wM_s12 (q : Nat → Nat) (cI cZ : ClassId) (S : HSt) (f : Nat → Int32) : (wM q cI cZ S).set 12 (q 12, .inl (cI, 336, .inl f)) = wM q cI cZ (S.1, va_up S.2 11 f) := rfl
theorem wM_s13 (q : Nat → Nat) (cI cZ : ClassId) (S : HSt) (f : Nat → Int32) : (wM q cI cZ S).set 13 (q 13, .inl (cI, 336, .inl f)) = wM q cI cZ (S.1, va_up S.2 12 f) := rfl
theorem wM_s14 (q : Nat → Nat) (cI cZ : ClassId) (S : HSt) (f : Nat → Int32) : (wM q cI cZ S).set 14 (q 14, .inl (cI, 336, .inl f)) = wM q cI cZ (S.1, va_up S.2 13 f) := rfl
theorem wM_s15 (q : Nat → Nat) (cI cZ : ClassId) (S : HSt) (f : Nat → Int32) : (wM q cI cZ S).set 15 (q 15, .inl (cI, 336, .inl f)) = wM q cI cZ (S.1, va_up S.2 14 f) := rfl
theorem wM_s16 (q : Nat → Nat) (cI cZ : ClassId) (S : HSt) (f : Nat → Int32) : (wM q cI cZ S).set 16 (q 16, .inl (cI, 336, .inl f)) = wM q cI cZ (S.1, va_up S.2 15 f) := rfl
theorem wM_s17 (q : Nat → Nat) (cI cZ : ClassId) (S : HSt) (f : Nat → Int32) : (wM q cI cZ S).set 17 (q 17, .inl (cI, 28, .inl f)) = wM q cI cZ (S.1, va_up S.2 16 f) := rfl
theorem wM_s18 (q : Nat → Nat) (cI cZ : ClassId) (S : HSt) (f : Nat → Int32) : (wM q cI cZ S).set 18 (q 18, .inl (cI, 28, .inl f)) = wM q cI cZ (S.1, va_up S.2 17 f) := rfl
theorem wM_s19 (q : Nat → Nat) (cI cZ : ClassId) (S : HSt) (f : Nat → Int32) : (wM q cI cZ S).set 19 (q 19, .inl (cI, 1344, .inl f)) = wM q cI cZ (S.1, va_up S.2 18 f) := rfl
theorem wM_s20 (q : Nat → Nat) (cI cZ : ClassId) (S : HSt) (f : Nat → Int32) : (wM q cI cZ S).set 20 (q 20, .inl (cI, 15, .inl f)) = wM q cI cZ (S.1, va_up S.2 19 f) := rfl
theorem wM_s21 (q : Nat → Nat) (cI cZ : ClassId) (S : HSt) (f : Nat → Int32) : (wM q cI cZ S).set 21 (q 21, .inl (cI, 15, .inl f)) = wM q cI cZ (S.1, va_up S.2 20 f) := rfl
theorem wM_s22 (q : Nat → Nat) (cI cZ : ClassId) (S : HSt) (f : Nat → Int32) : (wM q cI cZ S).set 22 (q 22, .inl (cI, 15, .inl f)) = wM q cI cZ (S.1, va_up S.2 21 f) := rfl
theorem wM_s23 (q : Nat → Nat) (cI cZ : ClassId) (S : HSt) (f : Nat → Int32) : (wM q cI cZ S).set 23 (q 23, .inl (cI, 15, .inl f)) = wM q cI cZ (S.1, va_up S.2 22 f) := rfl
abbrev hsX0_has : List Cond := Cond.code yX0_has cX0_has 3 (some .boolean) :: hALL
abbrev rmX0_has : Room := { frames := 0, cells := 0, slots := 0, locals := 0 }
theorem pdX0_has : yX0_has.cls = RX0 ∧ yX0_has.cls ≠ "java/lang/invoke/MethodHandle" ∧ yX0_has.cls ≠ "java/lang/invoke/VarHandle" ∧ (parseMethodDescriptor yX0_has.desc).map (fun d => d.parameters.length) = some 2 := by decide +kernel
abbrev hsX3_slot : List Cond := Cond.code yX3_slot cX3_slot 2 (some .int) :: hALL
abbrev rmX3_slot : Room := { frames := 0, cells := 0, slots := 0, locals := 0 }
theorem pdX3_slot : yX3_slot.cls = RX3 ∧ yX3_slot.cls ≠ "java/lang/invoke/MethodHandle" ∧ yX3_slot.cls ≠ "java/lang/invoke/VarHandle" ∧ (parseMethodDescriptor yX3_slot.desc).map (fun d => d.parameters.length) = some 2 := by decide +kernel
abbrev hsX0_handNothing : List Cond := Cond.code yX0_handNothing cX0_handNothing 3 none :: hALL
abbrev rmX0_handNothing : Room := { frames := 1, cells := 0, slots := 0, locals := 21 }
theorem pdX0_handNothing : yX0_handNothing.cls = RX0 ∧ yX0_handNothing.cls ≠ "java/lang/invoke/MethodHandle" ∧ yX0_handNothing.cls ≠ "java/lang/invoke/VarHandle" ∧ (parseMethodDescriptor yX0_handNothing.desc).map (fun d => d.parameters.length) = some 1 := by decide +kernel
abbrev hsX0_changeMode : List Cond := Cond.code yX0_changeMode cX0_changeMode 5 (some .int) :: hALL
abbrev rmX0_changeMode : Room := { frames := 2, cells := 0, slots := 0, locals := 43 }
theorem pdX0_changeMode : yX0_changeMode.cls = RX0 ∧ yX0_changeMode.cls ≠ "java/lang/invoke/MethodHandle" ∧ yX0_changeMode.cls ≠ "java/lang/invoke/VarHandle" ∧ (parseMethodDescriptor yX0_changeMode.desc).map (fun d => d.parameters.length) = some 3 := by decide +kernel
abbrev hsX0_forgetLink : List Cond := Cond.code yX0_forgetLink cX0_forgetLink 3 none :: hALL
abbrev rmX0_forgetLink : Room := { frames := 1, cells := 0, slots := 0, locals := 21 }
theorem pdX0_forgetLink : yX0_forgetLink.cls = RX0 ∧ yX0_forgetLink.cls ≠ "java/lang/invoke/MethodHandle" ∧ yX0_forgetLink.cls ≠ "java/lang/invoke/VarHandle" ∧ (parseMethodDescriptor yX0_forgetLink.desc).map (fun d => d.parameters.length) = some 1 := by decide +kernel
abbrev hsX3_pair : List Cond := Cond.code yX3_pair cX3_pair 2 (some .int) :: hALL
abbrev rmX3_pair : Room := { frames := 0, cells := 0, slots := 0, locals := 0 }
theorem pdX3_pair : yX3_pair.cls = RX3 ∧ yX3_pair.cls ≠ "java/lang/invoke/MethodHandle" ∧ yX3_pair.cls ≠ "java/lang/invoke/VarHandle" ∧ (parseMethodDescriptor yX3_pair.desc).map (fun d => d.parameters.length) = some 2 := by decide +kernel
abbrev hsX0_slipUsed : List Cond := Cond.code yX0_slipUsed cX0_slipUsed 4 (some .int) :: hALL
abbrev rmX0_slipUsed : Room := { frames := 1, cells := 0, slots := 0, locals := 21 }
theorem pdX0_slipUsed : yX0_slipUsed.cls = RX0 ∧ yX0_slipUsed.cls ≠ "java/lang/invoke/MethodHandle" ∧ yX0_slipUsed.cls ≠ "java/lang/invoke/VarHandle" ∧ (parseMethodDescriptor yX0_slipUsed.desc).map (fun d => d.parameters.length) = some 2 := by decide +kernel
abbrev hsX3_labelOf : List Cond := Cond.code yX3_labelOf cX3_labelOf 1 (some .int) :: hALL
abbrev rmX3_labelOf : Room := { frames := 0, cells := 0, slots := 0, locals := 0 }
theorem pdX3_labelOf : yX3_labelOf.cls = RX3 ∧ yX3_labelOf.cls ≠ "java/lang/invoke/MethodHandle" ∧ yX3_labelOf.cls ≠ "java/lang/invoke/VarHandle" ∧ (parseMethodDescriptor yX3_labelOf.desc).map (fun d => d.parameters.length) = some 1 := by decide +kernel
abbrev hsX0_classMeant : List Cond := Cond.code yX0_classMeant cX0_classMeant 9 (some .int) :: hALL
abbrev rmX0_classMeant : Room := { frames := 1, cells := 0, slots := 0, locals := 22 }
theorem pdX0_classMeant : yX0_classMeant.cls = RX0 ∧ yX0_classMeant.cls ≠ "java/lang/invoke/MethodHandle" ∧ yX0_classMeant.cls ≠ "java/lang/invoke/VarHandle" ∧ (parseMethodDescriptor yX0_classMeant.desc).map (fun d => d.parameters.length) = some 3 := by decide +kernel
abbrev hsX0_greatestLabel : List Cond := Cond.code yX0_greatestLabel cX0_greatestLabel 3 (some .int) :: hALL
abbrev rmX0_greatestLabel : Room := { frames := 1, cells := 0, slots := 0, locals := 21 }
theorem pdX0_greatestLabel : yX0_greatestLabel.cls = RX0 ∧ yX0_greatestLabel.cls ≠ "java/lang/invoke/MethodHandle" ∧ yX0_greatestLabel.cls ≠ "java/lang/invoke/VarHandle" ∧ (parseMethodDescriptor yX0_greatestLabel.desc).map (fun d => d.parameters.length) = some 0 := by decide +kernel
abbrev hsX3_countOf : List Cond := Cond.code yX3_countOf cX3_countOf 1 (some .int) :: hALL
abbrev rmX3_countOf : Room := { frames := 0, cells := 0, slots := 0, locals := 0 }
theorem pdX3_countOf : yX3_countOf.cls = RX3 ∧ yX3_countOf.cls ≠ "java/lang/invoke/MethodHandle" ∧ yX3_countOf.cls ≠ "java/lang/invoke/VarHandle" ∧ (parseMethodDescriptor yX3_countOf.desc).map (fun d => d.parameters.length) = some 1 := by decide +kernel
abbrev hsX0_countToHand : List Cond := Cond.code yX0_countToHand cX0_countToHand 5 (some .int) :: hALL
abbrev rmX0_countToHand : Room := { frames := 2, cells := 0, slots := 0, locals := 44 }
theorem pdX0_countToHand : yX0_countToHand.cls = RX0 ∧ yX0_countToHand.cls ≠ "java/lang/invoke/MethodHandle" ∧ yX0_countToHand.cls ≠ "java/lang/invoke/VarHandle" ∧ (parseMethodDescriptor yX0_countToHand.desc).map (fun d => d.parameters.length) = some 2 := by decide +kernel
abbrev hsX1_isUpSide : List Cond := Cond.code yX1_isUpSide cX1_isUpSide 2 (some .boolean) :: hALL
abbrev rmX1_isUpSide : Room := { frames := 0, cells := 0, slots := 0, locals := 0 }
theorem pdX1_isUpSide : yX1_isUpSide.cls = RX1 ∧ yX1_isUpSide.cls ≠ "java/lang/invoke/MethodHandle" ∧ yX1_isUpSide.cls ≠ "java/lang/invoke/VarHandle" ∧ (parseMethodDescriptor yX1_isUpSide.desc).map (fun d => d.parameters.length) = some 1 := by decide +kernel
abbrev hsX0_goesOver : List Cond := Cond.code yX0_goesOver cX0_goesOver 4 (some .boolean) :: hALL
abbrev rmX0_goesOver : Room := { frames := 1, cells := 0, slots := 0, locals := 22 }
theorem pdX0_goesOver : yX0_goesOver.cls = RX0 ∧ yX0_goesOver.cls ≠ "java/lang/invoke/MethodHandle" ∧ yX0_goesOver.cls ≠ "java/lang/invoke/VarHandle" ∧ (parseMethodDescriptor yX0_goesOver.desc).map (fun d => d.parameters.length) = some 2 := by decide +kernel
abbrev hsX3_slipWith : List Cond := Cond.code yX3_slipWith cX3_slipWith 2 (some .int) :: hALL
abbrev rmX3_slipWith : Room := { frames := 0, cells := 0, slots := 0, locals := 0 }
theorem pdX3_slipWith : yX3_slipWith.cls = RX3 ∧ yX3_slipWith.cls ≠ "java/lang/invoke/MethodHandle" ∧ yX3_slipWith.cls ≠ "java/lang/invoke/VarHandle" ∧ (parseMethodDescriptor yX3_slipWith.desc).map (fun d => d.parameters.length) = some 2 := by decide +kernel
abbrev hsX0_placeOver : List Cond := Cond.code yX0_placeOver cX0_placeOver 4 none :: hALL
abbrev rmX0_placeOver : Room := { frames := 2, cells := 0, slots := 0, locals := 45 }
theorem pdX0_placeOver : yX0_placeOver.cls = RX0 ∧ yX0_placeOver.cls ≠ "java/lang/invoke/MethodHandle" ∧ yX0_placeOver.cls ≠ "java/lang/invoke/VarHandle" ∧ (parseMethodDescriptor yX0_placeOver.desc).map (fun d => d.parameters.length) = some 1 := by decide +kernel
abbrev hsX0_placeSlips : List Cond := Cond.code yX0_placeSlips cX0_placeSlips 3 none :: hALL
abbrev rmX0_placeSlips : Room := { frames := 3, cells := 0, slots := 0, locals := 68 }
theorem pdX0_placeSlips : yX0_placeSlips.cls = RX0 ∧ yX0_placeSlips.cls ≠ "java/lang/invoke/MethodHandle" ∧ yX0_placeSlips.cls ≠ "java/lang/invoke/VarHandle" ∧ (parseMethodDescriptor yX0_placeSlips.desc).map (fun d => d.parameters.length) = some 1 := by decide +kernel
abbrev hsX0_labelAhead : List Cond := Cond.code yX0_labelAhead cX0_labelAhead 9 (some .int) :: hALL
abbrev rmX0_labelAhead : Room := { frames := 1, cells := 0, slots := 0, locals := 22 }
theorem pdX0_labelAhead : yX0_labelAhead.cls = RX0 ∧ yX0_labelAhead.cls ≠ "java/lang/invoke/MethodHandle" ∧ yX0_labelAhead.cls ≠ "java/lang/invoke/VarHandle" ∧ (parseMethodDescriptor yX0_labelAhead.desc).map (fun d => d.parameters.length) = some 4 := by decide +kernel
abbrev hsX0_bitOf : List Cond := Cond.code yX0_bitOf cX0_bitOf 1 (some .int) :: hALL
abbrev rmX0_bitOf : Room := { frames := 0, cells := 0, slots := 0, locals := 0 }
theorem pdX0_bitOf : yX0_bitOf.cls = RX0 ∧ yX0_bitOf.cls ≠ "java/lang/invoke/MethodHandle" ∧ yX0_bitOf.cls ≠ "java/lang/invoke/VarHandle" ∧ (parseMethodDescriptor yX0_bitOf.desc).map (fun d => d.parameters.length) = some 1 := by decide +kernel
abbrev hsX0_leastFree : List Cond := Cond.code yX0_leastFree cX0_leastFree 2 (some .int) :: hALL
abbrev rmX0_leastFree : Room := { frames := 1, cells := 0, slots := 0, locals := 20 }
theorem pdX0_leastFree : yX0_leastFree.cls = RX0 ∧ yX0_leastFree.cls ≠ "java/lang/invoke/MethodHandle" ∧ yX0_leastFree.cls ≠ "java/lang/invoke/VarHandle" ∧ (parseMethodDescriptor yX0_leastFree.desc).map (fun d => d.parameters.length) = some 1 := by decide +kernel
abbrev hsX0_labelOver : List Cond := Cond.code yX0_labelOver cX0_labelOver 4 none :: hALL
abbrev rmX0_labelOver : Room := { frames := 1, cells := 0, slots := 0, locals := 21 }
theorem pdX0_labelOver : yX0_labelOver.cls = RX0 ∧ yX0_labelOver.cls ≠ "java/lang/invoke/MethodHandle" ∧ yX0_labelOver.cls ≠ "java/lang/invoke/VarHandle" ∧ (parseMethodDescriptor yX0_labelOver.desc).map (fun d => d.parameters.length) = some 1 := by decide +kernel
abbrev hsX0_fillRow : List Cond := Cond.code yX0_fillRow cX0_fillRow 6 none :: hALL
abbrev rmX0_fillRow : Room := { frames := 2, cells := 0, slots := 0, locals := 50 }
theorem pdX0_fillRow : yX0_fillRow.cls = RX0 ∧ yX0_fillRow.cls ≠ "java/lang/invoke/MethodHandle" ∧ yX0_fillRow.cls ≠ "java/lang/invoke/VarHandle" ∧ (parseMethodDescriptor yX0_fillRow.desc).map (fun d => d.parameters.length) = some 3 := by decide +kernel
abbrev hsX0_fillRows : List Cond := Cond.code yX0_fillRows cX0_fillRows 3 none :: hALL
abbrev rmX0_fillRows : Room := { frames := 3, cells := 0, slots := 0, locals := 75 }
theorem pdX0_fillRows : yX0_fillRows.cls = RX0 ∧ yX0_fillRows.cls ≠ "java/lang/invoke/MethodHandle" ∧ yX0_fillRows.cls ≠ "java/lang/invoke/VarHandle" ∧ (parseMethodDescriptor yX0_fillRows.desc).map (fun d => d.parameters.length) = some 1 := by decide +kernel
abbrev hsX0_takeFresh : List Cond := Cond.code yX0_takeFresh cX0_takeFresh 3 (some .boolean) :: hALL
abbrev rmX0_takeFresh : Room := { frames := 1, cells := 0, slots := 0, locals := 21 }
theorem pdX0_takeFresh : yX0_takeFresh.cls = RX0 ∧ yX0_takeFresh.cls ≠ "java/lang/invoke/MethodHandle" ∧ yX0_takeFresh.cls ≠ "java/lang/invoke/VarHandle" ∧ (parseMethodDescriptor yX0_takeFresh.desc).map (fun d => d.parameters.length) = some 0 := by decide +kernel
abbrev hsX0_slipToKeep : List Cond := Cond.code yX0_slipToKeep cX0_slipToKeep 4 (some .int) :: hALL
abbrev rmX0_slipToKeep : Room := { frames := 1, cells := 0, slots := 0, locals := 22 }
theorem pdX0_slipToKeep : yX0_slipToKeep.cls = RX0 ∧ yX0_slipToKeep.cls ≠ "java/lang/invoke/MethodHandle" ∧ yX0_slipToKeep.cls ≠ "java/lang/invoke/VarHandle" ∧ (parseMethodDescriptor yX0_slipToKeep.desc).map (fun d => d.parameters.length) = some 2 := by decide +kernel
abbrev hsX0_keepAll : List Cond := Cond.code yX0_keepAll cX0_keepAll 5 (some .boolean) :: hALL
abbrev rmX0_keepAll : Room := { frames := 2, cells := 0, slots := 0, locals := 45 }
theorem pdX0_keepAll : yX0_keepAll.cls = RX0 ∧ yX0_keepAll.cls ≠ "java/lang/invoke/MethodHandle" ∧ yX0_keepAll.cls ≠ "java/lang/invoke/VarHandle" ∧ (parseMethodDescriptor yX0_keepAll.desc).map (fun d => d.parameters.length) = some 0 := by decide +kernel
abbrev hsX0_tick : List Cond := Cond.code yX0_tick cX0_tick 2 (some .int) :: hALL
abbrev rmX0_tick : Room := { frames := 4, cells := 0, slots := 0, locals := 97 }
theorem pdX0_tick : yX0_tick.cls = RX0 ∧ yX0_tick.cls ≠ "java/lang/invoke/MethodHandle" ∧ yX0_tick.cls ≠ "java/lang/invoke/VarHandle" ∧ (parseMethodDescriptor yX0_tick.desc).map (fun d => d.parameters.length) = some 0 := by decide +kernel
abbrev hsX0_runTicks : List Cond := Cond.code yX0_runTicks cX0_runTicks 4 (some .int) :: hALL
abbrev rmX0_runTicks : Room := { frames := 5, cells := 0, slots := 0, locals := 118 }
theorem pdX0_runTicks : yX0_runTicks.cls = RX0 ∧ yX0_runTicks.cls ≠ "java/lang/invoke/MethodHandle" ∧ yX0_runTicks.cls ≠ "java/lang/invoke/VarHandle" ∧ (parseMethodDescriptor yX0_runTicks.desc).map (fun d => d.parameters.length) = some 1 := by decide +kernel
abbrev hsX0_ticksTillStill : List Cond := Cond.code yX0_ticksTillStill cX0_ticksTillStill 3 (some .int) :: hALL
abbrev rmX0_ticksTillStill : Room := { frames := 5, cells := 0, slots := 0, locals := 118 }
theorem pdX0_ticksTillStill : yX0_ticksTillStill.cls = RX0 ∧ yX0_ticksTillStill.cls ≠ "java/lang/invoke/MethodHandle" ∧ yX0_ticksTillStill.cls ≠ "java/lang/invoke/VarHandle" ∧ (parseMethodDescriptor yX0_ticksTillStill.desc).map (fun d => d.parameters.length) = some 0 := by decide +kernel
abbrev hsX1_isLink : List Cond := Cond.code yX1_isLink cX1_isLink 2 (some .boolean) :: hALL
abbrev rmX1_isLink : Room := { frames := 0, cells := 0, slots := 0, locals := 0 }
theorem pdX1_isLink : yX1_isLink.cls = RX1 ∧ yX1_isLink.cls ≠ "java/lang/invoke/MethodHandle" ∧ yX1_isLink.cls ≠ "java/lang/invoke/VarHandle" ∧ (parseMethodDescriptor yX1_isLink.desc).map (fun d => d.parameters.length) = some 1 := by decide +kernel
abbrev hsX1_sideAt : List Cond := Cond.code yX1_sideAt cX1_sideAt 3 (some .int) :: hALL
abbrev rmX1_sideAt : Room := { frames := 0, cells := 0, slots := 0, locals := 0 }
theorem pdX1_sideAt : yX1_sideAt.cls = RX1 ∧ yX1_sideAt.cls ≠ "java/lang/invoke/MethodHandle" ∧ yX1_sideAt.cls ≠ "java/lang/invoke/VarHandle" ∧ (parseMethodDescriptor yX1_sideAt.desc).map (fun d => d.parameters.length) = some 2 := by decide +kernel
abbrev hsX1_joined : List Cond := Cond.code yX1_joined cX1_joined 4 (some .boolean) :: hALL
abbrev rmX1_joined : Room := { frames := 1, cells := 0, slots := 0, locals := 22 }
theorem pdX1_joined : yX1_joined.cls = RX1 ∧ yX1_joined.cls ≠ "java/lang/invoke/MethodHandle" ∧ yX1_joined.cls ≠ "java/lang/invoke/VarHandle" ∧ (parseMethodDescriptor yX1_joined.desc).map (fun d => d.parameters.length) = some 2 := by decide +kernel
abbrev hsX1_shorten : List Cond := Cond.code yX1_shorten cX1_shorten 7 (some .boolean) :: hALL
abbrev rmX1_shorten : Room := { frames := 1, cells := 0, slots := 0, locals := 21 }
theorem pdX1_shorten : yX1_shorten.cls = RX1 ∧ yX1_shorten.cls ≠ "java/lang/invoke/MethodHandle" ∧ yX1_shorten.cls ≠ "java/lang/invoke/VarHandle" ∧ (parseMethodDescriptor yX1_shorten.desc).map (fun d => d.parameters.length) = some 1 := by decide +kernel
abbrev hsX1_leadsOn : List Cond := Cond.code yX1_leadsOn cX1_leadsOn 4 (some .boolean) :: hALL
abbrev rmX1_leadsOn : Room := { frames := 1, cells := 0, slots := 0, locals := 21 }
theorem pdX1_leadsOn : yX1_leadsOn.cls = RX1 ∧ yX1_leadsOn.cls ≠ "java/lang/invoke/MethodHandle" ∧ yX1_leadsOn.cls ≠ "java/lang/invoke/VarHandle" ∧ (parseMethodDescriptor yX1_leadsOn.desc).map (fun d => d.parameters.length) = some 2 := by decide +kernel
abbrev hsX1_findNextSide : List Cond := Cond.code yX1_findNextSide cX1_findNextSide 5 (some .int) :: hALL
abbrev rmX1_findNextSide : Room := { frames := 2, cells := 0, slots := 0, locals := 44 }
theorem pdX1_findNextSide : yX1_findNextSide.cls = RX1 ∧ yX1_findNextSide.cls ≠ "java/lang/invoke/MethodHandle" ∧ yX1_findNextSide.cls ≠ "java/lang/invoke/VarHandle" ∧ (parseMethodDescriptor yX1_findNextSide.desc).map (fun d => d.parameters.length) = some 2 := by decide +kernel
abbrev hsX1_findWaysOf : List Cond := Cond.code yX1_findWaysOf cX1_findWaysOf 4 none :: hALL
abbrev rmX1_findWaysOf : Room := { frames := 3, cells := 0, slots := 0, locals := 68 }
theorem pdX1_findWaysOf : yX1_findWaysOf.cls = RX1 ∧ yX1_findWaysOf.cls ≠ "java/lang/invoke/MethodHandle" ∧ yX1_findWaysOf.cls ≠ "java/lang/invoke/VarHandle" ∧ (parseMethodDescriptor yX1_findWaysOf.desc).map (fun d => d.parameters.length) = some 1 := by decide +kernel
abbrev hsX1_findWays : List Cond := Cond.code yX1_findWays cX1_findWays 2 none :: hALL
abbrev rmX1_findWays : Room := { frames := 4, cells := 0, slots := 0, locals := 91 }
theorem pdX1_findWays : yX1_findWays.cls = RX1 ∧ yX1_findWays.cls ≠ "java/lang/invoke/MethodHandle" ∧ yX1_findWays.cls ≠ "java/lang/invoke/VarHandle" ∧ (parseMethodDescriptor yX1_findWays.desc).map (fun d => d.parameters.length) = some 0 := by decide +kernel
abbrev hsX1_addLink : List Cond := Cond.code yX1_addLink cX1_addLink 5 (some .int) :: hALL
abbrev rmX1_addLink : Room := { frames := 5, cells := 0, slots := 0, locals := 112 }
theorem pdX1_addLink : yX1_addLink.cls = RX1 ∧ yX1_addLink.cls ≠ "java/lang/invoke/MethodHandle" ∧ yX1_addLink.cls ≠ "java/lang/invoke/VarHandle" ∧ (parseMethodDescriptor yX1_addLink.desc).map (fun d => d.parameters.length) = some 3 := by decide +kernel
abbrev hsX1_setCost : List Cond := Cond.code yX1_setCost cX1_setCost 3 none :: hALL
abbrev rmX1_setCost : Room := { frames := 5, cells := 0, slots := 0, locals := 112 }
theorem pdX1_setCost : yX1_setCost.cls = RX1 ∧ yX1_setCost.cls ≠ "java/lang/invoke/MethodHandle" ∧ yX1_setCost.cls ≠ "java/lang/invoke/VarHandle" ∧ (parseMethodDescriptor yX1_setCost.desc).map (fun d => d.parameters.length) = some 2 := by decide +kernel
abbrev hsX1_setUp : List Cond := Cond.code yX1_setUp cX1_setUp 3 none :: hALL
abbrev rmX1_setUp : Room := { frames := 5, cells := 0, slots := 0, locals := 112 }
theorem pdX1_setUp : yX1_setUp.cls = RX1 ∧ yX1_setUp.cls ≠ "java/lang/invoke/MethodHandle" ∧ yX1_setUp.cls ≠ "java/lang/invoke/VarHandle" ∧ (parseMethodDescriptor yX1_setUp.desc).map (fun d => d.parameters.length) = some 2 := by decide +kernel
abbrev hsX1_setEnd : List Cond := Cond.code yX1_setEnd cX1_setEnd 3 none :: hALL
abbrev rmX1_setEnd : Room := { frames := 4, cells := 0, slots := 0, locals := 91 }
theorem pdX1_setEnd : yX1_setEnd.cls = RX1 ∧ yX1_setEnd.cls ≠ "java/lang/invoke/MethodHandle" ∧ yX1_setEnd.cls ≠ "java/lang/invoke/VarHandle" ∧ (parseMethodDescriptor yX1_setEnd.desc).map (fun d => d.parameters.length) = some 2 := by decide +kernel
abbrev hsX1_nextBox : List Cond := Cond.code yX1_nextBox cX1_nextBox 4 (some .int) :: hALL
abbrev rmX1_nextBox : Room := { frames := 1, cells := 0, slots := 0, locals := 21 }
theorem pdX1_nextBox : yX1_nextBox.cls = RX1 ∧ yX1_nextBox.cls ≠ "java/lang/invoke/MethodHandle" ∧ yX1_nextBox.cls ≠ "java/lang/invoke/VarHandle" ∧ (parseMethodDescriptor yX1_nextBox.desc).map (fun d => d.parameters.length) = some 2 := by decide +kernel
abbrev hsX1_linksUp : List Cond := Cond.code yX1_linksUp cX1_linksUp 3 (some .int) :: hALL
abbrev rmX1_linksUp : Room := { frames := 0, cells := 0, slots := 0, locals := 0 }
theorem pdX1_linksUp : yX1_linksUp.cls = RX1 ∧ yX1_linksUp.cls ≠ "java/lang/invoke/MethodHandle" ∧ yX1_linksUp.cls ≠ "java/lang/invoke/VarHandle" ∧ (parseMethodDescriptor yX1_linksUp.desc).map (fun d => d.parameters.length) = some 0 := by decide +kernel
abbrev hsX1_classesWithEnd : List Cond := Cond.code yX1_classesWithEnd cX1_classesWithEnd 3 (some .int) :: hALL
abbrev rmX1_classesWithEnd : Room := { frames := 0, cells := 0, slots := 0, locals := 0 }
theorem pdX1_classesWithEnd : yX1_classesWithEnd.cls = RX1 ∧ yX1_classesWithEnd.cls ≠ "java/lang/invoke/MethodHandle" ∧ yX1_classesWithEnd.cls ≠ "java/lang/invoke/VarHandle" ∧ (parseMethodDescriptor yX1_classesWithEnd.desc).map (fun d => d.parameters.length) = some 0 := by decide +kernel
abbrev hsX2_walk : List Cond := Cond.code yX2_walk cX2_walk 10 (some .int) :: hALL
abbrev rmX2_walk : Room := { frames := 2, cells := 0, slots := 0, locals := 50 }
theorem pdX2_walk : yX2_walk.cls = RX2 ∧ yX2_walk.cls ≠ "java/lang/invoke/MethodHandle" ∧ yX2_walk.cls ≠ "java/lang/invoke/VarHandle" ∧ (parseMethodDescriptor yX2_walk.desc).map (fun d => d.parameters.length) = some 2 := by decide +kernel
abbrev hsX2_labelledBetween : List Cond := Cond.code yX2_labelledBetween cX2_labelledBetween 2 (some .boolean) :: hALL
abbrev rmX2_labelledBetween : Room := { frames := 0, cells := 0, slots := 0, locals := 0 }
theorem pdX2_labelledBetween : yX2_labelledBetween.cls = RX2 ∧ yX2_labelledBetween.cls ≠ "java/lang/invoke/MethodHandle" ∧ yX2_labelledBetween.cls ≠ "java/lang/invoke/VarHandle" ∧ (parseMethodDescriptor yX2_labelledBetween.desc).map (fun d => d.parameters.length) = some 0 := by decide +kernel
abbrev hsX3_isBox : List Cond := Cond.code yX3_isBox cX3_isBox 1 (some .boolean) :: hALL
abbrev rmX3_isBox : Room := { frames := 0, cells := 0, slots := 0, locals := 0 }
theorem pdX3_isBox : yX3_isBox.cls = RX3 ∧ yX3_isBox.cls ≠ "java/lang/invoke/MethodHandle" ∧ yX3_isBox.cls ≠ "java/lang/invoke/VarHandle" ∧ (parseMethodDescriptor yX3_isBox.desc).map (fun d => d.parameters.length) = some 1 := by decide +kernel
abbrev hsX3_isCost : List Cond := Cond.code yX3_isCost cX3_isCost 1 (some .boolean) :: hALL
abbrev rmX3_isCost : Room := { frames := 0, cells := 0, slots := 0, locals := 0 }
theorem pdX3_isCost : yX3_isCost.cls = RX3 ∧ yX3_isCost.cls ≠ "java/lang/invoke/MethodHandle" ∧ yX3_isCost.cls ≠ "java/lang/invoke/VarHandle" ∧ (parseMethodDescriptor yX3_isCost.desc).map (fun d => d.parameters.length) = some 1 := by decide +kernel
abbrev hsX3_link : List Cond := Cond.code yX3_link cX3_link 4 (some .int) :: hALL
abbrev rmX3_link : Room := { frames := 6, cells := 0, slots := 0, locals := 136 }
theorem pdX3_link : yX3_link.cls = RX3 ∧ yX3_link.cls ≠ "java/lang/invoke/MethodHandle" ∧ yX3_link.cls ≠ "java/lang/invoke/VarHandle" ∧ (parseMethodDescriptor yX3_link.desc).map (fun d => d.parameters.length) = some 3 := by decide +kernel
abbrev hsX3_cost : List Cond := Cond.code yX3_cost cX3_cost 4 (some .int) :: hALL
abbrev rmX3_cost : Room := { frames := 6, cells := 0, slots := 0, locals := 134 }
theorem pdX3_cost : yX3_cost.cls = RX3 ∧ yX3_cost.cls ≠ "java/lang/invoke/MethodHandle" ∧ yX3_cost.cls ≠ "java/lang/invoke/VarHandle" ∧ (parseMethodDescriptor yX3_cost.desc).map (fun d => d.parameters.length) = some 2 := by decide +kernel
abbrev hsX3_isYesNo : List Cond := Cond.code yX3_isYesNo cX3_isYesNo 1 (some .boolean) :: hALL
abbrev rmX3_isYesNo : Room := { frames := 0, cells := 0, slots := 0, locals := 0 }
theorem pdX3_isYesNo : yX3_isYesNo.cls = RX3 ∧ yX3_isYesNo.cls ≠ "java/lang/invoke/MethodHandle" ∧ yX3_isYesNo.cls ≠ "java/lang/invoke/VarHandle" ∧ (parseMethodDescriptor yX3_isYesNo.desc).map (fun d => d.parameters.length) = some 1 := by decide +kernel
abbrev hsX3_up : List Cond := Cond.code yX3_up cX3_up 4 (some .int) :: hALL
abbrev rmX3_up : Room := { frames := 6, cells := 0, slots := 0, locals := 134 }
theorem pdX3_up : yX3_up.cls = RX3 ∧ yX3_up.cls ≠ "java/lang/invoke/MethodHandle" ∧ yX3_up.cls ≠ "java/lang/invoke/VarHandle" ∧ (parseMethodDescriptor yX3_up.desc).map (fun d => d.parameters.length) = some 2 := by decide +kernel
abbrev hsX3_isClass : List Cond := Cond.code yX3_isClass cX3_isClass 1 (some .boolean) :: hALL
abbrev rmX3_isClass : Room := { frames := 0, cells := 0, slots := 0, locals := 0 }
theorem pdX3_isClass : yX3_isClass.cls = RX3 ∧ yX3_isClass.cls ≠ "java/lang/invoke/MethodHandle" ∧ yX3_isClass.cls ≠ "java/lang/invoke/VarHandle" ∧ (parseMethodDescriptor yX3_isClass.desc).map (fun d => d.parameters.length) = some 1 := by decide +kernel
abbrev hsX3_end : List Cond := Cond.code yX3_end cX3_end 4 (some .int) :: hALL
abbrev rmX3_end : Room := { frames := 5, cells := 0, slots := 0, locals := 113 }
theorem pdX3_end : yX3_end.cls = RX3 ∧ yX3_end.cls ≠ "java/lang/invoke/MethodHandle" ∧ yX3_end.cls ≠ "java/lang/invoke/VarHandle" ∧ (parseMethodDescriptor yX3_end.desc).map (fun d => d.parameters.length) = some 2 := by decide +kernel
abbrev hsX3_ofLink : List Cond := Cond.code yX3_ofLink cX3_ofLink 3 (some .int) :: hALL
abbrev rmX3_ofLink : Room := { frames := 1, cells := 0, slots := 0, locals := 21 }
theorem pdX3_ofLink : yX3_ofLink.cls = RX3 ∧ yX3_ofLink.cls ≠ "java/lang/invoke/MethodHandle" ∧ yX3_ofLink.cls ≠ "java/lang/invoke/VarHandle" ∧ (parseMethodDescriptor yX3_ofLink.desc).map (fun d => d.parameters.length) = some 2 := by decide +kernel
abbrev hsX3_next : List Cond := Cond.code yX3_next cX3_next 3 (some .int) :: hALL
abbrev rmX3_next : Room := { frames := 2, cells := 0, slots := 0, locals := 44 }
theorem pdX3_next : yX3_next.cls = RX3 ∧ yX3_next.cls ≠ "java/lang/invoke/MethodHandle" ∧ yX3_next.cls ≠ "java/lang/invoke/VarHandle" ∧ (parseMethodDescriptor yX3_next.desc).map (fun d => d.parameters.length) = some 2 := by decide +kernel
abbrev hsX3_far : List Cond := Cond.code yX3_far cX3_far 3 (some .int) :: hALL
abbrev rmX3_far : Room := { frames := 1, cells := 0, slots := 0, locals := 21 }
theorem pdX3_far : yX3_far.cls = RX3 ∧ yX3_far.cls ≠ "java/lang/invoke/MethodHandle" ∧ yX3_far.cls ≠ "java/lang/invoke/VarHandle" ∧ (parseMethodDescriptor yX3_far.desc).map (fun d => d.parameters.length) = some 2 := by decide +kernel
abbrev hsX3_mode : List Cond := Cond.code yX3_mode cX3_mode 4 (some .int) :: hALL
abbrev rmX3_mode : Room := { frames := 3, cells := 0, slots := 0, locals := 67 }
theorem pdX3_mode : yX3_mode.cls = RX3 ∧ yX3_mode.cls ≠ "java/lang/invoke/MethodHandle" ∧ yX3_mode.cls ≠ "java/lang/invoke/VarHandle" ∧ (parseMethodDescriptor yX3_mode.desc).map (fun d => d.parameters.length) = some 3 := by decide +kernel
abbrev hsX3_setting : List Cond := Cond.code yX3_setting cX3_setting 4 (some .int) :: hALL
abbrev rmX3_setting : Room := { frames := 1, cells := 0, slots := 0, locals := 20 }
theorem pdX3_setting : yX3_setting.cls = RX3 ∧ yX3_setting.cls ≠ "java/lang/invoke/MethodHandle" ∧ yX3_setting.cls ≠ "java/lang/invoke/VarHandle" ∧ (parseMethodDescriptor yX3_setting.desc).map (fun d => d.parameters.length) = some 2 := by decide +kernel
abbrev hsX3_ticks : List Cond := Cond.code yX3_ticks cX3_ticks 2 (some .int) :: hALL
abbrev rmX3_ticks : Room := { frames := 6, cells := 0, slots := 0, locals := 141 }
theorem pdX3_ticks : yX3_ticks.cls = RX3 ∧ yX3_ticks.cls ≠ "java/lang/invoke/MethodHandle" ∧ yX3_ticks.cls ≠ "java/lang/invoke/VarHandle" ∧ (parseMethodDescriptor yX3_ticks.desc).map (fun d => d.parameters.length) = some 1 := by decide +kernel
abbrev hsX3_sideFor : List Cond := Cond.code yX3_sideFor cX3_sideFor 3 (some .int) :: hALL
abbrev rmX3_sideFor : Room := { frames := 1, cells := 0, slots := 0, locals := 22 }
theorem pdX3_sideFor : yX3_sideFor.cls = RX3 ∧ yX3_sideFor.cls ≠ "java/lang/invoke/MethodHandle" ∧ yX3_sideFor.cls ≠ "java/lang/invoke/VarHandle" ∧ (parseMethodDescriptor yX3_sideFor.desc).map (fun d => d.parameters.length) = some 2 := by decide +kernel
abbrev hsX3_partOf : List Cond := Cond.code yX3_partOf cX3_partOf 2 (some .int) :: hALL
abbrev rmX3_partOf : Room := { frames := 1, cells := 0, slots := 0, locals := 20 }
theorem pdX3_partOf : yX3_partOf.cls = RX3 ∧ yX3_partOf.cls ≠ "java/lang/invoke/MethodHandle" ∧ yX3_partOf.cls ≠ "java/lang/invoke/VarHandle" ∧ (parseMethodDescriptor yX3_partOf.desc).map (fun d => d.parameters.length) = some 2 := by decide +kernel
abbrev hsX3_handed : List Cond := Cond.code yX3_handed cX3_handed 6 (some .int) :: hALL
abbrev rmX3_handed : Room := { frames := 2, cells := 0, slots := 0, locals := 44 }
theorem pdX3_handed : yX3_handed.cls = RX3 ∧ yX3_handed.cls ≠ "java/lang/invoke/MethodHandle" ∧ yX3_handed.cls ≠ "java/lang/invoke/VarHandle" ∧ (parseMethodDescriptor yX3_handed.desc).map (fun d => d.parameters.length) = some 4 := by decide +kernel
abbrev hsX3_kept : List Cond := Cond.code yX3_kept cX3_kept 6 (some .int) :: hALL
abbrev rmX3_kept : Room := { frames := 2, cells := 0, slots := 0, locals := 44 }
theorem pdX3_kept : yX3_kept.cls = RX3 ∧ yX3_kept.cls ≠ "java/lang/invoke/MethodHandle" ∧ yX3_kept.cls ≠ "java/lang/invoke/VarHandle" ∧ (parseMethodDescriptor yX3_kept.desc).map (fun d => d.parameters.length) = some 4 := by decide +kernel
abbrev hsX3_used : List Cond := Cond.code yX3_used cX3_used 4 (some .int) :: hALL
abbrev rmX3_used : Room := { frames := 2, cells := 0, slots := 0, locals := 44 }
theorem pdX3_used : yX3_used.cls = RX3 ∧ yX3_used.cls ≠ "java/lang/invoke/MethodHandle" ∧ yX3_used.cls ≠ "java/lang/invoke/VarHandle" ∧ (parseMethodDescriptor yX3_used.desc).map (fun d => d.parameters.length) = some 2 := by decide +kernel
abbrev hsX3_meaning : List Cond := Cond.code yX3_meaning cX3_meaning 6 (some .int) :: hALL
abbrev rmX3_meaning : Room := { frames := 2, cells := 0, slots := 0, locals := 50 }
theorem pdX3_meaning : yX3_meaning.cls = RX3 ∧ yX3_meaning.cls ≠ "java/lang/invoke/MethodHandle" ∧ yX3_meaning.cls ≠ "java/lang/invoke/VarHandle" ∧ (parseMethodDescriptor yX3_meaning.desc).map (fun d => d.parameters.length) = some 3 := by decide +kernel
abbrev hsX3_settles : List Cond := Cond.code yX3_settles cX3_settles 1 (some .int) :: hALL
abbrev rmX3_settles : Room := { frames := 6, cells := 0, slots := 0, locals := 140 }
theorem pdX3_settles : yX3_settles.cls = RX3 ∧ yX3_settles.cls ≠ "java/lang/invoke/MethodHandle" ∧ yX3_settles.cls ≠ "java/lang/invoke/VarHandle" ∧ (parseMethodDescriptor yX3_settles.desc).map (fun d => d.parameters.length) = some 0 := by decide +kernel
abbrev hsX3_letter : List Cond := Cond.code yX3_letter cX3_letter 3 (some .int) :: hALL
abbrev rmX3_letter : Room := { frames := 3, cells := 0, slots := 0, locals := 79 }
theorem pdX3_letter : yX3_letter.cls = RX3 ∧ yX3_letter.cls ≠ "java/lang/invoke/MethodHandle" ∧ yX3_letter.cls ≠ "java/lang/invoke/VarHandle" ∧ (parseMethodDescriptor yX3_letter.desc).map (fun d => d.parameters.length) = some 2 := by decide +kernel
abbrev hsX3_trace : List Cond := Cond.code yX3_trace cX3_trace 3 (some .int) :: hALL
abbrev rmX3_trace : Room := { frames := 0, cells := 0, slots := 0, locals := 0 }
theorem pdX3_trace : yX3_trace.cls = RX3 ∧ yX3_trace.cls ≠ "java/lang/invoke/MethodHandle" ∧ yX3_trace.cls ≠ "java/lang/invoke/VarHandle" ∧ (parseMethodDescriptor yX3_trace.desc).map (fun d => d.parameters.length) = some 2 := by decide +kernel
abbrev hsX3_isServed : List Cond := Cond.code yX3_isServed cX3_isServed 5 (some .boolean) :: hALL
abbrev rmX3_isServed : Room := { frames := 3, cells := 0, slots := 0, locals := 79 }
theorem pdX3_isServed : yX3_isServed.cls = RX3 ∧ yX3_isServed.cls ≠ "java/lang/invoke/MethodHandle" ∧ yX3_isServed.cls ≠ "java/lang/invoke/VarHandle" ∧ (parseMethodDescriptor yX3_isServed.desc).map (fun d => d.parameters.length) = some 3 := by decide +kernel
abbrev hsX3_served : List Cond := Cond.code yX3_served cX3_served 5 (some .int) :: hALL
abbrev rmX3_served : Room := { frames := 4, cells := 0, slots := 0, locals := 103 }
theorem pdX3_served : yX3_served.cls = RX3 ∧ yX3_served.cls ≠ "java/lang/invoke/MethodHandle" ∧ yX3_served.cls ≠ "java/lang/invoke/VarHandle" ∧ (parseMethodDescriptor yX3_served.desc).map (fun d => d.parameters.length) = some 2 := by decide +kernel
abbrev hsX3_merged : List Cond := Cond.code yX3_merged cX3_merged 5 (some .int) :: hALL
abbrev rmX3_merged : Room := { frames := 2, cells := 0, slots := 0, locals := 44 }
theorem pdX3_merged : yX3_merged.cls = RX3 ∧ yX3_merged.cls ≠ "java/lang/invoke/MethodHandle" ∧ yX3_merged.cls ≠ "java/lang/invoke/VarHandle" ∧ (parseMethodDescriptor yX3_merged.desc).map (fun d => d.parameters.length) = some 2 := by decide +kernel
abbrev hsX3_countSlips : List Cond := Cond.code yX3_countSlips cX3_countSlips 3 (some .int) :: hALL
abbrev rmX3_countSlips : Room := { frames := 0, cells := 0, slots := 0, locals := 0 }
theorem pdX3_countSlips : yX3_countSlips.cls = RX3 ∧ yX3_countSlips.cls ≠ "java/lang/invoke/MethodHandle" ∧ yX3_countSlips.cls ≠ "java/lang/invoke/VarHandle" ∧ (parseMethodDescriptor yX3_countSlips.desc).map (fun d => d.parameters.length) = some 1 := by decide +kernel
abbrev hsX3_many : List Cond := Cond.code yX3_many cX3_many 2 (some .int) :: hALL
abbrev rmX3_many : Room := { frames := 2, cells := 0, slots := 0, locals := 43 }
theorem pdX3_many : yX3_many.cls = RX3 ∧ yX3_many.cls ≠ "java/lang/invoke/MethodHandle" ∧ yX3_many.cls ≠ "java/lang/invoke/VarHandle" ∧ (parseMethodDescriptor yX3_many.desc).map (fun d => d.parameters.length) = some 1 := by decide +kernel
abbrev hsX4_within : List Cond := Cond.code yX4_within cX4_within 3 (some .boolean) :: hALL
abbrev rmX4_within : Room := { frames := 0, cells := 0, slots := 0, locals := 0 }
theorem pdX4_within : yX4_within.cls = RX4 ∧ yX4_within.cls ≠ "java/lang/invoke/MethodHandle" ∧ yX4_within.cls ≠ "java/lang/invoke/VarHandle" ∧ (parseMethodDescriptor yX4_within.desc).map (fun d => d.parameters.length) = some 3 := by decide +kernel
abbrev hsX4_isBox : List Cond := Cond.code yX4_isBox cX4_isBox 1 (some .boolean) :: hALL
abbrev rmX4_isBox : Room := { frames := 1, cells := 0, slots := 0, locals := 22 }
theorem pdX4_isBox : yX4_isBox.cls = RX4 ∧ yX4_isBox.cls ≠ "java/lang/invoke/MethodHandle" ∧ yX4_isBox.cls ≠ "java/lang/invoke/VarHandle" ∧ (parseMethodDescriptor yX4_isBox.desc).map (fun d => d.parameters.length) = some 1 := by decide +kernel
abbrev hsX4_isClass : List Cond := Cond.code yX4_isClass cX4_isClass 1 (some .boolean) :: hALL
abbrev rmX4_isClass : Room := { frames := 1, cells := 0, slots := 0, locals := 22 }
theorem pdX4_isClass : yX4_isClass.cls = RX4 ∧ yX4_isClass.cls ≠ "java/lang/invoke/MethodHandle" ∧ yX4_isClass.cls ≠ "java/lang/invoke/VarHandle" ∧ (parseMethodDescriptor yX4_isClass.desc).map (fun d => d.parameters.length) = some 1 := by decide +kernel
abbrev hsX4_isLink : List Cond := Cond.code yX4_isLink cX4_isLink 2 (some .boolean) :: hALL
abbrev rmX4_isLink : Room := { frames := 1, cells := 0, slots := 0, locals := 22 }
theorem pdX4_isLink : yX4_isLink.cls = RX4 ∧ yX4_isLink.cls ≠ "java/lang/invoke/MethodHandle" ∧ yX4_isLink.cls ≠ "java/lang/invoke/VarHandle" ∧ (parseMethodDescriptor yX4_isLink.desc).map (fun d => d.parameters.length) = some 1 := by decide +kernel
abbrev hsX4_linkBetween : List Cond := Cond.code yX4_linkBetween cX4_linkBetween 4 (some .int) :: hALL
abbrev rmX4_linkBetween : Room := { frames := 0, cells := 0, slots := 0, locals := 0 }
theorem pdX4_linkBetween : yX4_linkBetween.cls = RX4 ∧ yX4_linkBetween.cls ≠ "java/lang/invoke/MethodHandle" ∧ yX4_linkBetween.cls ≠ "java/lang/invoke/VarHandle" ∧ (parseMethodDescriptor yX4_linkBetween.desc).map (fun d => d.parameters.length) = some 2 := by decide +kernel
abbrev hsX4_isAt : List Cond := Cond.code yX4_isAt cX4_isAt 3 (some .boolean) :: hALL
abbrev rmX4_isAt : Room := { frames := 0, cells := 0, slots := 0, locals := 0 }
theorem pdX4_isAt : yX4_isAt.cls = RX4 ∧ yX4_isAt.cls ≠ "java/lang/invoke/MethodHandle" ∧ yX4_isAt.cls ≠ "java/lang/invoke/VarHandle" ∧ (parseMethodDescriptor yX4_isAt.desc).map (fun d => d.parameters.length) = some 2 := by decide +kernel
abbrev hsX4_otherOf : List Cond := Cond.code yX4_otherOf cX4_otherOf 3 (some .int) :: hALL
abbrev rmX4_otherOf : Room := { frames := 0, cells := 0, slots := 0, locals := 0 }
theorem pdX4_otherOf : yX4_otherOf.cls = RX4 ∧ yX4_otherOf.cls ≠ "java/lang/invoke/MethodHandle" ∧ yX4_otherOf.cls ≠ "java/lang/invoke/VarHandle" ∧ (parseMethodDescriptor yX4_otherOf.desc).map (fun d => d.parameters.length) = some 2 := by decide +kernel
abbrev hsX4_link : List Cond := Cond.code yX4_link cX4_link 4 (some .int) :: hALL
abbrev rmX4_link : Room := { frames := 2, cells := 0, slots := 0, locals := 42 }
theorem pdX4_link : yX4_link.cls = RX4 ∧ yX4_link.cls ≠ "java/lang/invoke/MethodHandle" ∧ yX4_link.cls ≠ "java/lang/invoke/VarHandle" ∧ (parseMethodDescriptor yX4_link.desc).map (fun d => d.parameters.length) = some 3 := by decide +kernel
abbrev hsX4_cost : List Cond := Cond.code yX4_cost cX4_cost 4 (some .int) :: hALL
abbrev rmX4_cost : Room := { frames := 2, cells := 0, slots := 0, locals := 43 }
theorem pdX4_cost : yX4_cost.cls = RX4 ∧ yX4_cost.cls ≠ "java/lang/invoke/MethodHandle" ∧ yX4_cost.cls ≠ "java/lang/invoke/VarHandle" ∧ (parseMethodDescriptor yX4_cost.desc).map (fun d => d.parameters.length) = some 2 := by decide +kernel
abbrev hsX4_up : List Cond := Cond.code yX4_up cX4_up 5 (some .int) :: hALL
abbrev rmX4_up : Room := { frames := 2, cells := 0, slots := 0, locals := 43 }
theorem pdX4_up : yX4_up.cls = RX4 ∧ yX4_up.cls ≠ "java/lang/invoke/MethodHandle" ∧ yX4_up.cls ≠ "java/lang/invoke/VarHandle" ∧ (parseMethodDescriptor yX4_up.desc).map (fun d => d.parameters.length) = some 2 := by decide +kernel
abbrev hsX4_end : List Cond := Cond.code yX4_end cX4_end 4 (some .int) :: hALL
abbrev rmX4_end : Room := { frames := 2, cells := 0, slots := 0, locals := 42 }
theorem pdX4_end : yX4_end.cls = RX4 ∧ yX4_end.cls ≠ "java/lang/invoke/MethodHandle" ∧ yX4_end.cls ≠ "java/lang/invoke/VarHandle" ∧ (parseMethodDescriptor yX4_end.desc).map (fun d => d.parameters.length) = some 2 := by decide +kernel
abbrev hsX4_ofLink : List Cond := Cond.code yX4_ofLink cX4_ofLink 3 (some .int) :: hALL
abbrev rmX4_ofLink : Room := { frames := 2, cells := 0, slots := 0, locals := 43 }
theorem pdX4_ofLink : yX4_ofLink.cls = RX4 ∧ yX4_ofLink.cls ≠ "java/lang/invoke/MethodHandle" ∧ yX4_ofLink.cls ≠ "java/lang/invoke/VarHandle" ∧ (parseMethodDescriptor yX4_ofLink.desc).map (fun d => d.parameters.length) = some 2 := by decide +kernel
abbrev hsX4_findFar : List Cond := Cond.code yX4_findFar cX4_findFar 6 none :: hALL
abbrev rmX4_findFar : Room := { frames := 0, cells := 0, slots := 0, locals := 0 }
theorem pdX4_findFar : yX4_findFar.cls = RX4 ∧ yX4_findFar.cls ≠ "java/lang/invoke/MethodHandle" ∧ yX4_findFar.cls ≠ "java/lang/invoke/VarHandle" ∧ (parseMethodDescriptor yX4_findFar.desc).map (fun d => d.parameters.length) = some 1 := by decide +kernel
abbrev hsX4_nextOf : List Cond := Cond.code yX4_nextOf cX4_nextOf 5 (some .int) :: hALL
abbrev rmX4_nextOf : Room := { frames := 1, cells := 0, slots := 0, locals := 25 }
theorem pdX4_nextOf : yX4_nextOf.cls = RX4 ∧ yX4_nextOf.cls ≠ "java/lang/invoke/MethodHandle" ∧ yX4_nextOf.cls ≠ "java/lang/invoke/VarHandle" ∧ (parseMethodDescriptor yX4_nextOf.desc).map (fun d => d.parameters.length) = some 2 := by decide +kernel
abbrev hsX4_next : List Cond := Cond.code yX4_next cX4_next 3 (some .int) :: hALL
abbrev rmX4_next : Room := { frames := 2, cells := 0, slots := 0, locals := 49 }
theorem pdX4_next : yX4_next.cls = RX4 ∧ yX4_next.cls ≠ "java/lang/invoke/MethodHandle" ∧ yX4_next.cls ≠ "java/lang/invoke/VarHandle" ∧ (parseMethodDescriptor yX4_next.desc).map (fun d => d.parameters.length) = some 2 := by decide +kernel
abbrev hsX4_far : List Cond := Cond.code yX4_far cX4_far 3 (some .int) :: hALL
abbrev rmX4_far : Room := { frames := 2, cells := 0, slots := 0, locals := 42 }
theorem pdX4_far : yX4_far.cls = RX4 ∧ yX4_far.cls ≠ "java/lang/invoke/MethodHandle" ∧ yX4_far.cls ≠ "java/lang/invoke/VarHandle" ∧ (parseMethodDescriptor yX4_far.desc).map (fun d => d.parameters.length) = some 2 := by decide +kernel
abbrev hsX4_at : List Cond := Cond.code yX4_at cX4_at 3 (some .int) :: hALL
abbrev rmX4_at : Room := { frames := 0, cells := 0, slots := 0, locals := 0 }
theorem pdX4_at : yX4_at.cls = RX4 ∧ yX4_at.cls ≠ "java/lang/invoke/MethodHandle" ∧ yX4_at.cls ≠ "java/lang/invoke/VarHandle" ∧ (parseMethodDescriptor yX4_at.desc).map (fun d => d.parameters.length) = some 3 := by decide +kernel
abbrev hsX4_is : List Cond := Cond.code yX4_is cX4_is 3 (some .boolean) :: hALL
abbrev rmX4_is : Room := { frames := 0, cells := 0, slots := 0, locals := 0 }
theorem pdX4_is : yX4_is.cls = RX4 ∧ yX4_is.cls ≠ "java/lang/invoke/MethodHandle" ∧ yX4_is.cls ≠ "java/lang/invoke/VarHandle" ∧ (parseMethodDescriptor yX4_is.desc).map (fun d => d.parameters.length) = some 2 := by decide +kernel
abbrev hsX4_mode : List Cond := Cond.code yX4_mode cX4_mode 6 (some .int) :: hALL
abbrev rmX4_mode : Room := { frames := 2, cells := 0, slots := 0, locals := 42 }
theorem pdX4_mode : yX4_mode.cls = RX4 ∧ yX4_mode.cls ≠ "java/lang/invoke/MethodHandle" ∧ yX4_mode.cls ≠ "java/lang/invoke/VarHandle" ∧ (parseMethodDescriptor yX4_mode.desc).map (fun d => d.parameters.length) = some 3 := by decide +kernel
abbrev hsX4_setting : List Cond := Cond.code yX4_setting cX4_setting 5 (some .int) :: hALL
abbrev rmX4_setting : Room := { frames := 1, cells := 0, slots := 0, locals := 22 }
theorem pdX4_setting : yX4_setting.cls = RX4 ∧ yX4_setting.cls ≠ "java/lang/invoke/MethodHandle" ∧ yX4_setting.cls ≠ "java/lang/invoke/VarHandle" ∧ (parseMethodDescriptor yX4_setting.desc).map (fun d => d.parameters.length) = some 2 := by decide +kernel
abbrev hsX4_usedAt : List Cond := Cond.code yX4_usedAt cX4_usedAt 4 (some .int) :: hALL
abbrev rmX4_usedAt : Room := { frames := 2, cells := 0, slots := 0, locals := 49 }
theorem pdX4_usedAt : yX4_usedAt.cls = RX4 ∧ yX4_usedAt.cls ≠ "java/lang/invoke/MethodHandle" ∧ yX4_usedAt.cls ≠ "java/lang/invoke/VarHandle" ∧ (parseMethodDescriptor yX4_usedAt.desc).map (fun d => d.parameters.length) = some 2 := by decide +kernel
abbrev hsX4_countOf : List Cond := Cond.code yX4_countOf cX4_countOf 4 (some .int) :: hALL
abbrev rmX4_countOf : Room := { frames := 3, cells := 0, slots := 0, locals := 72 }
theorem pdX4_countOf : yX4_countOf.cls = RX4 ∧ yX4_countOf.cls ≠ "java/lang/invoke/MethodHandle" ∧ yX4_countOf.cls ≠ "java/lang/invoke/VarHandle" ∧ (parseMethodDescriptor yX4_countOf.desc).map (fun d => d.parameters.length) = some 2 := by decide +kernel
abbrev hsX4_hands : List Cond := Cond.code yX4_hands cX4_hands 4 (some .boolean) :: hALL
abbrev rmX4_hands : Room := { frames := 1, cells := 0, slots := 0, locals := 22 }
theorem pdX4_hands : yX4_hands.cls = RX4 ∧ yX4_hands.cls ≠ "java/lang/invoke/MethodHandle" ∧ yX4_hands.cls ≠ "java/lang/invoke/VarHandle" ∧ (parseMethodDescriptor yX4_hands.desc).map (fun d => d.parameters.length) = some 3 := by decide +kernel
abbrev hsX4_labelWas : List Cond := Cond.code yX4_labelWas cX4_labelWas 6 (some .int) :: hALL
abbrev rmX4_labelWas : Room := { frames := 1, cells := 0, slots := 0, locals := 22 }
theorem pdX4_labelWas : yX4_labelWas.cls = RX4 ∧ yX4_labelWas.cls ≠ "java/lang/invoke/MethodHandle" ∧ yX4_labelWas.cls ≠ "java/lang/invoke/VarHandle" ∧ (parseMethodDescriptor yX4_labelWas.desc).map (fun d => d.parameters.length) = some 3 := by decide +kernel
abbrev hsX4_isInRow : List Cond := Cond.code yX4_isInRow cX4_isInRow 6 (some .boolean) :: hALL
abbrev rmX4_isInRow : Room := { frames := 1, cells := 0, slots := 0, locals := 22 }
theorem pdX4_isInRow : yX4_isInRow.cls = RX4 ∧ yX4_isInRow.cls ≠ "java/lang/invoke/MethodHandle" ∧ yX4_isInRow.cls ≠ "java/lang/invoke/VarHandle" ∧ (parseMethodDescriptor yX4_isInRow.desc).map (fun d => d.parameters.length) = some 3 := by decide +kernel
abbrev hsX4_isNew : List Cond := Cond.code yX4_isNew cX4_isNew 4 (some .boolean) :: hALL
abbrev rmX4_isNew : Room := { frames := 2, cells := 0, slots := 0, locals := 47 }
theorem pdX4_isNew : yX4_isNew.cls = RX4 ∧ yX4_isNew.cls ≠ "java/lang/invoke/MethodHandle" ∧ yX4_isNew.cls ≠ "java/lang/invoke/VarHandle" ∧ (parseMethodDescriptor yX4_isNew.desc).map (fun d => d.parameters.length) = some 3 := by decide +kernel
abbrev hsX4_labels : List Cond := Cond.code yX4_labels cX4_labels 6 none :: hALL
abbrev rmX4_labels : Room := { frames := 2, cells := 0, slots := 0, locals := 45 }
theorem pdX4_labels : yX4_labels.cls = RX4 ∧ yX4_labels.cls ≠ "java/lang/invoke/MethodHandle" ∧ yX4_labels.cls ≠ "java/lang/invoke/VarHandle" ∧ (parseMethodDescriptor yX4_labels.desc).map (fun d => d.parameters.length) = some 4 := by decide +kernel
abbrev hsX4_handsInRow : List Cond := Cond.code yX4_handsInRow cX4_handsInRow 5 (some .boolean) :: hALL
abbrev rmX4_handsInRow : Room := { frames := 2, cells := 0, slots := 0, locals := 45 }
theorem pdX4_handsInRow : yX4_handsInRow.cls = RX4 ∧ yX4_handsInRow.cls ≠ "java/lang/invoke/MethodHandle" ∧ yX4_handsInRow.cls ≠ "java/lang/invoke/VarHandle" ∧ (parseMethodDescriptor yX4_handsInRow.desc).map (fun d => d.parameters.length) = some 3 := by decide +kernel
abbrev hsX4_handsRow : List Cond := Cond.code yX4_handsRow cX4_handsRow 5 none :: hALL
abbrev rmX4_handsRow : Room := { frames := 3, cells := 0, slots := 0, locals := 70 }
theorem pdX4_handsRow : yX4_handsRow.cls = RX4 ∧ yX4_handsRow.cls ≠ "java/lang/invoke/MethodHandle" ∧ yX4_handsRow.cls ≠ "java/lang/invoke/VarHandle" ∧ (parseMethodDescriptor yX4_handsRow.desc).map (fun d => d.parameters.length) = some 2 := by decide +kernel
abbrev hsX4_handsAll : List Cond := Cond.code yX4_handsAll cX4_handsAll 3 none :: hALL
abbrev rmX4_handsAll : Room := { frames := 4, cells := 0, slots := 0, locals := 94 }
theorem pdX4_handsAll : yX4_handsAll.cls = RX4 ∧ yX4_handsAll.cls ≠ "java/lang/invoke/MethodHandle" ∧ yX4_handsAll.cls ≠ "java/lang/invoke/VarHandle" ∧ (parseMethodDescriptor yX4_handsAll.desc).map (fun d => d.parameters.length) = some 1 := by decide +kernel
abbrev hsX4_keeps : List Cond := Cond.code yX4_keeps cX4_keeps 7 none :: hALL
abbrev rmX4_keeps : Room := { frames := 2, cells := 0, slots := 0, locals := 43 }
theorem pdX4_keeps : yX4_keeps.cls = RX4 ∧ yX4_keeps.cls ≠ "java/lang/invoke/MethodHandle" ∧ yX4_keeps.cls ≠ "java/lang/invoke/VarHandle" ∧ (parseMethodDescriptor yX4_keeps.desc).map (fun d => d.parameters.length) = some 0 := by decide +kernel
abbrev hsX4_goesOn : List Cond := Cond.code yX4_goesOn cX4_goesOn 2 none :: hALL
abbrev rmX4_goesOn : Room := { frames := 5, cells := 0, slots := 0, locals := 116 }
theorem pdX4_goesOn : yX4_goesOn.cls = RX4 ∧ yX4_goesOn.cls ≠ "java/lang/invoke/MethodHandle" ∧ yX4_goesOn.cls ≠ "java/lang/invoke/VarHandle" ∧ (parseMethodDescriptor yX4_goesOn.desc).map (fun d => d.parameters.length) = some 0 := by decide +kernel
abbrev hsX4_isChanged : List Cond := Cond.code yX4_isChanged cX4_isChanged 5 (some .boolean) :: hALL
abbrev rmX4_isChanged : Room := { frames := 0, cells := 0, slots := 0, locals := 0 }
theorem pdX4_isChanged : yX4_isChanged.cls = RX4 ∧ yX4_isChanged.cls ≠ "java/lang/invoke/MethodHandle" ∧ yX4_isChanged.cls ≠ "java/lang/invoke/VarHandle" ∧ (parseMethodDescriptor yX4_isChanged.desc).map (fun d => d.parameters.length) = some 1 := by decide +kernel
abbrev hsX4_ticks : List Cond := Cond.code yX4_ticks cX4_ticks 4 (some .int) :: hALL
abbrev rmX4_ticks : Room := { frames := 6, cells := 0, slots := 0, locals := 137 }
theorem pdX4_ticks : yX4_ticks.cls = RX4 ∧ yX4_ticks.cls ≠ "java/lang/invoke/MethodHandle" ∧ yX4_ticks.cls ≠ "java/lang/invoke/VarHandle" ∧ (parseMethodDescriptor yX4_ticks.desc).map (fun d => d.parameters.length) = some 1 := by decide +kernel
abbrev hsX4_isThere : List Cond := Cond.code yX4_isThere cX4_isThere 3 (some .boolean) :: hALL
abbrev rmX4_isThere : Room := { frames := 2, cells := 0, slots := 0, locals := 43 }
theorem pdX4_isThere : yX4_isThere.cls = RX4 ∧ yX4_isThere.cls ≠ "java/lang/invoke/MethodHandle" ∧ yX4_isThere.cls ≠ "java/lang/invoke/VarHandle" ∧ (parseMethodDescriptor yX4_isThere.desc).map (fun d => d.parameters.length) = some 2 := by decide +kernel
abbrev hsX4_tell : List Cond := Cond.code yX4_tell cX4_tell 3 (some .int) :: hALL
abbrev rmX4_tell : Room := { frames := 1, cells := 0, slots := 0, locals := 22 }
theorem pdX4_tell : yX4_tell.cls = RX4 ∧ yX4_tell.cls ≠ "java/lang/invoke/MethodHandle" ∧ yX4_tell.cls ≠ "java/lang/invoke/VarHandle" ∧ (parseMethodDescriptor yX4_tell.desc).map (fun d => d.parameters.length) = some 3 := by decide +kernel
abbrev hsX4_handed : List Cond := Cond.code yX4_handed cX4_handed 5 (some .int) :: hALL
abbrev rmX4_handed : Room := { frames := 3, cells := 0, slots := 0, locals := 65 }
theorem pdX4_handed : yX4_handed.cls = RX4 ∧ yX4_handed.cls ≠ "java/lang/invoke/MethodHandle" ∧ yX4_handed.cls ≠ "java/lang/invoke/VarHandle" ∧ (parseMethodDescriptor yX4_handed.desc).map (fun d => d.parameters.length) = some 4 := by decide +kernel
abbrev hsX4_kept : List Cond := Cond.code yX4_kept cX4_kept 5 (some .int) :: hALL
abbrev rmX4_kept : Room := { frames := 3, cells := 0, slots := 0, locals := 65 }
theorem pdX4_kept : yX4_kept.cls = RX4 ∧ yX4_kept.cls ≠ "java/lang/invoke/MethodHandle" ∧ yX4_kept.cls ≠ "java/lang/invoke/VarHandle" ∧ (parseMethodDescriptor yX4_kept.desc).map (fun d => d.parameters.length) = some 4 := by decide +kernel
abbrev hsX4_usedLabel : List Cond := Cond.code yX4_usedLabel cX4_usedLabel 4 (some .int) :: hALL
abbrev rmX4_usedLabel : Room := { frames := 3, cells := 0, slots := 0, locals := 72 }
theorem pdX4_usedLabel : yX4_usedLabel.cls = RX4 ∧ yX4_usedLabel.cls ≠ "java/lang/invoke/MethodHandle" ∧ yX4_usedLabel.cls ≠ "java/lang/invoke/VarHandle" ∧ (parseMethodDescriptor yX4_usedLabel.desc).map (fun d => d.parameters.length) = some 2 := by decide +kernel
abbrev hsX4_used : List Cond := Cond.code yX4_used cX4_used 4 (some .int) :: hALL
abbrev rmX4_used : Room := { frames := 4, cells := 0, slots := 0, locals := 95 }
theorem pdX4_used : yX4_used.cls = RX4 ∧ yX4_used.cls ≠ "java/lang/invoke/MethodHandle" ∧ yX4_used.cls ≠ "java/lang/invoke/VarHandle" ∧ (parseMethodDescriptor yX4_used.desc).map (fun d => d.parameters.length) = some 2 := by decide +kernel
abbrev hsX4_meaningOf : List Cond := Cond.code yX4_meaningOf cX4_meaningOf 7 (some .int) :: hALL
abbrev rmX4_meaningOf : Room := { frames := 1, cells := 0, slots := 0, locals := 22 }
theorem pdX4_meaningOf : yX4_meaningOf.cls = RX4 ∧ yX4_meaningOf.cls ≠ "java/lang/invoke/MethodHandle" ∧ yX4_meaningOf.cls ≠ "java/lang/invoke/VarHandle" ∧ (parseMethodDescriptor yX4_meaningOf.desc).map (fun d => d.parameters.length) = some 3 := by decide +kernel
abbrev hsX4_meaning : List Cond := Cond.code yX4_meaning cX4_meaning 4 (some .int) :: hALL
abbrev rmX4_meaning : Room := { frames := 3, cells := 0, slots := 0, locals := 65 }
theorem pdX4_meaning : yX4_meaning.cls = RX4 ∧ yX4_meaning.cls ≠ "java/lang/invoke/MethodHandle" ∧ yX4_meaning.cls ≠ "java/lang/invoke/VarHandle" ∧ (parseMethodDescriptor yX4_meaning.desc).map (fun d => d.parameters.length) = some 3 := by decide +kernel
abbrev hsX4_putsAside : List Cond := Cond.code yX4_putsAside cX4_putsAside 3 none :: hALL
abbrev rmX4_putsAside : Room := { frames := 0, cells := 0, slots := 0, locals := 0 }
theorem pdX4_putsAside : yX4_putsAside.cls = RX4 ∧ yX4_putsAside.cls ≠ "java/lang/invoke/MethodHandle" ∧ yX4_putsAside.cls ≠ "java/lang/invoke/VarHandle" ∧ (parseMethodDescriptor yX4_putsAside.desc).map (fun d => d.parameters.length) = some 1 := by decide +kernel
abbrev hsX4_settles : List Cond := Cond.code yX4_settles cX4_settles 3 (some .int) :: hALL
abbrev rmX4_settles : Room := { frames := 6, cells := 0, slots := 0, locals := 137 }
theorem pdX4_settles : yX4_settles.cls = RX4 ∧ yX4_settles.cls ≠ "java/lang/invoke/MethodHandle" ∧ yX4_settles.cls ≠ "java/lang/invoke/VarHandle" ∧ (parseMethodDescriptor yX4_settles.desc).map (fun d => d.parameters.length) = some 0 := by decide +kernel
abbrev hsX4_goes : List Cond := Cond.code yX4_goes cX4_goes 9 (some .int) :: hALL
abbrev rmX4_goes : Room := { frames := 4, cells := 0, slots := 0, locals := 95 }
theorem pdX4_goes : yX4_goes.cls = RX4 ∧ yX4_goes.cls ≠ "java/lang/invoke/MethodHandle" ∧ yX4_goes.cls ≠ "java/lang/invoke/VarHandle" ∧ (parseMethodDescriptor yX4_goes.desc).map (fun d => d.parameters.length) = some 2 := by decide +kernel
abbrev hsX4_letter : List Cond := Cond.code yX4_letter cX4_letter 5 (some .int) :: hALL
abbrev rmX4_letter : Room := { frames := 5, cells := 0, slots := 0, locals := 123 }
theorem pdX4_letter : yX4_letter.cls = RX4 ∧ yX4_letter.cls ≠ "java/lang/invoke/MethodHandle" ∧ yX4_letter.cls ≠ "java/lang/invoke/VarHandle" ∧ (parseMethodDescriptor yX4_letter.desc).map (fun d => d.parameters.length) = some 2 := by decide +kernel
abbrev hsX4_trace : List Cond := Cond.code yX4_trace cX4_trace 3 (some .int) :: hALL
abbrev rmX4_trace : Room := { frames := 1, cells := 0, slots := 0, locals := 22 }
theorem pdX4_trace : yX4_trace.cls = RX4 ∧ yX4_trace.cls ≠ "java/lang/invoke/MethodHandle" ∧ yX4_trace.cls ≠ "java/lang/invoke/VarHandle" ∧ (parseMethodDescriptor yX4_trace.desc).map (fun d => d.parameters.length) = some 2 := by decide +kernel
abbrev hsX4_isCarried : List Cond := Cond.code yX4_isCarried cX4_isCarried 2 (some .boolean) :: hALL
abbrev rmX4_isCarried : Room := { frames := 0, cells := 0, slots := 0, locals := 0 }
theorem pdX4_isCarried : yX4_isCarried.cls = RX4 ∧ yX4_isCarried.cls ≠ "java/lang/invoke/MethodHandle" ∧ yX4_isCarried.cls ≠ "java/lang/invoke/VarHandle" ∧ (parseMethodDescriptor yX4_isCarried.desc).map (fun d => d.parameters.length) = some 0 := by decide +kernel
abbrev hsX4_served : List Cond := Cond.code yX4_served cX4_served 7 (some .int) :: hALL
abbrev rmX4_served : Room := { frames := 5, cells := 0, slots := 0, locals := 123 }
theorem pdX4_served : yX4_served.cls = RX4 ∧ yX4_served.cls ≠ "java/lang/invoke/MethodHandle" ∧ yX4_served.cls ≠ "java/lang/invoke/VarHandle" ∧ (parseMethodDescriptor yX4_served.desc).map (fun d => d.parameters.length) = some 2 := by decide +kernel
abbrev hsX4_merged : List Cond := Cond.code yX4_merged cX4_merged 5 (some .int) :: hALL
abbrev rmX4_merged : Room := { frames := 4, cells := 0, slots := 0, locals := 95 }
theorem pdX4_merged : yX4_merged.cls = RX4 ∧ yX4_merged.cls ≠ "java/lang/invoke/MethodHandle" ∧ yX4_merged.cls ≠ "java/lang/invoke/VarHandle" ∧ (parseMethodDescriptor yX4_merged.desc).map (fun d => d.parameters.length) = some 2 := by decide +kernel
abbrev hsX4_manyIn : List Cond := Cond.code yX4_manyIn cX4_manyIn 3 (some .int) :: hALL
abbrev rmX4_manyIn : Room := { frames := 0, cells := 0, slots := 0, locals := 0 }
theorem pdX4_manyIn : yX4_manyIn.cls = RX4 ∧ yX4_manyIn.cls ≠ "java/lang/invoke/MethodHandle" ∧ yX4_manyIn.cls ≠ "java/lang/invoke/VarHandle" ∧ (parseMethodDescriptor yX4_manyIn.desc).map (fun d => d.parameters.length) = some 1 := by decide +kernel
abbrev hsX4_many : List Cond := Cond.code yX4_many cX4_many 4 (some .int) :: hALL
abbrev rmX4_many : Room := { frames := 1, cells := 0, slots := 0, locals := 22 }
theorem pdX4_many : yX4_many.cls = RX4 ∧ yX4_many.cls ≠ "java/lang/invoke/MethodHandle" ∧ yX4_many.cls ≠ "java/lang/invoke/VarHandle" ∧ (parseMethodDescriptor yX4_many.desc).map (fun d => d.parameters.length) = some 1 := by decide +kernel
theorem h_tout4 {x : Int32} (c0 : ¬ x = 0) (c1 : ¬ x = 1) (c2 : ¬ x = 2) (c3 : ¬ x = 3) : x.toInt < 0 ∨ 3 < x.toInt := by
  have d0 : ¬ x.toInt = 0 := h_tab c0
  have d1 : ¬ x.toInt = 1 := h_tab c1
  have d2 : ¬ x.toInt = 2 := h_tab c2
  have d3 : ¬ x.toInt = 3 := h_tab c3
  omega
theorem h_tout7 {x : Int32} (c0 : ¬ x = 0) (c1 : ¬ x = 1) (c2 : ¬ x = 2) (c3 : ¬ x = 3) (c4 : ¬ x = 4) (c5 : ¬ x = 5) (c6 : ¬ x = 6) : x.toInt < 0 ∨ 6 < x.toInt := by
  have d0 : ¬ x.toInt = 0 := h_tab c0
  have d1 : ¬ x.toInt = 1 := h_tab c1
  have d2 : ¬ x.toInt = 2 := h_tab c2
  have d3 : ¬ x.toInt = 3 := h_tab c3
  have d4 : ¬ x.toInt = 4 := h_tab c4
  have d5 : ¬ x.toInt = 5 := h_tab c5
  have d6 : ¬ x.toInt = 6 := h_tab c6
  omega
theorem h_tout20 {x : Int32} (c0 : ¬ x = 0) (c1 : ¬ x = 1) (c2 : ¬ x = 2) (c3 : ¬ x = 3) (c4 : ¬ x = 4) (c5 : ¬ x = 5) (c6 : ¬ x = 6) (c7 : ¬ x = 7) (c8 : ¬ x = 8) (c9 : ¬ x = 9) (c10 : ¬ x = 10) (c11 : ¬ x = 11) (c12 : ¬ x = 12) (c13 : ¬ x = 13) (c14 : ¬ x = 14) (c15 : ¬ x = 15) (c16 : ¬ x = 16) (c17 : ¬ x = 17) (c18 : ¬ x = 18) (c19 : ¬ x = 19) : x.toInt < 0 ∨ 19 < x.toInt := by
  have d0 : ¬ x.toInt = 0 := h_tab c0
  have d1 : ¬ x.toInt = 1 := h_tab c1
  have d2 : ¬ x.toInt = 2 := h_tab c2
  have d3 : ¬ x.toInt = 3 := h_tab c3
  have d4 : ¬ x.toInt = 4 := h_tab c4
  have d5 : ¬ x.toInt = 5 := h_tab c5
  have d6 : ¬ x.toInt = 6 := h_tab c6
  have d7 : ¬ x.toInt = 7 := h_tab c7
  have d8 : ¬ x.toInt = 8 := h_tab c8
  have d9 : ¬ x.toInt = 9 := h_tab c9
  have d10 : ¬ x.toInt = 10 := h_tab c10
  have d11 : ¬ x.toInt = 11 := h_tab c11
  have d12 : ¬ x.toInt = 12 := h_tab c12
  have d13 : ¬ x.toInt = 13 := h_tab c13
  have d14 : ¬ x.toInt = 14 := h_tab c14
  have d15 : ¬ x.toInt = 15 := h_tab c15
  have d16 : ¬ x.toInt = 16 := h_tab c16
  have d17 : ¬ x.toInt = 17 := h_tab c17
  have d18 : ¬ x.toInt = 18 := h_tab c18
  have d19 : ¬ x.toInt = 19 := h_tab c19
  omega
