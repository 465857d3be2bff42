def wN (q : Nat → Nat) (cI : ClassId) (S : HSt) : va_W := [(q 0, .inr (1, [.int (S.1 0), .ref (q 1), .ref (q 2), .ref (q 3), .ref (q 4), .ref (q 5), .ref (q 6)])), (q 1, .inl (cI, 24, .inl (S.2 0))), (q 2, .inl (cI, 12, .inl (S.2 1))), (q 3, .inl (cI, 12, .inl (S.2 2))), (q 4, .inl (cI, 4, .inl (S.2 3))), (q 5, .inl (cI, 28, .inl (S.2 4))), (q 6, .inl (cI, 28, .inl (S.2 5)))]
theorem wN_p0 (q : Nat → Nat) (cI : ClassId) (S : HSt) : (wN q cI S)[0]? = some (q 0, .inr (1, [.int (S.1 0), .ref (q 1), .ref (q 2), .ref (q 3), .ref (q 4), .ref (q 5), .ref (q 6)])) := rfl
theorem wN_p1 (q : Nat → Nat) (cI : ClassId) (S : HSt) : (wN q cI S)[1]? = some (q 1, .inl (cI, 24, .inl (S.2 0))) := rfl
theorem wN_p2 (q : Nat → Nat) (cI : ClassId) (S : HSt) : (wN q cI S)[2]? = some (q 2, .inl (cI, 12, .inl (S.2 1))) := rfl
theorem wN_p3 (q : Nat → Nat) (cI : ClassId) (S : HSt) : (wN q cI S)[3]? = some (q 3, .inl (cI, 12, .inl (S.2 2))) := rfl
theorem wN_p4 (q : Nat → Nat) (cI : ClassId) (S : HSt) : (wN q cI S)[4]? = some (q 4, .inl (cI, 4, .inl (S.2 3))) := rfl
theorem wN_p5 (q : Nat → Nat) (cI : ClassId) (S : HSt) : (wN q cI S)[5]? = some (q 5, .inl (cI, 28, .inl (S.2 4))) := rfl
theorem wN_p6 (q : Nat → Nat) (cI : ClassId) (S : HSt) : (wN q cI S)[6]? = some (q 6, .inl (cI, 28, .inl (S.2 5))) := rfl
theorem wN_s1 (q : Nat → Nat) (cI : ClassId) (S : HSt) (f : Nat → Int32) : (wN q cI S).set 1 (q 1, .inl (cI, 24, .inl f)) = wN q cI (S.1, va_up S.2 0 f) := rfl
theorem wN_s2 (q : Nat → Nat) (cI : ClassId) (S : HSt) (f : Nat → Int32) : (wN q cI S).set 2 (q 2, .inl (cI, 12, .inl f)) = wN q cI (S.1, va_up S.2 1 f) := rfl
theorem wN_s3 (q : Nat → Nat) (cI : ClassId) (S : HSt) (f : Nat → Int32) : (wN q cI S).set 3 (q 3, .inl (cI, 12, .inl f)) = wN q cI (S.1, va_up S.2 2 f) := rfl
theorem wN_s4 (q : Nat → Nat) (cI : ClassId) (S : HSt) (f : Nat → Int32) : (wN q cI S).set 4 (q 4, .inl (cI, 4, .inl f)) = wN q cI (S.1, va_up S.2 3 f) := rfl
theorem wN_s5 (q : Nat → Nat) (cI : ClassId) (S : HSt) (f : Nat → Int32) : (wN q cI S).set 5 (q 5, .inl (cI, 28, .inl f)) = wN q cI (S.1, va_up S.2 4 f) := rfl
theorem wN_s6 (q : Nat → Nat) (cI : ClassId) (S : HSt) (f : Nat → Int32) : (wN q cI S).set 6 (q 6, .inl (cI, 28, .inl f)) = wN q cI (S.1, va_up S.2 5 f) := rfl
abbrev hsX1_init : List Cond := Cond.code yX1_init cX1_init 2 none :: hALL
abbrev rmX1_init : Room := { frames := 1, cells := 6, slots := 108, locals := 12 }
theorem pdX1_init : yX1_init.cls ≠ "java/lang/invoke/MethodHandle" ∧ yX1_init.cls ≠ "java/lang/invoke/VarHandle" ∧ (parseMethodDescriptor yX1_init.desc).map (fun d => d.parameters.length) = some 0 := by decide +kernel
abbrev hsX0_init : List Cond := Cond.code yX0_init cX0_init 2 none :: hALL
abbrev rmX0_init : Room := { frames := 1, cells := 8, slots := 516, locals := 12 }
theorem pdX0_init : yX0_init.cls ≠ "java/lang/invoke/MethodHandle" ∧ yX0_init.cls ≠ "java/lang/invoke/VarHandle" ∧ (parseMethodDescriptor yX0_init.desc).map (fun d => d.parameters.length) = some 1 := by decide +kernel
abbrev hsX2_init : List Cond := Cond.code yX2_init cX2_init 3 none :: hALL
abbrev rmX2_init : Room := { frames := 1, cells := 2, slots := 30, locals := 12 }
theorem pdX2_init : yX2_init.cls ≠ "java/lang/invoke/MethodHandle" ∧ yX2_init.cls ≠ "java/lang/invoke/VarHandle" ∧ (parseMethodDescriptor yX2_init.desc).map (fun d => d.parameters.length) = some 2 := by decide +kernel
abbrev hsX3_init : List Cond := Cond.code yX3_init cX3_init 1 none :: hALL
abbrev rmX3_init : Room := { frames := 2, cells := 22, slots := 713, locals := 34 }
theorem pdX3_init : yX3_init.cls ≠ "java/lang/invoke/MethodHandle" ∧ yX3_init.cls ≠ "java/lang/invoke/VarHandle" ∧ (parseMethodDescriptor yX3_init.desc).map (fun d => d.parameters.length) = some 0 := by decide +kernel
abbrev hsX4_init : List Cond := Cond.code yX4_init cX4_init 2 none :: hALL
abbrev rmX4_init : Room := { frames := 1, cells := 23, slots := 4237, locals := 12 }
theorem pdX4_init : yX4_init.cls ≠ "java/lang/invoke/MethodHandle" ∧ yX4_init.cls ≠ "java/lang/invoke/VarHandle" ∧ (parseMethodDescriptor yX4_init.desc).map (fun d => d.parameters.length) = some 0 := by decide +kernel
def f_X1_init_74_s (k74 : HSt → Int32 → Option HSt) (S : HSt) (x1 : Int32) : Option HSt := if 28 ≤ x1 then (some S) else ((h_st S 4 28 x1 (-9)).bind (fun S2 => (h_st S2 5 28 x1 (-1)).bind (fun S4 => k74 S4 (x1 + 1))))
def f_X1_init_74 : Nat → HSt → Int32 → Option HSt
  | 0, _, _ => none
  | n + 1, S, x1 => f_X1_init_74_s (f_X1_init_74 n) S x1
def f_X1_init_53_s (k53 : HSt → Int32 → Option HSt) (S : HSt) (x1 : Int32) : Option HSt := if 4 ≤ x1 then (f_X1_init_74 h_fu S 0) else ((h_st S 3 4 x1 (-9)).bind (fun S2 => k53 S2 (x1 + 1)))
def f_X1_init_53 : Nat → HSt → Int32 → Option HSt
  | 0, _, _ => none
  | n + 1, S, x1 => f_X1_init_53_s (f_X1_init_53 n) S x1
def f_X1_init (S : HSt) : Option HSt := f_X1_init_53 h_fu S 0
def hSC (S : HSt) : HSt := (fun k => if k = 0 then S.1 0 else if k = 1 then 1 else if k = 2 then 7 else 0, fun k => if k < 6 then S.2 k else fun _ => 0)
def f_X4_init_197_s (k197 : HSt → Int32 → Option HSt) (S : HSt) (x1 : Int32) : Option HSt := if 4 ≤ x1 then ((h_st S 7 2 0 1).bind (fun S2 => (h_st S2 7 2 1 7).bind (fun S4 => some S4))) else ((h_st S 4 4 x1 (-9)).bind (fun S6 => k197 S6 (x1 + 1)))
def f_X4_init_197 : Nat → HSt → Int32 → Option HSt
  | 0, _, _ => none
  | n + 1, S, x1 => f_X4_init_197_s (f_X4_init_197 n) S x1
def f_X4_init (S : HSt) : Option HSt := f_X4_init_197 h_fu S 0
set_option maxHeartbeats 4000000 in
set_option maxRecDepth 100000 in
theorem c_X1_init (l : Launch) (dC : Nat → ClassId) (dI : Nat → Nat → Nat) (cI cZ : ClassId) (h0 : Nat) (S9 : HSt) (h : f_X1_init hS0 = some S9) : MK l yX1_init hsX1_init rmX1_init (dC, dI) cI cZ [(h0, .inr (1, [.int 0, .null, .null, .null, .null, .null, .null]))] [.ref h0] 6 108 (fun w1 => ∃ q9 : Nat → Nat, q9 0 = h0 ∧ w1 = wN q9 cI S9) := by
  refine MK.ofW (cc := cX1_init) (maxL := 2) (ret := none) (by decide +kernel) rfl (Nat.le_of_ble_eq_true rfl) ?_
  intro p e s m below meth c A cx hr hlk hnm hw ls hl
  have hx := cx.1.1
  have hb := cx.1.2.1
  have hml := cx.1.2.2.1
  have hts := cx.1.2.2.2.2
  have hta : ∀ z ∈ hALL, z.before _ s = true := fun z h => hts z (List.mem_cons_of_mem _ h)
  have lk9 : (Cond.fieldLink RX1 9 (TX1 1).1 (TX1 1).2.1 (TX1 1).2.2.1).before _ s = true := hta _ wdF_X1_9
  have lk15 : (Cond.fieldLink RX1 15 (TX1 2).1 (TX1 2).2.1 (TX1 2).2.2.1).before _ s = true := hta _ wdF_X1_15
  have lk18 : (Cond.fieldLink RX1 18 (TX1 3).1 (TX1 3).2.1 (TX1 3).2.2.1).before _ s = true := hta _ wdF_X1_18
  have lk21 : (Cond.fieldLink RX1 21 (TX1 4).1 (TX1 4).2.1 (TX1 4).2.2.1).before _ s = true := hta _ wdF_X1_21
  have lk24 : (Cond.fieldLink RX1 24 (TX1 5).1 (TX1 5).2.1 (TX1 5).2.2.1).before _ s = true := hta _ wdF_X1_24
  have lk27 : (Cond.fieldLink RX1 27 (TX1 6).1 (TX1 6).2.1 (TX1 6).2.2.1).before _ s = true := hta _ wdF_X1_27
  have hl : lv_has ls 2 [(0, .ref h0)] := hl
  have key : ∀ (q : Nat → Nat), q 0 = h0 → ∀ (H : Heap) (locs : List Loc) (ls : Array Slot), HW (dC, dI) (wN q cI) hS0 A s H locs → lv_has ls 2 [(0, .ref (q 0))] → W p l e rmX1_init s m ([.ref h0] : List Value).toArray below meth c H locs 6 108 (MQ below (QK (dC, dI) (fun w1 => ∃ q9 : Nat → Nat, q9 0 = h0 ∧ w1 = wN q9 cI S9) A) ([.ref h0] : List Value).toArray s 6 108 A) (F0 m 51 ls []) := by
    intro q hq0 H locs ls hw hl
    generalize hS0 = S at h hw
    unfold f_X1_init at h
    have kk53 : ∀ (n53 : Nat) (S : HSt) (x1 : Int32), f_X1_init_53 n53 S x1 = some S9 → ∀ (H : Heap) (locs : List Loc) (ls : Array Slot), HW (dC, dI) (wN q cI) S A s H locs → lv_has ls 2 [(0, .ref (q 0)), (1, .int x1)] → W p l e rmX1_init s m ([.ref h0] : List Value).toArray below meth c H locs 6 108 (MQ below (QK (dC, dI) (fun w1 => ∃ q9 : Nat → Nat, q9 0 = h0 ∧ w1 = wN q9 cI S9) A) ([.ref h0] : List Value).toArray s 6 108 A) (F0 m 53 ls []) := by
      intro n53
      induction n53 with
      | zero =>
        intro S x1 h
        have h9 : (none : Option HSt) = some S9 := h
        cases h9
      | succ n53 ih53 =>
        intro S x1 h H locs ls hw hl
        have h : f_X1_init_53_s (f_X1_init_53 n53) S x1 = some S9 := h
        unfold f_X1_init_53_s at h
        have kk74 : ∀ (n74 : Nat) (S : HSt) (x1 : Int32), f_X1_init_74 n74 S x1 = some S9 → ∀ (H : Heap) (locs : List Loc) (ls : Array Slot), HW (dC, dI) (wN q cI) S A s H locs → lv_has ls 2 [(0, .ref (q 0)), (1, .int x1)] → W p l e rmX1_init s m ([.ref h0] : List Value).toArray below meth c H locs 6 108 (MQ below (QK (dC, dI) (fun w1 => ∃ q9 : Nat → Nat, q9 0 = h0 ∧ w1 = wN q9 cI S9) A) ([.ref h0] : List Value).toArray s 6 108 A) (F0 m 74 ls []) := by
          intro n74
          induction n74 with
          | zero =>
            intro S x1 h
            have h9 : (none : Option HSt) = some S9 := h
            cases h9
          | succ n74 ih74 =>
            intro S x1 h H locs ls hw hl
            have h : f_X1_init_74_s (f_X1_init_74 n74) S x1 = some S9 := h
            unfold f_X1_init_74_s at h
            refine lv_iload_n hx hb dX1_init_74 rfl (lv_at hl 1 rfl) ?_
            refine lv_bipush (v := 28) hx hb dX1_init_75 (by decide) ?_
            refine lv_icmp_ge (tgt := 101) hx hb dX1_init_77 (by decide) (fun c1 => ?_) (fun c1 => ?_)
            · have h := h_ifp c1 h
              exact h_kret cx hw hr hlk ⟨q, hq0, congrArg (wN q cI) (Option.some.inj h)⟩ dX1_init_101
            · have h := h_ifn c1 h
              refine lv_aload_n hx hb dX1_init_80 rfl (lv_at hl 0 rfl) ?_
              refine h_get (v := .ref (q 5)) cx hw 0 (wN_p0 q cI S) rfl hinX1 5 (by decide) lk24 rfl dX1_init_81 ?_
              refine lv_iload_n hx hb dX1_init_84 rfl (lv_at hl 1 rfl) ?_
              refine lv_bipush (v := (-9)) hx hb dX1_init_85 (by decide) ?_
              obtain ⟨S2, e3, h⟩ := h_bd_ok h
              refine h_ast cx hw 5 (wN_p5 q cI S) (wN_s5 q cI S) e3 dX1_init_87 (fun H locs hw => ?_)
              refine lv_aload_n hx hb dX1_init_88 rfl (lv_at hl 0 rfl) ?_
              refine h_get (v := .ref (q 6)) cx hw 0 (wN_p0 q cI S2) rfl hinX1 6 (by decide) lk27 rfl dX1_init_89 ?_
              refine lv_iload_n hx hb dX1_init_92 rfl (lv_at hl 1 rfl) ?_
              refine lv_iconst (v := (-1)) hx hb dX1_init_93 (by decide) ?_
              obtain ⟨S4, e5, h⟩ := h_bd_ok h
              refine h_ast cx hw 6 (wN_p6 q cI S2) (wN_s6 q cI S2) e5 dX1_init_94 (fun H locs hw => ?_)
              refine lv_iinc (v := x1 + 1) (lv' := [(1, .int (x1 + 1)), (0, .ref (q 0))]) hx hb dX1_init_95 hl (k := 1) rfl rfl (by decide) rfl (fun ls hl => ?_)
              refine lv_goto (tgt := 74) hx hb dX1_init_98 (by decide) ?_
              exact ih74 _ _ h _ _ _ hw (lv_sub hl [1, 0] rfl)
        refine lv_iload_n hx hb dX1_init_53 rfl (lv_at hl 1 rfl) ?_
        refine lv_iconst (v := 4) hx hb dX1_init_54 (by decide) ?_
        refine lv_icmp_ge (tgt := 72) hx hb dX1_init_55 (by decide) (fun c1 => ?_) (fun c1 => ?_)
        · have h := h_ifp c1 h
          refine lv_iconst (v := 0) hx hb dX1_init_72 (by decide) ?_
          refine lv_istore_n (lv' := [(1, .int 0), (0, .ref (q 0))]) hx hb dX1_init_73 rfl hl (by decide) rfl (fun ls hl => ?_)
          exact kk74 h_fu _ _ h _ _ _ hw (lv_sub hl [1, 0] rfl)
        · have h := h_ifn c1 h
          refine lv_aload_n hx hb dX1_init_58 rfl (lv_at hl 0 rfl) ?_
          refine h_get (v := .ref (q 4)) cx hw 0 (wN_p0 q cI S) rfl hinX1 4 (by decide) lk21 rfl dX1_init_59 ?_
          refine lv_iload_n hx hb dX1_init_62 rfl (lv_at hl 1 rfl) ?_
          refine lv_bipush (v := (-9)) hx hb dX1_init_63 (by decide) ?_
          obtain ⟨S2, e3, h⟩ := h_bd_ok h
          refine h_ast cx hw 4 (wN_p4 q cI S) (wN_s4 q cI S) e3 dX1_init_65 (fun H locs hw => ?_)
          refine lv_iinc (v := x1 + 1) (lv' := [(1, .int (x1 + 1)), (0, .ref (q 0))]) hx hb dX1_init_66 hl (k := 1) rfl rfl (by decide) rfl (fun ls hl => ?_)
          refine lv_goto (tgt := 53) hx hb dX1_init_69 (by decide) ?_
          exact ih53 _ _ h _ _ _ hw (lv_sub hl [1, 0] rfl)
    refine lv_iconst (v := 0) hx hb dX1_init_51 (by decide) ?_
    refine lv_istore_n (lv' := [(1, .int 0), (0, .ref (q 0))]) hx hb dX1_init_52 rfl hl (by decide) rfl (fun ls hl => ?_)
    exact kk53 h_fu _ _ h _ _ _ hw (lv_sub hl [1, 0] rfl)
  refine lv_aload_n hx hb dX1_init_0 rfl (lv_at hl 0 rfl) ?_
  refine W.objInit hx hb cx.1.2.2.2.1 (hta _ wdL_X1_3) (hta _ wdI_objectInit) (hta _ wdC_objectInit) rfl (by rw [hml]; exact hl.1) rfl dX1_init_1 (Nat.le_of_ble_eq_true rfl) (Nat.le_of_ble_eq_true rfl) ?_
  refine W.eq (g2 := F0 m 4 ls []) rfl ?_
  refine lv_aload_n hx hb dX1_init_4 rfl (lv_at hl 0 rfl) ?_
  refine lv_bipush (v := 24) hx hb dX1_init_5 (by decide) ?_
  refine h_newa (N := 24) cx hw (hta _ wdA_int) (by decide) (by decide) (by decide) (Nat.le_of_ble_eq_true rfl) (Nat.le_of_ble_eq_true rfl) dX1_init_7 (fun q1 H hw => ?_)
  refine W.widen (k := 1) (n := 24) (Nat.le_of_ble_eq_true rfl) (Nat.le_of_ble_eq_true rfl) ?_
  have hw : HW (dC, dI) (fun _ => [(h0, .inr (1, [.int 0, .null, .null, .null, .null, .null, .null])), (q1, .inl (cI, 24, .inl (fun _ => 0)))]) hS0 A s _ _ := hw
  refine h_putF (v := .ref q1) (ty := .array .int) cx hw hnm 0 rfl rfl hinX1 tyX1 tyX1_ok nmX1 1 (by decide) lk9 rfl rfl (by decide +kernel) rfl rfl (Nat.le_of_ble_eq_true rfl) dX1_init_9 (fun H locs hw => ?_)
  have hw : HW (dC, dI) (fun _ => [(h0, .inr (1, [.int 0, .ref q1, .null, .null, .null, .null, .null])), (q1, .inl (cI, 24, .inl (fun _ => 0)))]) hS0 A s _ _ := hw
  refine lv_aload_n hx hb dX1_init_12 rfl (lv_at hl 0 rfl) ?_
  refine lv_bipush (v := 12) hx hb dX1_init_13 (by decide) ?_
  refine h_newa (N := 12) cx hw (hta _ wdA_int) (by decide) (by decide) (by decide) (Nat.le_of_ble_eq_true rfl) (Nat.le_of_ble_eq_true rfl) dX1_init_15 (fun q2 H hw => ?_)
  refine W.widen (k := 2) (n := 36) (Nat.le_of_ble_eq_true rfl) (Nat.le_of_ble_eq_true rfl) ?_
  have hw : HW (dC, dI) (fun _ => [(h0, .inr (1, [.int 0, .ref q1, .null, .null, .null, .null, .null])), (q1, .inl (cI, 24, .inl (fun _ => 0))), (q2, .inl (cI, 12, .inl (fun _ => 0)))]) hS0 A s _ _ := hw
  refine h_putF (v := .ref q2) (ty := .array .int) cx hw hnm 0 rfl rfl hinX1 tyX1 tyX1_ok nmX1 2 (by decide) lk15 rfl rfl (by decide +kernel) rfl rfl (Nat.le_of_ble_eq_true rfl) dX1_init_17 (fun H locs hw => ?_)
  have hw : HW (dC, dI) (fun _ => [(h0, .inr (1, [.int 0, .ref q1, .ref q2, .null, .null, .null, .null])), (q1, .inl (cI, 24, .inl (fun _ => 0))), (q2, .inl (cI, 12, .inl (fun _ => 0)))]) hS0 A s _ _ := hw
  refine lv_aload_n hx hb dX1_init_20 rfl (lv_at hl 0 rfl) ?_
  refine lv_bipush (v := 12) hx hb dX1_init_21 (by decide) ?_
  refine h_newa (N := 12) cx hw (hta _ wdA_int) (by decide) (by decide) (by decide) (Nat.le_of_ble_eq_true rfl) (Nat.le_of_ble_eq_true rfl) dX1_init_23 (fun q3 H hw => ?_)
  refine W.widen (k := 3) (n := 48) (Nat.le_of_ble_eq_true rfl) (Nat.le_of_ble_eq_true rfl) ?_
  have hw : HW (dC, dI) (fun _ => [(h0, .inr (1, [.int 0, .ref q1, .ref q2, .null, .null, .null, .null])), (q1, .inl (cI, 24, .inl (fun _ => 0))), (q2, .inl (cI, 12, .inl (fun _ => 0))), (q3, .inl (cI, 12, .inl (fun _ => 0)))]) hS0 A s _ _ := hw
  refine h_putF (v := .ref q3) (ty := .array .int) cx hw hnm 0 rfl rfl hinX1 tyX1 tyX1_ok nmX1 3 (by decide) lk18 rfl rfl (by decide +kernel) rfl rfl (Nat.le_of_ble_eq_true rfl) dX1_init_25 (fun H locs hw => ?_)
  have hw : HW (dC, dI) (fun _ => [(h0, .inr (1, [.int 0, .ref q1, .ref q2, .ref q3, .null, .null, .null])), (q1, .inl (cI, 24, .inl (fun _ => 0))), (q2, .inl (cI, 12, .inl (fun _ => 0))), (q3, .inl (cI, 12, .inl (fun _ => 0)))]) hS0 A s _ _ := hw
  refine lv_aload_n hx hb dX1_init_28 rfl (lv_at hl 0 rfl) ?_
  refine lv_iconst (v := 4) hx hb dX1_init_29 (by decide) ?_
  refine h_newa (N := 4) cx hw (hta _ wdA_int) (by decide) (by decide) (by decide) (Nat.le_of_ble_eq_true rfl) (Nat.le_of_ble_eq_true rfl) dX1_init_30 (fun q4 H hw => ?_)
  refine W.widen (k := 4) (n := 52) (Nat.le_of_ble_eq_true rfl) (Nat.le_of_ble_eq_true rfl) ?_
  have hw : HW (dC, dI) (fun _ => [(h0, .inr (1, [.int 0, .ref q1, .ref q2, .ref q3, .null, .null, .null])), (q1, .inl (cI, 24, .inl (fun _ => 0))), (q2, .inl (cI, 12, .inl (fun _ => 0))), (q3, .inl (cI, 12, .inl (fun _ => 0))), (q4, .inl (cI, 4, .inl (fun _ => 0)))]) hS0 A s _ _ := hw
  refine h_putF (v := .ref q4) (ty := .array .int) cx hw hnm 0 rfl rfl hinX1 tyX1 tyX1_ok nmX1 4 (by decide) lk21 rfl rfl (by decide +kernel) rfl rfl (Nat.le_of_ble_eq_true rfl) dX1_init_32 (fun H locs hw => ?_)
  have hw : HW (dC, dI) (fun _ => [(h0, .inr (1, [.int 0, .ref q1, .ref q2, .ref q3, .ref q4, .null, .null])), (q1, .inl (cI, 24, .inl (fun _ => 0))), (q2, .inl (cI, 12, .inl (fun _ => 0))), (q3, .inl (cI, 12, .inl (fun _ => 0))), (q4, .inl (cI, 4, .inl (fun _ => 0)))]) hS0 A s _ _ := hw
  refine lv_aload_n hx hb dX1_init_35 rfl (lv_at hl 0 rfl) ?_
  refine lv_bipush (v := 28) hx hb dX1_init_36 (by decide) ?_
  refine h_newa (N := 28) cx hw (hta _ wdA_int) (by decide) (by decide) (by decide) (Nat.le_of_ble_eq_true rfl) (Nat.le_of_ble_eq_true rfl) dX1_init_38 (fun q5 H hw => ?_)
  refine W.widen (k := 5) (n := 80) (Nat.le_of_ble_eq_true rfl) (Nat.le_of_ble_eq_true rfl) ?_
  have hw : HW (dC, dI) (fun _ => [(h0, .inr (1, [.int 0, .ref q1, .ref q2, .ref q3, .ref q4, .null, .null])), (q1, .inl (cI, 24, .inl (fun _ => 0))), (q2, .inl (cI, 12, .inl (fun _ => 0))), (q3, .inl (cI, 12, .inl (fun _ => 0))), (q4, .inl (cI, 4, .inl (fun _ => 0))), (q5, .inl (cI, 28, .inl (fun _ => 0)))]) hS0 A s _ _ := hw
  refine h_putF (v := .ref q5) (ty := .array .int) cx hw hnm 0 rfl rfl hinX1 tyX1 tyX1_ok nmX1 5 (by decide) lk24 rfl rfl (by decide +kernel) rfl rfl (Nat.le_of_ble_eq_true rfl) dX1_init_40 (fun H locs hw => ?_)
  have hw : HW (dC, dI) (fun _ => [(h0, .inr (1, [.int 0, .ref q1, .ref q2, .ref q3, .ref q4, .ref q5, .null])), (q1, .inl (cI, 24, .inl (fun _ => 0))), (q2, .inl (cI, 12, .inl (fun _ => 0))), (q3, .inl (cI, 12, .inl (fun _ => 0))), (q4, .inl (cI, 4, .inl (fun _ => 0))), (q5, .inl (cI, 28, .inl (fun _ => 0)))]) hS0 A s _ _ := hw
  refine lv_aload_n hx hb dX1_init_43 rfl (lv_at hl 0 rfl) ?_
  refine lv_bipush (v := 28) hx hb dX1_init_44 (by decide) ?_
  refine h_newa (N := 28) cx hw (hta _ wdA_int) (by decide) (by decide) (by decide) (Nat.le_of_ble_eq_true rfl) (Nat.le_of_ble_eq_true rfl) dX1_init_46 (fun q6 H hw => ?_)
  refine W.widen (k := 6) (n := 108) (Nat.le_of_ble_eq_true rfl) (Nat.le_of_ble_eq_true rfl) ?_
  have hw : HW (dC, dI) (fun _ => [(h0, .inr (1, [.int 0, .ref q1, .ref q2, .ref q3, .ref q4, .ref q5, .null])), (q1, .inl (cI, 24, .inl (fun _ => 0))), (q2, .inl (cI, 12, .inl (fun _ => 0))), (q3, .inl (cI, 12, .inl (fun _ => 0))), (q4, .inl (cI, 4, .inl (fun _ => 0))), (q5, .inl (cI, 28, .inl (fun _ => 0))), (q6, .inl (cI, 28, .inl (fun _ => 0)))]) hS0 A s _ _ := hw
  refine h_putF (v := .ref q6) (ty := .array .int) cx hw hnm 0 rfl rfl hinX1 tyX1 tyX1_ok nmX1 6 (by decide) lk27 rfl rfl (by decide +kernel) rfl rfl (Nat.le_of_ble_eq_true rfl) dX1_init_48 (fun H locs hw => ?_)
  have hw : HW (dC, dI) (fun _ => [(h0, .inr (1, [.int 0, .ref q1, .ref q2, .ref q3, .ref q4, .ref q5, .ref q6])), (q1, .inl (cI, 24, .inl (fun _ => 0))), (q2, .inl (cI, 12, .inl (fun _ => 0))), (q3, .inl (cI, 12, .inl (fun _ => 0))), (q4, .inl (cI, 4, .inl (fun _ => 0))), (q5, .inl (cI, 28, .inl (fun _ => 0))), (q6, .inl (cI, 28, .inl (fun _ => 0)))]) hS0 A s _ _ := hw
  exact key (fun k => [h0, q1, q2, q3, q4, q5, q6].getD k 0) rfl _ _ _ hw hl
set_option maxHeartbeats 4000000 in
set_option maxRecDepth 100000 in
theorem c_X0_init (l : Launch) (dC : Nat → ClassId) (dI : Nat → Nat → Nat) (cI cZ : ClassId) (h0 g1 : Nat) : MK l yX0_init hsX0_init rmX0_init (dC, dI) cI cZ [(h0, .inr (0, [.null, .int 0, .int 0, .int 0, .null, .null, .null, .null, .null, .null, .null, .null]))] [.ref h0, .ref g1] 8 516 (fun w1 => ∃ q : Nat → Nat, w1 = [(h0, .inr (0, [.ref g1, .int 1, .int 7, .int 0, .ref (q 0), .ref (q 1), .ref (q 2), .ref (q 3), .ref (q 4), .ref (q 5), .ref (q 6), .ref (q 7)])), (q 0, .inl (cI, 96, .inl (fun _ => 0))), (q 1, .inl (cI, 96, .inl (fun _ => 0))), (q 2, .inl (cI, 28, .inl (fun _ => 0))), (q 3, .inl (cI, 96, .inl (fun _ => 0))), (q 4, .inl (cI, 4, .inl (fun _ => 0))), (q 5, .inl (cI, 4, .inl (fun _ => 0))), (q 6, .inl (cI, 96, .inl (fun _ => 0))), (q 7, .inl (cI, 96, .inl (fun _ => 0)))]) := by
  refine MK.ofW (cc := cX0_init) (maxL := 2) (ret := none) (by decide +kernel) rfl (Nat.le_of_ble_eq_true rfl) ?_
  intro p e s m below meth c A cx hr hlk hnm hw ls hl
  have hx := cx.1.1
  have hb := cx.1.2.1
  have hml := cx.1.2.2.1
  have hts := cx.1.2.2.2.2
  have hta : ∀ z ∈ hALL, z.before _ s = true := fun z h => hts z (List.mem_cons_of_mem _ h)
  have lk9 : (Cond.fieldLink RX0 9 (TX0 1).1 (TX0 1).2.1 (TX0 1).2.2.1).before _ s = true := hta _ wdF_X0_9
  have lk15 : (Cond.fieldLink RX0 15 (TX0 2).1 (TX0 2).2.1 (TX0 2).2.2.1).before _ s = true := hta _ wdF_X0_15
  have lk18 : (Cond.fieldLink RX0 18 (TX0 4).1 (TX0 4).2.1 (TX0 4).2.2.1).before _ s = true := hta _ wdF_X0_18
  have lk22 : (Cond.fieldLink RX0 22 (TX0 5).1 (TX0 5).2.1 (TX0 5).2.2.1).before _ s = true := hta _ wdF_X0_22
  have lk25 : (Cond.fieldLink RX0 25 (TX0 6).1 (TX0 6).2.1 (TX0 6).2.2.1).before _ s = true := hta _ wdF_X0_25
  have lk28 : (Cond.fieldLink RX0 28 (TX0 7).1 (TX0 7).2.1 (TX0 7).2.2.1).before _ s = true := hta _ wdF_X0_28
  have lk31 : (Cond.fieldLink RX0 31 (TX0 8).1 (TX0 8).2.1 (TX0 8).2.2.1).before _ s = true := hta _ wdF_X0_31
  have lk34 : (Cond.fieldLink RX0 34 (TX0 9).1 (TX0 9).2.1 (TX0 9).2.2.1).before _ s = true := hta _ wdF_X0_34
  have lk37 : (Cond.fieldLink RX0 37 (TX0 10).1 (TX0 10).2.1 (TX0 10).2.2.1).before _ s = true := hta _ wdF_X0_37
  have lk40 : (Cond.fieldLink RX0 40 (TX0 11).1 (TX0 11).2.1 (TX0 11).2.2.1).before _ s = true := hta _ wdF_X0_40
  have lk43 : (Cond.fieldLink RX0 43 (TX0 0).1 (TX0 0).2.1 (TX0 0).2.2.1).before _ s = true := hta _ wdF_X0_43
  have hl : lv_has ls 2 [(0, .ref h0), (1, .ref g1)] := hl
  refine lv_aload_n hx hb dX0_init_0 rfl (lv_at hl 0 rfl) ?_
  refine W.objInit hx hb cx.1.2.2.2.1 (hta _ wdL_X0_3) (hta _ wdI_objectInit) (hta _ wdC_objectInit) rfl (by rw [hml]; exact hl.1) rfl dX0_init_1 (Nat.le_of_ble_eq_true rfl) (Nat.le_of_ble_eq_true rfl) ?_
  refine W.eq (g2 := F0 m 4 ls []) rfl ?_
  refine lv_aload_n hx hb dX0_init_4 rfl (lv_at hl 0 rfl) ?_
  refine lv_iconst (v := 1) hx hb dX0_init_5 (by decide) ?_
  refine h_putK (v := .int 1) (ty := .int) cx hw 0 rfl rfl hinX0 tyX0 tyX0_ok nmX0 1 (by decide) lk9 rfl (by decide +kernel) rfl rfl (Nat.le_of_ble_eq_true rfl) dX0_init_6 (fun H locs hw => ?_)
  have hw : HW (dC, dI) (fun _ => [(h0, .inr (0, [.null, .int 1, .int 0, .int 0, .null, .null, .null, .null, .null, .null, .null, .null]))]) hS0 A s _ _ := hw
  refine lv_aload_n hx hb dX0_init_9 rfl (lv_at hl 0 rfl) ?_
  refine lv_bipush (v := 7) hx hb dX0_init_10 (by decide) ?_
  refine h_putK (v := .int 7) (ty := .int) cx hw 0 rfl rfl hinX0 tyX0 tyX0_ok nmX0 2 (by decide) lk15 rfl (by decide +kernel) rfl rfl (Nat.le_of_ble_eq_true rfl) dX0_init_12 (fun H locs hw => ?_)
  have hw : HW (dC, dI) (fun _ => [(h0, .inr (0, [.null, .int 1, .int 7, .int 0, .null, .null, .null, .null, .null, .null, .null, .null]))]) hS0 A s _ _ := hw
  refine lv_aload_n hx hb dX0_init_15 rfl (lv_at hl 0 rfl) ?_
  refine lv_bipush (v := 96) hx hb dX0_init_16 (by decide) ?_
  refine h_newa (N := 96) cx hw (hta _ wdA_int) (by decide) (by decide) (by decide) (Nat.le_of_ble_eq_true rfl) (Nat.le_of_ble_eq_true rfl) dX0_init_18 (fun q1 H hw => ?_)
  refine W.widen (k := 1) (n := 96) (Nat.le_of_ble_eq_true rfl) (Nat.le_of_ble_eq_true rfl) ?_
  have hw : HW (dC, dI) (fun _ => [(h0, .inr (0, [.null, .int 1, .int 7, .int 0, .null, .null, .null, .null, .null, .null, .null, .null])), (q1, .inl (cI, 96, .inl (fun _ => 0)))]) hS0 A s _ _ := hw
  refine h_putF (v := .ref q1) (ty := .array .int) cx hw hnm 0 rfl rfl hinX0 tyX0 tyX0_ok nmX0 4 (by decide) lk18 rfl rfl (by decide +kernel) rfl rfl (Nat.le_of_ble_eq_true rfl) dX0_init_20 (fun H locs hw => ?_)
  have hw : HW (dC, dI) (fun _ => [(h0, .inr (0, [.null, .int 1, .int 7, .int 0, .ref q1, .null, .null, .null, .null, .null, .null, .null])), (q1, .inl (cI, 96, .inl (fun _ => 0)))]) hS0 A s _ _ := hw
  refine lv_aload_n hx hb dX0_init_23 rfl (lv_at hl 0 rfl) ?_
  refine lv_bipush (v := 96) hx hb dX0_init_24 (by decide) ?_
  refine h_newa (N := 96) cx hw (hta _ wdA_int) (by decide) (by decide) (by decide) (Nat.le_of_ble_eq_true rfl) (Nat.le_of_ble_eq_true rfl) dX0_init_26 (fun q2 H hw => ?_)
  refine W.widen (k := 2) (n := 192) (Nat.le_of_ble_eq_true rfl) (Nat.le_of_ble_eq_true rfl) ?_
  have hw : HW (dC, dI) (fun _ => [(h0, .inr (0, [.null, .int 1, .int 7, .int 0, .ref q1, .null, .null, .null, .null, .null, .null, .null])), (q1, .inl (cI, 96, .inl (fun _ => 0))), (q2, .inl (cI, 96, .inl (fun _ => 0)))]) hS0 A s _ _ := hw
  refine h_putF (v := .ref q2) (ty := .array .int) cx hw hnm 0 rfl rfl hinX0 tyX0 tyX0_ok nmX0 5 (by decide) lk22 rfl rfl (by decide +kernel) rfl rfl (Nat.le_of_ble_eq_true rfl) dX0_init_28 (fun H locs hw => ?_)
  have hw : HW (dC, dI) (fun _ => [(h0, .inr (0, [.null, .int 1, .int 7, .int 0, .ref q1, .ref q2, .null, .null, .null, .null, .null, .null])), (q1, .inl (cI, 96, .inl (fun _ => 0))), (q2, .inl (cI, 96, .inl (fun _ => 0)))]) hS0 A s _ _ := hw
  refine lv_aload_n hx hb dX0_init_31 rfl (lv_at hl 0 rfl) ?_
  refine lv_bipush (v := 28) hx hb dX0_init_32 (by decide) ?_
  refine h_newa (N := 28) cx hw (hta _ wdA_int) (by decide) (by decide) (by decide) (Nat.le_of_ble_eq_true rfl) (Nat.le_of_ble_eq_true rfl) dX0_init_34 (fun q3 H hw => ?_)
  refine W.widen (k := 3) (n := 220) (Nat.le_of_ble_eq_true rfl) (Nat.le_of_ble_eq_true rfl) ?_
  have hw : HW (dC, dI) (fun _ => [(h0, .inr (0, [.null, .int 1, .int 7, .int 0, .ref q1, .ref q2, .null, .null, .null, .null, .null, .null])), (q1, .inl (cI, 96, .inl (fun _ => 0))), (q2, .inl (cI, 96, .inl (fun _ => 0))), (q3, .inl (cI, 28, .inl (fun _ => 0)))]) hS0 A s _ _ := hw
  refine h_putF (v := .ref q3) (ty := .array .int) cx hw hnm 0 rfl rfl hinX0 tyX0 tyX0_ok nmX0 6 (by decide) lk25 rfl rfl (by decide +kernel) rfl rfl (Nat.le_of_ble_eq_true rfl) dX0_init_36 (fun H locs hw => ?_)
  have hw : HW (dC, dI) (fun _ => [(h0, .inr (0, [.null, .int 1, .int 7, .int 0, .ref q1, .ref q2, .ref q3, .null, .null, .null, .null, .null])), (q1, .inl (cI, 96, .inl (fun _ => 0))), (q2, .inl (cI, 96, .inl (fun _ => 0))), (q3, .inl (cI, 28, .inl (fun _ => 0)))]) hS0 A s _ _ := hw
  refine lv_aload_n hx hb dX0_init_39 rfl (lv_at hl 0 rfl) ?_
  refine lv_bipush (v := 96) hx hb dX0_init_40 (by decide) ?_
  refine h_newa (N := 96) cx hw (hta _ wdA_int) (by decide) (by decide) (by decide) (Nat.le_of_ble_eq_true rfl) (Nat.le_of_ble_eq_true rfl) dX0_init_42 (fun q4 H hw => ?_)
  refine W.widen (k := 4) (n := 316) (Nat.le_of_ble_eq_true rfl) (Nat.le_of_ble_eq_true rfl) ?_
  have hw : HW (dC, dI) (fun _ => [(h0, .inr (0, [.null, .int 1, .int 7, .int 0, .ref q1, .ref q2, .ref q3, .null, .null, .null, .null, .null])), (q1, .inl (cI, 96, .inl (fun _ => 0))), (q2, .inl (cI, 96, .inl (fun _ => 0))), (q3, .inl (cI, 28, .inl (fun _ => 0))), (q4, .inl (cI, 96, .inl (fun _ => 0)))]) hS0 A s _ _ := hw
  refine h_putF (v := .ref q4) (ty := .array .int) cx hw hnm 0 rfl rfl hinX0 tyX0 tyX0_ok nmX0 7 (by decide) lk28 rfl rfl (by decide +kernel) rfl rfl (Nat.le_of_ble_eq_true rfl) dX0_init_44 (fun H locs hw => ?_)
  have hw : HW (dC, dI) (fun _ => [(h0, .inr (0, [.null, .int 1, .int 7, .int 0, .ref q1, .ref q2, .ref q3, .ref q4, .null, .null, .null, .null])), (q1, .inl (cI, 96, .inl (fun _ => 0))), (q2, .inl (cI, 96, .inl (fun _ => 0))), (q3, .inl (cI, 28, .inl (fun _ => 0))), (q4, .inl (cI, 96, .inl (fun _ => 0)))]) hS0 A s _ _ := hw
  refine lv_aload_n hx hb dX0_init_47 rfl (lv_at hl 0 rfl) ?_
  refine lv_iconst (v := 4) hx hb dX0_init_48 (by decide) ?_
  refine h_newa (N := 4) cx hw (hta _ wdA_int) (by decide) (by decide) (by decide) (Nat.le_of_ble_eq_true rfl) (Nat.le_of_ble_eq_true rfl) dX0_init_49 (fun q5 H hw => ?_)
  refine W.widen (k := 5) (n := 320) (Nat.le_of_ble_eq_true rfl) (Nat.le_of_ble_eq_true rfl) ?_
  have hw : HW (dC, dI) (fun _ => [(h0, .inr (0, [.null, .int 1, .int 7, .int 0, .ref q1, .ref q2, .ref q3, .ref q4, .null, .null, .null, .null])), (q1, .inl (cI, 96, .inl (fun _ => 0))), (q2, .inl (cI, 96, .inl (fun _ => 0))), (q3, .inl (cI, 28, .inl (fun _ => 0))), (q4, .inl (cI, 96, .inl (fun _ => 0))), (q5, .inl (cI, 4, .inl (fun _ => 0)))]) hS0 A s _ _ := hw
  refine h_putF (v := .ref q5) (ty := .array .int) cx hw hnm 0 rfl rfl hinX0 tyX0 tyX0_ok nmX0 8 (by decide) lk31 rfl rfl (by decide +kernel) rfl rfl (Nat.le_of_ble_eq_true rfl) dX0_init_51 (fun H locs hw => ?_)
  have hw : HW (dC, dI) (fun _ => [(h0, .inr (0, [.null, .int 1, .int 7, .int 0, .ref q1, .ref q2, .ref q3, .ref q4, .ref q5, .null, .null, .null])), (q1, .inl (cI, 96, .inl (fun _ => 0))), (q2, .inl (cI, 96, .inl (fun _ => 0))), (q3, .inl (cI, 28, .inl (fun _ => 0))), (q4, .inl (cI, 96, .inl (fun _ => 0))), (q5, .inl (cI, 4, .inl (fun _ => 0)))]) hS0 A s _ _ := hw
  refine lv_aload_n hx hb dX0_init_54 rfl (lv_at hl 0 rfl) ?_
  refine lv_iconst (v := 4) hx hb dX0_init_55 (by decide) ?_
  refine h_newa (N := 4) cx hw (hta _ wdA_int) (by decide) (by decide) (by decide) (Nat.le_of_ble_eq_true rfl) (Nat.le_of_ble_eq_true rfl) dX0_init_56 (fun q6 H hw => ?_)
  refine W.widen (k := 6) (n := 324) (Nat.le_of_ble_eq_true rfl) (Nat.le_of_ble_eq_true rfl) ?_
  have hw : HW (dC, dI) (fun _ => [(h0, .inr (0, [.null, .int 1, .int 7, .int 0, .ref q1, .ref q2, .ref q3, .ref q4, .ref q5, .null, .null, .null])), (q1, .inl (cI, 96, .inl (fun _ => 0))), (q2, .inl (cI, 96, .inl (fun _ => 0))), (q3, .inl (cI, 28, .inl (fun _ => 0))), (q4, .inl (cI, 96, .inl (fun _ => 0))), (q5, .inl (cI, 4, .inl (fun _ => 0))), (q6, .inl (cI, 4, .inl (fun _ => 0)))]) hS0 A s _ _ := hw
  refine h_putF (v := .ref q6) (ty := .array .int) cx hw hnm 0 rfl rfl hinX0 tyX0 tyX0_ok nmX0 9 (by decide) lk34 rfl rfl (by decide +kernel) rfl rfl (Nat.le_of_ble_eq_true rfl) dX0_init_58 (fun H locs hw => ?_)
  have hw : HW (dC, dI) (fun _ => [(h0, .inr (0, [.null, .int 1, .int 7, .int 0, .ref q1, .ref q2, .ref q3, .ref q4, .ref q5, .ref q6, .null, .null])), (q1, .inl (cI, 96, .inl (fun _ => 0))), (q2, .inl (cI, 96, .inl (fun _ => 0))), (q3, .inl (cI, 28, .inl (fun _ => 0))), (q4, .inl (cI, 96, .inl (fun _ => 0))), (q5, .inl (cI, 4, .inl (fun _ => 0))), (q6, .inl (cI, 4, .inl (fun _ => 0)))]) hS0 A s _ _ := hw
  refine lv_aload_n hx hb dX0_init_61 rfl (lv_at hl 0 rfl) ?_
  refine lv_bipush (v := 96) hx hb dX0_init_62 (by decide) ?_
  refine h_newa (N := 96) cx hw (hta _ wdA_int) (by decide) (by decide) (by decide) (Nat.le_of_ble_eq_true rfl) (Nat.le_of_ble_eq_true rfl) dX0_init_64 (fun q7 H hw => ?_)
  refine W.widen (k := 7) (n := 420) (Nat.le_of_ble_eq_true rfl) (Nat.le_of_ble_eq_true rfl) ?_
  have hw : HW (dC, dI) (fun _ => [(h0, .inr (0, [.null, .int 1, .int 7, .int 0, .ref q1, .ref q2, .ref q3, .ref q4, .ref q5, .ref q6, .null, .null])), (q1, .inl (cI, 96, .inl (fun _ => 0))), (q2, .inl (cI, 96, .inl (fun _ => 0))), (q3, .inl (cI, 28, .inl (fun _ => 0))), (q4, .inl (cI, 96, .inl (fun _ => 0))), (q5, .inl (cI, 4, .inl (fun _ => 0))), (q6, .inl (cI, 4, .inl (fun _ => 0))), (q7, .inl (cI, 96, .inl (fun _ => 0)))]) hS0 A s _ _ := hw
  refine h_putF (v := .ref q7) (ty := .array .int) cx hw hnm 0 rfl rfl hinX0 tyX0 tyX0_ok nmX0 10 (by decide) lk37 rfl rfl (by decide +kernel) rfl rfl (Nat.le_of_ble_eq_true rfl) dX0_init_66 (fun H locs hw => ?_)
  have hw : HW (dC, dI) (fun _ => [(h0, .inr (0, [.null, .int 1, .int 7, .int 0, .ref q1, .ref q2, .ref q3, .ref q4, .ref q5, .ref q6, .ref q7, .null])), (q1, .inl (cI, 96, .inl (fun _ => 0))), (q2, .inl (cI, 96, .inl (fun _ => 0))), (q3, .inl (cI, 28, .inl (fun _ => 0))), (q4, .inl (cI, 96, .inl (fun _ => 0))), (q5, .inl (cI, 4, .inl (fun _ => 0))), (q6, .inl (cI, 4, .inl (fun _ => 0))), (q7, .inl (cI, 96, .inl (fun _ => 0)))]) hS0 A s _ _ := hw
  refine lv_aload_n hx hb dX0_init_69 rfl (lv_at hl 0 rfl) ?_
  refine lv_bipush (v := 96) hx hb dX0_init_70 (by decide) ?_
  refine h_newa (N := 96) cx hw (hta _ wdA_int) (by decide) (by decide) (by decide) (Nat.le_of_ble_eq_true rfl) (Nat.le_of_ble_eq_true rfl) dX0_init_72 (fun q8 H hw => ?_)
  refine W.widen (k := 8) (n := 516) (Nat.le_of_ble_eq_true rfl) (Nat.le_of_ble_eq_true rfl) ?_
  have hw : HW (dC, dI) (fun _ => [(h0, .inr (0, [.null, .int 1, .int 7, .int 0, .ref q1, .ref q2, .ref q3, .ref q4, .ref q5, .ref q6, .ref q7, .null])), (q1, .inl (cI, 96, .inl (fun _ => 0))), (q2, .inl (cI, 96, .inl (fun _ => 0))), (q3, .inl (cI, 28, .inl (fun _ => 0))), (q4, .inl (cI, 96, .inl (fun _ => 0))), (q5, .inl (cI, 4, .inl (fun _ => 0))), (q6, .inl (cI, 4, .inl (fun _ => 0))), (q7, .inl (cI, 96, .inl (fun _ => 0))), (q8, .inl (cI, 96, .inl (fun _ => 0)))]) hS0 A s _ _ := hw
  refine h_putF (v := .ref q8) (ty := .array .int) cx hw hnm 0 rfl rfl hinX0 tyX0 tyX0_ok nmX0 11 (by decide) lk40 rfl rfl (by decide +kernel) rfl rfl (Nat.le_of_ble_eq_true rfl) dX0_init_74 (fun H locs hw => ?_)
  have hw : HW (dC, dI) (fun _ => [(h0, .inr (0, [.null, .int 1, .int 7, .int 0, .ref q1, .ref q2, .ref q3, .ref q4, .ref q5, .ref q6, .ref q7, .ref q8])), (q1, .inl (cI, 96, .inl (fun _ => 0))), (q2, .inl (cI, 96, .inl (fun _ => 0))), (q3, .inl (cI, 28, .inl (fun _ => 0))), (q4, .inl (cI, 96, .inl (fun _ => 0))), (q5, .inl (cI, 4, .inl (fun _ => 0))), (q6, .inl (cI, 4, .inl (fun _ => 0))), (q7, .inl (cI, 96, .inl (fun _ => 0))), (q8, .inl (cI, 96, .inl (fun _ => 0)))]) hS0 A s _ _ := hw
  refine lv_aload_n hx hb dX0_init_77 rfl (lv_at hl 0 rfl) ?_
  refine lv_aload_n hx hb dX0_init_78 rfl (lv_at hl 1 rfl) ?_
  refine h_putF (v := .ref g1) (ty := .object "HandedLabels$Net") cx hw hnm 0 rfl rfl hinX0 tyX0 tyX0_ok nmX0 0 (by decide) lk43 rfl rfl (by decide +kernel) rfl rfl (Nat.le_of_ble_eq_true rfl) dX0_init_79 (fun H locs hw => ?_)
  have hw : HW (dC, dI) (fun _ => [(h0, .inr (0, [.ref g1, .int 1, .int 7, .int 0, .ref q1, .ref q2, .ref q3, .ref q4, .ref q5, .ref q6, .ref q7, .ref q8])), (q1, .inl (cI, 96, .inl (fun _ => 0))), (q2, .inl (cI, 96, .inl (fun _ => 0))), (q3, .inl (cI, 28, .inl (fun _ => 0))), (q4, .inl (cI, 96, .inl (fun _ => 0))), (q5, .inl (cI, 4, .inl (fun _ => 0))), (q6, .inl (cI, 4, .inl (fun _ => 0))), (q7, .inl (cI, 96, .inl (fun _ => 0))), (q8, .inl (cI, 96, .inl (fun _ => 0)))]) hS0 A s _ _ := hw
  exact h_kret cx hw hr hlk ⟨fun k => [q1, q2, q3, q4, q5, q6, q7, q8].getD k 0, rfl⟩ dX0_init_82
set_option maxHeartbeats 4000000 in
set_option maxRecDepth 100000 in
theorem c_X2_init (l : Launch) (dC : Nat → ClassId) (dI : Nat → Nat → Nat) (cI cZ : ClassId) (h0 g1 g2 : Nat) : MK l yX2_init hsX2_init rmX2_init (dC, dI) cI cZ [(h0, .inr (2, [.null, .null, .int 0, .null, .null]))] [.ref h0, .ref g1, .ref g2] 2 30 (fun w1 => ∃ q : Nat → Nat, w1 = [(h0, .inr (2, [.ref g1, .ref g2, .int 0, .ref (q 0), .ref (q 1)])), (q 0, .inl (cI, 15, .inl (fun _ => 0))), (q 1, .inl (cI, 15, .inl (fun _ => 0)))]) := by
  refine MK.ofW (cc := cX2_init) (maxL := 3) (ret := none) (by decide +kernel) rfl (Nat.le_of_ble_eq_true rfl) ?_
  intro p e s m below meth c A cx hr hlk hnm hw ls hl
  have hx := cx.1.1
  have hb := cx.1.2.1
  have hml := cx.1.2.2.1
  have hts := cx.1.2.2.2.2
  have hta : ∀ z ∈ hALL, z.before _ s = true := fun z h => hts z (List.mem_cons_of_mem _ h)
  have lk9 : (Cond.fieldLink RX2 9 (TX2 3).1 (TX2 3).2.1 (TX2 3).2.2.1).before _ s = true := hta _ wdF_X2_9
  have lk15 : (Cond.fieldLink RX2 15 (TX2 4).1 (TX2 4).2.1 (TX2 4).2.2.1).before _ s = true := hta _ wdF_X2_15
  have lk18 : (Cond.fieldLink RX2 18 (TX2 0).1 (TX2 0).2.1 (TX2 0).2.2.1).before _ s = true := hta _ wdF_X2_18
  have lk22 : (Cond.fieldLink RX2 22 (TX2 1).1 (TX2 1).2.1 (TX2 1).2.2.1).before _ s = true := hta _ wdF_X2_22
  have hl : lv_has ls 3 [(0, .ref h0), (1, .ref g1), (2, .ref g2)] := hl
  refine lv_aload_n hx hb dX2_init_0 rfl (lv_at hl 0 rfl) ?_
  refine W.objInit hx hb cx.1.2.2.2.1 (hta _ wdL_X2_3) (hta _ wdI_objectInit) (hta _ wdC_objectInit) rfl (by rw [hml]; exact hl.1) rfl dX2_init_1 (Nat.le_of_ble_eq_true rfl) (Nat.le_of_ble_eq_true rfl) ?_
  refine W.eq (g2 := F0 m 4 ls []) rfl ?_
  refine lv_aload_n hx hb dX2_init_4 rfl (lv_at hl 0 rfl) ?_
  refine lv_bipush (v := 15) hx hb dX2_init_5 (by decide) ?_
  refine h_newa (N := 15) cx hw (hta _ wdA_int) (by decide) (by decide) (by decide) (Nat.le_of_ble_eq_true rfl) (Nat.le_of_ble_eq_true rfl) dX2_init_7 (fun q1 H hw => ?_)
  refine W.widen (k := 1) (n := 15) (Nat.le_of_ble_eq_true rfl) (Nat.le_of_ble_eq_true rfl) ?_
  have hw : HW (dC, dI) (fun _ => [(h0, .inr (2, [.null, .null, .int 0, .null, .null])), (q1, .inl (cI, 15, .inl (fun _ => 0)))]) hS0 A s _ _ := hw
  refine h_putF (v := .ref q1) (ty := .array .int) cx hw hnm 0 rfl rfl hinX2 tyX2 tyX2_ok nmX2 3 (by decide) lk9 rfl rfl (by decide +kernel) rfl rfl (Nat.le_of_ble_eq_true rfl) dX2_init_9 (fun H locs hw => ?_)
  have hw : HW (dC, dI) (fun _ => [(h0, .inr (2, [.null, .null, .int 0, .ref q1, .null])), (q1, .inl (cI, 15, .inl (fun _ => 0)))]) hS0 A s _ _ := hw
  refine lv_aload_n hx hb dX2_init_12 rfl (lv_at hl 0 rfl) ?_
  refine lv_bipush (v := 15) hx hb dX2_init_13 (by decide) ?_
  refine h_newa (N := 15) cx hw (hta _ wdA_int) (by decide) (by decide) (by decide) (Nat.le_of_ble_eq_true rfl) (Nat.le_of_ble_eq_true rfl) dX2_init_15 (fun q2 H hw => ?_)
  refine W.widen (k := 2) (n := 30) (Nat.le_of_ble_eq_true rfl) (Nat.le_of_ble_eq_true rfl) ?_
  have hw : HW (dC, dI) (fun _ => [(h0, .inr (2, [.null, .null, .int 0, .ref q1, .null])), (q1, .inl (cI, 15, .inl (fun _ => 0))), (q2, .inl (cI, 15, .inl (fun _ => 0)))]) hS0 A s _ _ := hw
  refine h_putF (v := .ref q2) (ty := .array .int) cx hw hnm 0 rfl rfl hinX2 tyX2 tyX2_ok nmX2 4 (by decide) lk15 rfl rfl (by decide +kernel) rfl rfl (Nat.le_of_ble_eq_true rfl) dX2_init_17 (fun H locs hw => ?_)
  have hw : HW (dC, dI) (fun _ => [(h0, .inr (2, [.null, .null, .int 0, .ref q1, .ref q2])), (q1, .inl (cI, 15, .inl (fun _ => 0))), (q2, .inl (cI, 15, .inl (fun _ => 0)))]) hS0 A s _ _ := hw
  refine lv_aload_n hx hb dX2_init_20 rfl (lv_at hl 0 rfl) ?_
  refine lv_aload_n hx hb dX2_init_21 rfl (lv_at hl 1 rfl) ?_
  refine h_putF (v := .ref g1) (ty := .object "HandedLabels$Net") cx hw hnm 0 rfl rfl hinX2 tyX2 tyX2_ok nmX2 0 (by decide) lk18 rfl rfl (by decide +kernel) rfl rfl (Nat.le_of_ble_eq_true rfl) dX2_init_22 (fun H locs hw => ?_)
  have hw : HW (dC, dI) (fun _ => [(h0, .inr (2, [.ref g1, .null, .int 0, .ref q1, .ref q2])), (q1, .inl (cI, 15, .inl (fun _ => 0))), (q2, .inl (cI, 15, .inl (fun _ => 0)))]) hS0 A s _ _ := hw
  refine lv_aload_n hx hb dX2_init_25 rfl (lv_at hl 0 rfl) ?_
  refine lv_aload_n hx hb dX2_init_26 rfl (lv_at hl 2 rfl) ?_
  refine h_putF (v := .ref g2) (ty := .object "HandedLabels$Labels") cx hw hnm 0 rfl rfl hinX2 tyX2 tyX2_ok nmX2 1 (by decide) lk22 rfl rfl (by decide +kernel) rfl rfl (Nat.le_of_ble_eq_true rfl) dX2_init_27 (fun H locs hw => ?_)
  have hw : HW (dC, dI) (fun _ => [(h0, .inr (2, [.ref g1, .ref g2, .int 0, .ref q1, .ref q2])), (q1, .inl (cI, 15, .inl (fun _ => 0))), (q2, .inl (cI, 15, .inl (fun _ => 0)))]) hS0 A s _ _ := hw
  exact h_kret cx hw hr hlk ⟨fun k => [q1, q2].getD k 0, rfl⟩ dX2_init_30
set_option maxHeartbeats 4000000 in
set_option maxRecDepth 100000 in
theorem c_X3_init (l : Launch) (dC : Nat → ClassId) (dI : Nat → Nat → Nat) (cI cZ : ClassId) (h0 : Nat) (S9 : HSt) (h : f_X1_init hS0 = some S9) : MK l yX3_init hsX3_init rmX3_init (dC, dI) cI cZ [(h0, .inr (3, [.null, .null, .null, .null]))] [.ref h0] 22 713 (fun w1 => ∃ q : Nat → Nat, q 0 = h0 ∧ w1 = wC q cI (hSC S9)) := by
  refine MK.ofW (cc := cX3_init) (maxL := 1) (ret := none) (by decide +kernel) rfl (Nat.le_of_ble_eq_true rfl) ?_
  intro p e s m below meth c A cx hr hlk hnm hw ls hl
  have hx := cx.1.1
  have hb := cx.1.2.1
  have hml := cx.1.2.2.1
  have hts := cx.1.2.2.2.2
  have hta : ∀ z ∈ hALL, z.before _ s = true := fun z h => hts z (List.mem_cons_of_mem _ h)
  have lk12 : (Cond.fieldLink RX3 12 (TX3 0).1 (TX3 0).2.1 (TX3 0).2.2.1).before _ s = true := hta _ wdF_X3_12
  have lk21 : (Cond.fieldLink RX3 21 (TX3 1).1 (TX3 1).2.1 (TX3 1).2.2.1).before _ s = true := hta _ wdF_X3_21
  have lk30 : (Cond.fieldLink RX3 30 (TX3 2).1 (TX3 2).2.1 (TX3 2).2.2.1).before _ s = true := hta _ wdF_X3_30
  have lk34 : (Cond.fieldLink RX3 34 (TX3 3).1 (TX3 3).2.1 (TX3 3).2.2.1).before _ s = true := hta _ wdF_X3_34
  have hl : lv_has ls 1 [(0, .ref h0)] := hl
  refine lv_aload_n hx hb dX3_init_0 rfl (lv_at hl 0 rfl) ?_
  refine W.objInit hx hb cx.1.2.2.2.1 (hta _ wdL_X3_3) (hta _ wdI_objectInit) (hta _ wdC_objectInit) rfl (by rw [hml]; exact hl.1) rfl dX3_init_1 (Nat.le_of_ble_eq_true rfl) (Nat.le_of_ble_eq_true rfl) ?_
  refine W.eq (g2 := F0 m 4 ls []) rfl ?_
  refine lv_aload_n hx hb dX3_init_4 rfl (lv_at hl 0 rfl) ?_
  refine h_new (C := RX1) (T := TX1) (N := 7) (ci := 1) (fs := [.int 0, .null, .null, .null, .null, .null, .null]) cx hw hinX1 tyX1 tyX1_ok (hta _ wdK_X3_9) (hta _ wdP_X1) (hta _ wdN_RX1) rfl (fun j hj => by rcases (show j = 0 ∨ j = 1 ∨ j = 2 ∨ j = 3 ∨ j = 4 ∨ j = 5 ∨ j = 6 by omega) with rfl | rfl | rfl | rfl | rfl | rfl | rfl <;> rfl) (Nat.le_of_ble_eq_true rfl) (Nat.le_of_ble_eq_true rfl) dX3_init_5 (fun q1 H hw => ?_)
  refine W.widen (k := 1) (n := 7) (Nat.le_of_ble_eq_true rfl) (Nat.le_of_ble_eq_true rfl) ?_
  have hw : HW (dC, dI) (fun _ => [(h0, .inr (3, [.null, .null, .null, .null])), (q1, .inr (1, [.int 0, .null, .null, .null, .null, .null, .null]))]) hS0 A s _ _ := hw
  refine lv_dup hx hb dX3_init_8 rfl ?_
  refine h_callK (wc := [(q1, .inr (1, [.int 0, .null, .null, .null, .null, .null, .null]))]) (wr := [(h0, .inr (3, [.null, .null, .null, .null]))]) (As := []) (rest := [.ref q1, .ref h0]) cx hw (c_X1_init l dC dI cI cZ q1 S9 h) (cwI 0 hts (hgA (hcW wdC_X1_init)) rfl rfl rfl (hta _ wdN_RX1) (hta _ wdL_X3_11) (hta _ wdI_X1_init) rfl pdX1_init ⟨Nat.le_of_ble_eq_true rfl, Nat.le_of_ble_eq_true rfl⟩) [1] [0] rfl rfl rfl (by decide) (by decide) (by decide) rfl hl.1 rfl (Nat.le_of_ble_eq_true rfl) dX3_init_9 ⟨Nat.le_of_ble_eq_true rfl, Nat.le_of_ble_eq_true rfl⟩ (fun u2 H locs hp hwn => ?_)
  obtain ⟨p2, hp2, rfl⟩ := hp
  subst hp2
  refine W.widen (k := 7) (n := 115) (Nat.le_of_ble_eq_true rfl) (Nat.le_of_ble_eq_true rfl) ?_
  have hw : HW (dC, dI) (fun _ => [(h0, .inr (3, [.null, .null, .null, .null])), ((p2 0), .inr (1, [.int (S9.1 0), .ref (p2 1), .ref (p2 2), .ref (p2 3), .ref (p2 4), .ref (p2 5), .ref (p2 6)])), ((p2 1), .inl (cI, 24, .inl (S9.2 0))), ((p2 2), .inl (cI, 12, .inl (S9.2 1))), ((p2 3), .inl (cI, 12, .inl (S9.2 2))), ((p2 4), .inl (cI, 4, .inl (S9.2 3))), ((p2 5), .inl (cI, 28, .inl (S9.2 4))), ((p2 6), .inl (cI, 28, .inl (S9.2 5)))]) hS0 A s _ _ := hwn
  refine h_putF (v := .ref (p2 0)) (ty := .object "HandedLabels$Net") cx hw hnm 0 rfl rfl hinX3 tyX3 tyX3_ok nmX3 0 (by decide) lk12 rfl rfl (by decide +kernel) rfl rfl (Nat.le_of_ble_eq_true rfl) dX3_init_12 (fun H locs hw => ?_)
  have hw : HW (dC, dI) (fun _ => [(h0, .inr (3, [.ref (p2 0), .null, .null, .null])), ((p2 0), .inr (1, [.int (S9.1 0), .ref (p2 1), .ref (p2 2), .ref (p2 3), .ref (p2 4), .ref (p2 5), .ref (p2 6)])), ((p2 1), .inl (cI, 24, .inl (S9.2 0))), ((p2 2), .inl (cI, 12, .inl (S9.2 1))), ((p2 3), .inl (cI, 12, .inl (S9.2 2))), ((p2 4), .inl (cI, 4, .inl (S9.2 3))), ((p2 5), .inl (cI, 28, .inl (S9.2 4))), ((p2 6), .inl (cI, 28, .inl (S9.2 5)))]) hS0 A s _ _ := hw
  refine lv_aload_n hx hb dX3_init_15 rfl (lv_at hl 0 rfl) ?_
  refine h_new (C := RX0) (T := TX0) (N := 12) (ci := 0) (fs := [.null, .int 0, .int 0, .int 0, .null, .null, .null, .null, .null, .null, .null, .null]) cx hw hinX0 tyX0 tyX0_ok (hta _ wdK_X3_16) (hta _ wdP_X0) (hta _ wdN_RX0) rfl (fun j hj => by rcases (show j = 0 ∨ j = 1 ∨ j = 2 ∨ j = 3 ∨ j = 4 ∨ j = 5 ∨ j = 6 ∨ j = 7 ∨ j = 8 ∨ j = 9 ∨ j = 10 ∨ j = 11 by omega) with rfl | rfl | rfl | rfl | rfl | rfl | rfl | rfl | rfl | rfl | rfl | rfl <;> rfl) (Nat.le_of_ble_eq_true rfl) (Nat.le_of_ble_eq_true rfl) dX3_init_16 (fun q3 H hw => ?_)
  refine W.widen (k := 8) (n := 127) (Nat.le_of_ble_eq_true rfl) (Nat.le_of_ble_eq_true rfl) ?_
  have hw : HW (dC, dI) (fun _ => [(h0, .inr (3, [.ref (p2 0), .null, .null, .null])), ((p2 0), .inr (1, [.int (S9.1 0), .ref (p2 1), .ref (p2 2), .ref (p2 3), .ref (p2 4), .ref (p2 5), .ref (p2 6)])), ((p2 1), .inl (cI, 24, .inl (S9.2 0))), ((p2 2), .inl (cI, 12, .inl (S9.2 1))), ((p2 3), .inl (cI, 12, .inl (S9.2 2))), ((p2 4), .inl (cI, 4, .inl (S9.2 3))), ((p2 5), .inl (cI, 28, .inl (S9.2 4))), ((p2 6), .inl (cI, 28, .inl (S9.2 5))), (q3, .inr (0, [.null, .int 0, .int 0, .int 0, .null, .null, .null, .null, .null, .null, .null, .null]))]) hS0 A s _ _ := hw
  refine lv_dup hx hb dX3_init_19 rfl ?_
  refine lv_aload_n hx hb dX3_init_20 rfl (lv_at hl 0 rfl) ?_
  refine h_get (v := .ref (p2 0)) cx hw 0 rfl rfl hinX3 0 (by decide) lk12 rfl dX3_init_21 ?_
  refine h_callK (wc := [(q3, .inr (0, [.null, .int 0, .int 0, .int 0, .null, .null, .null, .null, .null, .null, .null, .null]))]) (wr := [(h0, .inr (3, [.ref (p2 0), .null, .null, .null])), ((p2 0), .inr (1, [.int (S9.1 0), .ref (p2 1), .ref (p2 2), .ref (p2 3), .ref (p2 4), .ref (p2 5), .ref (p2 6)])), ((p2 1), .inl (cI, 24, .inl (S9.2 0))), ((p2 2), .inl (cI, 12, .inl (S9.2 1))), ((p2 3), .inl (cI, 12, .inl (S9.2 2))), ((p2 4), .inl (cI, 4, .inl (S9.2 3))), ((p2 5), .inl (cI, 28, .inl (S9.2 4))), ((p2 6), .inl (cI, 28, .inl (S9.2 5)))]) (As := [.ref (p2 0)]) (rest := [.ref q3, .ref h0]) cx hw (c_X0_init l dC dI cI cZ q3 (p2 0)) (cwI 1 hts (hgA (hcW wdC_X0_init)) rfl rfl rfl (hta _ wdN_RX0) (hta _ wdL_X3_18) (hta _ wdI_X0_init) rfl pdX0_init ⟨Nat.le_of_ble_eq_true rfl, Nat.le_of_ble_eq_true rfl⟩) [8] [0, 1, 2, 3, 4, 5, 6, 7] rfl rfl rfl (by decide) (by decide) (by decide) rfl hl.1 rfl (Nat.le_of_ble_eq_true rfl) dX3_init_24 ⟨Nat.le_of_ble_eq_true rfl, Nat.le_of_ble_eq_true rfl⟩ (fun u4 H locs hp hwn => ?_)
  obtain ⟨p4, rfl⟩ := hp
  refine W.widen (k := 16) (n := 643) (Nat.le_of_ble_eq_true rfl) (Nat.le_of_ble_eq_true rfl) ?_
  have hw : HW (dC, dI) (fun _ => [(h0, .inr (3, [.ref (p2 0), .null, .null, .null])), ((p2 0), .inr (1, [.int (S9.1 0), .ref (p2 1), .ref (p2 2), .ref (p2 3), .ref (p2 4), .ref (p2 5), .ref (p2 6)])), ((p2 1), .inl (cI, 24, .inl (S9.2 0))), ((p2 2), .inl (cI, 12, .inl (S9.2 1))), ((p2 3), .inl (cI, 12, .inl (S9.2 2))), ((p2 4), .inl (cI, 4, .inl (S9.2 3))), ((p2 5), .inl (cI, 28, .inl (S9.2 4))), ((p2 6), .inl (cI, 28, .inl (S9.2 5))), (q3, .inr (0, [.ref (p2 0), .int 1, .int 7, .int 0, .ref (p4 0), .ref (p4 1), .ref (p4 2), .ref (p4 3), .ref (p4 4), .ref (p4 5), .ref (p4 6), .ref (p4 7)])), ((p4 0), .inl (cI, 96, .inl (fun _ => 0))), ((p4 1), .inl (cI, 96, .inl (fun _ => 0))), ((p4 2), .inl (cI, 28, .inl (fun _ => 0))), ((p4 3), .inl (cI, 96, .inl (fun _ => 0))), ((p4 4), .inl (cI, 4, .inl (fun _ => 0))), ((p4 5), .inl (cI, 4, .inl (fun _ => 0))), ((p4 6), .inl (cI, 96, .inl (fun _ => 0))), ((p4 7), .inl (cI, 96, .inl (fun _ => 0)))]) hS0 A s _ _ := hwn
  refine h_putF (v := .ref q3) (ty := .object "HandedLabels$Labels") cx hw hnm 0 rfl rfl hinX3 tyX3 tyX3_ok nmX3 1 (by decide) lk21 rfl rfl (by decide +kernel) rfl rfl (Nat.le_of_ble_eq_true rfl) dX3_init_27 (fun H locs hw => ?_)
  have hw : HW (dC, dI) (fun _ => [(h0, .inr (3, [.ref (p2 0), .ref q3, .null, .null])), ((p2 0), .inr (1, [.int (S9.1 0), .ref (p2 1), .ref (p2 2), .ref (p2 3), .ref (p2 4), .ref (p2 5), .ref (p2 6)])), ((p2 1), .inl (cI, 24, .inl (S9.2 0))), ((p2 2), .inl (cI, 12, .inl (S9.2 1))), ((p2 3), .inl (cI, 12, .inl (S9.2 2))), ((p2 4), .inl (cI, 4, .inl (S9.2 3))), ((p2 5), .inl (cI, 28, .inl (S9.2 4))), ((p2 6), .inl (cI, 28, .inl (S9.2 5))), (q3, .inr (0, [.ref (p2 0), .int 1, .int 7, .int 0, .ref (p4 0), .ref (p4 1), .ref (p4 2), .ref (p4 3), .ref (p4 4), .ref (p4 5), .ref (p4 6), .ref (p4 7)])), ((p4 0), .inl (cI, 96, .inl (fun _ => 0))), ((p4 1), .inl (cI, 96, .inl (fun _ => 0))), ((p4 2), .inl (cI, 28, .inl (fun _ => 0))), ((p4 3), .inl (cI, 96, .inl (fun _ => 0))), ((p4 4), .inl (cI, 4, .inl (fun _ => 0))), ((p4 5), .inl (cI, 4, .inl (fun _ => 0))), ((p4 6), .inl (cI, 96, .inl (fun _ => 0))), ((p4 7), .inl (cI, 96, .inl (fun _ => 0)))]) hS0 A s _ _ := hw
  refine lv_aload_n hx hb dX3_init_30 rfl (lv_at hl 0 rfl) ?_
  refine h_new (C := RX2) (T := TX2) (N := 5) (ci := 2) (fs := [.null, .null, .int 0, .null, .null]) cx hw hinX2 tyX2 tyX2_ok (hta _ wdK_X3_25) (hta _ wdP_X2) (hta _ wdN_RX2) rfl (fun j hj => by rcases (show j = 0 ∨ j = 1 ∨ j = 2 ∨ j = 3 ∨ j = 4 by omega) with rfl | rfl | rfl | rfl | rfl <;> rfl) (Nat.le_of_ble_eq_true rfl) (Nat.le_of_ble_eq_true rfl) dX3_init_31 (fun q5 H hw => ?_)
  refine W.widen (k := 17) (n := 648) (Nat.le_of_ble_eq_true rfl) (Nat.le_of_ble_eq_true rfl) ?_
  have hw : HW (dC, dI) (fun _ => [(h0, .inr (3, [.ref (p2 0), .ref q3, .null, .null])), ((p2 0), .inr (1, [.int (S9.1 0), .ref (p2 1), .ref (p2 2), .ref (p2 3), .ref (p2 4), .ref (p2 5), .ref (p2 6)])), ((p2 1), .inl (cI, 24, .inl (S9.2 0))), ((p2 2), .inl (cI, 12, .inl (S9.2 1))), ((p2 3), .inl (cI, 12, .inl (S9.2 2))), ((p2 4), .inl (cI, 4, .inl (S9.2 3))), ((p2 5), .inl (cI, 28, .inl (S9.2 4))), ((p2 6), .inl (cI, 28, .inl (S9.2 5))), (q3, .inr (0, [.ref (p2 0), .int 1, .int 7, .int 0, .ref (p4 0), .ref (p4 1), .ref (p4 2), .ref (p4 3), .ref (p4 4), .ref (p4 5), .ref (p4 6), .ref (p4 7)])), ((p4 0), .inl (cI, 96, .inl (fun _ => 0))), ((p4 1), .inl (cI, 96, .inl (fun _ => 0))), ((p4 2), .inl (cI, 28, .inl (fun _ => 0))), ((p4 3), .inl (cI, 96, .inl (fun _ => 0))), ((p4 4), .inl (cI, 4, .inl (fun _ => 0))), ((p4 5), .inl (cI, 4, .inl (fun _ => 0))), ((p4 6), .inl (cI, 96, .inl (fun _ => 0))), ((p4 7), .inl (cI, 96, .inl (fun _ => 0))), (q5, .inr (2, [.null, .null, .int 0, .null, .null]))]) hS0 A s _ _ := hw
  refine lv_dup hx hb dX3_init_34 rfl ?_
  refine lv_aload_n hx hb dX3_init_35 rfl (lv_at hl 0 rfl) ?_
  refine h_get (v := .ref (p2 0)) cx hw 0 rfl rfl hinX3 0 (by decide) lk12 rfl dX3_init_36 ?_
  refine lv_aload_n hx hb dX3_init_39 rfl (lv_at hl 0 rfl) ?_
  refine h_get (v := .ref q3) cx hw 0 rfl rfl hinX3 1 (by decide) lk21 rfl dX3_init_40 ?_
  refine h_callK (wc := [(q5, .inr (2, [.null, .null, .int 0, .null, .null]))]) (wr := [(h0, .inr (3, [.ref (p2 0), .ref q3, .null, .null])), ((p2 0), .inr (1, [.int (S9.1 0), .ref (p2 1), .ref (p2 2), .ref (p2 3), .ref (p2 4), .ref (p2 5), .ref (p2 6)])), ((p2 1), .inl (cI, 24, .inl (S9.2 0))), ((p2 2), .inl (cI, 12, .inl (S9.2 1))), ((p2 3), .inl (cI, 12, .inl (S9.2 2))), ((p2 4), .inl (cI, 4, .inl (S9.2 3))), ((p2 5), .inl (cI, 28, .inl (S9.2 4))), ((p2 6), .inl (cI, 28, .inl (S9.2 5))), (q3, .inr (0, [.ref (p2 0), .int 1, .int 7, .int 0, .ref (p4 0), .ref (p4 1), .ref (p4 2), .ref (p4 3), .ref (p4 4), .ref (p4 5), .ref (p4 6), .ref (p4 7)])), ((p4 0), .inl (cI, 96, .inl (fun _ => 0))), ((p4 1), .inl (cI, 96, .inl (fun _ => 0))), ((p4 2), .inl (cI, 28, .inl (fun _ => 0))), ((p4 3), .inl (cI, 96, .inl (fun _ => 0))), ((p4 4), .inl (cI, 4, .inl (fun _ => 0))), ((p4 5), .inl (cI, 4, .inl (fun _ => 0))), ((p4 6), .inl (cI, 96, .inl (fun _ => 0))), ((p4 7), .inl (cI, 96, .inl (fun _ => 0)))]) (As := [.ref (p2 0), .ref q3]) (rest := [.ref q5, .ref h0]) cx hw (c_X2_init l dC dI cI cZ q5 (p2 0) q3) (cwI 2 hts (hgA (hcW wdC_X2_init)) rfl rfl rfl (hta _ wdN_RX2) (hta _ wdL_X3_27) (hta _ wdI_X2_init) rfl pdX2_init ⟨Nat.le_of_ble_eq_true rfl, Nat.le_of_ble_eq_true rfl⟩) [17] [0, 1, 2, 3, 4, 5, 6, 7, 8, 9, 10, 11, 12, 13, 14, 15, 16] rfl rfl rfl (by decide) (by decide) (by decide) rfl hl.1 rfl (Nat.le_of_ble_eq_true rfl) dX3_init_43 ⟨Nat.le_of_ble_eq_true rfl, Nat.le_of_ble_eq_true rfl⟩ (fun u6 H locs hp hwn => ?_)
  obtain ⟨p6, rfl⟩ := hp
  refine W.widen (k := 19) (n := 678) (Nat.le_of_ble_eq_true rfl) (Nat.le_of_ble_eq_true rfl) ?_
  have hw : HW (dC, dI) (fun _ => [(h0, .inr (3, [.ref (p2 0), .ref q3, .null, .null])), ((p2 0), .inr (1, [.int (S9.1 0), .ref (p2 1), .ref (p2 2), .ref (p2 3), .ref (p2 4), .ref (p2 5), .ref (p2 6)])), ((p2 1), .inl (cI, 24, .inl (S9.2 0))), ((p2 2), .inl (cI, 12, .inl (S9.2 1))), ((p2 3), .inl (cI, 12, .inl (S9.2 2))), ((p2 4), .inl (cI, 4, .inl (S9.2 3))), ((p2 5), .inl (cI, 28, .inl (S9.2 4))), ((p2 6), .inl (cI, 28, .inl (S9.2 5))), (q3, .inr (0, [.ref (p2 0), .int 1, .int 7, .int 0, .ref (p4 0), .ref (p4 1), .ref (p4 2), .ref (p4 3), .ref (p4 4), .ref (p4 5), .ref (p4 6), .ref (p4 7)])), ((p4 0), .inl (cI, 96, .inl (fun _ => 0))), ((p4 1), .inl (cI, 96, .inl (fun _ => 0))), ((p4 2), .inl (cI, 28, .inl (fun _ => 0))), ((p4 3), .inl (cI, 96, .inl (fun _ => 0))), ((p4 4), .inl (cI, 4, .inl (fun _ => 0))), ((p4 5), .inl (cI, 4, .inl (fun _ => 0))), ((p4 6), .inl (cI, 96, .inl (fun _ => 0))), ((p4 7), .inl (cI, 96, .inl (fun _ => 0))), (q5, .inr (2, [.ref (p2 0), .ref q3, .int 0, .ref (p6 0), .ref (p6 1)])), ((p6 0), .inl (cI, 15, .inl (fun _ => 0))), ((p6 1), .inl (cI, 15, .inl (fun _ => 0)))]) hS0 A s _ _ := hwn
  refine h_putF (v := .ref q5) (ty := .object "HandedLabels$Way") cx hw hnm 0 rfl rfl hinX3 tyX3 tyX3_ok nmX3 2 (by decide) lk30 rfl rfl (by decide +kernel) rfl rfl (Nat.le_of_ble_eq_true rfl) dX3_init_46 (fun H locs hw => ?_)
  have hw : HW (dC, dI) (fun _ => [(h0, .inr (3, [.ref (p2 0), .ref q3, .ref q5, .null])), ((p2 0), .inr (1, [.int (S9.1 0), .ref (p2 1), .ref (p2 2), .ref (p2 3), .ref (p2 4), .ref (p2 5), .ref (p2 6)])), ((p2 1), .inl (cI, 24, .inl (S9.2 0))), ((p2 2), .inl (cI, 12, .inl (S9.2 1))), ((p2 3), .inl (cI, 12, .inl (S9.2 2))), ((p2 4), .inl (cI, 4, .inl (S9.2 3))), ((p2 5), .inl (cI, 28, .inl (S9.2 4))), ((p2 6), .inl (cI, 28, .inl (S9.2 5))), (q3, .inr (0, [.ref (p2 0), .int 1, .int 7, .int 0, .ref (p4 0), .ref (p4 1), .ref (p4 2), .ref (p4 3), .ref (p4 4), .ref (p4 5), .ref (p4 6), .ref (p4 7)])), ((p4 0), .inl (cI, 96, .inl (fun _ => 0))), ((p4 1), .inl (cI, 96, .inl (fun _ => 0))), ((p4 2), .inl (cI, 28, .inl (fun _ => 0))), ((p4 3), .inl (cI, 96, .inl (fun _ => 0))), ((p4 4), .inl (cI, 4, .inl (fun _ => 0))), ((p4 5), .inl (cI, 4, .inl (fun _ => 0))), ((p4 6), .inl (cI, 96, .inl (fun _ => 0))), ((p4 7), .inl (cI, 96, .inl (fun _ => 0))), (q5, .inr (2, [.ref (p2 0), .ref q3, .int 0, .ref (p6 0), .ref (p6 1)])), ((p6 0), .inl (cI, 15, .inl (fun _ => 0))), ((p6 1), .inl (cI, 15, .inl (fun _ => 0)))]) hS0 A s _ _ := hw
  refine lv_aload_n hx hb dX3_init_49 rfl (lv_at hl 0 rfl) ?_
  refine h_new (C := RX2) (T := TX2) (N := 5) (ci := 2) (fs := [.null, .null, .int 0, .null, .null]) cx hw hinX2 tyX2 tyX2_ok (hta _ wdK_X3_25) (hta _ wdP_X2) (hta _ wdN_RX2) rfl (fun j hj => by rcases (show j = 0 ∨ j = 1 ∨ j = 2 ∨ j = 3 ∨ j = 4 by omega) with rfl | rfl | rfl | rfl | rfl <;> rfl) (Nat.le_of_ble_eq_true rfl) (Nat.le_of_ble_eq_true rfl) dX3_init_50 (fun q7 H hw => ?_)
  refine W.widen (k := 20) (n := 683) (Nat.le_of_ble_eq_true rfl) (Nat.le_of_ble_eq_true rfl) ?_
  have hw : HW (dC, dI) (fun _ => [(h0, .inr (3, [.ref (p2 0), .ref q3, .ref q5, .null])), ((p2 0), .inr (1, [.int (S9.1 0), .ref (p2 1), .ref (p2 2), .ref (p2 3), .ref (p2 4), .ref (p2 5), .ref (p2 6)])), ((p2 1), .inl (cI, 24, .inl (S9.2 0))), ((p2 2), .inl (cI, 12, .inl (S9.2 1))), ((p2 3), .inl (cI, 12, .inl (S9.2 2))), ((p2 4), .inl (cI, 4, .inl (S9.2 3))), ((p2 5), .inl (cI, 28, .inl (S9.2 4))), ((p2 6), .inl (cI, 28, .inl (S9.2 5))), (q3, .inr (0, [.ref (p2 0), .int 1, .int 7, .int 0, .ref (p4 0), .ref (p4 1), .ref (p4 2), .ref (p4 3), .ref (p4 4), .ref (p4 5), .ref (p4 6), .ref (p4 7)])), ((p4 0), .inl (cI, 96, .inl (fun _ => 0))), ((p4 1), .inl (cI, 96, .inl (fun _ => 0))), ((p4 2), .inl (cI, 28, .inl (fun _ => 0))), ((p4 3), .inl (cI, 96, .inl (fun _ => 0))), ((p4 4), .inl (cI, 4, .inl (fun _ => 0))), ((p4 5), .inl (cI, 4, .inl (fun _ => 0))), ((p4 6), .inl (cI, 96, .inl (fun _ => 0))), ((p4 7), .inl (cI, 96, .inl (fun _ => 0))), (q5, .inr (2, [.ref (p2 0), .ref q3, .int 0, .ref (p6 0), .ref (p6 1)])), ((p6 0), .inl (cI, 15, .inl (fun _ => 0))), ((p6 1), .inl (cI, 15, .inl (fun _ => 0))), (q7, .inr (2, [.null, .null, .int 0, .null, .null]))]) hS0 A s _ _ := hw
  refine lv_dup hx hb dX3_init_53 rfl ?_
  refine lv_aload_n hx hb dX3_init_54 rfl (lv_at hl 0 rfl) ?_
  refine h_get (v := .ref (p2 0)) cx hw 0 rfl rfl hinX3 0 (by decide) lk12 rfl dX3_init_55 ?_
  refine lv_aload_n hx hb dX3_init_58 rfl (lv_at hl 0 rfl) ?_
  refine h_get (v := .ref q3) cx hw 0 rfl rfl hinX3 1 (by decide) lk21 rfl dX3_init_59 ?_
  refine h_callK (wc := [(q7, .inr (2, [.null, .null, .int 0, .null, .null]))]) (wr := [(h0, .inr (3, [.ref (p2 0), .ref q3, .ref q5, .null])), ((p2 0), .inr (1, [.int (S9.1 0), .ref (p2 1), .ref (p2 2), .ref (p2 3), .ref (p2 4), .ref (p2 5), .ref (p2 6)])), ((p2 1), .inl (cI, 24, .inl (S9.2 0))), ((p2 2), .inl (cI, 12, .inl (S9.2 1))), ((p2 3), .inl (cI, 12, .inl (S9.2 2))), ((p2 4), .inl (cI, 4, .inl (S9.2 3))), ((p2 5), .inl (cI, 28, .inl (S9.2 4))), ((p2 6), .inl (cI, 28, .inl (S9.2 5))), (q3, .inr (0, [.ref (p2 0), .int 1, .int 7, .int 0, .ref (p4 0), .ref (p4 1), .ref (p4 2), .ref (p4 3), .ref (p4 4), .ref (p4 5), .ref (p4 6), .ref (p4 7)])), ((p4 0), .inl (cI, 96, .inl (fun _ => 0))), ((p4 1), .inl (cI, 96, .inl (fun _ => 0))), ((p4 2), .inl (cI, 28, .inl (fun _ => 0))), ((p4 3), .inl (cI, 96, .inl (fun _ => 0))), ((p4 4), .inl (cI, 4, .inl (fun _ => 0))), ((p4 5), .inl (cI, 4, .inl (fun _ => 0))), ((p4 6), .inl (cI, 96, .inl (fun _ => 0))), ((p4 7), .inl (cI, 96, .inl (fun _ => 0))), (q5, .inr (2, [.ref (p2 0), .ref q3, .int 0, .ref (p6 0), .ref (p6 1)])), ((p6 0), .inl (cI, 15, .inl (fun _ => 0))), ((p6 1), .inl (cI, 15, .inl (fun _ => 0)))]) (As := [.ref (p2 0), .ref q3]) (rest := [.ref q7, .ref h0]) cx hw (c_X2_init l dC dI cI cZ q7 (p2 0) q3) (cwI 2 hts (hgA (hcW wdC_X2_init)) rfl rfl rfl (hta _ wdN_RX2) (hta _ wdL_X3_27) (hta _ wdI_X2_init) rfl pdX2_init ⟨Nat.le_of_ble_eq_true rfl, Nat.le_of_ble_eq_true rfl⟩) [20] [0, 1, 2, 3, 4, 5, 6, 7, 8, 9, 10, 11, 12, 13, 14, 15, 16, 17, 18, 19] rfl rfl rfl (by decide) (by decide) (by decide) rfl hl.1 rfl (Nat.le_of_ble_eq_true rfl) dX3_init_62 ⟨Nat.le_of_ble_eq_true rfl, Nat.le_of_ble_eq_true rfl⟩ (fun u8 H locs hp hwn => ?_)
  obtain ⟨p8, rfl⟩ := hp
  refine W.widen (k := 22) (n := 713) (Nat.le_of_ble_eq_true rfl) (Nat.le_of_ble_eq_true rfl) ?_
  have hw : HW (dC, dI) (fun _ => [(h0, .inr (3, [.ref (p2 0), .ref q3, .ref q5, .null])), ((p2 0), .inr (1, [.int (S9.1 0), .ref (p2 1), .ref (p2 2), .ref (p2 3), .ref (p2 4), .ref (p2 5), .ref (p2 6)])), ((p2 1), .inl (cI, 24, .inl (S9.2 0))), ((p2 2), .inl (cI, 12, .inl (S9.2 1))), ((p2 3), .inl (cI, 12, .inl (S9.2 2))), ((p2 4), .inl (cI, 4, .inl (S9.2 3))), ((p2 5), .inl (cI, 28, .inl (S9.2 4))), ((p2 6), .inl (cI, 28, .inl (S9.2 5))), (q3, .inr (0, [.ref (p2 0), .int 1, .int 7, .int 0, .ref (p4 0), .ref (p4 1), .ref (p4 2), .ref (p4 3), .ref (p4 4), .ref (p4 5), .ref (p4 6), .ref (p4 7)])), ((p4 0), .inl (cI, 96, .inl (fun _ => 0))), ((p4 1), .inl (cI, 96, .inl (fun _ => 0))), ((p4 2), .inl (cI, 28, .inl (fun _ => 0))), ((p4 3), .inl (cI, 96, .inl (fun _ => 0))), ((p4 4), .inl (cI, 4, .inl (fun _ => 0))), ((p4 5), .inl (cI, 4, .inl (fun _ => 0))), ((p4 6), .inl (cI, 96, .inl (fun _ => 0))), ((p4 7), .inl (cI, 96, .inl (fun _ => 0))), (q5, .inr (2, [.ref (p2 0), .ref q3, .int 0, .ref (p6 0), .ref (p6 1)])), ((p6 0), .inl (cI, 15, .inl (fun _ => 0))), ((p6 1), .inl (cI, 15, .inl (fun _ => 0))), (q7, .inr (2, [.ref (p2 0), .ref q3, .int 0, .ref (p8 0), .ref (p8 1)])), ((p8 0), .inl (cI, 15, .inl (fun _ => 0))), ((p8 1), .inl (cI, 15, .inl (fun _ => 0)))]) hS0 A s _ _ := hwn
  refine h_putF (v := .ref q7) (ty := .object "HandedLabels$Way") cx hw hnm 0 rfl rfl hinX3 tyX3 tyX3_ok nmX3 3 (by decide) lk34 rfl rfl (by decide +kernel) rfl rfl (Nat.le_of_ble_eq_true rfl) dX3_init_65 (fun H locs hw => ?_)
  have hw : HW (dC, dI) (fun _ => [(h0, .inr (3, [.ref (p2 0), .ref q3, .ref q5, .ref q7])), ((p2 0), .inr (1, [.int (S9.1 0), .ref (p2 1), .ref (p2 2), .ref (p2 3), .ref (p2 4), .ref (p2 5), .ref (p2 6)])), ((p2 1), .inl (cI, 24, .inl (S9.2 0))), ((p2 2), .inl (cI, 12, .inl (S9.2 1))), ((p2 3), .inl (cI, 12, .inl (S9.2 2))), ((p2 4), .inl (cI, 4, .inl (S9.2 3))), ((p2 5), .inl (cI, 28, .inl (S9.2 4))), ((p2 6), .inl (cI, 28, .inl (S9.2 5))), (q3, .inr (0, [.ref (p2 0), .int 1, .int 7, .int 0, .ref (p4 0), .ref (p4 1), .ref (p4 2), .ref (p4 3), .ref (p4 4), .ref (p4 5), .ref (p4 6), .ref (p4 7)])), ((p4 0), .inl (cI, 96, .inl (fun _ => 0))), ((p4 1), .inl (cI, 96, .inl (fun _ => 0))), ((p4 2), .inl (cI, 28, .inl (fun _ => 0))), ((p4 3), .inl (cI, 96, .inl (fun _ => 0))), ((p4 4), .inl (cI, 4, .inl (fun _ => 0))), ((p4 5), .inl (cI, 4, .inl (fun _ => 0))), ((p4 6), .inl (cI, 96, .inl (fun _ => 0))), ((p4 7), .inl (cI, 96, .inl (fun _ => 0))), (q5, .inr (2, [.ref (p2 0), .ref q3, .int 0, .ref (p6 0), .ref (p6 1)])), ((p6 0), .inl (cI, 15, .inl (fun _ => 0))), ((p6 1), .inl (cI, 15, .inl (fun _ => 0))), (q7, .inr (2, [.ref (p2 0), .ref q3, .int 0, .ref (p8 0), .ref (p8 1)])), ((p8 0), .inl (cI, 15, .inl (fun _ => 0))), ((p8 1), .inl (cI, 15, .inl (fun _ => 0)))]) hS0 A s _ _ := hw
  have hP9 := hw.1.sub (ws' := [(h0, .inr (3, [.ref (p2 0), .ref q3, .ref q5, .ref q7])), ((p2 0), .inr (1, [.int (S9.1 0), .ref (p2 1), .ref (p2 2), .ref (p2 3), .ref (p2 4), .ref (p2 5), .ref (p2 6)])), (q3, .inr (0, [.ref (p2 0), .int 1, .int 7, .int 0, .ref (p4 0), .ref (p4 1), .ref (p4 2), .ref (p4 3), .ref (p4 4), .ref (p4 5), .ref (p4 6), .ref (p4 7)])), (q5, .inr (2, [.ref (p2 0), .ref q3, .int 0, .ref (p6 0), .ref (p6 1)])), (q7, .inr (2, [.ref (p2 0), .ref q3, .int 0, .ref (p8 0), .ref (p8 1)])), ((p2 1), .inl (cI, 24, .inl (S9.2 0))), ((p2 2), .inl (cI, 12, .inl (S9.2 1))), ((p2 3), .inl (cI, 12, .inl (S9.2 2))), ((p2 4), .inl (cI, 4, .inl (S9.2 3))), ((p2 5), .inl (cI, 28, .inl (S9.2 4))), ((p2 6), .inl (cI, 28, .inl (S9.2 5))), ((p4 0), .inl (cI, 96, .inl (fun _ => 0))), ((p4 1), .inl (cI, 96, .inl (fun _ => 0))), ((p4 2), .inl (cI, 28, .inl (fun _ => 0))), ((p4 3), .inl (cI, 96, .inl (fun _ => 0))), ((p4 4), .inl (cI, 4, .inl (fun _ => 0))), ((p4 5), .inl (cI, 4, .inl (fun _ => 0))), ((p4 6), .inl (cI, 96, .inl (fun _ => 0))), ((p4 7), .inl (cI, 96, .inl (fun _ => 0))), ((p6 0), .inl (cI, 15, .inl (fun _ => 0))), ((p6 1), .inl (cI, 15, .inl (fun _ => 0))), ((p8 0), .inl (cI, 15, .inl (fun _ => 0))), ((p8 1), .inl (cI, 15, .inl (fun _ => 0)))]) [0, 1, 8, 17, 20, 2, 3, 4, 5, 6, 7, 9, 10, 11, 12, 13, 14, 15, 16, 18, 19, 21, 22] rfl
  have hD9 := hw.2.1.sub (ws' := [(h0, .inr (3, [.ref (p2 0), .ref q3, .ref q5, .ref q7])), ((p2 0), .inr (1, [.int (S9.1 0), .ref (p2 1), .ref (p2 2), .ref (p2 3), .ref (p2 4), .ref (p2 5), .ref (p2 6)])), (q3, .inr (0, [.ref (p2 0), .int 1, .int 7, .int 0, .ref (p4 0), .ref (p4 1), .ref (p4 2), .ref (p4 3), .ref (p4 4), .ref (p4 5), .ref (p4 6), .ref (p4 7)])), (q5, .inr (2, [.ref (p2 0), .ref q3, .int 0, .ref (p6 0), .ref (p6 1)])), (q7, .inr (2, [.ref (p2 0), .ref q3, .int 0, .ref (p8 0), .ref (p8 1)])), ((p2 1), .inl (cI, 24, .inl (S9.2 0))), ((p2 2), .inl (cI, 12, .inl (S9.2 1))), ((p2 3), .inl (cI, 12, .inl (S9.2 2))), ((p2 4), .inl (cI, 4, .inl (S9.2 3))), ((p2 5), .inl (cI, 28, .inl (S9.2 4))), ((p2 6), .inl (cI, 28, .inl (S9.2 5))), ((p4 0), .inl (cI, 96, .inl (fun _ => 0))), ((p4 1), .inl (cI, 96, .inl (fun _ => 0))), ((p4 2), .inl (cI, 28, .inl (fun _ => 0))), ((p4 3), .inl (cI, 96, .inl (fun _ => 0))), ((p4 4), .inl (cI, 4, .inl (fun _ => 0))), ((p4 5), .inl (cI, 4, .inl (fun _ => 0))), ((p4 6), .inl (cI, 96, .inl (fun _ => 0))), ((p4 7), .inl (cI, 96, .inl (fun _ => 0))), ((p6 0), .inl (cI, 15, .inl (fun _ => 0))), ((p6 1), .inl (cI, 15, .inl (fun _ => 0))), ((p8 0), .inl (cI, 15, .inl (fun _ => 0))), ((p8 1), .inl (cI, 15, .inl (fun _ => 0)))]) [0, 1, 8, 17, 20, 2, 3, 4, 5, 6, 7, 9, 10, 11, 12, 13, 14, 15, 16, 18, 19, 21, 22] (by decide) rfl
  have hw9 : HW (dC, dI) (wC (fun k => [h0, (p2 0), q3, q5, q7, (p2 1), (p2 2), (p2 3), (p2 4), (p2 5), (p2 6), (p4 0), (p4 1), (p4 2), (p4 3), (p4 4), (p4 5), (p4 6), (p4 7), (p6 0), (p6 1), (p8 0), (p8 1)].getD k 0) cI) (hSC S9) A s _ _ := ⟨hP9, hD9, hw.2.2⟩
  exact h_kret cx hw9 hr hlk ⟨_, rfl, rfl⟩ dX3_init_68
set_option maxHeartbeats 4000000 in
set_option maxRecDepth 100000 in
theorem c_X4_init (l : Launch) (dC : Nat → ClassId) (dI : Nat → Nat → Nat) (cI cZ : ClassId) (h0 : Nat) (S9 : HSt) (h : f_X4_init hS0 = some S9) : MK l yX4_init hsX4_init rmX4_init (dC, dI) cI cZ [(h0, .inr (4, [.int 0, .null, .null, .null, .null, .null, .null, .null, .null, .null, .null, .null, .null, .int 0, .null, .null, .null, .null, .null, .null, .null, .null, .null, .int 0, .null, .null, .int 0]))] [.ref h0] 23 4237 (fun w1 => ∃ q9 : Nat → Nat, q9 0 = h0 ∧ w1 = wM q9 cI cZ S9) := by
  refine MK.ofW (cc := cX4_init) (maxL := 2) (ret := none) (by decide +kernel) rfl (Nat.le_of_ble_eq_true rfl) ?_
  intro p e s m below meth c A cx hr hlk hnm hw ls hl
  have hx := cx.1.1
  have hb := cx.1.2.1
  have hml := cx.1.2.2.1
  have hts := cx.1.2.2.2.2
  have hta : ∀ z ∈ hALL, z.before _ s = true := fun z h => hts z (List.mem_cons_of_mem _ h)
  have lk7 : (Cond.fieldLink RX4 7 (TX4 1).1 (TX4 1).2.1 (TX4 1).2.2.1).before _ s = true := hta _ wdF_X4_7
  have lk13 : (Cond.fieldLink RX4 13 (TX4 2).1 (TX4 2).2.1 (TX4 2).2.2.1).before _ s = true := hta _ wdF_X4_13
  have lk16 : (Cond.fieldLink RX4 16 (TX4 3).1 (TX4 3).2.1 (TX4 3).2.2.1).before _ s = true := hta _ wdF_X4_16
  have lk19 : (Cond.fieldLink RX4 19 (TX4 4).1 (TX4 4).2.1 (TX4 4).2.2.1).before _ s = true := hta _ wdF_X4_19
  have lk23 : (Cond.fieldLink RX4 23 (TX4 5).1 (TX4 5).2.1 (TX4 5).2.2.1).before _ s = true := hta _ wdF_X4_23
  have lk26 : (Cond.fieldLink RX4 26 (TX4 6).1 (TX4 6).2.1 (TX4 6).2.2.1).before _ s = true := hta _ wdF_X4_26
  have lk29 : (Cond.fieldLink RX4 29 (TX4 7).1 (TX4 7).2.1 (TX4 7).2.2.1).before _ s = true := hta _ wdF_X4_29
  have lk32 : (Cond.fieldLink RX4 32 (TX4 8).1 (TX4 8).2.1 (TX4 8).2.2.1).before _ s = true := hta _ wdF_X4_32
  have lk35 : (Cond.fieldLink RX4 35 (TX4 9).1 (TX4 9).2.1 (TX4 9).2.2.1).before _ s = true := hta _ wdF_X4_35
  have lk38 : (Cond.fieldLink RX4 38 (TX4 10).1 (TX4 10).2.1 (TX4 10).2.2.1).before _ s = true := hta _ wdF_X4_38
  have lk41 : (Cond.fieldLink RX4 41 (TX4 11).1 (TX4 11).2.1 (TX4 11).2.2.1).before _ s = true := hta _ wdF_X4_41
  have lk44 : (Cond.fieldLink RX4 44 (TX4 12).1 (TX4 12).2.1 (TX4 12).2.2.1).before _ s = true := hta _ wdF_X4_44
  have lk47 : (Cond.fieldLink RX4 47 (TX4 14).1 (TX4 14).2.1 (TX4 14).2.2.1).before _ s = true := hta _ wdF_X4_47
  have lk50 : (Cond.fieldLink RX4 50 (TX4 15).1 (TX4 15).2.1 (TX4 15).2.2.1).before _ s = true := hta _ wdF_X4_50
  have lk53 : (Cond.fieldLink RX4 53 (TX4 16).1 (TX4 16).2.1 (TX4 16).2.2.1).before _ s = true := hta _ wdF_X4_53
  have lk56 : (Cond.fieldLink RX4 56 (TX4 17).1 (TX4 17).2.1 (TX4 17).2.2.1).before _ s = true := hta _ wdF_X4_56
  have lk59 : (Cond.fieldLink RX4 59 (TX4 18).1 (TX4 18).2.1 (TX4 18).2.2.1).before _ s = true := hta _ wdF_X4_59
  have lk62 : (Cond.fieldLink RX4 62 (TX4 19).1 (TX4 19).2.1 (TX4 19).2.2.1).before _ s = true := hta _ wdF_X4_62
  have lk65 : (Cond.fieldLink RX4 65 (TX4 20).1 (TX4 20).2.1 (TX4 20).2.2.1).before _ s = true := hta _ wdF_X4_65
  have lk68 : (Cond.fieldLink RX4 68 (TX4 21).1 (TX4 21).2.1 (TX4 21).2.2.1).before _ s = true := hta _ wdF_X4_68
  have lk71 : (Cond.fieldLink RX4 71 (TX4 22).1 (TX4 22).2.1 (TX4 22).2.2.1).before _ s = true := hta _ wdF_X4_71
  have lk74 : (Cond.fieldLink RX4 74 (TX4 24).1 (TX4 24).2.1 (TX4 24).2.2.1).before _ s = true := hta _ wdF_X4_74
  have lk77 : (Cond.fieldLink RX4 77 (TX4 25).1 (TX4 25).2.1 (TX4 25).2.2.1).before _ s = true := hta _ wdF_X4_77
  have hl : lv_has ls 2 [(0, .ref h0)] := hl
  have key : ∀ (q : Nat → Nat), q 0 = h0 → ∀ (H : Heap) (locs : List Loc) (ls : Array Slot), HW (dC, dI) (wM q cI cZ) hS0 A s H locs → lv_has ls 2 [(0, .ref (q 0))] → W p l e rmX4_init s m ([.ref h0] : List Value).toArray below meth c H locs 23 4237 (MQ below (QK (dC, dI) (fun w1 => ∃ q9 : Nat → Nat, q9 0 = h0 ∧ w1 = wM q9 cI cZ S9) A) ([.ref h0] : List Value).toArray s 23 4237 A) (F0 m 195 ls []) := by
    intro q hq0 H locs ls hw hl
    generalize hS0 = S at h hw
    unfold f_X4_init at h
    have kk197 : ∀ (n197 : Nat) (S : HSt) (x1 : Int32), f_X4_init_197 n197 S x1 = some S9 → ∀ (H : Heap) (locs : List Loc) (ls : Array Slot), HW (dC, dI) (wM q cI cZ) S A s H locs → lv_has ls 2 [(0, .ref (q 0)), (1, .int x1)] → W p l e rmX4_init s m ([.ref h0] : List Value).toArray below meth c H locs 23 4237 (MQ below (QK (dC, dI) (fun w1 => ∃ q9 : Nat → Nat, q9 0 = h0 ∧ w1 = wM q9 cI cZ S9) A) ([.ref h0] : List Value).toArray s 23 4237 A) (F0 m 197 ls []) := by
      intro n197
      induction n197 with
      | zero =>
        intro S x1 h
        have h9 : (none : Option HSt) = some S9 := h
        cases h9
      | succ n197 ih197 =>
        intro S x1 h H locs ls hw hl
        have h : f_X4_init_197_s (f_X4_init_197 n197) S x1 = some S9 := h
        unfold f_X4_init_197_s at h
        refine lv_iload_n hx hb dX4_init_197 rfl (lv_at hl 1 rfl) ?_
        refine lv_iconst (v := 4) hx hb dX4_init_198 (by decide) ?_
        refine lv_icmp_ge (tgt := 216) hx hb dX4_init_199 (by decide) (fun c1 => ?_) (fun c1 => ?_)
        · have h := h_ifp c1 h
          refine lv_aload_n hx hb dX4_init_216 rfl (lv_at hl 0 rfl) ?_
          refine h_get (v := .ref (q 8)) cx hw 0 (wM_p0 q cI cZ S) rfl hinX4 8 (by decide) lk32 rfl dX4_init_217 ?_
          refine lv_iconst (v := 0) hx hb dX4_init_220 (by decide) ?_
          refine lv_iconst (v := 1) hx hb dX4_init_221 (by decide) ?_
          obtain ⟨S2, e3, h⟩ := h_bd_ok h
          refine h_ast cx hw 8 (wM_p8 q cI cZ S) (wM_s8 q cI cZ S) e3 dX4_init_222 (fun H locs hw => ?_)
          refine lv_aload_n hx hb dX4_init_223 rfl (lv_at hl 0 rfl) ?_
          refine h_get (v := .ref (q 8)) cx hw 0 (wM_p0 q cI cZ S2) rfl hinX4 8 (by decide) lk32 rfl dX4_init_224 ?_
          refine lv_iconst (v := 1) hx hb dX4_init_227 (by decide) ?_
          refine lv_bipush (v := 7) hx hb dX4_init_228 (by decide) ?_
          obtain ⟨S4, e5, h⟩ := h_bd_ok h
          refine h_ast cx hw 8 (wM_p8 q cI cZ S2) (wM_s8 q cI cZ S2) e5 dX4_init_230 (fun H locs hw => ?_)
          exact h_kret cx hw hr hlk ⟨q, hq0, congrArg (wM q cI cZ) (Option.some.inj h)⟩ dX4_init_231
        · have h := h_ifn c1 h
          refine lv_aload_n hx hb dX4_init_202 rfl (lv_at hl 0 rfl) ?_
          refine h_get (v := .ref (q 5)) cx hw 0 (wM_p0 q cI cZ S) rfl hinX4 5 (by decide) lk23 rfl dX4_init_203 ?_
          refine lv_iload_n hx hb dX4_init_206 rfl (lv_at hl 1 rfl) ?_
          refine lv_bipush (v := (-9)) hx hb dX4_init_207 (by decide) ?_
          obtain ⟨S6, e7, h⟩ := h_bd_ok h
          refine h_ast cx hw 5 (wM_p5 q cI cZ S) (wM_s5 q cI cZ S) e7 dX4_init_209 (fun H locs hw => ?_)
          refine lv_iinc (v := x1 + 1) (lv' := [(1, .int (x1 + 1)), (0, .ref (q 0))]) hx hb dX4_init_210 hl (k := 1) rfl rfl (by decide) rfl (fun ls hl => ?_)
          refine lv_goto (tgt := 197) hx hb dX4_init_213 (by decide) ?_
          exact ih197 _ _ h _ _ _ hw (lv_sub hl [1, 0] rfl)
    refine lv_iconst (v := 0) hx hb dX4_init_195 (by decide) ?_
    refine lv_istore_n (lv' := [(1, .int 0), (0, .ref (q 0))]) hx hb dX4_init_196 rfl hl (by decide) rfl (fun ls hl => ?_)
    exact kk197 h_fu _ _ h _ _ _ hw (lv_sub hl [1, 0] rfl)
  refine lv_aload_n hx hb dX4_init_0 rfl (lv_at hl 0 rfl) ?_
  refine W.objInit hx hb cx.1.2.2.2.1 (hta _ wdL_X4_1) (hta _ wdI_objectInit) (hta _ wdC_objectInit) rfl (by rw [hml]; exact hl.1) rfl dX4_init_1 (Nat.le_of_ble_eq_true rfl) (Nat.le_of_ble_eq_true rfl) ?_
  refine W.eq (g2 := F0 m 4 ls []) rfl ?_
  refine lv_aload_n hx hb dX4_init_4 rfl (lv_at hl 0 rfl) ?_
  refine lv_bipush (v := 12) hx hb dX4_init_5 (by decide) ?_
  refine h_newa (N := 12) cx hw (hta _ wdA_int) (by decide) (by decide) (by decide) (Nat.le_of_ble_eq_true rfl) (Nat.le_of_ble_eq_true rfl) dX4_init_7 (fun q1 H hw => ?_)
  refine W.widen (k := 1) (n := 12) (Nat.le_of_ble_eq_true rfl) (Nat.le_of_ble_eq_true rfl) ?_
  have hw : HW (dC, dI) (fun _ => [(h0, .inr (4, [.int 0, .null, .null, .null, .null, .null, .null, .null, .null, .null, .null, .null, .null, .int 0, .null, .null, .null, .null, .null, .null, .null, .null, .null, .int 0, .null, .null, .int 0])), (q1, .inl (cI, 12, .inl (fun _ => 0)))]) hS0 A s _ _ := hw
  refine h_putF (v := .ref q1) (ty := .array .int) cx hw hnm 0 rfl rfl hinX4 tyX4 tyX4_ok nmX4 1 (by decide) lk7 rfl rfl (by decide +kernel) rfl rfl (Nat.le_of_ble_eq_true rfl) dX4_init_9 (fun H locs hw => ?_)
  have hw : HW (dC, dI) (fun _ => [(h0, .inr (4, [.int 0, .ref q1, .null, .null, .null, .null, .null, .null, .null, .null, .null, .null, .null, .int 0, .null, .null, .null, .null, .null, .null, .null, .null, .null, .int 0, .null, .null, .int 0])), (q1, .inl (cI, 12, .inl (fun _ => 0)))]) hS0 A s _ _ := hw
  refine lv_aload_n hx hb dX4_init_12 rfl (lv_at hl 0 rfl) ?_
  refine lv_bipush (v := 12) hx hb dX4_init_13 (by decide) ?_
  refine h_newa (N := 12) cx hw (hta _ wdA_int) (by decide) (by decide) (by decide) (Nat.le_of_ble_eq_true rfl) (Nat.le_of_ble_eq_true rfl) dX4_init_15 (fun q2 H hw => ?_)
  refine W.widen (k := 2) (n := 24) (Nat.le_of_ble_eq_true rfl) (Nat.le_of_ble_eq_true rfl) ?_
  have hw : HW (dC, dI) (fun _ => [(h0, .inr (4, [.int 0, .ref q1, .null, .null, .null, .null, .null, .null, .null, .null, .null, .null, .null, .int 0, .null, .null, .null, .null, .null, .null, .null, .null, .null, .int 0, .null, .null, .int 0])), (q1, .inl (cI, 12, .inl (fun _ => 0))), (q2, .inl (cI, 12, .inl (fun _ => 0)))]) hS0 A s _ _ := hw
  refine h_putF (v := .ref q2) (ty := .array .int) cx hw hnm 0 rfl rfl hinX4 tyX4 tyX4_ok nmX4 2 (by decide) lk13 rfl rfl (by decide +kernel) rfl rfl (Nat.le_of_ble_eq_true rfl) dX4_init_17 (fun H locs hw => ?_)
  have hw : HW (dC, dI) (fun _ => [(h0, .inr (4, [.int 0, .ref q1, .ref q2, .null, .null, .null, .null, .null, .null, .null, .null, .null, .null, .int 0, .null, .null, .null, .null, .null, .null, .null, .null, .null, .int 0, .null, .null, .int 0])), (q1, .inl (cI, 12, .inl (fun _ => 0))), (q2, .inl (cI, 12, .inl (fun _ => 0)))]) hS0 A s _ _ := hw
  refine lv_aload_n hx hb dX4_init_20 rfl (lv_at hl 0 rfl) ?_
  refine lv_bipush (v := 12) hx hb dX4_init_21 (by decide) ?_
  refine h_newa (N := 12) cx hw (hta _ wdA_int) (by decide) (by decide) (by decide) (Nat.le_of_ble_eq_true rfl) (Nat.le_of_ble_eq_true rfl) dX4_init_23 (fun q3 H hw => ?_)
  refine W.widen (k := 3) (n := 36) (Nat.le_of_ble_eq_true rfl) (Nat.le_of_ble_eq_true rfl) ?_
  have hw : HW (dC, dI) (fun _ => [(h0, .inr (4, [.int 0, .ref q1, .ref q2, .null, .null, .null, .null, .null, .null, .null, .null, .null, .null, .int 0, .null, .null, .null, .null, .null, .null, .null, .null, .null, .int 0, .null, .null, .int 0])), (q1, .inl (cI, 12, .inl (fun _ => 0))), (q2, .inl (cI, 12, .inl (fun _ => 0))), (q3, .inl (cI, 12, .inl (fun _ => 0)))]) hS0 A s _ _ := hw
  refine h_putF (v := .ref q3) (ty := .array .int) cx hw hnm 0 rfl rfl hinX4 tyX4 tyX4_ok nmX4 3 (by decide) lk16 rfl rfl (by decide +kernel) rfl rfl (Nat.le_of_ble_eq_true rfl) dX4_init_25 (fun H locs hw => ?_)
  have hw : HW (dC, dI) (fun _ => [(h0, .inr (4, [.int 0, .ref q1, .ref q2, .ref q3, .null, .null, .null, .null, .null, .null, .null, .null, .null, .int 0, .null, .null, .null, .null, .null, .null, .null, .null, .null, .int 0, .null, .null, .int 0])), (q1, .inl (cI, 12, .inl (fun _ => 0))), (q2, .inl (cI, 12, .inl (fun _ => 0))), (q3, .inl (cI, 12, .inl (fun _ => 0)))]) hS0 A s _ _ := hw
  refine lv_aload_n hx hb dX4_init_28 rfl (lv_at hl 0 rfl) ?_
  refine lv_bipush (v := 12) hx hb dX4_init_29 (by decide) ?_
  refine h_newaz (N := 12) cx hw (hta _ wdA_boolean) (by decide) (by decide) (by decide) (Nat.le_of_ble_eq_true rfl) (Nat.le_of_ble_eq_true rfl) dX4_init_31 (fun q4 H hw => ?_)
  refine W.widen (k := 4) (n := 48) (Nat.le_of_ble_eq_true rfl) (Nat.le_of_ble_eq_true rfl) ?_
  have hw : HW (dC, dI) (fun _ => [(h0, .inr (4, [.int 0, .ref q1, .ref q2, .ref q3, .null, .null, .null, .null, .null, .null, .null, .null, .null, .int 0, .null, .null, .null, .null, .null, .null, .null, .null, .null, .int 0, .null, .null, .int 0])), (q1, .inl (cI, 12, .inl (fun _ => 0))), (q2, .inl (cI, 12, .inl (fun _ => 0))), (q3, .inl (cI, 12, .inl (fun _ => 0))), (q4, .inl (cZ, 12, .inl (fun _ => 0)))]) hS0 A s _ _ := hw
  refine h_putF (v := .ref q4) (ty := .array .boolean) cx hw hnm 0 rfl rfl hinX4 tyX4 tyX4_ok nmX4 4 (by decide) lk19 rfl rfl (by decide +kernel) rfl rfl (Nat.le_of_ble_eq_true rfl) dX4_init_33 (fun H locs hw => ?_)
  have hw : HW (dC, dI) (fun _ => [(h0, .inr (4, [.int 0, .ref q1, .ref q2, .ref q3, .ref q4, .null, .null, .null, .null, .null, .null, .null, .null, .int 0, .null, .null, .null, .null, .null, .null, .null, .null, .null, .int 0, .null, .null, .int 0])), (q1, .inl (cI, 12, .inl (fun _ => 0))), (q2, .inl (cI, 12, .inl (fun _ => 0))), (q3, .inl (cI, 12, .inl (fun _ => 0))), (q4, .inl (cZ, 12, .inl (fun _ => 0)))]) hS0 A s _ _ := hw
  refine lv_aload_n hx hb dX4_init_36 rfl (lv_at hl 0 rfl) ?_
  refine lv_iconst (v := 4) hx hb dX4_init_37 (by decide) ?_
  refine h_newa (N := 4) cx hw (hta _ wdA_int) (by decide) (by decide) (by decide) (Nat.le_of_ble_eq_true rfl) (Nat.le_of_ble_eq_true rfl) dX4_init_38 (fun q5 H hw => ?_)
  refine W.widen (k := 5) (n := 52) (Nat.le_of_ble_eq_true rfl) (Nat.le_of_ble_eq_true rfl) ?_
  have hw : HW (dC, dI) (fun _ => [(h0, .inr (4, [.int 0, .ref q1, .ref q2, .ref q3, .ref q4, .null, .null, .null, .null, .null, .null, .null, .null, .int 0, .null, .null, .null, .null, .null, .null, .null, .null, .null, .int 0, .null, .null, .int 0])), (q1, .inl (cI, 12, .inl (fun _ => 0))), (q2, .inl (cI, 12, .inl (fun _ => 0))), (q3, .inl (cI, 12, .inl (fun _ => 0))), (q4, .inl (cZ, 12, .inl (fun _ => 0))), (q5, .inl (cI, 4, .inl (fun _ => 0)))]) hS0 A s _ _ := hw
  refine h_putF (v := .ref q5) (ty := .array .int) cx hw hnm 0 rfl rfl hinX4 tyX4 tyX4_ok nmX4 5 (by decide) lk23 rfl rfl (by decide +kernel) rfl rfl (Nat.le_of_ble_eq_true rfl) dX4_init_40 (fun H locs hw => ?_)
  have hw : HW (dC, dI) (fun _ => [(h0, .inr (4, [.int 0, .ref q1, .ref q2, .ref q3, .ref q4, .ref q5, .null, .null, .null, .null, .null, .null, .null, .int 0, .null, .null, .null, .null, .null, .null, .null, .null, .null, .int 0, .null, .null, .int 0])), (q1, .inl (cI, 12, .inl (fun _ => 0))), (q2, .inl (cI, 12, .inl (fun _ => 0))), (q3, .inl (cI, 12, .inl (fun _ => 0))), (q4, .inl (cZ, 12, .inl (fun _ => 0))), (q5, .inl (cI, 4, .inl (fun _ => 0)))]) hS0 A s _ _ := hw
  refine lv_aload_n hx hb dX4_init_43 rfl (lv_at hl 0 rfl) ?_
  refine lv_bipush (v := 7) hx hb dX4_init_44 (by decide) ?_
  refine h_newa (N := 7) cx hw (hta _ wdA_int) (by decide) (by decide) (by decide) (Nat.le_of_ble_eq_true rfl) (Nat.le_of_ble_eq_true rfl) dX4_init_46 (fun q6 H hw => ?_)
  refine W.widen (k := 6) (n := 59) (Nat.le_of_ble_eq_true rfl) (Nat.le_of_ble_eq_true rfl) ?_
  have hw : HW (dC, dI) (fun _ => [(h0, .inr (4, [.int 0, .ref q1, .ref q2, .ref q3, .ref q4, .ref q5, .null, .null, .null, .null, .null, .null, .null, .int 0, .null, .null, .null, .null, .null, .null, .null, .null, .null, .int 0, .null, .null, .int 0])), (q1, .inl (cI, 12, .inl (fun _ => 0))), (q2, .inl (cI, 12, .inl (fun _ => 0))), (q3, .inl (cI, 12, .inl (fun _ => 0))), (q4, .inl (cZ, 12, .inl (fun _ => 0))), (q5, .inl (cI, 4, .inl (fun _ => 0))), (q6, .inl (cI, 7, .inl (fun _ => 0)))]) hS0 A s _ _ := hw
  refine h_putF (v := .ref q6) (ty := .array .int) cx hw hnm 0 rfl rfl hinX4 tyX4 tyX4_ok nmX4 6 (by decide) lk26 rfl rfl (by decide +kernel) rfl rfl (Nat.le_of_ble_eq_true rfl) dX4_init_48 (fun H locs hw => ?_)
  have hw : HW (dC, dI) (fun _ => [(h0, .inr (4, [.int 0, .ref q1, .ref q2, .ref q3, .ref q4, .ref q5, .ref q6, .null, .null, .null, .null, .null, .null, .int 0, .null, .null, .null, .null, .null, .null, .null, .null, .null, .int 0, .null, .null, .int 0])), (q1, .inl (cI, 12, .inl (fun _ => 0))), (q2, .inl (cI, 12, .inl (fun _ => 0))), (q3, .inl (cI, 12, .inl (fun _ => 0))), (q4, .inl (cZ, 12, .inl (fun _ => 0))), (q5, .inl (cI, 4, .inl (fun _ => 0))), (q6, .inl (cI, 7, .inl (fun _ => 0)))]) hS0 A s _ _ := hw
  refine lv_aload_n hx hb dX4_init_51 rfl (lv_at hl 0 rfl) ?_
  refine lv_bipush (v := 28) hx hb dX4_init_52 (by decide) ?_
  refine h_newa (N := 28) cx hw (hta _ wdA_int) (by decide) (by decide) (by decide) (Nat.le_of_ble_eq_true rfl) (Nat.le_of_ble_eq_true rfl) dX4_init_54 (fun q7 H hw => ?_)
  refine W.widen (k := 7) (n := 87) (Nat.le_of_ble_eq_true rfl) (Nat.le_of_ble_eq_true rfl) ?_
  have hw : HW (dC, dI) (fun _ => [(h0, .inr (4, [.int 0, .ref q1, .ref q2, .ref q3, .ref q4, .ref q5, .ref q6, .null, .null, .null, .null, .null, .null, .int 0, .null, .null, .null, .null, .null, .null, .null, .null, .null, .int 0, .null, .null, .int 0])), (q1, .inl (cI, 12, .inl (fun _ => 0))), (q2, .inl (cI, 12, .inl (fun _ => 0))), (q3, .inl (cI, 12, .inl (fun _ => 0))), (q4, .inl (cZ, 12, .inl (fun _ => 0))), (q5, .inl (cI, 4, .inl (fun _ => 0))), (q6, .inl (cI, 7, .inl (fun _ => 0))), (q7, .inl (cI, 28, .inl (fun _ => 0)))]) hS0 A s _ _ := hw
  refine h_putF (v := .ref q7) (ty := .array .int) cx hw hnm 0 rfl rfl hinX4 tyX4 tyX4_ok nmX4 7 (by decide) lk29 rfl rfl (by decide +kernel) rfl rfl (Nat.le_of_ble_eq_true rfl) dX4_init_56 (fun H locs hw => ?_)
  have hw : HW (dC, dI) (fun _ => [(h0, .inr (4, [.int 0, .ref q1, .ref q2, .ref q3, .ref q4, .ref q5, .ref q6, .ref q7, .null, .null, .null, .null, .null, .int 0, .null, .null, .null, .null, .null, .null, .null, .null, .null, .int 0, .null, .null, .int 0])), (q1, .inl (cI, 12, .inl (fun _ => 0))), (q2, .inl (cI, 12, .inl (fun _ => 0))), (q3, .inl (cI, 12, .inl (fun _ => 0))), (q4, .inl (cZ, 12, .inl (fun _ => 0))), (q5, .inl (cI, 4, .inl (fun _ => 0))), (q6, .inl (cI, 7, .inl (fun _ => 0))), (q7, .inl (cI, 28, .inl (fun _ => 0)))]) hS0 A s _ _ := hw
  refine lv_aload_n hx hb dX4_init_59 rfl (lv_at hl 0 rfl) ?_
  refine lv_iconst (v := 2) hx hb dX4_init_60 (by decide) ?_
  refine h_newa (N := 2) cx hw (hta _ wdA_int) (by decide) (by decide) (by decide) (Nat.le_of_ble_eq_true rfl) (Nat.le_of_ble_eq_true rfl) dX4_init_61 (fun q8 H hw => ?_)
  refine W.widen (k := 8) (n := 89) (Nat.le_of_ble_eq_true rfl) (Nat.le_of_ble_eq_true rfl) ?_
  have hw : HW (dC, dI) (fun _ => [(h0, .inr (4, [.int 0, .ref q1, .ref q2, .ref q3, .ref q4, .ref q5, .ref q6, .ref q7, .null, .null, .null, .null, .null, .int 0, .null, .null, .null, .null, .null, .null, .null, .null, .null, .int 0, .null, .null, .int 0])), (q1, .inl (cI, 12, .inl (fun _ => 0))), (q2, .inl (cI, 12, .inl (fun _ => 0))), (q3, .inl (cI, 12, .inl (fun _ => 0))), (q4, .inl (cZ, 12, .inl (fun _ => 0))), (q5, .inl (cI, 4, .inl (fun _ => 0))), (q6, .inl (cI, 7, .inl (fun _ => 0))), (q7, .inl (cI, 28, .inl (fun _ => 0))), (q8, .inl (cI, 2, .inl (fun _ => 0)))]) hS0 A s _ _ := hw
  refine h_putF (v := .ref q8) (ty := .array .int) cx hw hnm 0 rfl rfl hinX4 tyX4 tyX4_ok nmX4 8 (by decide) lk32 rfl rfl (by decide +kernel) rfl rfl (Nat.le_of_ble_eq_true rfl) dX4_init_63 (fun H locs hw => ?_)
  have hw : HW (dC, dI) (fun _ => [(h0, .inr (4, [.int 0, .ref q1, .ref q2, .ref q3, .ref q4, .ref q5, .ref q6, .ref q7, .ref q8, .null, .null, .null, .null, .int 0, .null, .null, .null, .null, .null, .null, .null, .null, .null, .int 0, .null, .null, .int 0])), (q1, .inl (cI, 12, .inl (fun _ => 0))), (q2, .inl (cI, 12, .inl (fun _ => 0))), (q3, .inl (cI, 12, .inl (fun _ => 0))), (q4, .inl (cZ, 12, .inl (fun _ => 0))), (q5, .inl (cI, 4, .inl (fun _ => 0))), (q6, .inl (cI, 7, .inl (fun _ => 0))), (q7, .inl (cI, 28, .inl (fun _ => 0))), (q8, .inl (cI, 2, .inl (fun _ => 0)))]) hS0 A s _ _ := hw
  refine lv_aload_n hx hb dX4_init_66 rfl (lv_at hl 0 rfl) ?_
  refine lv_sipush (v := 336) hx hb dX4_init_67 (by decide) ?_
  refine h_newa (N := 336) cx hw (hta _ wdA_int) (by decide) (by decide) (by decide) (Nat.le_of_ble_eq_true rfl) (Nat.le_of_ble_eq_true rfl) dX4_init_70 (fun q9 H hw => ?_)
  refine W.widen (k := 9) (n := 425) (Nat.le_of_ble_eq_true rfl) (Nat.le_of_ble_eq_true rfl) ?_
  have hw : HW (dC, dI) (fun _ => [(h0, .inr (4, [.int 0, .ref q1, .ref q2, .ref q3, .ref q4, .ref q5, .ref q6, .ref q7, .ref q8, .null, .null, .null, .null, .int 0, .null, .null, .null, .null, .null, .null, .null, .null, .null, .int 0, .null, .null, .int 0])), (q1, .inl (cI, 12, .inl (fun _ => 0))), (q2, .inl (cI, 12, .inl (fun _ => 0))), (q3, .inl (cI, 12, .inl (fun _ => 0))), (q4, .inl (cZ, 12, .inl (fun _ => 0))), (q5, .inl (cI, 4, .inl (fun _ => 0))), (q6, .inl (cI, 7, .inl (fun _ => 0))), (q7, .inl (cI, 28, .inl (fun _ => 0))), (q8, .inl (cI, 2, .inl (fun _ => 0))), (q9, .inl (cI, 336, .inl (fun _ => 0)))]) hS0 A s _ _ := hw
  refine h_putF (v := .ref q9) (ty := .array .int) cx hw hnm 0 rfl rfl hinX4 tyX4 tyX4_ok nmX4 9 (by decide) lk35 rfl rfl (by decide +kernel) rfl rfl (Nat.le_of_ble_eq_true rfl) dX4_init_72 (fun H locs hw => ?_)
  have hw : HW (dC, dI) (fun _ => [(h0, .inr (4, [.int 0, .ref q1, .ref q2, .ref q3, .ref q4, .ref q5, .ref q6, .ref q7, .ref q8, .ref q9, .null, .null, .null, .int 0, .null, .null, .null, .null, .null, .null, .null, .null, .null, .int 0, .null, .null, .int 0])), (q1, .inl (cI, 12, .inl (fun _ => 0))), (q2, .inl (cI, 12, .inl (fun _ => 0))), (q3, .inl (cI, 12, .inl (fun _ => 0))), (q4, .inl (cZ, 12, .inl (fun _ => 0))), (q5, .inl (cI, 4, .inl (fun _ => 0))), (q6, .inl (cI, 7, .inl (fun _ => 0))), (q7, .inl (cI, 28, .inl (fun _ => 0))), (q8, .inl (cI, 2, .inl (fun _ => 0))), (q9, .inl (cI, 336, .inl (fun _ => 0)))]) hS0 A s _ _ := hw
  refine lv_aload_n hx hb dX4_init_75 rfl (lv_at hl 0 rfl) ?_
  refine lv_sipush (v := 336) hx hb dX4_init_76 (by decide) ?_
  refine h_newa (N := 336) cx hw (hta _ wdA_int) (by decide) (by decide) (by decide) (Nat.le_of_ble_eq_true rfl) (Nat.le_of_ble_eq_true rfl) dX4_init_79 (fun q10 H hw => ?_)
  refine W.widen (k := 10) (n := 761) (Nat.le_of_ble_eq_true rfl) (Nat.le_of_ble_eq_true rfl) ?_
  have hw : HW (dC, dI) (fun _ => [(h0, .inr (4, [.int 0, .ref q1, .ref q2, .ref q3, .ref q4, .ref q5, .ref q6, .ref q7, .ref q8, .ref q9, .null, .null, .null, .int 0, .null, .null, .null, .null, .null, .null, .null, .null, .null, .int 0, .null, .null, .int 0])), (q1, .inl (cI, 12, .inl (fun _ => 0))), (q2, .inl (cI, 12, .inl (fun _ => 0))), (q3, .inl (cI, 12, .inl (fun _ => 0))), (q4, .inl (cZ, 12, .inl (fun _ => 0))), (q5, .inl (cI, 4, .inl (fun _ => 0))), (q6, .inl (cI, 7, .inl (fun _ => 0))), (q7, .inl (cI, 28, .inl (fun _ => 0))), (q8, .inl (cI, 2, .inl (fun _ => 0))), (q9, .inl (cI, 336, .inl (fun _ => 0))), (q10, .inl (cI, 336, .inl (fun _ => 0)))]) hS0 A s _ _ := hw
  refine h_putF (v := .ref q10) (ty := .array .int) cx hw hnm 0 rfl rfl hinX4 tyX4 tyX4_ok nmX4 10 (by decide) lk38 rfl rfl (by decide +kernel) rfl rfl (Nat.le_of_ble_eq_true rfl) dX4_init_81 (fun H locs hw => ?_)
  have hw : HW (dC, dI) (fun _ => [(h0, .inr (4, [.int 0, .ref q1, .ref q2, .ref q3, .ref q4, .ref q5, .ref q6, .ref q7, .ref q8, .ref q9, .ref q10, .null, .null, .int 0, .null, .null, .null, .null, .null, .null, .null, .null, .null, .int 0, .null, .null, .int 0])), (q1, .inl (cI, 12, .inl (fun _ => 0))), (q2, .inl (cI, 12, .inl (fun _ => 0))), (q3, .inl (cI, 12, .inl (fun _ => 0))), (q4, .inl (cZ, 12, .inl (fun _ => 0))), (q5, .inl (cI, 4, .inl (fun _ => 0))), (q6, .inl (cI, 7, .inl (fun _ => 0))), (q7, .inl (cI, 28, .inl (fun _ => 0))), (q8, .inl (cI, 2, .inl (fun _ => 0))), (q9, .inl (cI, 336, .inl (fun _ => 0))), (q10, .inl (cI, 336, .inl (fun _ => 0)))]) hS0 A s _ _ := hw
  refine lv_aload_n hx hb dX4_init_84 rfl (lv_at hl 0 rfl) ?_
  refine lv_sipush (v := 336) hx hb dX4_init_85 (by decide) ?_
  refine h_newa (N := 336) cx hw (hta _ wdA_int) (by decide) (by decide) (by decide) (Nat.le_of_ble_eq_true rfl) (Nat.le_of_ble_eq_true rfl) dX4_init_88 (fun q11 H hw => ?_)
  refine W.widen (k := 11) (n := 1097) (Nat.le_of_ble_eq_true rfl) (Nat.le_of_ble_eq_true rfl) ?_
  have hw : HW (dC, dI) (fun _ => [(h0, .inr (4, [.int 0, .ref q1, .ref q2, .ref q3, .ref q4, .ref q5, .ref q6, .ref q7, .ref q8, .ref q9, .ref q10, .null, .null, .int 0, .null, .null, .null, .null, .null, .null, .null, .null, .null, .int 0, .null, .null, .int 0])), (q1, .inl (cI, 12, .inl (fun _ => 0))), (q2, .inl (cI, 12, .inl (fun _ => 0))), (q3, .inl (cI, 12, .inl (fun _ => 0))), (q4, .inl (cZ, 12, .inl (fun _ => 0))), (q5, .inl (cI, 4, .inl (fun _ => 0))), (q6, .inl (cI, 7, .inl (fun _ => 0))), (q7, .inl (cI, 28, .inl (fun _ => 0))), (q8, .inl (cI, 2, .inl (fun _ => 0))), (q9, .inl (cI, 336, .inl (fun _ => 0))), (q10, .inl (cI, 336, .inl (fun _ => 0))), (q11, .inl (cI, 336, .inl (fun _ => 0)))]) hS0 A s _ _ := hw
  refine h_putF (v := .ref q11) (ty := .array .int) cx hw hnm 0 rfl rfl hinX4 tyX4 tyX4_ok nmX4 11 (by decide) lk41 rfl rfl (by decide +kernel) rfl rfl (Nat.le_of_ble_eq_true rfl) dX4_init_90 (fun H locs hw => ?_)
  have hw : HW (dC, dI) (fun _ => [(h0, .inr (4, [.int 0, .ref q1, .ref q2, .ref q3, .ref q4, .ref q5, .ref q6, .ref q7, .ref q8, .ref q9, .ref q10, .ref q11, .null, .int 0, .null, .null, .null, .null, .null, .null, .null, .null, .null, .int 0, .null, .null, .int 0])), (q1, .inl (cI, 12, .inl (fun _ => 0))), (q2, .inl (cI, 12, .inl (fun _ => 0))), (q3, .inl (cI, 12, .inl (fun _ => 0))), (q4, .inl (cZ, 12, .inl (fun _ => 0))), (q5, .inl (cI, 4, .inl (fun _ => 0))), (q6, .inl (cI, 7, .inl (fun _ => 0))), (q7, .inl (cI, 28, .inl (fun _ => 0))), (q8, .inl (cI, 2, .inl (fun _ => 0))), (q9, .inl (cI, 336, .inl (fun _ => 0))), (q10, .inl (cI, 336, .inl (fun _ => 0))), (q11, .inl (cI, 336, .inl (fun _ => 0)))]) hS0 A s _ _ := hw
  refine lv_aload_n hx hb dX4_init_93 rfl (lv_at hl 0 rfl) ?_
  refine lv_sipush (v := 336) hx hb dX4_init_94 (by decide) ?_
  refine h_newa (N := 336) cx hw (hta _ wdA_int) (by decide) (by decide) (by decide) (Nat.le_of_ble_eq_true rfl) (Nat.le_of_ble_eq_true rfl) dX4_init_97 (fun q12 H hw => ?_)
  refine W.widen (k := 12) (n := 1433) (Nat.le_of_ble_eq_true rfl) (Nat.le_of_ble_eq_true rfl) ?_
  have hw : HW (dC, dI) (fun _ => [(h0, .inr (4, [.int 0, .ref q1, .ref q2, .ref q3, .ref q4, .ref q5, .ref q6, .ref q7, .ref q8, .ref q9, .ref q10, .ref q11, .null, .int 0, .null, .null, .null, .null, .null, .null, .null, .null, .null, .int 0, .null, .null, .int 0])), (q1, .inl (cI, 12, .inl (fun _ => 0))), (q2, .inl (cI, 12, .inl (fun _ => 0))), (q3, .inl (cI, 12, .inl (fun _ => 0))), (q4, .inl (cZ, 12, .inl (fun _ => 0))), (q5, .inl (cI, 4, .inl (fun _ => 0))), (q6, .inl (cI, 7, .inl (fun _ => 0))), (q7, .inl (cI, 28, .inl (fun _ => 0))), (q8, .inl (cI, 2, .inl (fun _ => 0))), (q9, .inl (cI, 336, .inl (fun _ => 0))), (q10, .inl (cI, 336, .inl (fun _ => 0))), (q11, .inl (cI, 336, .inl (fun _ => 0))), (q12, .inl (cI, 336, .inl (fun _ => 0)))]) hS0 A s _ _ := hw
  refine h_putF (v := .ref q12) (ty := .array .int) cx hw hnm 0 rfl rfl hinX4 tyX4 tyX4_ok nmX4 12 (by decide) lk44 rfl rfl (by decide +kernel) rfl rfl (Nat.le_of_ble_eq_true rfl) dX4_init_99 (fun H locs hw => ?_)
  have hw : HW (dC, dI) (fun _ => [(h0, .inr (4, [.int 0, .ref q1, .ref q2, .ref q3, .ref q4, .ref q5, .ref q6, .ref q7, .ref q8, .ref q9, .ref q10, .ref q11, .ref q12, .int 0, .null, .null, .null, .null, .null, .null, .null, .null, .null, .int 0, .null, .null, .int 0])), (q1, .inl (cI, 12, .inl (fun _ => 0))), (q2, .inl (cI, 12, .inl (fun _ => 0))), (q3, .inl (cI, 12, .inl (fun _ => 0))), (q4, .inl (cZ, 12, .inl (fun _ => 0))), (q5, .inl (cI, 4, .inl (fun _ => 0))), (q6, .inl (cI, 7, .inl (fun _ => 0))), (q7, .inl (cI, 28, .inl (fun _ => 0))), (q8, .inl (cI, 2, .inl (fun _ => 0))), (q9, .inl (cI, 336, .inl (fun _ => 0))), (q10, .inl (cI, 336, .inl (fun _ => 0))), (q11, .inl (cI, 336, .inl (fun _ => 0))), (q12, .inl (cI, 336, .inl (fun _ => 0)))]) hS0 A s _ _ := hw
  refine lv_aload_n hx hb dX4_init_102 rfl (lv_at hl 0 rfl) ?_
  refine lv_sipush (v := 336) hx hb dX4_init_103 (by decide) ?_
  refine h_newa (N := 336) cx hw (hta _ wdA_int) (by decide) (by decide) (by decide) (Nat.le_of_ble_eq_true rfl) (Nat.le_of_ble_eq_true rfl) dX4_init_106 (fun q13 H hw => ?_)
  refine W.widen (k := 13) (n := 1769) (Nat.le_of_ble_eq_true rfl) (Nat.le_of_ble_eq_true rfl) ?_
  have hw : HW (dC, dI) (fun _ => [(h0, .inr (4, [.int 0, .ref q1, .ref q2, .ref q3, .ref q4, .ref q5, .ref q6, .ref q7, .ref q8, .ref q9, .ref q10, .ref q11, .ref q12, .int 0, .null, .null, .null, .null, .null, .null, .null, .null, .null, .int 0, .null, .null, .int 0])), (q1, .inl (cI, 12, .inl (fun _ => 0))), (q2, .inl (cI, 12, .inl (fun _ => 0))), (q3, .inl (cI, 12, .inl (fun _ => 0))), (q4, .inl (cZ, 12, .inl (fun _ => 0))), (q5, .inl (cI, 4, .inl (fun _ => 0))), (q6, .inl (cI, 7, .inl (fun _ => 0))), (q7, .inl (cI, 28, .inl (fun _ => 0))), (q8, .inl (cI, 2, .inl (fun _ => 0))), (q9, .inl (cI, 336, .inl (fun _ => 0))), (q10, .inl (cI, 336, .inl (fun _ => 0))), (q11, .inl (cI, 336, .inl (fun _ => 0))), (q12, .inl (cI, 336, .inl (fun _ => 0))), (q13, .inl (cI, 336, .inl (fun _ => 0)))]) hS0 A s _ _ := hw
  refine h_putF (v := .ref q13) (ty := .array .int) cx hw hnm 0 rfl rfl hinX4 tyX4 tyX4_ok nmX4 14 (by decide) lk47 rfl rfl (by decide +kernel) rfl rfl (Nat.le_of_ble_eq_true rfl) dX4_init_108 (fun H locs hw => ?_)
  have hw : HW (dC, dI) (fun _ => [(h0, .inr (4, [.int 0, .ref q1, .ref q2, .ref q3, .ref q4, .ref q5, .ref q6, .ref q7, .ref q8, .ref q9, .ref q10, .ref q11, .ref q12, .int 0, .ref q13, .null, .null, .null, .null, .null, .null, .null, .null, .int 0, .null, .null, .int 0])), (q1, .inl (cI, 12, .inl (fun _ => 0))), (q2, .inl (cI, 12, .inl (fun _ => 0))), (q3, .inl (cI, 12, .inl (fun _ => 0))), (q4, .inl (cZ, 12, .inl (fun _ => 0))), (q5, .inl (cI, 4, .inl (fun _ => 0))), (q6, .inl (cI, 7, .inl (fun _ => 0))), (q7, .inl (cI, 28, .inl (fun _ => 0))), (q8, .inl (cI, 2, .inl (fun _ => 0))), (q9, .inl (cI, 336, .inl (fun _ => 0))), (q10, .inl (cI, 336, .inl (fun _ => 0))), (q11, .inl (cI, 336, .inl (fun _ => 0))), (q12, .inl (cI, 336, .inl (fun _ => 0))), (q13, .inl (cI, 336, .inl (fun _ => 0)))]) hS0 A s _ _ := hw
  refine lv_aload_n hx hb dX4_init_111 rfl (lv_at hl 0 rfl) ?_
  refine lv_sipush (v := 336) hx hb dX4_init_112 (by decide) ?_
  refine h_newa (N := 336) cx hw (hta _ wdA_int) (by decide) (by decide) (by decide) (Nat.le_of_ble_eq_true rfl) (Nat.le_of_ble_eq_true rfl) dX4_init_115 (fun q14 H hw => ?_)
  refine W.widen (k := 14) (n := 2105) (Nat.le_of_ble_eq_true rfl) (Nat.le_of_ble_eq_true rfl) ?_
  have hw : HW (dC, dI) (fun _ => [(h0, .inr (4, [.int 0, .ref q1, .ref q2, .ref q3, .ref q4, .ref q5, .ref q6, .ref q7, .ref q8, .ref q9, .ref q10, .ref q11, .ref q12, .int 0, .ref q13, .null, .null, .null, .null, .null, .null, .null, .null, .int 0, .null, .null, .int 0])), (q1, .inl (cI, 12, .inl (fun _ => 0))), (q2, .inl (cI, 12, .inl (fun _ => 0))), (q3, .inl (cI, 12, .inl (fun _ => 0))), (q4, .inl (cZ, 12, .inl (fun _ => 0))), (q5, .inl (cI, 4, .inl (fun _ => 0))), (q6, .inl (cI, 7, .inl (fun _ => 0))), (q7, .inl (cI, 28, .inl (fun _ => 0))), (q8, .inl (cI, 2, .inl (fun _ => 0))), (q9, .inl (cI, 336, .inl (fun _ => 0))), (q10, .inl (cI, 336, .inl (fun _ => 0))), (q11, .inl (cI, 336, .inl (fun _ => 0))), (q12, .inl (cI, 336, .inl (fun _ => 0))), (q13, .inl (cI, 336, .inl (fun _ => 0))), (q14, .inl (cI, 336, .inl (fun _ => 0)))]) hS0 A s _ _ := hw
  refine h_putF (v := .ref q14) (ty := .array .int) cx hw hnm 0 rfl rfl hinX4 tyX4 tyX4_ok nmX4 15 (by decide) lk50 rfl rfl (by decide +kernel) rfl rfl (Nat.le_of_ble_eq_true rfl) dX4_init_117 (fun H locs hw => ?_)
  have hw : HW (dC, dI) (fun _ => [(h0, .inr (4, [.int 0, .ref q1, .ref q2, .ref q3, .ref q4, .ref q5, .ref q6, .ref q7, .ref q8, .ref q9, .ref q10, .ref q11, .ref q12, .int 0, .ref q13, .ref q14, .null, .null, .null, .null, .null, .null, .null, .int 0, .null, .null, .int 0])), (q1, .inl (cI, 12, .inl (fun _ => 0))), (q2, .inl (cI, 12, .inl (fun _ => 0))), (q3, .inl (cI, 12, .inl (fun _ => 0))), (q4, .inl (cZ, 12, .inl (fun _ => 0))), (q5, .inl (cI, 4, .inl (fun _ => 0))), (q6, .inl (cI, 7, .inl (fun _ => 0))), (q7, .inl (cI, 28, .inl (fun _ => 0))), (q8, .inl (cI, 2, .inl (fun _ => 0))), (q9, .inl (cI, 336, .inl (fun _ => 0))), (q10, .inl (cI, 336, .inl (fun _ => 0))), (q11, .inl (cI, 336, .inl (fun _ => 0))), (q12, .inl (cI, 336, .inl (fun _ => 0))), (q13, .inl (cI, 336, .inl (fun _ => 0))), (q14, .inl (cI, 336, .inl (fun _ => 0)))]) hS0 A s _ _ := hw
  refine lv_aload_n hx hb dX4_init_120 rfl (lv_at hl 0 rfl) ?_
  refine lv_sipush (v := 336) hx hb dX4_init_121 (by decide) ?_
  refine h_newa (N := 336) cx hw (hta _ wdA_int) (by decide) (by decide) (by decide) (Nat.le_of_ble_eq_true rfl) (Nat.le_of_ble_eq_true rfl) dX4_init_124 (fun q15 H hw => ?_)
  refine W.widen (k := 15) (n := 2441) (Nat.le_of_ble_eq_true rfl) (Nat.le_of_ble_eq_true rfl) ?_
  have hw : HW (dC, dI) (fun _ => [(h0, .inr (4, [.int 0, .ref q1, .ref q2, .ref q3, .ref q4, .ref q5, .ref q6, .ref q7, .ref q8, .ref q9, .ref q10, .ref q11, .ref q12, .int 0, .ref q13, .ref q14, .null, .null, .null, .null, .null, .null, .null, .int 0, .null, .null, .int 0])), (q1, .inl (cI, 12, .inl (fun _ => 0))), (q2, .inl (cI, 12, .inl (fun _ => 0))), (q3, .inl (cI, 12, .inl (fun _ => 0))), (q4, .inl (cZ, 12, .inl (fun _ => 0))), (q5, .inl (cI, 4, .inl (fun _ => 0))), (q6, .inl (cI, 7, .inl (fun _ => 0))), (q7, .inl (cI, 28, .inl (fun _ => 0))), (q8, .inl (cI, 2, .inl (fun _ => 0))), (q9, .inl (cI, 336, .inl (fun _ => 0))), (q10, .inl (cI, 336, .inl (fun _ => 0))), (q11, .inl (cI, 336, .inl (fun _ => 0))), (q12, .inl (cI, 336, .inl (fun _ => 0))), (q13, .inl (cI, 336, .inl (fun _ => 0))), (q14, .inl (cI, 336, .inl (fun _ => 0))), (q15, .inl (cI, 336, .inl (fun _ => 0)))]) hS0 A s _ _ := hw
  refine h_putF (v := .ref q15) (ty := .array .int) cx hw hnm 0 rfl rfl hinX4 tyX4 tyX4_ok nmX4 16 (by decide) lk53 rfl rfl (by decide +kernel) rfl rfl (Nat.le_of_ble_eq_true rfl) dX4_init_126 (fun H locs hw => ?_)
  have hw : HW (dC, dI) (fun _ => [(h0, .inr (4, [.int 0, .ref q1, .ref q2, .ref q3, .ref q4, .ref q5, .ref q6, .ref q7, .ref q8, .ref q9, .ref q10, .ref q11, .ref q12, .int 0, .ref q13, .ref q14, .ref q15, .null, .null, .null, .null, .null, .null, .int 0, .null, .null, .int 0])), (q1, .inl (cI, 12, .inl (fun _ => 0))), (q2, .inl (cI, 12, .inl (fun _ => 0))), (q3, .inl (cI, 12, .inl (fun _ => 0))), (q4, .inl (cZ, 12, .inl (fun _ => 0))), (q5, .inl (cI, 4, .inl (fun _ => 0))), (q6, .inl (cI, 7, .inl (fun _ => 0))), (q7, .inl (cI, 28, .inl (fun _ => 0))), (q8, .inl (cI, 2, .inl (fun _ => 0))), (q9, .inl (cI, 336, .inl (fun _ => 0))), (q10, .inl (cI, 336, .inl (fun _ => 0))), (q11, .inl (cI, 336, .inl (fun _ => 0))), (q12, .inl (cI, 336, .inl (fun _ => 0))), (q13, .inl (cI, 336, .inl (fun _ => 0))), (q14, .inl (cI, 336, .inl (fun _ => 0))), (q15, .inl (cI, 336, .inl (fun _ => 0)))]) hS0 A s _ _ := hw
  refine lv_aload_n hx hb dX4_init_129 rfl (lv_at hl 0 rfl) ?_
  refine lv_sipush (v := 336) hx hb dX4_init_130 (by decide) ?_
  refine h_newa (N := 336) cx hw (hta _ wdA_int) (by decide) (by decide) (by decide) (Nat.le_of_ble_eq_true rfl) (Nat.le_of_ble_eq_true rfl) dX4_init_133 (fun q16 H hw => ?_)
  refine W.widen (k := 16) (n := 2777) (Nat.le_of_ble_eq_true rfl) (Nat.le_of_ble_eq_true rfl) ?_
  have hw : HW (dC, dI) (fun _ => [(h0, .inr (4, [.int 0, .ref q1, .ref q2, .ref q3, .ref q4, .ref q5, .ref q6, .ref q7, .ref q8, .ref q9, .ref q10, .ref q11, .ref q12, .int 0, .ref q13, .ref q14, .ref q15, .null, .null, .null, .null, .null, .null, .int 0, .null, .null, .int 0])), (q1, .inl (cI, 12, .inl (fun _ => 0))), (q2, .inl (cI, 12, .inl (fun _ => 0))), (q3, .inl (cI, 12, .inl (fun _ => 0))), (q4, .inl (cZ, 12, .inl (fun _ => 0))), (q5, .inl (cI, 4, .inl (fun _ => 0))), (q6, .inl (cI, 7, .inl (fun _ => 0))), (q7, .inl (cI, 28, .inl (fun _ => 0))), (q8, .inl (cI, 2, .inl (fun _ => 0))), (q9, .inl (cI, 336, .inl (fun _ => 0))), (q10, .inl (cI, 336, .inl (fun _ => 0))), (q11, .inl (cI, 336, .inl (fun _ => 0))), (q12, .inl (cI, 336, .inl (fun _ => 0))), (q13, .inl (cI, 336, .inl (fun _ => 0))), (q14, .inl (cI, 336, .inl (fun _ => 0))), (q15, .inl (cI, 336, .inl (fun _ => 0))), (q16, .inl (cI, 336, .inl (fun _ => 0)))]) hS0 A s _ _ := hw
  refine h_putF (v := .ref q16) (ty := .array .int) cx hw hnm 0 rfl rfl hinX4 tyX4 tyX4_ok nmX4 17 (by decide) lk56 rfl rfl (by decide +kernel) rfl rfl (Nat.le_of_ble_eq_true rfl) dX4_init_135 (fun H locs hw => ?_)
  have hw : HW (dC, dI) (fun _ => [(h0, .inr (4, [.int 0, .ref q1, .ref q2, .ref q3, .ref q4, .ref q5, .ref q6, .ref q7, .ref q8, .ref q9, .ref q10, .ref q11, .ref q12, .int 0, .ref q13, .ref q14, .ref q15, .ref q16, .null, .null, .null, .null, .null, .int 0, .null, .null, .int 0])), (q1, .inl (cI, 12, .inl (fun _ => 0))), (q2, .inl (cI, 12, .inl (fun _ => 0))), (q3, .inl (cI, 12, .inl (fun _ => 0))), (q4, .inl (cZ, 12, .inl (fun _ => 0))), (q5, .inl (cI, 4, .inl (fun _ => 0))), (q6, .inl (cI, 7, .inl (fun _ => 0))), (q7, .inl (cI, 28, .inl (fun _ => 0))), (q8, .inl (cI, 2, .inl (fun _ => 0))), (q9, .inl (cI, 336, .inl (fun _ => 0))), (q10, .inl (cI, 336, .inl (fun _ => 0))), (q11, .inl (cI, 336, .inl (fun _ => 0))), (q12, .inl (cI, 336, .inl (fun _ => 0))), (q13, .inl (cI, 336, .inl (fun _ => 0))), (q14, .inl (cI, 336, .inl (fun _ => 0))), (q15, .inl (cI, 336, .inl (fun _ => 0))), (q16, .inl (cI, 336, .inl (fun _ => 0)))]) hS0 A s _ _ := hw
  refine lv_aload_n hx hb dX4_init_138 rfl (lv_at hl 0 rfl) ?_
  refine lv_bipush (v := 28) hx hb dX4_init_139 (by decide) ?_
  refine h_newa (N := 28) cx hw (hta _ wdA_int) (by decide) (by decide) (by decide) (Nat.le_of_ble_eq_true rfl) (Nat.le_of_ble_eq_true rfl) dX4_init_141 (fun q17 H hw => ?_)
  refine W.widen (k := 17) (n := 2805) (Nat.le_of_ble_eq_true rfl) (Nat.le_of_ble_eq_true rfl) ?_
  have hw : HW (dC, dI) (fun _ => [(h0, .inr (4, [.int 0, .ref q1, .ref q2, .ref q3, .ref q4, .ref q5, .ref q6, .ref q7, .ref q8, .ref q9, .ref q10, .ref q11, .ref q12, .int 0, .ref q13, .ref q14, .ref q15, .ref q16, .null, .null, .null, .null, .null, .int 0, .null, .null, .int 0])), (q1, .inl (cI, 12, .inl (fun _ => 0))), (q2, .inl (cI, 12, .inl (fun _ => 0))), (q3, .inl (cI, 12, .inl (fun _ => 0))), (q4, .inl (cZ, 12, .inl (fun _ => 0))), (q5, .inl (cI, 4, .inl (fun _ => 0))), (q6, .inl (cI, 7, .inl (fun _ => 0))), (q7, .inl (cI, 28, .inl (fun _ => 0))), (q8, .inl (cI, 2, .inl (fun _ => 0))), (q9, .inl (cI, 336, .inl (fun _ => 0))), (q10, .inl (cI, 336, .inl (fun _ => 0))), (q11, .inl (cI, 336, .inl (fun _ => 0))), (q12, .inl (cI, 336, .inl (fun _ => 0))), (q13, .inl (cI, 336, .inl (fun _ => 0))), (q14, .inl (cI, 336, .inl (fun _ => 0))), (q15, .inl (cI, 336, .inl (fun _ => 0))), (q16, .inl (cI, 336, .inl (fun _ => 0))), (q17, .inl (cI, 28, .inl (fun _ => 0)))]) hS0 A s _ _ := hw
  refine h_putF (v := .ref q17) (ty := .array .int) cx hw hnm 0 rfl rfl hinX4 tyX4 tyX4_ok nmX4 18 (by decide) lk59 rfl rfl (by decide +kernel) rfl rfl (Nat.le_of_ble_eq_true rfl) dX4_init_143 (fun H locs hw => ?_)
  have hw : HW (dC, dI) (fun _ => [(h0, .inr (4, [.int 0, .ref q1, .ref q2, .ref q3, .ref q4, .ref q5, .ref q6, .ref q7, .ref q8, .ref q9, .ref q10, .ref q11, .ref q12, .int 0, .ref q13, .ref q14, .ref q15, .ref q16, .ref q17, .null, .null, .null, .null, .int 0, .null, .null, .int 0])), (q1, .inl (cI, 12, .inl (fun _ => 0))), (q2, .inl (cI, 12, .inl (fun _ => 0))), (q3, .inl (cI, 12, .inl (fun _ => 0))), (q4, .inl (cZ, 12, .inl (fun _ => 0))), (q5, .inl (cI, 4, .inl (fun _ => 0))), (q6, .inl (cI, 7, .inl (fun _ => 0))), (q7, .inl (cI, 28, .inl (fun _ => 0))), (q8, .inl (cI, 2, .inl (fun _ => 0))), (q9, .inl (cI, 336, .inl (fun _ => 0))), (q10, .inl (cI, 336, .inl (fun _ => 0))), (q11, .inl (cI, 336, .inl (fun _ => 0))), (q12, .inl (cI, 336, .inl (fun _ => 0))), (q13, .inl (cI, 336, .inl (fun _ => 0))), (q14, .inl (cI, 336, .inl (fun _ => 0))), (q15, .inl (cI, 336, .inl (fun _ => 0))), (q16, .inl (cI, 336, .inl (fun _ => 0))), (q17, .inl (cI, 28, .inl (fun _ => 0)))]) hS0 A s _ _ := hw
  refine lv_aload_n hx hb dX4_init_146 rfl (lv_at hl 0 rfl) ?_
  refine lv_bipush (v := 28) hx hb dX4_init_147 (by decide) ?_
  refine h_newa (N := 28) cx hw (hta _ wdA_int) (by decide) (by decide) (by decide) (Nat.le_of_ble_eq_true rfl) (Nat.le_of_ble_eq_true rfl) dX4_init_149 (fun q18 H hw => ?_)
  refine W.widen (k := 18) (n := 2833) (Nat.le_of_ble_eq_true rfl) (Nat.le_of_ble_eq_true rfl) ?_
  have hw : HW (dC, dI) (fun _ => [(h0, .inr (4, [.int 0, .ref q1, .ref q2, .ref q3, .ref q4, .ref q5, .ref q6, .ref q7, .ref q8, .ref q9, .ref q10, .ref q11, .ref q12, .int 0, .ref q13, .ref q14, .ref q15, .ref q16, .ref q17, .null, .null, .null, .null, .int 0, .null, .null, .int 0])), (q1, .inl (cI, 12, .inl (fun _ => 0))), (q2, .inl (cI, 12, .inl (fun _ => 0))), (q3, .inl (cI, 12, .inl (fun _ => 0))), (q4, .inl (cZ, 12, .inl (fun _ => 0))), (q5, .inl (cI, 4, .inl (fun _ => 0))), (q6, .inl (cI, 7, .inl (fun _ => 0))), (q7, .inl (cI, 28, .inl (fun _ => 0))), (q8, .inl (cI, 2, .inl (fun _ => 0))), (q9, .inl (cI, 336, .inl (fun _ => 0))), (q10, .inl (cI, 336, .inl (fun _ => 0))), (q11, .inl (cI, 336, .inl (fun _ => 0))), (q12, .inl (cI, 336, .inl (fun _ => 0))), (q13, .inl (cI, 336, .inl (fun _ => 0))), (q14, .inl (cI, 336, .inl (fun _ => 0))), (q15, .inl (cI, 336, .inl (fun _ => 0))), (q16, .inl (cI, 336, .inl (fun _ => 0))), (q17, .inl (cI, 28, .inl (fun _ => 0))), (q18, .inl (cI, 28, .inl (fun _ => 0)))]) hS0 A s _ _ := hw
  refine h_putF (v := .ref q18) (ty := .array .int) cx hw hnm 0 rfl rfl hinX4 tyX4 tyX4_ok nmX4 19 (by decide) lk62 rfl rfl (by decide +kernel) rfl rfl (Nat.le_of_ble_eq_true rfl) dX4_init_151 (fun H locs hw => ?_)
  have hw : HW (dC, dI) (fun _ => [(h0, .inr (4, [.int 0, .ref q1, .ref q2, .ref q3, .ref q4, .ref q5, .ref q6, .ref q7, .ref q8, .ref q9, .ref q10, .ref q11, .ref q12, .int 0, .ref q13, .ref q14, .ref q15, .ref q16, .ref q17, .ref q18, .null, .null, .null, .int 0, .null, .null, .int 0])), (q1, .inl (cI, 12, .inl (fun _ => 0))), (q2, .inl (cI, 12, .inl (fun _ => 0))), (q3, .inl (cI, 12, .inl (fun _ => 0))), (q4, .inl (cZ, 12, .inl (fun _ => 0))), (q5, .inl (cI, 4, .inl (fun _ => 0))), (q6, .inl (cI, 7, .inl (fun _ => 0))), (q7, .inl (cI, 28, .inl (fun _ => 0))), (q8, .inl (cI, 2, .inl (fun _ => 0))), (q9, .inl (cI, 336, .inl (fun _ => 0))), (q10, .inl (cI, 336, .inl (fun _ => 0))), (q11, .inl (cI, 336, .inl (fun _ => 0))), (q12, .inl (cI, 336, .inl (fun _ => 0))), (q13, .inl (cI, 336, .inl (fun _ => 0))), (q14, .inl (cI, 336, .inl (fun _ => 0))), (q15, .inl (cI, 336, .inl (fun _ => 0))), (q16, .inl (cI, 336, .inl (fun _ => 0))), (q17, .inl (cI, 28, .inl (fun _ => 0))), (q18, .inl (cI, 28, .inl (fun _ => 0)))]) hS0 A s _ _ := hw
  refine lv_aload_n hx hb dX4_init_154 rfl (lv_at hl 0 rfl) ?_
  refine lv_sipush (v := 1344) hx hb dX4_init_155 (by decide) ?_
  refine h_newa (N := 1344) cx hw (hta _ wdA_int) (by decide) (by decide) (by decide) (Nat.le_of_ble_eq_true rfl) (Nat.le_of_ble_eq_true rfl) dX4_init_158 (fun q19 H hw => ?_)
  refine W.widen (k := 19) (n := 4177) (Nat.le_of_ble_eq_true rfl) (Nat.le_of_ble_eq_true rfl) ?_
  have hw : HW (dC, dI) (fun _ => [(h0, .inr (4, [.int 0, .ref q1, .ref q2, .ref q3, .ref q4, .ref q5, .ref q6, .ref q7, .ref q8, .ref q9, .ref q10, .ref q11, .ref q12, .int 0, .ref q13, .ref q14, .ref q15, .ref q16, .ref q17, .ref q18, .null, .null, .null, .int 0, .null, .null, .int 0])), (q1, .inl (cI, 12, .inl (fun _ => 0))), (q2, .inl (cI, 12, .inl (fun _ => 0))), (q3, .inl (cI, 12, .inl (fun _ => 0))), (q4, .inl (cZ, 12, .inl (fun _ => 0))), (q5, .inl (cI, 4, .inl (fun _ => 0))), (q6, .inl (cI, 7, .inl (fun _ => 0))), (q7, .inl (cI, 28, .inl (fun _ => 0))), (q8, .inl (cI, 2, .inl (fun _ => 0))), (q9, .inl (cI, 336, .inl (fun _ => 0))), (q10, .inl (cI, 336, .inl (fun _ => 0))), (q11, .inl (cI, 336, .inl (fun _ => 0))), (q12, .inl (cI, 336, .inl (fun _ => 0))), (q13, .inl (cI, 336, .inl (fun _ => 0))), (q14, .inl (cI, 336, .inl (fun _ => 0))), (q15, .inl (cI, 336, .inl (fun _ => 0))), (q16, .inl (cI, 336, .inl (fun _ => 0))), (q17, .inl (cI, 28, .inl (fun _ => 0))), (q18, .inl (cI, 28, .inl (fun _ => 0))), (q19, .inl (cI, 1344, .inl (fun _ => 0)))]) hS0 A s _ _ := hw
  refine h_putF (v := .ref q19) (ty := .array .int) cx hw hnm 0 rfl rfl hinX4 tyX4 tyX4_ok nmX4 20 (by decide) lk65 rfl rfl (by decide +kernel) rfl rfl (Nat.le_of_ble_eq_true rfl) dX4_init_160 (fun H locs hw => ?_)
  have hw : HW (dC, dI) (fun _ => [(h0, .inr (4, [.int 0, .ref q1, .ref q2, .ref q3, .ref q4, .ref q5, .ref q6, .ref q7, .ref q8, .ref q9, .ref q10, .ref q11, .ref q12, .int 0, .ref q13, .ref q14, .ref q15, .ref q16, .ref q17, .ref q18, .ref q19, .null, .null, .int 0, .null, .null, .int 0])), (q1, .inl (cI, 12, .inl (fun _ => 0))), (q2, .inl (cI, 12, .inl (fun _ => 0))), (q3, .inl (cI, 12, .inl (fun _ => 0))), (q4, .inl (cZ, 12, .inl (fun _ => 0))), (q5, .inl (cI, 4, .inl (fun _ => 0))), (q6, .inl (cI, 7, .inl (fun _ => 0))), (q7, .inl (cI, 28, .inl (fun _ => 0))), (q8, .inl (cI, 2, .inl (fun _ => 0))), (q9, .inl (cI, 336, .inl (fun _ => 0))), (q10, .inl (cI, 336, .inl (fun _ => 0))), (q11, .inl (cI, 336, .inl (fun _ => 0))), (q12, .inl (cI, 336, .inl (fun _ => 0))), (q13, .inl (cI, 336, .inl (fun _ => 0))), (q14, .inl (cI, 336, .inl (fun _ => 0))), (q15, .inl (cI, 336, .inl (fun _ => 0))), (q16, .inl (cI, 336, .inl (fun _ => 0))), (q17, .inl (cI, 28, .inl (fun _ => 0))), (q18, .inl (cI, 28, .inl (fun _ => 0))), (q19, .inl (cI, 1344, .inl (fun _ => 0)))]) hS0 A s _ _ := hw
  refine lv_aload_n hx hb dX4_init_163 rfl (lv_at hl 0 rfl) ?_
  refine lv_bipush (v := 15) hx hb dX4_init_164 (by decide) ?_
  refine h_newa (N := 15) cx hw (hta _ wdA_int) (by decide) (by decide) (by decide) (Nat.le_of_ble_eq_true rfl) (Nat.le_of_ble_eq_true rfl) dX4_init_166 (fun q20 H hw => ?_)
  refine W.widen (k := 20) (n := 4192) (Nat.le_of_ble_eq_true rfl) (Nat.le_of_ble_eq_true rfl) ?_
  have hw : HW (dC, dI) (fun _ => [(h0, .inr (4, [.int 0, .ref q1, .ref q2, .ref q3, .ref q4, .ref q5, .ref q6, .ref q7, .ref q8, .ref q9, .ref q10, .ref q11, .ref q12, .int 0, .ref q13, .ref q14, .ref q15, .ref q16, .ref q17, .ref q18, .ref q19, .null, .null, .int 0, .null, .null, .int 0])), (q1, .inl (cI, 12, .inl (fun _ => 0))), (q2, .inl (cI, 12, .inl (fun _ => 0))), (q3, .inl (cI, 12, .inl (fun _ => 0))), (q4, .inl (cZ, 12, .inl (fun _ => 0))), (q5, .inl (cI, 4, .inl (fun _ => 0))), (q6, .inl (cI, 7, .inl (fun _ => 0))), (q7, .inl (cI, 28, .inl (fun _ => 0))), (q8, .inl (cI, 2, .inl (fun _ => 0))), (q9, .inl (cI, 336, .inl (fun _ => 0))), (q10, .inl (cI, 336, .inl (fun _ => 0))), (q11, .inl (cI, 336, .inl (fun _ => 0))), (q12, .inl (cI, 336, .inl (fun _ => 0))), (q13, .inl (cI, 336, .inl (fun _ => 0))), (q14, .inl (cI, 336, .inl (fun _ => 0))), (q15, .inl (cI, 336, .inl (fun _ => 0))), (q16, .inl (cI, 336, .inl (fun _ => 0))), (q17, .inl (cI, 28, .inl (fun _ => 0))), (q18, .inl (cI, 28, .inl (fun _ => 0))), (q19, .inl (cI, 1344, .inl (fun _ => 0))), (q20, .inl (cI, 15, .inl (fun _ => 0)))]) hS0 A s _ _ := hw
  refine h_putF (v := .ref q20) (ty := .array .int) cx hw hnm 0 rfl rfl hinX4 tyX4 tyX4_ok nmX4 21 (by decide) lk68 rfl rfl (by decide +kernel) rfl rfl (Nat.le_of_ble_eq_true rfl) dX4_init_168 (fun H locs hw => ?_)
  have hw : HW (dC, dI) (fun _ => [(h0, .inr (4, [.int 0, .ref q1, .ref q2, .ref q3, .ref q4, .ref q5, .ref q6, .ref q7, .ref q8, .ref q9, .ref q10, .ref q11, .ref q12, .int 0, .ref q13, .ref q14, .ref q15, .ref q16, .ref q17, .ref q18, .ref q19, .ref q20, .null, .int 0, .null, .null, .int 0])), (q1, .inl (cI, 12, .inl (fun _ => 0))), (q2, .inl (cI, 12, .inl (fun _ => 0))), (q3, .inl (cI, 12, .inl (fun _ => 0))), (q4, .inl (cZ, 12, .inl (fun _ => 0))), (q5, .inl (cI, 4, .inl (fun _ => 0))), (q6, .inl (cI, 7, .inl (fun _ => 0))), (q7, .inl (cI, 28, .inl (fun _ => 0))), (q8, .inl (cI, 2, .inl (fun _ => 0))), (q9, .inl (cI, 336, .inl (fun _ => 0))), (q10, .inl (cI, 336, .inl (fun _ => 0))), (q11, .inl (cI, 336, .inl (fun _ => 0))), (q12, .inl (cI, 336, .inl (fun _ => 0))), (q13, .inl (cI, 336, .inl (fun _ => 0))), (q14, .inl (cI, 336, .inl (fun _ => 0))), (q15, .inl (cI, 336, .inl (fun _ => 0))), (q16, .inl (cI, 336, .inl (fun _ => 0))), (q17, .inl (cI, 28, .inl (fun _ => 0))), (q18, .inl (cI, 28, .inl (fun _ => 0))), (q19, .inl (cI, 1344, .inl (fun _ => 0))), (q20, .inl (cI, 15, .inl (fun _ => 0)))]) hS0 A s _ _ := hw
  refine lv_aload_n hx hb dX4_init_171 rfl (lv_at hl 0 rfl) ?_
  refine lv_bipush (v := 15) hx hb dX4_init_172 (by decide) ?_
  refine h_newa (N := 15) cx hw (hta _ wdA_int) (by decide) (by decide) (by decide) (Nat.le_of_ble_eq_true rfl) (Nat.le_of_ble_eq_true rfl) dX4_init_174 (fun q21 H hw => ?_)
  refine W.widen (k := 21) (n := 4207) (Nat.le_of_ble_eq_true rfl) (Nat.le_of_ble_eq_true rfl) ?_
  have hw : HW (dC, dI) (fun _ => [(h0, .inr (4, [.int 0, .ref q1, .ref q2, .ref q3, .ref q4, .ref q5, .ref q6, .ref q7, .ref q8, .ref q9, .ref q10, .ref q11, .ref q12, .int 0, .ref q13, .ref q14, .ref q15, .ref q16, .ref q17, .ref q18, .ref q19, .ref q20, .null, .int 0, .null, .null, .int 0])), (q1, .inl (cI, 12, .inl (fun _ => 0))), (q2, .inl (cI, 12, .inl (fun _ => 0))), (q3, .inl (cI, 12, .inl (fun _ => 0))), (q4, .inl (cZ, 12, .inl (fun _ => 0))), (q5, .inl (cI, 4, .inl (fun _ => 0))), (q6, .inl (cI, 7, .inl (fun _ => 0))), (q7, .inl (cI, 28, .inl (fun _ => 0))), (q8, .inl (cI, 2, .inl (fun _ => 0))), (q9, .inl (cI, 336, .inl (fun _ => 0))), (q10, .inl (cI, 336, .inl (fun _ => 0))), (q11, .inl (cI, 336, .inl (fun _ => 0))), (q12, .inl (cI, 336, .inl (fun _ => 0))), (q13, .inl (cI, 336, .inl (fun _ => 0))), (q14, .inl (cI, 336, .inl (fun _ => 0))), (q15, .inl (cI, 336, .inl (fun _ => 0))), (q16, .inl (cI, 336, .inl (fun _ => 0))), (q17, .inl (cI, 28, .inl (fun _ => 0))), (q18, .inl (cI, 28, .inl (fun _ => 0))), (q19, .inl (cI, 1344, .inl (fun _ => 0))), (q20, .inl (cI, 15, .inl (fun _ => 0))), (q21, .inl (cI, 15, .inl (fun _ => 0)))]) hS0 A s _ _ := hw
  refine h_putF (v := .ref q21) (ty := .array .int) cx hw hnm 0 rfl rfl hinX4 tyX4 tyX4_ok nmX4 22 (by decide) lk71 rfl rfl (by decide +kernel) rfl rfl (Nat.le_of_ble_eq_true rfl) dX4_init_176 (fun H locs hw => ?_)
  have hw : HW (dC, dI) (fun _ => [(h0, .inr (4, [.int 0, .ref q1, .ref q2, .ref q3, .ref q4, .ref q5, .ref q6, .ref q7, .ref q8, .ref q9, .ref q10, .ref q11, .ref q12, .int 0, .ref q13, .ref q14, .ref q15, .ref q16, .ref q17, .ref q18, .ref q19, .ref q20, .ref q21, .int 0, .null, .null, .int 0])), (q1, .inl (cI, 12, .inl (fun _ => 0))), (q2, .inl (cI, 12, .inl (fun _ => 0))), (q3, .inl (cI, 12, .inl (fun _ => 0))), (q4, .inl (cZ, 12, .inl (fun _ => 0))), (q5, .inl (cI, 4, .inl (fun _ => 0))), (q6, .inl (cI, 7, .inl (fun _ => 0))), (q7, .inl (cI, 28, .inl (fun _ => 0))), (q8, .inl (cI, 2, .inl (fun _ => 0))), (q9, .inl (cI, 336, .inl (fun _ => 0))), (q10, .inl (cI, 336, .inl (fun _ => 0))), (q11, .inl (cI, 336, .inl (fun _ => 0))), (q12, .inl (cI, 336, .inl (fun _ => 0))), (q13, .inl (cI, 336, .inl (fun _ => 0))), (q14, .inl (cI, 336, .inl (fun _ => 0))), (q15, .inl (cI, 336, .inl (fun _ => 0))), (q16, .inl (cI, 336, .inl (fun _ => 0))), (q17, .inl (cI, 28, .inl (fun _ => 0))), (q18, .inl (cI, 28, .inl (fun _ => 0))), (q19, .inl (cI, 1344, .inl (fun _ => 0))), (q20, .inl (cI, 15, .inl (fun _ => 0))), (q21, .inl (cI, 15, .inl (fun _ => 0)))]) hS0 A s _ _ := hw
  refine lv_aload_n hx hb dX4_init_179 rfl (lv_at hl 0 rfl) ?_
  refine lv_bipush (v := 15) hx hb dX4_init_180 (by decide) ?_
  refine h_newa (N := 15) cx hw (hta _ wdA_int) (by decide) (by decide) (by decide) (Nat.le_of_ble_eq_true rfl) (Nat.le_of_ble_eq_true rfl) dX4_init_182 (fun q22 H hw => ?_)
  refine W.widen (k := 22) (n := 4222) (Nat.le_of_ble_eq_true rfl) (Nat.le_of_ble_eq_true rfl) ?_
  have hw : HW (dC, dI) (fun _ => [(h0, .inr (4, [.int 0, .ref q1, .ref q2, .ref q3, .ref q4, .ref q5, .ref q6, .ref q7, .ref q8, .ref q9, .ref q10, .ref q11, .ref q12, .int 0, .ref q13, .ref q14, .ref q15, .ref q16, .ref q17, .ref q18, .ref q19, .ref q20, .ref q21, .int 0, .null, .null, .int 0])), (q1, .inl (cI, 12, .inl (fun _ => 0))), (q2, .inl (cI, 12, .inl (fun _ => 0))), (q3, .inl (cI, 12, .inl (fun _ => 0))), (q4, .inl (cZ, 12, .inl (fun _ => 0))), (q5, .inl (cI, 4, .inl (fun _ => 0))), (q6, .inl (cI, 7, .inl (fun _ => 0))), (q7, .inl (cI, 28, .inl (fun _ => 0))), (q8, .inl (cI, 2, .inl (fun _ => 0))), (q9, .inl (cI, 336, .inl (fun _ => 0))), (q10, .inl (cI, 336, .inl (fun _ => 0))), (q11, .inl (cI, 336, .inl (fun _ => 0))), (q12, .inl (cI, 336, .inl (fun _ => 0))), (q13, .inl (cI, 336, .inl (fun _ => 0))), (q14, .inl (cI, 336, .inl (fun _ => 0))), (q15, .inl (cI, 336, .inl (fun _ => 0))), (q16, .inl (cI, 336, .inl (fun _ => 0))), (q17, .inl (cI, 28, .inl (fun _ => 0))), (q18, .inl (cI, 28, .inl (fun _ => 0))), (q19, .inl (cI, 1344, .inl (fun _ => 0))), (q20, .inl (cI, 15, .inl (fun _ => 0))), (q21, .inl (cI, 15, .inl (fun _ => 0))), (q22, .inl (cI, 15, .inl (fun _ => 0)))]) hS0 A s _ _ := hw
  refine h_putF (v := .ref q22) (ty := .array .int) cx hw hnm 0 rfl rfl hinX4 tyX4 tyX4_ok nmX4 24 (by decide) lk74 rfl rfl (by decide +kernel) rfl rfl (Nat.le_of_ble_eq_true rfl) dX4_init_184 (fun H locs hw => ?_)
  have hw : HW (dC, dI) (fun _ => [(h0, .inr (4, [.int 0, .ref q1, .ref q2, .ref q3, .ref q4, .ref q5, .ref q6, .ref q7, .ref q8, .ref q9, .ref q10, .ref q11, .ref q12, .int 0, .ref q13, .ref q14, .ref q15, .ref q16, .ref q17, .ref q18, .ref q19, .ref q20, .ref q21, .int 0, .ref q22, .null, .int 0])), (q1, .inl (cI, 12, .inl (fun _ => 0))), (q2, .inl (cI, 12, .inl (fun _ => 0))), (q3, .inl (cI, 12, .inl (fun _ => 0))), (q4, .inl (cZ, 12, .inl (fun _ => 0))), (q5, .inl (cI, 4, .inl (fun _ => 0))), (q6, .inl (cI, 7, .inl (fun _ => 0))), (q7, .inl (cI, 28, .inl (fun _ => 0))), (q8, .inl (cI, 2, .inl (fun _ => 0))), (q9, .inl (cI, 336, .inl (fun _ => 0))), (q10, .inl (cI, 336, .inl (fun _ => 0))), (q11, .inl (cI, 336, .inl (fun _ => 0))), (q12, .inl (cI, 336, .inl (fun _ => 0))), (q13, .inl (cI, 336, .inl (fun _ => 0))), (q14, .inl (cI, 336, .inl (fun _ => 0))), (q15, .inl (cI, 336, .inl (fun _ => 0))), (q16, .inl (cI, 336, .inl (fun _ => 0))), (q17, .inl (cI, 28, .inl (fun _ => 0))), (q18, .inl (cI, 28, .inl (fun _ => 0))), (q19, .inl (cI, 1344, .inl (fun _ => 0))), (q20, .inl (cI, 15, .inl (fun _ => 0))), (q21, .inl (cI, 15, .inl (fun _ => 0))), (q22, .inl (cI, 15, .inl (fun _ => 0)))]) hS0 A s _ _ := hw
  refine lv_aload_n hx hb dX4_init_187 rfl (lv_at hl 0 rfl) ?_
  refine lv_bipush (v := 15) hx hb dX4_init_188 (by decide) ?_
  refine h_newa (N := 15) cx hw (hta _ wdA_int) (by decide) (by decide) (by decide) (Nat.le_of_ble_eq_true rfl) (Nat.le_of_ble_eq_true rfl) dX4_init_190 (fun q23 H hw => ?_)
  refine W.widen (k := 23) (n := 4237) (Nat.le_of_ble_eq_true rfl) (Nat.le_of_ble_eq_true rfl) ?_
  have hw : HW (dC, dI) (fun _ => [(h0, .inr (4, [.int 0, .ref q1, .ref q2, .ref q3, .ref q4, .ref q5, .ref q6, .ref q7, .ref q8, .ref q9, .ref q10, .ref q11, .ref q12, .int 0, .ref q13, .ref q14, .ref q15, .ref q16, .ref q17, .ref q18, .ref q19, .ref q20, .ref q21, .int 0, .ref q22, .null, .int 0])), (q1, .inl (cI, 12, .inl (fun _ => 0))), (q2, .inl (cI, 12, .inl (fun _ => 0))), (q3, .inl (cI, 12, .inl (fun _ => 0))), (q4, .inl (cZ, 12, .inl (fun _ => 0))), (q5, .inl (cI, 4, .inl (fun _ => 0))), (q6, .inl (cI, 7, .inl (fun _ => 0))), (q7, .inl (cI, 28, .inl (fun _ => 0))), (q8, .inl (cI, 2, .inl (fun _ => 0))), (q9, .inl (cI, 336, .inl (fun _ => 0))), (q10, .inl (cI, 336, .inl (fun _ => 0))), (q11, .inl (cI, 336, .inl (fun _ => 0))), (q12, .inl (cI, 336, .inl (fun _ => 0))), (q13, .inl (cI, 336, .inl (fun _ => 0))), (q14, .inl (cI, 336, .inl (fun _ => 0))), (q15, .inl (cI, 336, .inl (fun _ => 0))), (q16, .inl (cI, 336, .inl (fun _ => 0))), (q17, .inl (cI, 28, .inl (fun _ => 0))), (q18, .inl (cI, 28, .inl (fun _ => 0))), (q19, .inl (cI, 1344, .inl (fun _ => 0))), (q20, .inl (cI, 15, .inl (fun _ => 0))), (q21, .inl (cI, 15, .inl (fun _ => 0))), (q22, .inl (cI, 15, .inl (fun _ => 0))), (q23, .inl (cI, 15, .inl (fun _ => 0)))]) hS0 A s _ _ := hw
  refine h_putF (v := .ref q23) (ty := .array .int) cx hw hnm 0 rfl rfl hinX4 tyX4 tyX4_ok nmX4 25 (by decide) lk77 rfl rfl (by decide +kernel) rfl rfl (Nat.le_of_ble_eq_true rfl) dX4_init_192 (fun H locs hw => ?_)
  have hw : HW (dC, dI) (fun _ => [(h0, .inr (4, [.int 0, .ref q1, .ref q2, .ref q3, .ref q4, .ref q5, .ref q6, .ref q7, .ref q8, .ref q9, .ref q10, .ref q11, .ref q12, .int 0, .ref q13, .ref q14, .ref q15, .ref q16, .ref q17, .ref q18, .ref q19, .ref q20, .ref q21, .int 0, .ref q22, .ref q23, .int 0])), (q1, .inl (cI, 12, .inl (fun _ => 0))), (q2, .inl (cI, 12, .inl (fun _ => 0))), (q3, .inl (cI, 12, .inl (fun _ => 0))), (q4, .inl (cZ, 12, .inl (fun _ => 0))), (q5, .inl (cI, 4, .inl (fun _ => 0))), (q6, .inl (cI, 7, .inl (fun _ => 0))), (q7, .inl (cI, 28, .inl (fun _ => 0))), (q8, .inl (cI, 2, .inl (fun _ => 0))), (q9, .inl (cI, 336, .inl (fun _ => 0))), (q10, .inl (cI, 336, .inl (fun _ => 0))), (q11, .inl (cI, 336, .inl (fun _ => 0))), (q12, .inl (cI, 336, .inl (fun _ => 0))), (q13, .inl (cI, 336, .inl (fun _ => 0))), (q14, .inl (cI, 336, .inl (fun _ => 0))), (q15, .inl (cI, 336, .inl (fun _ => 0))), (q16, .inl (cI, 336, .inl (fun _ => 0))), (q17, .inl (cI, 28, .inl (fun _ => 0))), (q18, .inl (cI, 28, .inl (fun _ => 0))), (q19, .inl (cI, 1344, .inl (fun _ => 0))), (q20, .inl (cI, 15, .inl (fun _ => 0))), (q21, .inl (cI, 15, .inl (fun _ => 0))), (q22, .inl (cI, 15, .inl (fun _ => 0))), (q23, .inl (cI, 15, .inl (fun _ => 0)))]) hS0 A s _ _ := hw
  exact key (fun k => [h0, q1, q2, q3, q4, q5, q6, q7, q8, q9, q10, q11, q12, q13, q14, q15, q16, q17, q18, q19, q20, q21, q22, q23].getD k 0) rfl _ _ _ hw hl
