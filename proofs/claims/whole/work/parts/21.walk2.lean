set_option maxHeartbeats 4000000 in
set_option maxRecDepth 100000 in
theorem c_X0_labelOver (l : Launch) (dC : Nat → ClassId) (dI : Nat → Nat → Nat) (cI cZ : ClassId) (q : Nat → Nat) (S : HSt) (a1 : Int32) (S9 : HSt) (h : f_X0_labelOver S a1 = some S9) : MV l yX0_labelOver hsX0_labelOver rmX0_labelOver (dC, dI) cI cZ (wC q cI) S [.ref (q 2), .int a1] S9 := by
  refine MV.ofW (cc := cX0_labelOver) (maxL := 4) (ret := none) (by decide +kernel) rfl (Nat.le_of_ble_eq_true rfl) ?_
  intro p e s m below meth c A cx hr hlk hw ls hl
  have hx := cx.1.1
  have hb := cx.1.2.1
  have hml := cx.1.2.2.1
  have hts := cx.1.2.2.2.2
  have hta : ∀ z ∈ hALL, z.before _ s = true := fun z h => hts z (List.mem_cons_of_mem _ h)
  have lk28 : (Cond.fieldLink RX0 28 (TX0 7).1 (TX0 7).2.1 (TX0 7).2.2.1).before _ s = true := hta _ wdF_X0_28
  have lk34 : (Cond.fieldLink RX0 34 (TX0 9).1 (TX0 9).2.1 (TX0 9).2.2.1).before _ s = true := hta _ wdF_X0_34
  have hiniX3 := hta _ wdN_RX3
  have hstX3_countOf := hta _ wdT_X3_countOf
  have hstX3_slipWith := hta _ wdT_X3_slipWith
  have hstX3_slot := hta _ wdT_X3_slot
  have hl : lv_has ls 4 [(0, .ref (q 2)), (1, .int a1)] := hl
  unfold f_X0_labelOver at h
  have kk2 : ∀ (n2 : Nat) (S : HSt) (x1 x2 : Int32), f_X0_labelOver_2 n2 S x1 x2 = some S9 → ∀ (H : Heap) (locs : List Loc) (ls : Array Slot), HW (dC, dI) (wC q cI) S A s H locs → lv_has ls 4 [(0, .ref (q 2)), (1, .int x1), (2, .int x2)] → W p l e rmX0_labelOver s m ([.ref (q 2), .int a1] : List Value).toArray below meth c H locs 0 0 (MQ below (QV (dC, dI) (wC q cI) S9 A) ([.ref (q 2), .int a1] : List Value).toArray s 0 0 A) (F0 m 2 ls []) := by
    intro n2
    induction n2 with
    | zero =>
      intro S x1 x2 h
      have h9 : (none : Option HSt) = some S9 := h
      cases h9
    | succ n2 ih2 =>
      intro S x1 x2 h H locs ls hw hl
      have h : f_X0_labelOver_2_s (f_X0_labelOver_2 n2) S x1 x2 = some S9 := h
      unfold f_X0_labelOver_2_s at h
      have kk45 : ∀ (S : HSt) (x1 x2 : Int32), f_X0_labelOver_45 (f_X0_labelOver_2 n2) S x1 x2 = some S9 → ∀ (H : Heap) (locs : List Loc) (ls : Array Slot), HW (dC, dI) (wC q cI) S A s H locs → lv_has ls 4 [(0, .ref (q 2)), (1, .int x1), (2, .int x2)] → W p l e rmX0_labelOver s m ([.ref (q 2), .int a1] : List Value).toArray below meth c H locs 0 0 (MQ below (QV (dC, dI) (wC q cI) S9 A) ([.ref (q 2), .int a1] : List Value).toArray s 0 0 A) (F0 m 45 ls []) := by
        intro S x1 x2 h H locs ls hw hl
        unfold f_X0_labelOver_45 at h
        refine lv_iinc (v := x2 + 1) (lv' := [(2, .int (x2 + 1)), (0, .ref (q 2)), (1, .int x1)]) hx hb dX0_labelOver_45 hl (k := 2) rfl rfl (by decide) rfl (fun ls hl => ?_)
        refine lv_goto (tgt := 2) hx hb dX0_labelOver_48 (by decide) ?_
        exact ih2 _ _ _ h _ _ _ hw (lv_sub hl [1, 2, 0] rfl)
      refine lv_iload_n hx hb dX0_labelOver_2 rfl (lv_at hl 2 rfl) ?_
      refine lv_iconst (v := 4) hx hb dX0_labelOver_3 (by decide) ?_
      refine lv_icmp_ge (tgt := 51) hx hb dX0_labelOver_4 (by decide) (fun c1 => ?_) (fun c1 => ?_)
      · have h := h_ifp c1 h
        exact h_vret cx hw hr hlk (Option.some.inj h) dX0_labelOver_51
      · have h := h_ifn c1 h
        refine lv_aload_n hx hb dX0_labelOver_7 rfl (lv_at hl 0 rfl) ?_
        refine h_get (v := .ref (q 14)) cx hw 2 (wC_p2 q cI S) rfl hinX0 7 (by decide) lk28 rfl dX0_labelOver_8 ?_
        refine lv_iload_n hx hb dX0_labelOver_11 rfl (lv_at hl 1 rfl) ?_
        refine lv_iload_n hx hb dX0_labelOver_12 rfl (lv_at hl 2 rfl) ?_
        obtain ⟨r2, e3, h⟩ := h_bd_ok h
        refine h_callN cx.1 (c_X3_slot l x1 x2 r2 e3) ⟨va_cnB 2 hts (hgA (hcW wdC_X3_slot)) rfl rfl rfl cx.2.2.1.2.1 hiniX3 pdX3_slot.2 ⟨Nat.le_of_ble_eq_true rfl, Nat.le_of_ble_eq_true rfl⟩, hstX3_slot, trivial⟩ rfl hl.1 rfl (Nat.le_of_ble_eq_true rfl) dX0_labelOver_13 ⟨Nat.zero_le _, Nat.zero_le _⟩ ?_
        obtain ⟨v4, e5, h⟩ := h_bd_ok h
        refine h_ald cx hw 14 (wC_p14 q cI S) e5 dX0_labelOver_16 ?_
        refine lv_istore_n (lv' := [(3, .int v4), (0, .ref (q 2)), (1, .int x1), (2, .int x2)]) hx hb dX0_labelOver_17 rfl hl (by decide) rfl (fun ls hl => ?_)
        refine lv_iload_n hx hb dX0_labelOver_18 rfl (lv_at hl 0 rfl) ?_
        refine lv_if_eq (tgt := 45) hx hb dX0_labelOver_19 (by decide) (fun c6 => ?_) (fun c6 => ?_)
        · have h := h_ifp c6 h
          exact kk45 _ _ _ h _ _ _ hw (lv_sub hl [1, 2, 3] rfl)
        · have h := h_ifn c6 h
          refine lv_aload_n hx hb dX0_labelOver_22 rfl (lv_at hl 1 rfl) ?_
          refine h_get (v := .ref (q 14)) cx hw 2 (wC_p2 q cI S) rfl hinX0 7 (by decide) lk28 rfl dX0_labelOver_23 ?_
          refine lv_iload_n hx hb dX0_labelOver_26 rfl (lv_at hl 2 rfl) ?_
          refine lv_iload_n hx hb dX0_labelOver_27 rfl (lv_at hl 3 rfl) ?_
          obtain ⟨r7, e8, h⟩ := h_bd_ok h
          refine h_callN cx.1 (c_X3_slot l x1 x2 r7 e8) ⟨va_cnB 2 hts (hgA (hcW wdC_X3_slot)) rfl rfl rfl cx.2.2.1.2.1 hiniX3 pdX3_slot.2 ⟨Nat.le_of_ble_eq_true rfl, Nat.le_of_ble_eq_true rfl⟩, hstX3_slot, trivial⟩ rfl hl.1 rfl (Nat.le_of_ble_eq_true rfl) dX0_labelOver_28 ⟨Nat.zero_le _, Nat.zero_le _⟩ ?_
          refine lv_aload_n hx hb dX0_labelOver_31 rfl (lv_at hl 1 rfl) ?_
          refine h_get (v := .ref (q 16)) cx hw 2 (wC_p2 q cI S) rfl hinX0 9 (by decide) lk34 rfl dX0_labelOver_32 ?_
          refine lv_iload_n hx hb dX0_labelOver_35 rfl (lv_at hl 3 rfl) ?_
          obtain ⟨v9, e10, h⟩ := h_bd_ok h
          refine h_ald cx hw 16 (wC_p16 q cI S) e10 dX0_labelOver_36 ?_
          refine lv_iload_n hx hb dX0_labelOver_37 rfl (lv_at hl 0 rfl) ?_
          obtain ⟨r11, e12, h⟩ := h_bd_ok h
          refine h_callN cx.1 (c_X3_countOf l v4 r11 e12) ⟨va_cnB 1 hts (hgA (hcW wdC_X3_countOf)) rfl rfl rfl cx.2.2.1.2.2.2.1 hiniX3 pdX3_countOf.2 ⟨Nat.le_of_ble_eq_true rfl, Nat.le_of_ble_eq_true rfl⟩, hstX3_countOf, trivial⟩ rfl hl.1 rfl (Nat.le_of_ble_eq_true rfl) dX0_labelOver_38 ⟨Nat.zero_le _, Nat.zero_le _⟩ ?_
          obtain ⟨r13, e14, h⟩ := h_bd_ok h
          refine h_callN cx.1 (c_X3_slipWith l v9 r11 r13 e14) ⟨va_cnB 2 hts (hgA (hcW wdC_X3_slipWith)) rfl rfl rfl cx.2.2.1.2.2.2.2.1 hiniX3 pdX3_slipWith.2 ⟨Nat.le_of_ble_eq_true rfl, Nat.le_of_ble_eq_true rfl⟩, hstX3_slipWith, trivial⟩ rfl hl.1 rfl (Nat.le_of_ble_eq_true rfl) dX0_labelOver_41 ⟨Nat.zero_le _, Nat.zero_le _⟩ ?_
          obtain ⟨S15, e16, h⟩ := h_bd_ok h
          refine h_ast cx hw 14 (wC_p14 q cI S) (wC_s14 q cI S) e16 dX0_labelOver_44 (fun H locs hw => ?_)
          exact kk45 _ _ _ h _ _ _ hw (lv_sub hl [1, 2, 3] rfl)
  refine lv_iconst (v := 0) hx hb dX0_labelOver_0 (by decide) ?_
  refine lv_istore_n (lv' := [(2, .int 0), (0, .ref (q 2)), (1, .int a1)]) hx hb dX0_labelOver_1 rfl hl (by decide) rfl (fun ls hl => ?_)
  exact kk2 h_fu _ _ _ h _ _ _ hw (lv_sub hl [1, 2, 0] rfl)
set_option maxHeartbeats 4000000 in
set_option maxRecDepth 100000 in
theorem c_X0_fillRow (l : Launch) (dC : Nat → ClassId) (dI : Nat → Nat → Nat) (cI cZ : ClassId) (q : Nat → Nat) (S : HSt) (a1 a2 a3 : Int32) (S9 : HSt) (h : f_X0_fillRow S a1 a2 a3 = some S9) : MV l yX0_fillRow hsX0_fillRow rmX0_fillRow (dC, dI) cI cZ (wC q cI) S [.ref (q 2), .int a1, .int a2, .int a3] S9 := by
  refine MV.ofW (cc := cX0_fillRow) (maxL := 6) (ret := none) (by decide +kernel) rfl (Nat.le_of_ble_eq_true rfl) ?_
  intro p e s m below meth c A cx hr hlk hw ls hl
  have hx := cx.1.1
  have hb := cx.1.2.1
  have hml := cx.1.2.2.1
  have hts := cx.1.2.2.2.2
  have hta : ∀ z ∈ hALL, z.before _ s = true := fun z h => hts z (List.mem_cons_of_mem _ h)
  have lk34 : (Cond.fieldLink RX0 34 (TX0 9).1 (TX0 9).2.1 (TX0 9).2.2.1).before _ s = true := hta _ wdF_X0_34
  have lk43 : (Cond.fieldLink RX0 43 (TX0 0).1 (TX0 0).2.1 (TX0 0).2.2.1).before _ s = true := hta _ wdF_X0_43
  have lk60 : (Cond.fieldLink RX0 60 (TX1 1).1 (TX1 1).2.1 (TX1 1).2.2.1).before _ s = true := hta _ wdF_X0_60
  have hl : lv_has ls 6 [(0, .ref (q 2)), (1, .int a1), (2, .int a2), (3, .int a3)] := hl
  unfold f_X0_fillRow at h
  have kk6 : ∀ (n6 : Nat) (S : HSt) (x1 x2 x3 x4 x5 : Int32), f_X0_fillRow_6 n6 S x1 x2 x3 x4 x5 = some S9 → ∀ (H : Heap) (locs : List Loc) (ls : Array Slot), HW (dC, dI) (wC q cI) S A s H locs → lv_has ls 6 [(0, .ref (q 2)), (1, .int x1), (2, .int x2), (3, .int x3), (4, .int x4), (5, .int x5)] → W p l e rmX0_fillRow s m ([.ref (q 2), .int a1, .int a2, .int a3] : List Value).toArray below meth c H locs 0 0 (MQ below (QV (dC, dI) (wC q cI) S9 A) ([.ref (q 2), .int a1, .int a2, .int a3] : List Value).toArray s 0 0 A) (F0 m 6 ls []) := by
    intro n6
    induction n6 with
    | zero =>
      intro S x1 x2 x3 x4 x5 h
      have h9 : (none : Option HSt) = some S9 := h
      cases h9
    | succ n6 ih6 =>
      intro S x1 x2 x3 x4 x5 h H locs ls hw hl
      have h : f_X0_fillRow_6_s (f_X0_fillRow_6 n6) S x1 x2 x3 x4 x5 = some S9 := h
      unfold f_X0_fillRow_6_s at h
      have kk52 : ∀ (n52 : Nat) (S : HSt) (x1 x2 x3 x4 x5 : Int32), f_X0_fillRow_52 n52 S x1 x2 x3 x4 x5 = some S9 → ∀ (H : Heap) (locs : List Loc) (ls : Array Slot), HW (dC, dI) (wC q cI) S A s H locs → lv_has ls 6 [(0, .ref (q 2)), (1, .int x1), (2, .int x2), (3, .int x3), (4, .int x4), (5, .int x5)] → W p l e rmX0_fillRow s m ([.ref (q 2), .int a1, .int a2, .int a3] : List Value).toArray below meth c H locs 0 0 (MQ below (QV (dC, dI) (wC q cI) S9 A) ([.ref (q 2), .int a1, .int a2, .int a3] : List Value).toArray s 0 0 A) (F0 m 52 ls []) := by
        intro n52
        induction n52 with
        | zero =>
          intro S x1 x2 x3 x4 x5 h
          have h9 : (none : Option HSt) = some S9 := h
          cases h9
        | succ n52 ih52 =>
          intro S x1 x2 x3 x4 x5 h H locs ls hw hl
          have h : f_X0_fillRow_52_s (f_X0_fillRow_52 n52) S x1 x2 x3 x4 x5 = some S9 := h
          unfold f_X0_fillRow_52_s at h
          have kk104 : ∀ (n104 : Nat) (S : HSt) (x1 x3 x5 : Int32), f_X0_fillRow_104 n104 S x1 x3 x5 = some S9 → ∀ (H : Heap) (locs : List Loc) (ls : Array Slot), HW (dC, dI) (wC q cI) S A s H locs → lv_has ls 6 [(0, .ref (q 2)), (1, .int x1), (3, .int x3), (5, .int x5)] → W p l e rmX0_fillRow s m ([.ref (q 2), .int a1, .int a2, .int a3] : List Value).toArray below meth c H locs 0 0 (MQ below (QV (dC, dI) (wC q cI) S9 A) ([.ref (q 2), .int a1, .int a2, .int a3] : List Value).toArray s 0 0 A) (F0 m 104 ls []) := by
            intro n104
            induction n104 with
            | zero =>
              intro S x1 x3 x5 h
              have h9 : (none : Option HSt) = some S9 := h
              cases h9
            | succ n104 ih104 =>
              intro S x1 x3 x5 h H locs ls hw hl
              have h : f_X0_fillRow_104_s (f_X0_fillRow_104 n104) S x1 x3 x5 = some S9 := h
              unfold f_X0_fillRow_104_s at h
              have kk130 : ∀ (S : HSt) (x1 x3 x5 : Int32), f_X0_fillRow_130 (f_X0_fillRow_104 n104) S x1 x3 x5 = some S9 → ∀ (H : Heap) (locs : List Loc) (ls : Array Slot), HW (dC, dI) (wC q cI) S A s H locs → lv_has ls 6 [(0, .ref (q 2)), (1, .int x1), (3, .int x3), (5, .int x5)] → W p l e rmX0_fillRow s m ([.ref (q 2), .int a1, .int a2, .int a3] : List Value).toArray below meth c H locs 0 0 (MQ below (QV (dC, dI) (wC q cI) S9 A) ([.ref (q 2), .int a1, .int a2, .int a3] : List Value).toArray s 0 0 A) (F0 m 130 ls []) := by
                intro S x1 x3 x5 h H locs ls hw hl
                unfold f_X0_fillRow_130 at h
                refine lv_iinc (v := x5 + 1) (lv' := [(5, .int (x5 + 1)), (0, .ref (q 2)), (1, .int x1), (3, .int x3)]) hx hb dX0_fillRow_130 hl (k := 3) rfl rfl (by decide) rfl (fun ls hl => ?_)
                refine lv_goto (tgt := 104) hx hb dX0_fillRow_133 (by decide) ?_
                exact ih104 _ _ _ _ h _ _ _ hw (lv_sub hl [1, 2, 3, 0] rfl)
              refine lv_iload hx hb dX0_fillRow_104 (lv_at hl 3 rfl) ?_
              refine lv_iload_n hx hb dX0_fillRow_106 rfl (lv_at hl 2 rfl) ?_
              refine lv_icmp_ge (tgt := 136) hx hb dX0_fillRow_107 (by decide) (fun c1 => ?_) (fun c1 => ?_)
              · have h := h_ifp c1 h
                exact h_vret cx hw hr hlk (Option.some.inj h) dX0_fillRow_136
              · have h := h_ifn c1 h
                refine lv_aload_n hx hb dX0_fillRow_110 rfl (lv_at hl 0 rfl) ?_
                refine h_get (v := .ref (q 1)) cx hw 2 (wC_p2 q cI S) rfl hinX0 0 (by decide) lk43 rfl dX0_fillRow_111 ?_
                refine h_get (v := .ref (q 5)) cx hw 1 (wC_p1 q cI S) rfl hinX1 1 (by decide) lk60 rfl dX0_fillRow_114 ?_
                refine lv_iload hx hb dX0_fillRow_117 (lv_at hl 3 rfl) ?_
                obtain ⟨v2, e3, h⟩ := h_bd_ok h
                refine h_ald cx hw 5 (wC_p5 q cI S) e3 dX0_fillRow_119 ?_
                refine lv_iload_n hx hb dX0_fillRow_120 rfl (lv_at hl 1 rfl) ?_
                refine lv_icmp_ne (tgt := 130) hx hb dX0_fillRow_121 (by decide) (fun c4 => ?_) (fun c4 => ?_)
                · have h := h_ifn c4 h
                  exact kk130 _ _ _ _ h _ _ _ hw (lv_sub hl [0, 1, 2, 3] rfl)
                · have h := h_ifp c4 h
                  refine lv_aload_n hx hb dX0_fillRow_124 rfl (lv_at hl 0 rfl) ?_
                  refine lv_iload hx hb dX0_fillRow_125 (lv_at hl 3 rfl) ?_
                  obtain ⟨S7, e6, h⟩ := h_bd_ok h
                  refine h_callV cx hw (c_X0_labelOver l dC dI cI cZ q S x5 S7 e6) (cwV 1 hts (hgA (hcV wdL_X0_147 wdI_X0_labelOver wdS_X0_labelOver wdN_RX0 wdC_X0_labelOver)) rfl rfl rfl pdX0_labelOver ⟨Nat.le_of_ble_eq_true rfl, Nat.le_of_ble_eq_true rfl⟩) 2 (wC_p2 q cI S) rfl rfl rfl hl.1 rfl (Nat.le_of_ble_eq_true rfl) dX0_fillRow_127 ⟨Nat.zero_le _, Nat.zero_le _⟩ (fun H locs hw => ?_)
                  exact kk130 _ _ _ _ h _ _ _ hw (lv_sub hl [0, 1, 2, 3] rfl)
          have kk95 : ∀ (S : HSt) (x1 x2 x3 x4 x5 : Int32), f_X0_fillRow_95 (f_X0_fillRow_52 n52) S x1 x2 x3 x4 x5 = some S9 → ∀ (H : Heap) (locs : List Loc) (ls : Array Slot), HW (dC, dI) (wC q cI) S A s H locs → lv_has ls 6 [(0, .ref (q 2)), (1, .int x1), (2, .int x2), (3, .int x3), (4, .int x4), (5, .int x5)] → W p l e rmX0_fillRow s m ([.ref (q 2), .int a1, .int a2, .int a3] : List Value).toArray below meth c H locs 0 0 (MQ below (QV (dC, dI) (wC q cI) S9 A) ([.ref (q 2), .int a1, .int a2, .int a3] : List Value).toArray s 0 0 A) (F0 m 95 ls []) := by
            intro S x1 x2 x3 x4 x5 h H locs ls hw hl
            unfold f_X0_fillRow_95 at h
            refine lv_iinc (v := x5 + 1) (lv' := [(5, .int (x5 + 1)), (0, .ref (q 2)), (1, .int x1), (2, .int x2), (3, .int x3), (4, .int x4)]) hx hb dX0_fillRow_95 hl (k := 5) rfl rfl (by decide) rfl (fun ls hl => ?_)
            refine lv_goto (tgt := 52) hx hb dX0_fillRow_98 (by decide) ?_
            exact ih52 _ _ _ _ _ _ h _ _ _ hw (lv_sub hl [1, 2, 3, 4, 5, 0] rfl)
          refine lv_iload hx hb dX0_fillRow_52 (lv_at hl 5 rfl) ?_
          refine lv_iconst (v := 4) hx hb dX0_fillRow_54 (by decide) ?_
          refine lv_icmp_ge (tgt := 101) hx hb dX0_fillRow_55 (by decide) (fun c1 => ?_) (fun c1 => ?_)
          · have h := h_ifp c1 h
            refine lv_iload_n hx hb dX0_fillRow_101 rfl (lv_at hl 2 rfl) ?_
            refine lv_istore (lv' := [(5, .int x2), (0, .ref (q 2)), (1, .int x1), (2, .int x2), (3, .int x3), (4, .int x4)]) hx hb dX0_fillRow_102 hl (by decide) rfl (fun ls hl => ?_)
            exact kk104 h_fu _ _ _ _ h _ _ _ hw (lv_sub hl [1, 2, 4, 0] rfl)
          · have h := h_ifn c1 h
            refine lv_aload_n hx hb dX0_fillRow_58 rfl (lv_at hl 0 rfl) ?_
            refine h_get (v := .ref (q 16)) cx hw 2 (wC_p2 q cI S) rfl hinX0 9 (by decide) lk34 rfl dX0_fillRow_59 ?_
            refine lv_iload hx hb dX0_fillRow_62 (lv_at hl 5 rfl) ?_
            obtain ⟨v2, e3, h⟩ := h_bd_ok h
            refine h_ald cx hw 16 (wC_p16 q cI S) e3 dX0_fillRow_64 ?_
            refine lv_if_ne (tgt := 95) hx hb dX0_fillRow_65 (by decide) (fun c4 => ?_) (fun c4 => ?_)
            · have h := h_ifn c4 h
              exact kk95 _ _ _ _ _ _ h _ _ _ hw (lv_sub hl [0, 1, 2, 3, 4, 5] rfl)
            · have h := h_ifp c4 h
              refine lv_aload_n hx hb dX0_fillRow_68 rfl (lv_at hl 0 rfl) ?_
              refine h_get (v := .ref (q 16)) cx hw 2 (wC_p2 q cI S) rfl hinX0 9 (by decide) lk34 rfl dX0_fillRow_69 ?_
              refine lv_iload hx hb dX0_fillRow_72 (lv_at hl 5 rfl) ?_
              refine lv_iload hx hb dX0_fillRow_74 (lv_at hl 4 rfl) ?_
              obtain ⟨r5, e6, h⟩ := h_bd_ok h
              refine h_callS cx.1 (c_X0_leastFree l x4 r5 e6) (va_cwS 1 hts (hgA (hcS wdL_X0_144 wdT_X0_leastFree wdN_RX0 wdC_X0_leastFree)) rfl rfl rfl pdX0_leastFree.2 ⟨Nat.le_of_ble_eq_true rfl, Nat.le_of_ble_eq_true rfl⟩) rfl hl.1 rfl (Nat.le_of_ble_eq_true rfl) dX0_fillRow_76 ⟨Nat.zero_le _, Nat.zero_le _⟩ ?_
              obtain ⟨S7, e8, h⟩ := h_bd_ok h
              refine h_ast cx hw 16 (wC_p16 q cI S) (wC_s16 q cI S) e8 dX0_fillRow_79 (fun H locs hw => ?_)
              refine lv_iload hx hb dX0_fillRow_80 (lv_at hl 4 rfl) ?_
              refine lv_aload_n hx hb dX0_fillRow_82 rfl (lv_at hl 0 rfl) ?_
              refine h_get (v := .ref (q 16)) cx hw 2 (wC_p2 q cI S7) rfl hinX0 9 (by decide) lk34 rfl dX0_fillRow_83 ?_
              refine lv_iload hx hb dX0_fillRow_86 (lv_at hl 5 rfl) ?_
              obtain ⟨v9, e10, h⟩ := h_bd_ok h
              refine h_ald cx hw 16 (wC_p16 q cI S7) e10 dX0_fillRow_88 ?_
              obtain ⟨r11, e12, h⟩ := h_bd_ok h
              refine h_callS cx.1 (c_X0_bitOf l v9 r11 e12) (va_cwS 1 hts (hgA (hcS wdL_X0_141 wdT_X0_bitOf wdN_RX0 wdC_X0_bitOf)) rfl rfl rfl pdX0_bitOf.2 ⟨Nat.le_of_ble_eq_true rfl, Nat.le_of_ble_eq_true rfl⟩) rfl hl.1 rfl (Nat.le_of_ble_eq_true rfl) dX0_fillRow_89 ⟨Nat.zero_le _, Nat.zero_le _⟩ ?_
              refine lv_ior hx hb dX0_fillRow_92 ?_
              refine lv_istore (lv' := [(4, .int (x4 ||| r11)), (0, .ref (q 2)), (1, .int x1), (2, .int x2), (3, .int x3), (5, .int x5)]) hx hb dX0_fillRow_93 hl (by decide) rfl (fun ls hl => ?_)
              exact kk95 _ _ _ _ _ _ h _ _ _ hw (lv_sub hl [1, 2, 3, 4, 0, 5] rfl)
      refine lv_iload hx hb dX0_fillRow_6 (lv_at hl 5 rfl) ?_
      refine lv_iconst (v := 4) hx hb dX0_fillRow_8 (by decide) ?_
      refine lv_icmp_ge (tgt := 49) hx hb dX0_fillRow_9 (by decide) (fun c1 => ?_) (fun c1 => ?_)
      · have h := h_ifp c1 h
        refine lv_iconst (v := 0) hx hb dX0_fillRow_49 (by decide) ?_
        refine lv_istore (lv' := [(5, .int 0), (0, .ref (q 2)), (1, .int x1), (2, .int x2), (3, .int x3), (4, .int x4)]) hx hb dX0_fillRow_50 hl (by decide) rfl (fun ls hl => ?_)
        exact kk52 h_fu _ _ _ _ _ _ h _ _ _ hw (lv_sub hl [1, 2, 3, 4, 5, 0] rfl)
      · have h := h_ifn c1 h
        refine lv_aload_n hx hb dX0_fillRow_12 rfl (lv_at hl 0 rfl) ?_
        refine h_get (v := .ref (q 16)) cx hw 2 (wC_p2 q cI S) rfl hinX0 9 (by decide) lk34 rfl dX0_fillRow_13 ?_
        refine lv_iload hx hb dX0_fillRow_16 (lv_at hl 5 rfl) ?_
        refine lv_aload_n hx hb dX0_fillRow_18 rfl (lv_at hl 0 rfl) ?_
        refine lv_iload_n hx hb dX0_fillRow_19 rfl (lv_at hl 1 rfl) ?_
        refine lv_iload hx hb dX0_fillRow_20 (lv_at hl 5 rfl) ?_
        refine lv_iload_n hx hb dX0_fillRow_22 rfl (lv_at hl 2 rfl) ?_
        refine lv_iload_n hx hb dX0_fillRow_23 rfl (lv_at hl 3 rfl) ?_
        obtain ⟨r2, e3, h⟩ := h_bd_ok h
        refine h_callI cx hw (c_X0_labelAhead l dC dI cI cZ q S x1 x5 x2 x3 r2 e3) (cwV 4 hts (hgA (hcV wdL_X0_137 wdI_X0_labelAhead wdS_X0_labelAhead wdN_RX0 wdC_X0_labelAhead)) rfl rfl rfl pdX0_labelAhead ⟨Nat.le_of_ble_eq_true rfl, Nat.le_of_ble_eq_true rfl⟩) 2 (wC_p2 q cI S) rfl rfl rfl hl.1 rfl (Nat.le_of_ble_eq_true rfl) dX0_fillRow_24 ⟨Nat.zero_le _, Nat.zero_le _⟩ (fun H locs hw => ?_)
        obtain ⟨S4, e5, h⟩ := h_bd_ok h
        refine h_ast cx hw 16 (wC_p16 q cI S) (wC_s16 q cI S) e5 dX0_fillRow_27 (fun H locs hw => ?_)
        refine lv_iload hx hb dX0_fillRow_28 (lv_at hl 4 rfl) ?_
        refine lv_aload_n hx hb dX0_fillRow_30 rfl (lv_at hl 0 rfl) ?_
        refine h_get (v := .ref (q 16)) cx hw 2 (wC_p2 q cI S4) rfl hinX0 9 (by decide) lk34 rfl dX0_fillRow_31 ?_
        refine lv_iload hx hb dX0_fillRow_34 (lv_at hl 5 rfl) ?_
        obtain ⟨v6, e7, h⟩ := h_bd_ok h
        refine h_ald cx hw 16 (wC_p16 q cI S4) e7 dX0_fillRow_36 ?_
        obtain ⟨r8, e9, h⟩ := h_bd_ok h
        refine h_callS cx.1 (c_X0_bitOf l v6 r8 e9) (va_cwS 1 hts (hgA (hcS wdL_X0_141 wdT_X0_bitOf wdN_RX0 wdC_X0_bitOf)) rfl rfl rfl pdX0_bitOf.2 ⟨Nat.le_of_ble_eq_true rfl, Nat.le_of_ble_eq_true rfl⟩) rfl hl.1 rfl (Nat.le_of_ble_eq_true rfl) dX0_fillRow_37 ⟨Nat.zero_le _, Nat.zero_le _⟩ ?_
        refine lv_ior hx hb dX0_fillRow_40 ?_
        refine lv_istore (lv' := [(4, .int (x4 ||| r8)), (0, .ref (q 2)), (1, .int x1), (2, .int x2), (3, .int x3), (5, .int x5)]) hx hb dX0_fillRow_41 hl (by decide) rfl (fun ls hl => ?_)
        refine lv_iinc (v := x5 + 1) (lv' := [(5, .int (x5 + 1)), (4, .int (x4 ||| r8)), (0, .ref (q 2)), (1, .int x1), (2, .int x2), (3, .int x3)]) hx hb dX0_fillRow_43 hl (k := 5) rfl rfl (by decide) rfl (fun ls hl => ?_)
        refine lv_goto (tgt := 6) hx hb dX0_fillRow_46 (by decide) ?_
        exact ih6 _ _ _ _ _ _ h _ _ _ hw (lv_sub hl [2, 3, 4, 5, 1, 0] rfl)
  refine lv_iconst (v := 0) hx hb dX0_fillRow_0 (by decide) ?_
  refine lv_istore (lv' := [(4, .int 0), (0, .ref (q 2)), (1, .int a1), (2, .int a2), (3, .int a3)]) hx hb dX0_fillRow_1 hl (by decide) rfl (fun ls hl => ?_)
  refine lv_iconst (v := 0) hx hb dX0_fillRow_3 (by decide) ?_
  refine lv_istore (lv' := [(5, .int 0), (4, .int 0), (0, .ref (q 2)), (1, .int a1), (2, .int a2), (3, .int a3)]) hx hb dX0_fillRow_4 hl (by decide) rfl (fun ls hl => ?_)
  exact kk6 h_fu _ _ _ _ _ _ h _ _ _ hw (lv_sub hl [2, 3, 4, 5, 1, 0] rfl)
set_option maxHeartbeats 4000000 in
set_option maxRecDepth 100000 in
theorem c_X0_fillRows (l : Launch) (dC : Nat → ClassId) (dI : Nat → Nat → Nat) (cI cZ : ClassId) (q : Nat → Nat) (S : HSt) (a1 : Int32) (S9 : HSt) (h : f_X0_fillRows S a1 = some S9) : MV l yX0_fillRows hsX0_fillRows rmX0_fillRows (dC, dI) cI cZ (wC q cI) S [.ref (q 2), .int a1] S9 := by
  refine MV.ofW (cc := cX0_fillRows) (maxL := 3) (ret := none) (by decide +kernel) rfl (Nat.le_of_ble_eq_true rfl) ?_
  intro p e s m below meth c A cx hr hlk hw ls hl
  have hx := cx.1.1
  have hb := cx.1.2.1
  have hml := cx.1.2.2.1
  have hts := cx.1.2.2.2.2
  have hta : ∀ z ∈ hALL, z.before _ s = true := fun z h => hts z (List.mem_cons_of_mem _ h)
  have lk43 : (Cond.fieldLink RX0 43 (TX0 0).1 (TX0 0).2.1 (TX0 0).2.2.1).before _ s = true := hta _ wdF_X0_43
  have lk51 : (Cond.fieldLink RX0 51 (TX1 0).1 (TX1 0).2.1 (TX1 0).2.2.1).before _ s = true := hta _ wdF_X0_51
  have lk60 : (Cond.fieldLink RX0 60 (TX1 1).1 (TX1 1).2.1 (TX1 1).2.2.1).before _ s = true := hta _ wdF_X0_60
  have hl : lv_has ls 3 [(0, .ref (q 2)), (1, .int a1)] := hl
  unfold f_X0_fillRows at h
  have kk27 : ∀ (n27 : Nat) (S : HSt) (x1 x2 : Int32), f_X0_fillRows_27 n27 S x1 x2 = some S9 → ∀ (H : Heap) (locs : List Loc) (ls : Array Slot), HW (dC, dI) (wC q cI) S A s H locs → lv_has ls 3 [(0, .ref (q 2)), (1, .int x1), (2, .int x2)] → W p l e rmX0_fillRows s m ([.ref (q 2), .int a1] : List Value).toArray below meth c H locs 0 0 (MQ below (QV (dC, dI) (wC q cI) S9 A) ([.ref (q 2), .int a1] : List Value).toArray s 0 0 A) (F0 m 27 ls []) := by
    intro n27
    induction n27 with
    | zero =>
      intro S x1 x2 h
      have h9 : (none : Option HSt) = some S9 := h
      cases h9
    | succ n27 ih27 =>
      intro S x1 x2 h H locs ls hw hl
      have h : f_X0_fillRows_27_s (f_X0_fillRows_27 n27) S x1 x2 = some S9 := h
      unfold f_X0_fillRows_27_s at h
      have kk62 : ∀ (S : HSt) (x1 x2 : Int32), f_X0_fillRows_62 (f_X0_fillRows_27 n27) S x1 x2 = some S9 → ∀ (H : Heap) (locs : List Loc) (ls : Array Slot), HW (dC, dI) (wC q cI) S A s H locs → lv_has ls 3 [(0, .ref (q 2)), (1, .int x1), (2, .int x2)] → W p l e rmX0_fillRows s m ([.ref (q 2), .int a1] : List Value).toArray below meth c H locs 0 0 (MQ below (QV (dC, dI) (wC q cI) S9 A) ([.ref (q 2), .int a1] : List Value).toArray s 0 0 A) (F0 m 62 ls []) := by
        intro S x1 x2 h H locs ls hw hl
        unfold f_X0_fillRows_62 at h
        refine lv_iinc (v := x2 + 1) (lv' := [(2, .int (x2 + 1)), (0, .ref (q 2)), (1, .int x1)]) hx hb dX0_fillRows_62 hl (k := 2) rfl rfl (by decide) rfl (fun ls hl => ?_)
        refine lv_goto (tgt := 27) hx hb dX0_fillRows_65 (by decide) ?_
        exact ih27 _ _ _ h _ _ _ hw (lv_sub hl [1, 2, 0] rfl)
      refine lv_iload_n hx hb dX0_fillRows_27 rfl (lv_at hl 2 rfl) ?_
      refine lv_iconst (v := 2) hx hb dX0_fillRows_28 (by decide) ?_
      refine lv_aload_n hx hb dX0_fillRows_29 rfl (lv_at hl 0 rfl) ?_
      refine h_get (v := .ref (q 1)) cx hw 2 (wC_p2 q cI S) rfl hinX0 0 (by decide) lk43 rfl dX0_fillRows_30 ?_
      refine h_get (v := .int (S.1 0)) cx hw 1 (wC_p1 q cI S) rfl hinX1 0 (by decide) lk51 rfl dX0_fillRows_33 ?_
      refine lv_imul hx hb dX0_fillRows_36 ?_
      refine lv_icmp_ge (tgt := 68) hx hb dX0_fillRows_37 (by decide) (fun c1 => ?_) (fun c1 => ?_)
      · have h := h_ifp c1 h
        exact h_vret cx hw hr hlk (Option.some.inj h) dX0_fillRows_68
      · have h := h_ifn c1 h
        refine lv_aload_n hx hb dX0_fillRows_40 rfl (lv_at hl 0 rfl) ?_
        refine h_get (v := .ref (q 1)) cx hw 2 (wC_p2 q cI S) rfl hinX0 0 (by decide) lk43 rfl dX0_fillRows_41 ?_
        refine h_get (v := .ref (q 5)) cx hw 1 (wC_p1 q cI S) rfl hinX1 1 (by decide) lk60 rfl dX0_fillRows_44 ?_
        refine lv_iload_n hx hb dX0_fillRows_47 rfl (lv_at hl 2 rfl) ?_
        obtain ⟨v2, e3, h⟩ := h_bd_ok h
        refine h_ald cx hw 5 (wC_p5 q cI S) e3 dX0_fillRows_48 ?_
        refine lv_iload_n hx hb dX0_fillRows_49 rfl (lv_at hl 1 rfl) ?_
        refine lv_icmp_ne (tgt := 62) hx hb dX0_fillRows_50 (by decide) (fun c4 => ?_) (fun c4 => ?_)
        · have h := h_ifn c4 h
          exact kk62 _ _ _ h _ _ _ hw (lv_sub hl [0, 1, 2] rfl)
        · have h := h_ifp c4 h
          refine lv_aload_n hx hb dX0_fillRows_53 rfl (lv_at hl 0 rfl) ?_
          refine lv_iload_n hx hb dX0_fillRows_54 rfl (lv_at hl 1 rfl) ?_
          refine lv_iload_n hx hb dX0_fillRows_55 rfl (lv_at hl 2 rfl) ?_
          refine lv_iload_n hx hb dX0_fillRows_56 rfl (lv_at hl 2 rfl) ?_
          refine lv_iconst (v := 1) hx hb dX0_fillRows_57 (by decide) ?_
          refine lv_iadd hx hb dX0_fillRows_58 ?_
          obtain ⟨S7, e6, h⟩ := h_bd_ok h
          refine h_callV cx hw (c_X0_fillRow l dC dI cI cZ q S x1 x2 (x2 + 1) S7 e6) (cwV 3 hts (hgA (hcV wdL_X0_133 wdI_X0_fillRow wdS_X0_fillRow wdN_RX0 wdC_X0_fillRow)) rfl rfl rfl pdX0_fillRow ⟨Nat.le_of_ble_eq_true rfl, Nat.le_of_ble_eq_true rfl⟩) 2 (wC_p2 q cI S) rfl rfl rfl hl.1 rfl (Nat.le_of_ble_eq_true rfl) dX0_fillRows_59 ⟨Nat.zero_le _, Nat.zero_le _⟩ (fun H locs hw => ?_)
          exact kk62 _ _ _ h _ _ _ hw (lv_sub hl [0, 1, 2] rfl)
  refine lv_aload_n hx hb dX0_fillRows_0 rfl (lv_at hl 0 rfl) ?_
  refine lv_iload_n hx hb dX0_fillRows_1 rfl (lv_at hl 1 rfl) ?_
  refine lv_iconst (v := 2) hx hb dX0_fillRows_2 (by decide) ?_
  obtain ⟨r1, e2, h⟩ := h_bd_ok h
  refine h_callI cx hw (c_X0_has l dC dI cI cZ q S a1 2 r1 e2) (cwV 2 hts (hgA (hcV wdL_X0_69 wdI_X0_has wdS_X0_has wdN_RX0 wdC_X0_has)) rfl rfl rfl pdX0_has ⟨Nat.le_of_ble_eq_true rfl, Nat.le_of_ble_eq_true rfl⟩) 2 (wC_p2 q cI S) rfl rfl rfl hl.1 rfl (Nat.le_of_ble_eq_true rfl) dX0_fillRows_3 ⟨Nat.zero_le _, Nat.zero_le _⟩ (fun H locs hw => ?_)
  refine lv_if_ne (tgt := 25) hx hb dX0_fillRows_6 (by decide) (fun c3 => ?_) (fun c3 => ?_)
  · have h := h_ifn c3 h
    refine lv_iconst (v := 0) hx hb dX0_fillRows_25 (by decide) ?_
    refine lv_istore_n (lv' := [(2, .int 0), (0, .ref (q 2)), (1, .int a1)]) hx hb dX0_fillRows_26 rfl hl (by decide) rfl (fun ls hl => ?_)
    exact kk27 h_fu _ _ _ h _ _ _ hw (lv_sub hl [1, 2, 0] rfl)
  · have h := h_ifp c3 h
    refine lv_aload_n hx hb dX0_fillRows_9 rfl (lv_at hl 0 rfl) ?_
    refine lv_iload_n hx hb dX0_fillRows_10 rfl (lv_at hl 1 rfl) ?_
    refine lv_iconst (v := 0) hx hb dX0_fillRows_11 (by decide) ?_
    refine lv_iconst (v := 2) hx hb dX0_fillRows_12 (by decide) ?_
    refine lv_aload_n hx hb dX0_fillRows_13 rfl (lv_at hl 0 rfl) ?_
    refine h_get (v := .ref (q 1)) cx hw 2 (wC_p2 q cI S) rfl hinX0 0 (by decide) lk43 rfl dX0_fillRows_14 ?_
    refine h_get (v := .int (S.1 0)) cx hw 1 (wC_p1 q cI S) rfl hinX1 0 (by decide) lk51 rfl dX0_fillRows_17 ?_
    refine lv_imul hx hb dX0_fillRows_20 ?_
    obtain ⟨S6, e5, h⟩ := h_bd_ok h
    refine h_callV cx hw (c_X0_fillRow l dC dI cI cZ q S a1 0 (2 * (S.1 0)) S6 e5) (cwV 3 hts (hgA (hcV wdL_X0_133 wdI_X0_fillRow wdS_X0_fillRow wdN_RX0 wdC_X0_fillRow)) rfl rfl rfl pdX0_fillRow ⟨Nat.le_of_ble_eq_true rfl, Nat.le_of_ble_eq_true rfl⟩) 2 (wC_p2 q cI S) rfl rfl rfl hl.1 rfl (Nat.le_of_ble_eq_true rfl) dX0_fillRows_21 ⟨Nat.zero_le _, Nat.zero_le _⟩ (fun H locs hw => ?_)
    exact h_vret cx hw hr hlk (Option.some.inj h) dX0_fillRows_24
set_option maxHeartbeats 4000000 in
set_option maxRecDepth 100000 in
theorem c_X0_takeFresh (l : Launch) (dC : Nat → ClassId) (dI : Nat → Nat → Nat) (cI cZ : ClassId) (q : Nat → Nat) (S : HSt) (r : Int32) (S9 : HSt) (h : f_X0_takeFresh S = some (r, S9)) : MI l yX0_takeFresh hsX0_takeFresh rmX0_takeFresh (dC, dI) cI cZ (wC q cI) S [.ref (q 2)] r S9 := by
  refine MI.ofW (cc := cX0_takeFresh) (maxL := 3) (ret := (some .boolean)) (by decide +kernel) rfl (Nat.le_of_ble_eq_true rfl) ?_
  intro p e s m below meth c A cx hr hlk hw ls hl
  have hx := cx.1.1
  have hb := cx.1.2.1
  have hml := cx.1.2.2.1
  have hts := cx.1.2.2.2.2
  have hta : ∀ z ∈ hALL, z.before _ s = true := fun z h => hts z (List.mem_cons_of_mem _ h)
  have lk18 : (Cond.fieldLink RX0 18 (TX0 4).1 (TX0 4).2.1 (TX0 4).2.2.1).before _ s = true := hta _ wdF_X0_18
  have lk28 : (Cond.fieldLink RX0 28 (TX0 7).1 (TX0 7).2.1 (TX0 7).2.2.1).before _ s = true := hta _ wdF_X0_28
  have lk43 : (Cond.fieldLink RX0 43 (TX0 0).1 (TX0 0).2.1 (TX0 0).2.2.1).before _ s = true := hta _ wdF_X0_43
  have lk51 : (Cond.fieldLink RX0 51 (TX1 0).1 (TX1 0).2.1 (TX1 0).2.2.1).before _ s = true := hta _ wdF_X0_51
  have hiniX3 := hta _ wdN_RX3
  have hstX3_slot := hta _ wdT_X3_slot
  have hl : lv_has ls 3 [(0, .ref (q 2))] := hl
  unfold f_X0_takeFresh at h
  have kk4 : ∀ (n4 : Nat) (S : HSt) (x1 x2 : Int32), f_X0_takeFresh_4 n4 S x1 x2 = some (r, S9) → ∀ (H : Heap) (locs : List Loc) (ls : Array Slot), HW (dC, dI) (wC q cI) S A s H locs → lv_has ls 3 [(0, .ref (q 2)), (1, .int x1), (2, .int x2)] → W p l e rmX0_takeFresh s m ([.ref (q 2)] : List Value).toArray below meth c H locs 0 0 (MQ below (QI (dC, dI) (wC q cI) r S9 A) ([.ref (q 2)] : List Value).toArray s 0 0 A) (F0 m 4 ls []) := by
    intro n4
    induction n4 with
    | zero =>
      intro S x1 x2 h
      have h9 : (none : Option (Int32 × HSt)) = some (r, S9) := h
      cases h9
    | succ n4 ih4 =>
      intro S x1 x2 h H locs ls hw hl
      have h : f_X0_takeFresh_4_s (f_X0_takeFresh_4 n4) S x1 x2 = some (r, S9) := h
      unfold f_X0_takeFresh_4_s at h
      have kk45 : ∀ (S : HSt) (x2 t0 : Int32), f_X0_takeFresh_45 (f_X0_takeFresh_4 n4) S x2 t0 = some (r, S9) → ∀ (H : Heap) (locs : List Loc) (ls : Array Slot), HW (dC, dI) (wC q cI) S A s H locs → lv_has ls 3 [(0, .ref (q 2)), (2, .int x2)] → W p l e rmX0_takeFresh s m ([.ref (q 2)] : List Value).toArray below meth c H locs 0 0 (MQ below (QI (dC, dI) (wC q cI) r S9 A) ([.ref (q 2)] : List Value).toArray s 0 0 A) (F0 m 45 ls [.int t0]) := by
        intro S x2 t0 h H locs ls hw hl
        unfold f_X0_takeFresh_45 at h
        refine lv_istore_n (lv' := [(1, .int t0), (0, .ref (q 2)), (2, .int x2)]) hx hb dX0_takeFresh_45 rfl hl (by decide) rfl (fun ls hl => ?_)
        refine lv_aload_n hx hb dX0_takeFresh_46 rfl (lv_at hl 1 rfl) ?_
        refine h_get (v := .ref (q 11)) cx hw 2 (wC_p2 q cI S) rfl hinX0 4 (by decide) lk18 rfl dX0_takeFresh_47 ?_
        refine lv_iload_n hx hb dX0_takeFresh_50 rfl (lv_at hl 2 rfl) ?_
        refine lv_aload_n hx hb dX0_takeFresh_51 rfl (lv_at hl 1 rfl) ?_
        refine h_get (v := .ref (q 14)) cx hw 2 (wC_p2 q cI S) rfl hinX0 7 (by decide) lk28 rfl dX0_takeFresh_52 ?_
        refine lv_iload_n hx hb dX0_takeFresh_55 rfl (lv_at hl 2 rfl) ?_
        obtain ⟨v1, e2, h⟩ := h_bd_ok h
        refine h_ald cx hw 14 (wC_p14 q cI S) e2 dX0_takeFresh_56 ?_
        obtain ⟨S3, e4, h⟩ := h_bd_ok h
        refine h_ast cx hw 11 (wC_p11 q cI S) (wC_s11 q cI S) e4 dX0_takeFresh_57 (fun H locs hw => ?_)
        refine lv_iinc (v := x2 + 1) (lv' := [(2, .int (x2 + 1)), (1, .int t0), (0, .ref (q 2))]) hx hb dX0_takeFresh_58 hl (k := 2) rfl rfl (by decide) rfl (fun ls hl => ?_)
        refine lv_goto (tgt := 4) hx hb dX0_takeFresh_61 (by decide) ?_
        exact ih4 _ _ _ h _ _ _ hw (lv_sub hl [2, 1, 0] rfl)
      have kk40 : ∀ (S : HSt) (x2 : Int32), f_X0_takeFresh_40 (f_X0_takeFresh_4 n4) S x2 = some (r, S9) → ∀ (H : Heap) (locs : List Loc) (ls : Array Slot), HW (dC, dI) (wC q cI) S A s H locs → lv_has ls 3 [(0, .ref (q 2)), (2, .int x2)] → W p l e rmX0_takeFresh s m ([.ref (q 2)] : List Value).toArray below meth c H locs 0 0 (MQ below (QI (dC, dI) (wC q cI) r S9 A) ([.ref (q 2)] : List Value).toArray s 0 0 A) (F0 m 40 ls []) := by
        intro S x2 h H locs ls hw hl
        unfold f_X0_takeFresh_40 at h
        refine lv_iconst (v := 1) hx hb dX0_takeFresh_40 (by decide) ?_
        refine lv_goto (tgt := 45) hx hb dX0_takeFresh_41 (by decide) ?_
        exact kk45 _ _ _ h _ _ _ hw (lv_sub hl [0, 1] rfl)
      refine lv_iload_n hx hb dX0_takeFresh_4 rfl (lv_at hl 2 rfl) ?_
      refine lv_iconst (v := 2) hx hb dX0_takeFresh_5 (by decide) ?_
      refine lv_aload_n hx hb dX0_takeFresh_6 rfl (lv_at hl 0 rfl) ?_
      refine h_get (v := .ref (q 1)) cx hw 2 (wC_p2 q cI S) rfl hinX0 0 (by decide) lk43 rfl dX0_takeFresh_7 ?_
      refine h_get (v := .int (S.1 0)) cx hw 1 (wC_p1 q cI S) rfl hinX1 0 (by decide) lk51 rfl dX0_takeFresh_10 ?_
      refine lv_imul hx hb dX0_takeFresh_13 ?_
      refine lv_iconst (v := 0) hx hb dX0_takeFresh_14 (by decide) ?_
      obtain ⟨r1, e2, h⟩ := h_bd_ok h
      refine h_callN cx.1 (c_X3_slot l (2 * (S.1 0)) 0 r1 e2) ⟨va_cnB 2 hts (hgA (hcW wdC_X3_slot)) rfl rfl rfl cx.2.2.1.2.1 hiniX3 pdX3_slot.2 ⟨Nat.le_of_ble_eq_true rfl, Nat.le_of_ble_eq_true rfl⟩, hstX3_slot, trivial⟩ rfl hl.1 rfl (Nat.le_of_ble_eq_true rfl) dX0_takeFresh_15 ⟨Nat.zero_le _, Nat.zero_le _⟩ ?_
      refine lv_icmp_ge (tgt := 64) hx hb dX0_takeFresh_18 (by decide) (fun c3 => ?_) (fun c3 => ?_)
      · have h := h_ifp c3 h
        refine lv_iload_n hx hb dX0_takeFresh_64 rfl (lv_at hl 1 rfl) ?_
        obtain ⟨hb9, h⟩ := h_b_ok h
        exact h_iret cx hw hr hlk (h_nb hb9) (congrArg Prod.fst (Option.some.inj h)) (congrArg Prod.snd (Option.some.inj h)) dX0_takeFresh_65
      · have h := h_ifn c3 h
        refine lv_iload_n hx hb dX0_takeFresh_21 rfl (lv_at hl 1 rfl) ?_
        refine lv_if_ne (tgt := 40) hx hb dX0_takeFresh_22 (by decide) (fun c4 => ?_) (fun c4 => ?_)
        · have h := h_ifn c4 h
          exact kk40 _ _ h _ _ _ hw (lv_sub hl [0, 2] rfl)
        · have h := h_ifp c4 h
          refine lv_aload_n hx hb dX0_takeFresh_25 rfl (lv_at hl 0 rfl) ?_
          refine h_get (v := .ref (q 11)) cx hw 2 (wC_p2 q cI S) rfl hinX0 4 (by decide) lk18 rfl dX0_takeFresh_26 ?_
          refine lv_iload_n hx hb dX0_takeFresh_29 rfl (lv_at hl 2 rfl) ?_
          obtain ⟨v5, e6, h⟩ := h_bd_ok h
          refine h_ald cx hw 11 (wC_p11 q cI S) e6 dX0_takeFresh_30 ?_
          refine lv_aload_n hx hb dX0_takeFresh_31 rfl (lv_at hl 0 rfl) ?_
          refine h_get (v := .ref (q 14)) cx hw 2 (wC_p2 q cI S) rfl hinX0 7 (by decide) lk28 rfl dX0_takeFresh_32 ?_
          refine lv_iload_n hx hb dX0_takeFresh_35 rfl (lv_at hl 2 rfl) ?_
          obtain ⟨v7, e8, h⟩ := h_bd_ok h
          refine h_ald cx hw 14 (wC_p14 q cI S) e8 dX0_takeFresh_36 ?_
          refine lv_icmp_eq (tgt := 44) hx hb dX0_takeFresh_37 (by decide) (fun c9 => ?_) (fun c9 => ?_)
          · have h := h_ifp c9 h
            refine lv_iconst (v := 0) hx hb dX0_takeFresh_44 (by decide) ?_
            exact kk45 _ _ _ h _ _ _ hw (lv_sub hl [0, 2] rfl)
          · have h := h_ifn c9 h
            exact kk40 _ _ h _ _ _ hw (lv_sub hl [0, 2] rfl)
  refine lv_iconst (v := 0) hx hb dX0_takeFresh_0 (by decide) ?_
  refine lv_istore_n (lv' := [(1, .int 0), (0, .ref (q 2))]) hx hb dX0_takeFresh_1 rfl hl (by decide) rfl (fun ls hl => ?_)
  refine lv_iconst (v := 0) hx hb dX0_takeFresh_2 (by decide) ?_
  refine lv_istore_n (lv' := [(2, .int 0), (1, .int 0), (0, .ref (q 2))]) hx hb dX0_takeFresh_3 rfl hl (by decide) rfl (fun ls hl => ?_)
  exact kk4 h_fu _ _ _ h _ _ _ hw (lv_sub hl [2, 1, 0] rfl)
set_option maxHeartbeats 4000000 in
set_option maxRecDepth 100000 in
theorem c_X0_slipToKeep (l : Launch) (dC : Nat → ClassId) (dI : Nat → Nat → Nat) (cI cZ : ClassId) (q : Nat → Nat) (S : HSt) (a1 a2 : Int32) (r : Int32) (h : f_X0_slipToKeep S a1 a2 = some r) : MI l yX0_slipToKeep hsX0_slipToKeep rmX0_slipToKeep (dC, dI) cI cZ (wC q cI) S [.ref (q 2), .int a1, .int a2] r S := by
  refine MI.ofW (cc := cX0_slipToKeep) (maxL := 4) (ret := (some .int)) (by decide +kernel) rfl (Nat.le_of_ble_eq_true rfl) ?_
  intro p e s m below meth c A cx hr hlk hw ls hl
  have hx := cx.1.1
  have hb := cx.1.2.1
  have hml := cx.1.2.2.1
  have hts := cx.1.2.2.2.2
  have hta : ∀ z ∈ hALL, z.before _ s = true := fun z h => hts z (List.mem_cons_of_mem _ h)
  have lk18 : (Cond.fieldLink RX0 18 (TX0 4).1 (TX0 4).2.1 (TX0 4).2.2.1).before _ s = true := hta _ wdF_X0_18
  have lk43 : (Cond.fieldLink RX0 43 (TX0 0).1 (TX0 0).2.1 (TX0 0).2.2.1).before _ s = true := hta _ wdF_X0_43
  have lk60 : (Cond.fieldLink RX0 60 (TX1 1).1 (TX1 1).2.1 (TX1 1).2.2.1).before _ s = true := hta _ wdF_X0_60
  have lk63 : (Cond.fieldLink RX0 63 (TX1 6).1 (TX1 6).2.1 (TX1 6).2.2.1).before _ s = true := hta _ wdF_X0_63
  have hiniX3 := hta _ wdN_RX3
  have hstX3_pair := hta _ wdT_X3_pair
  have hstX3_slot := hta _ wdT_X3_slot
  have hl : lv_has ls 4 [(0, .ref (q 2)), (1, .int a1), (2, .int a2)] := hl
  unfold f_X0_slipToKeep at h
  have kk38 : ∀ (x1 x2 : Int32), f_X0_slipToKeep_38 S x1 x2 = some r → ∀ (H : Heap) (locs : List Loc) (ls : Array Slot), HW (dC, dI) (wC q cI) S A s H locs → lv_has ls 4 [(0, .ref (q 2)), (1, .int x1), (2, .int x2)] → W p l e rmX0_slipToKeep s m ([.ref (q 2), .int a1, .int a2] : List Value).toArray below meth c H locs 0 0 (MQ below (QI (dC, dI) (wC q cI) r S A) ([.ref (q 2), .int a1, .int a2] : List Value).toArray s 0 0 A) (F0 m 38 ls []) := by
    intro x1 x2 h H locs ls hw hl
    unfold f_X0_slipToKeep_38 at h
    refine lv_aload_n hx hb dX0_slipToKeep_38 rfl (lv_at hl 0 rfl) ?_
    refine h_get (v := .ref (q 11)) cx hw 2 (wC_p2 q cI S) rfl hinX0 4 (by decide) lk18 rfl dX0_slipToKeep_39 ?_
    refine lv_iload_n hx hb dX0_slipToKeep_42 rfl (lv_at hl 1 rfl) ?_
    refine lv_iconst (v := 1) hx hb dX0_slipToKeep_43 (by decide) ?_
    refine lv_ixor hx hb dX0_slipToKeep_44 ?_
    refine lv_iload_n hx hb dX0_slipToKeep_45 rfl (lv_at hl 2 rfl) ?_
    obtain ⟨r1, e2, h⟩ := h_bd_ok h
    refine h_callN cx.1 (c_X3_slot l (x1 ^^^ 1) x2 r1 e2) ⟨va_cnB 2 hts (hgA (hcW wdC_X3_slot)) rfl rfl rfl cx.2.2.1.2.1 hiniX3 pdX3_slot.2 ⟨Nat.le_of_ble_eq_true rfl, Nat.le_of_ble_eq_true rfl⟩, hstX3_slot, trivial⟩ rfl hl.1 rfl (Nat.le_of_ble_eq_true rfl) dX0_slipToKeep_46 ⟨Nat.zero_le _, Nat.zero_le _⟩ ?_
    obtain ⟨v3, e4, h⟩ := h_bd_ok h
    refine h_ald cx hw 11 (wC_p11 q cI S) e4 dX0_slipToKeep_49 ?_
    exact h_iret cx hw hr hlk rfl (Option.some.inj h) rfl dX0_slipToKeep_50
  refine lv_aload_n hx hb dX0_slipToKeep_0 rfl (lv_at hl 0 rfl) ?_
  refine h_get (v := .ref (q 1)) cx hw 2 (wC_p2 q cI S) rfl hinX0 0 (by decide) lk43 rfl dX0_slipToKeep_1 ?_
  refine h_get (v := .ref (q 5)) cx hw 1 (wC_p1 q cI S) rfl hinX1 1 (by decide) lk60 rfl dX0_slipToKeep_4 ?_
  refine lv_iload_n hx hb dX0_slipToKeep_7 rfl (lv_at hl 1 rfl) ?_
  obtain ⟨v1, e2, h⟩ := h_bd_ok h
  refine h_ald cx hw 5 (wC_p5 q cI S) e2 dX0_slipToKeep_8 ?_
  refine lv_istore_n (lv' := [(3, .int v1), (0, .ref (q 2)), (1, .int a1), (2, .int a2)]) hx hb dX0_slipToKeep_9 rfl hl (by decide) rfl (fun ls hl => ?_)
  refine lv_aload_n hx hb dX0_slipToKeep_10 rfl (lv_at hl 1 rfl) ?_
  refine lv_iload_n hx hb dX0_slipToKeep_11 rfl (lv_at hl 0 rfl) ?_
  refine lv_iconst (v := 1) hx hb dX0_slipToKeep_12 (by decide) ?_
  obtain ⟨r3, e4, h⟩ := h_bd_ok h
  refine h_callI cx hw (c_X0_has l dC dI cI cZ q S v1 1 r3 e4) (cwV 2 hts (hgA (hcV wdL_X0_69 wdI_X0_has wdS_X0_has wdN_RX0 wdC_X0_has)) rfl rfl rfl pdX0_has ⟨Nat.le_of_ble_eq_true rfl, Nat.le_of_ble_eq_true rfl⟩) 2 (wC_p2 q cI S) rfl rfl rfl hl.1 rfl (Nat.le_of_ble_eq_true rfl) dX0_slipToKeep_13 ⟨Nat.zero_le _, Nat.zero_le _⟩ (fun H locs hw => ?_)
  refine lv_if_eq (tgt := 38) hx hb dX0_slipToKeep_16 (by decide) (fun c5 => ?_) (fun c5 => ?_)
  · have h := h_ifp c5 h
    exact kk38 _ _ h _ _ _ hw (lv_sub hl [1, 2, 3] rfl)
  · have h := h_ifn c5 h
    refine lv_aload_n hx hb dX0_slipToKeep_19 rfl (lv_at hl 1 rfl) ?_
    refine h_get (v := .ref (q 1)) cx hw 2 (wC_p2 q cI S) rfl hinX0 0 (by decide) lk43 rfl dX0_slipToKeep_20 ?_
    refine h_get (v := .ref (q 10)) cx hw 1 (wC_p1 q cI S) rfl hinX1 6 (by decide) lk63 rfl dX0_slipToKeep_23 ?_
    refine lv_iload_n hx hb dX0_slipToKeep_26 rfl (lv_at hl 0 rfl) ?_
    refine lv_iload_n hx hb dX0_slipToKeep_27 rfl (lv_at hl 3 rfl) ?_
    obtain ⟨r6, e7, h⟩ := h_bd_ok h
    refine h_callN cx.1 (c_X3_pair l v1 a2 r6 e7) ⟨va_cnB 2 hts (hgA (hcW wdC_X3_pair)) rfl rfl rfl cx.2.2.1.2.2.1 hiniX3 pdX3_pair.2 ⟨Nat.le_of_ble_eq_true rfl, Nat.le_of_ble_eq_true rfl⟩, hstX3_pair, trivial⟩ rfl hl.1 rfl (Nat.le_of_ble_eq_true rfl) dX0_slipToKeep_28 ⟨Nat.zero_le _, Nat.zero_le _⟩ ?_
    obtain ⟨v8, e9, h⟩ := h_bd_ok h
    refine h_ald cx hw 10 (wC_p10 q cI S) e9 dX0_slipToKeep_31 ?_
    refine lv_iload_n hx hb dX0_slipToKeep_32 rfl (lv_at hl 2 rfl) ?_
    refine lv_icmp_eq (tgt := 38) hx hb dX0_slipToKeep_33 (by decide) (fun c10 => ?_) (fun c10 => ?_)
    · have h := h_ifp c10 h
      exact kk38 _ _ h _ _ _ hw (lv_sub hl [1, 2, 3] rfl)
    · have h := h_ifn c10 h
      refine lv_iconst (v := 0) hx hb dX0_slipToKeep_36 (by decide) ?_
      exact h_iret cx hw hr hlk rfl (Option.some.inj h) rfl dX0_slipToKeep_37
set_option maxHeartbeats 4000000 in
set_option maxRecDepth 100000 in
theorem c_X0_keepAll (l : Launch) (dC : Nat → ClassId) (dI : Nat → Nat → Nat) (cI cZ : ClassId) (q : Nat → Nat) (S : HSt) (r : Int32) (S9 : HSt) (h : f_X0_keepAll S = some (r, S9)) : MI l yX0_keepAll hsX0_keepAll rmX0_keepAll (dC, dI) cI cZ (wC q cI) S [.ref (q 2)] r S9 := by
  refine MI.ofW (cc := cX0_keepAll) (maxL := 5) (ret := (some .boolean)) (by decide +kernel) rfl (Nat.le_of_ble_eq_true rfl) ?_
  intro p e s m below meth c A cx hr hlk hw ls hl
  have hx := cx.1.1
  have hb := cx.1.2.1
  have hml := cx.1.2.2.1
  have hts := cx.1.2.2.2.2
  have hta : ∀ z ∈ hALL, z.before _ s = true := fun z h => hts z (List.mem_cons_of_mem _ h)
  have lk22 : (Cond.fieldLink RX0 22 (TX0 5).1 (TX0 5).2.1 (TX0 5).2.2.1).before _ s = true := hta _ wdF_X0_22
  have lk43 : (Cond.fieldLink RX0 43 (TX0 0).1 (TX0 0).2.1 (TX0 0).2.2.1).before _ s = true := hta _ wdF_X0_43
  have lk51 : (Cond.fieldLink RX0 51 (TX1 0).1 (TX1 0).2.1 (TX1 0).2.2.1).before _ s = true := hta _ wdF_X0_51
  have hiniX3 := hta _ wdN_RX3
  have hstX3_slot := hta _ wdT_X3_slot
  have hl : lv_has ls 5 [(0, .ref (q 2))] := hl
  unfold f_X0_keepAll at h
  have kk4 : ∀ (n4 : Nat) (S : HSt) (x1 x2 : Int32), f_X0_keepAll_4 n4 S x1 x2 = some (r, S9) → ∀ (H : Heap) (locs : List Loc) (ls : Array Slot), HW (dC, dI) (wC q cI) S A s H locs → lv_has ls 5 [(0, .ref (q 2)), (1, .int x1), (2, .int x2)] → W p l e rmX0_keepAll s m ([.ref (q 2)] : List Value).toArray below meth c H locs 0 0 (MQ below (QI (dC, dI) (wC q cI) r S9 A) ([.ref (q 2)] : List Value).toArray s 0 0 A) (F0 m 4 ls []) := by
    intro n4
    induction n4 with
    | zero =>
      intro S x1 x2 h
      have h9 : (none : Option (Int32 × HSt)) = some (r, S9) := h
      cases h9
    | succ n4 ih4 =>
      intro S x1 x2 h H locs ls hw hl
      have h : f_X0_keepAll_4_s (f_X0_keepAll_4 n4) S x1 x2 = some (r, S9) := h
      unfold f_X0_keepAll_4_s at h
      have kk19 : ∀ (n19 : Nat) (S : HSt) (x1 x2 x3 : Int32), f_X0_keepAll_19 (f_X0_keepAll_4 n4) n19 S x1 x2 x3 = some (r, S9) → ∀ (H : Heap) (locs : List Loc) (ls : Array Slot), HW (dC, dI) (wC q cI) S A s H locs → lv_has ls 5 [(0, .ref (q 2)), (1, .int x1), (2, .int x2), (3, .int x3)] → W p l e rmX0_keepAll s m ([.ref (q 2)] : List Value).toArray below meth c H locs 0 0 (MQ below (QI (dC, dI) (wC q cI) r S9 A) ([.ref (q 2)] : List Value).toArray s 0 0 A) (F0 m 19 ls []) := by
        intro n19
        induction n19 with
        | zero =>
          intro S x1 x2 x3 h
          have h9 : (none : Option (Int32 × HSt)) = some (r, S9) := h
          cases h9
        | succ n19 ih19 =>
          intro S x1 x2 x3 h H locs ls hw hl
          have h : f_X0_keepAll_19_s (f_X0_keepAll_4 n4) (f_X0_keepAll_19 (f_X0_keepAll_4 n4) n19) S x1 x2 x3 = some (r, S9) := h
          unfold f_X0_keepAll_19_s at h
          have kk56 : ∀ (S : HSt) (x2 x3 x4 t0 : Int32), f_X0_keepAll_56 (f_X0_keepAll_19 (f_X0_keepAll_4 n4) n19) S x2 x3 x4 t0 = some (r, S9) → ∀ (H : Heap) (locs : List Loc) (ls : Array Slot), HW (dC, dI) (wC q cI) S A s H locs → lv_has ls 5 [(0, .ref (q 2)), (2, .int x2), (3, .int x3), (4, .int x4)] → W p l e rmX0_keepAll s m ([.ref (q 2)] : List Value).toArray below meth c H locs 0 0 (MQ below (QI (dC, dI) (wC q cI) r S9 A) ([.ref (q 2)] : List Value).toArray s 0 0 A) (F0 m 56 ls [.int t0]) := by
            intro S x2 x3 x4 t0 h H locs ls hw hl
            unfold f_X0_keepAll_56 at h
            refine lv_istore_n (lv' := [(1, .int t0), (0, .ref (q 2)), (2, .int x2), (3, .int x3), (4, .int x4)]) hx hb dX0_keepAll_56 rfl hl (by decide) rfl (fun ls hl => ?_)
            refine lv_aload_n hx hb dX0_keepAll_57 rfl (lv_at hl 1 rfl) ?_
            refine h_get (v := .ref (q 12)) cx hw 2 (wC_p2 q cI S) rfl hinX0 5 (by decide) lk22 rfl dX0_keepAll_58 ?_
            refine lv_iload_n hx hb dX0_keepAll_61 rfl (lv_at hl 2 rfl) ?_
            refine lv_iload_n hx hb dX0_keepAll_62 rfl (lv_at hl 3 rfl) ?_
            obtain ⟨r1, e2, h⟩ := h_bd_ok h
            refine h_callN cx.1 (c_X3_slot l x2 x3 r1 e2) ⟨va_cnB 2 hts (hgA (hcW wdC_X3_slot)) rfl rfl rfl cx.2.2.1.2.1 hiniX3 pdX3_slot.2 ⟨Nat.le_of_ble_eq_true rfl, Nat.le_of_ble_eq_true rfl⟩, hstX3_slot, trivial⟩ rfl hl.1 rfl (Nat.le_of_ble_eq_true rfl) dX0_keepAll_63 ⟨Nat.zero_le _, Nat.zero_le _⟩ ?_
            refine lv_iload hx hb dX0_keepAll_66 (lv_at hl 4 rfl) ?_
            obtain ⟨S3, e4, h⟩ := h_bd_ok h
            refine h_ast cx hw 12 (wC_p12 q cI S) (wC_s12 q cI S) e4 dX0_keepAll_68 (fun H locs hw => ?_)
            refine lv_iinc (v := x3 + 1) (lv' := [(3, .int (x3 + 1)), (1, .int t0), (0, .ref (q 2)), (2, .int x2), (4, .int x4)]) hx hb dX0_keepAll_69 hl (k := 3) rfl rfl (by decide) rfl (fun ls hl => ?_)
            refine lv_goto (tgt := 19) hx hb dX0_keepAll_72 (by decide) ?_
            exact ih19 _ _ _ _ h _ _ _ hw (lv_sub hl [2, 1, 3, 0] rfl)
          have kk51 : ∀ (S : HSt) (x2 x3 x4 : Int32), f_X0_keepAll_51 (f_X0_keepAll_19 (f_X0_keepAll_4 n4) n19) S x2 x3 x4 = some (r, S9) → ∀ (H : Heap) (locs : List Loc) (ls : Array Slot), HW (dC, dI) (wC q cI) S A s H locs → lv_has ls 5 [(0, .ref (q 2)), (2, .int x2), (3, .int x3), (4, .int x4)] → W p l e rmX0_keepAll s m ([.ref (q 2)] : List Value).toArray below meth c H locs 0 0 (MQ below (QI (dC, dI) (wC q cI) r S9 A) ([.ref (q 2)] : List Value).toArray s 0 0 A) (F0 m 51 ls []) := by
            intro S x2 x3 x4 h H locs ls hw hl
            unfold f_X0_keepAll_51 at h
            refine lv_iconst (v := 1) hx hb dX0_keepAll_51 (by decide) ?_
            refine lv_goto (tgt := 56) hx hb dX0_keepAll_52 (by decide) ?_
            exact kk56 _ _ _ _ _ h _ _ _ hw (lv_sub hl [0, 1, 2, 3] rfl)
          refine lv_iload_n hx hb dX0_keepAll_19 rfl (lv_at hl 3 rfl) ?_
          refine lv_iconst (v := 4) hx hb dX0_keepAll_20 (by decide) ?_
          refine lv_icmp_ge (tgt := 75) hx hb dX0_keepAll_21 (by decide) (fun c1 => ?_) (fun c1 => ?_)
          · have h := h_ifp c1 h
            refine lv_iinc (v := x2 + 1) (lv' := [(2, .int (x2 + 1)), (0, .ref (q 2)), (1, .int x1), (3, .int x3)]) hx hb dX0_keepAll_75 hl (k := 2) rfl rfl (by decide) rfl (fun ls hl => ?_)
            refine lv_goto (tgt := 4) hx hb dX0_keepAll_78 (by decide) ?_
            exact ih4 _ _ _ h _ _ _ hw (lv_sub hl [1, 2, 0] rfl)
          · have h := h_ifn c1 h
            refine lv_aload_n hx hb dX0_keepAll_24 rfl (lv_at hl 0 rfl) ?_
            refine lv_iload_n hx hb dX0_keepAll_25 rfl (lv_at hl 2 rfl) ?_
            refine lv_iload_n hx hb dX0_keepAll_26 rfl (lv_at hl 3 rfl) ?_
            obtain ⟨r2, e3, h⟩ := h_bd_ok h
            refine h_callI cx hw (c_X0_slipToKeep l dC dI cI cZ q S x2 x3 r2 e3) (cwV 2 hts (hgA (hcV wdL_X0_150 wdI_X0_slipToKeep wdS_X0_slipToKeep wdN_RX0 wdC_X0_slipToKeep)) rfl rfl rfl pdX0_slipToKeep ⟨Nat.le_of_ble_eq_true rfl, Nat.le_of_ble_eq_true rfl⟩) 2 (wC_p2 q cI S) rfl rfl rfl hl.1 rfl (Nat.le_of_ble_eq_true rfl) dX0_keepAll_27 ⟨Nat.zero_le _, Nat.zero_le _⟩ (fun H locs hw => ?_)
            refine lv_istore (lv' := [(4, .int r2), (0, .ref (q 2)), (1, .int x1), (2, .int x2), (3, .int x3)]) hx hb dX0_keepAll_30 hl (by decide) rfl (fun ls hl => ?_)
            refine lv_iload_n hx hb dX0_keepAll_32 rfl (lv_at hl 2 rfl) ?_
            refine lv_if_ne (tgt := 51) hx hb dX0_keepAll_33 (by decide) (fun c4 => ?_) (fun c4 => ?_)
            · have h := h_ifn c4 h
              exact kk51 _ _ _ _ h _ _ _ hw (lv_sub hl [1, 3, 4, 0] rfl)
            · have h := h_ifp c4 h
              refine lv_aload_n hx hb dX0_keepAll_36 rfl (lv_at hl 1 rfl) ?_
              refine h_get (v := .ref (q 12)) cx hw 2 (wC_p2 q cI S) rfl hinX0 5 (by decide) lk22 rfl dX0_keepAll_37 ?_
              refine lv_iload_n hx hb dX0_keepAll_40 rfl (lv_at hl 3 rfl) ?_
              refine lv_iload_n hx hb dX0_keepAll_41 rfl (lv_at hl 4 rfl) ?_
              obtain ⟨r5, e6, h⟩ := h_bd_ok h
              refine h_callN cx.1 (c_X3_slot l x2 x3 r5 e6) ⟨va_cnB 2 hts (hgA (hcW wdC_X3_slot)) rfl rfl rfl cx.2.2.1.2.1 hiniX3 pdX3_slot.2 ⟨Nat.le_of_ble_eq_true rfl, Nat.le_of_ble_eq_true rfl⟩, hstX3_slot, trivial⟩ rfl hl.1 rfl (Nat.le_of_ble_eq_true rfl) dX0_keepAll_42 ⟨Nat.zero_le _, Nat.zero_le _⟩ ?_
              obtain ⟨v7, e8, h⟩ := h_bd_ok h
              refine h_ald cx hw 12 (wC_p12 q cI S) e8 dX0_keepAll_45 ?_
              refine lv_iload hx hb dX0_keepAll_46 (lv_at hl 0 rfl) ?_
              refine lv_icmp_eq (tgt := 55) hx hb dX0_keepAll_48 (by decide) (fun c9 => ?_) (fun c9 => ?_)
              · have h := h_ifp c9 h
                refine lv_iconst (v := 0) hx hb dX0_keepAll_55 (by decide) ?_
                exact kk56 _ _ _ _ _ h _ _ _ hw (lv_sub hl [1, 3, 4, 0] rfl)
              · have h := h_ifn c9 h
                exact kk51 _ _ _ _ h _ _ _ hw (lv_sub hl [1, 3, 4, 0] rfl)
      refine lv_iload_n hx hb dX0_keepAll_4 rfl (lv_at hl 2 rfl) ?_
      refine lv_iconst (v := 2) hx hb dX0_keepAll_5 (by decide) ?_
      refine lv_aload_n hx hb dX0_keepAll_6 rfl (lv_at hl 0 rfl) ?_
      refine h_get (v := .ref (q 1)) cx hw 2 (wC_p2 q cI S) rfl hinX0 0 (by decide) lk43 rfl dX0_keepAll_7 ?_
      refine h_get (v := .int (S.1 0)) cx hw 1 (wC_p1 q cI S) rfl hinX1 0 (by decide) lk51 rfl dX0_keepAll_10 ?_
      refine lv_imul hx hb dX0_keepAll_13 ?_
      refine lv_icmp_ge (tgt := 81) hx hb dX0_keepAll_14 (by decide) (fun c1 => ?_) (fun c1 => ?_)
      · have h := h_ifp c1 h
        refine lv_iload_n hx hb dX0_keepAll_81 rfl (lv_at hl 1 rfl) ?_
        obtain ⟨hb9, h⟩ := h_b_ok h
        exact h_iret cx hw hr hlk (h_nb hb9) (congrArg Prod.fst (Option.some.inj h)) (congrArg Prod.snd (Option.some.inj h)) dX0_keepAll_82
      · have h := h_ifn c1 h
        refine lv_iconst (v := 0) hx hb dX0_keepAll_17 (by decide) ?_
        refine lv_istore_n (lv' := [(3, .int 0), (0, .ref (q 2)), (1, .int x1), (2, .int x2)]) hx hb dX0_keepAll_18 rfl hl (by decide) rfl (fun ls hl => ?_)
        exact kk19 h_fu _ _ _ _ h _ _ _ hw (lv_sub hl [1, 2, 3, 0] rfl)
  refine lv_iconst (v := 0) hx hb dX0_keepAll_0 (by decide) ?_
  refine lv_istore_n (lv' := [(1, .int 0), (0, .ref (q 2))]) hx hb dX0_keepAll_1 rfl hl (by decide) rfl (fun ls hl => ?_)
  refine lv_iconst (v := 0) hx hb dX0_keepAll_2 (by decide) ?_
  refine lv_istore_n (lv' := [(2, .int 0), (1, .int 0), (0, .ref (q 2))]) hx hb dX0_keepAll_3 rfl hl (by decide) rfl (fun ls hl => ?_)
  exact kk4 h_fu _ _ _ h _ _ _ hw (lv_sub hl [2, 1, 0] rfl)
set_option maxHeartbeats 4000000 in
set_option maxRecDepth 100000 in
theorem c_X0_tick (l : Launch) (dC : Nat → ClassId) (dI : Nat → Nat → Nat) (cI cZ : ClassId) (q : Nat → Nat) (S : HSt) (r : Int32) (S9 : HSt) (h : f_X0_tick S = some (r, S9)) : MI l yX0_tick hsX0_tick rmX0_tick (dC, dI) cI cZ (wC q cI) S [.ref (q 2)] r S9 := by
  refine MI.ofW (cc := cX0_tick) (maxL := 2) (ret := (some .int)) (by decide +kernel) rfl (Nat.le_of_ble_eq_true rfl) ?_
  intro p e s m below meth c A cx hr hlk hw ls hl
  have hx := cx.1.1
  have hb := cx.1.2.1
  have hml := cx.1.2.2.1
  have hts := cx.1.2.2.2.2
  have hta : ∀ z ∈ hALL, z.before _ s = true := fun z h => hts z (List.mem_cons_of_mem _ h)
  have hl : lv_has ls 2 [(0, .ref (q 2))] := hl
  unfold f_X0_tick at h
  have kk2 : ∀ (n2 : Nat) (S : HSt) (x1 : Int32), f_X0_tick_2 n2 S x1 = some (r, S9) → ∀ (H : Heap) (locs : List Loc) (ls : Array Slot), HW (dC, dI) (wC q cI) S A s H locs → lv_has ls 2 [(0, .ref (q 2)), (1, .int x1)] → W p l e rmX0_tick s m ([.ref (q 2)] : List Value).toArray below meth c H locs 0 0 (MQ below (QI (dC, dI) (wC q cI) r S9 A) ([.ref (q 2)] : List Value).toArray s 0 0 A) (F0 m 2 ls []) := by
    intro n2
    induction n2 with
    | zero =>
      intro S x1 h
      have h9 : (none : Option (Int32 × HSt)) = some (r, S9) := h
      cases h9
    | succ n2 ih2 =>
      intro S x1 h H locs ls hw hl
      have h : f_X0_tick_2_s (f_X0_tick_2 n2) S x1 = some (r, S9) := h
      unfold f_X0_tick_2_s at h
      have kk36 : ∀ (S : HSt) (t0 : Int32), f_X0_tick_36 S t0 = some (r, S9) → ∀ (H : Heap) (locs : List Loc) (ls : Array Slot), HW (dC, dI) (wC q cI) S A s H locs → lv_has ls 2 [(0, .ref (q 2))] → W p l e rmX0_tick s m ([.ref (q 2)] : List Value).toArray below meth c H locs 0 0 (MQ below (QI (dC, dI) (wC q cI) r S9 A) ([.ref (q 2)] : List Value).toArray s 0 0 A) (F0 m 36 ls [.int t0]) := by
        intro S t0 h H locs ls hw hl
        unfold f_X0_tick_36 at h
        refine lv_istore_n (lv' := [(1, .int t0), (0, .ref (q 2))]) hx hb dX0_tick_36 rfl hl (by decide) rfl (fun ls hl => ?_)
        refine lv_aload_n hx hb dX0_tick_37 rfl (lv_at hl 1 rfl) ?_
        obtain ⟨r1, S3, e2, h⟩ := h_bi_ok h
        refine h_callI cx hw (c_X0_keepAll l dC dI cI cZ q S r1 S3 e2) (cwV 0 hts (hgA (hcV wdL_X0_105 wdI_X0_keepAll wdS_X0_keepAll wdN_RX0 wdC_X0_keepAll)) rfl rfl rfl pdX0_keepAll ⟨Nat.le_of_ble_eq_true rfl, Nat.le_of_ble_eq_true rfl⟩) 2 (wC_p2 q cI S) rfl rfl rfl hl.1 rfl (Nat.le_of_ble_eq_true rfl) dX0_tick_38 ⟨Nat.zero_le _, Nat.zero_le _⟩ (fun H locs hw => ?_)
        refine lv_if_eq (tgt := 50) hx hb dX0_tick_41 (by decide) (fun c4 => ?_) (fun c4 => ?_)
        · have h := h_ifp c4 h
          refine lv_iload_n hx hb dX0_tick_50 rfl (lv_at hl 0 rfl) ?_
          exact h_iret cx hw hr hlk rfl (congrArg Prod.fst (Option.some.inj h)) (congrArg Prod.snd (Option.some.inj h)) dX0_tick_51
        · have h := h_ifn c4 h
          refine lv_iload_n hx hb dX0_tick_44 rfl (lv_at hl 0 rfl) ?_
          refine lv_iconst (v := 2) hx hb dX0_tick_45 (by decide) ?_
          refine lv_ior hx hb dX0_tick_46 ?_
          refine lv_goto (tgt := 51) hx hb dX0_tick_47 (by decide) ?_
          exact h_iret cx hw hr hlk rfl (congrArg Prod.fst (Option.some.inj h)) (congrArg Prod.snd (Option.some.inj h)) dX0_tick_51
      refine lv_iload_n hx hb dX0_tick_2 rfl (lv_at hl 1 rfl) ?_
      refine lv_bipush (v := 7) hx hb dX0_tick_3 (by decide) ?_
      refine lv_icmp_ge (tgt := 24) hx hb dX0_tick_5 (by decide) (fun c1 => ?_) (fun c1 => ?_)
      · have h := h_ifp c1 h
        refine lv_aload_n hx hb dX0_tick_24 rfl (lv_at hl 0 rfl) ?_
        obtain ⟨r2, S4, e3, h⟩ := h_bi_ok h
        refine h_callI cx hw (c_X0_takeFresh l dC dI cI cZ q S r2 S4 e3) (cwV 0 hts (hgA (hcV wdL_X0_101 wdI_X0_takeFresh wdS_X0_takeFresh wdN_RX0 wdC_X0_takeFresh)) rfl rfl rfl pdX0_takeFresh ⟨Nat.le_of_ble_eq_true rfl, Nat.le_of_ble_eq_true rfl⟩) 2 (wC_p2 q cI S) rfl rfl rfl hl.1 rfl (Nat.le_of_ble_eq_true rfl) dX0_tick_25 ⟨Nat.zero_le _, Nat.zero_le _⟩ (fun H locs hw => ?_)
        refine lv_if_eq (tgt := 35) hx hb dX0_tick_28 (by decide) (fun c5 => ?_) (fun c5 => ?_)
        · have h := h_ifp c5 h
          refine lv_iconst (v := 0) hx hb dX0_tick_35 (by decide) ?_
          exact kk36 _ _ h _ _ _ hw (lv_sub hl [0] rfl)
        · have h := h_ifn c5 h
          refine lv_iconst (v := 1) hx hb dX0_tick_31 (by decide) ?_
          refine lv_goto (tgt := 36) hx hb dX0_tick_32 (by decide) ?_
          exact kk36 _ _ h _ _ _ hw (lv_sub hl [0] rfl)
      · have h := h_ifn c1 h
        refine lv_aload_n hx hb dX0_tick_8 rfl (lv_at hl 0 rfl) ?_
        refine lv_iload_n hx hb dX0_tick_9 rfl (lv_at hl 1 rfl) ?_
        obtain ⟨S8, e7, h⟩ := h_bd_ok h
        refine h_callV cx hw (c_X0_placeSlips l dC dI cI cZ q S x1 S8 e7) (cwV 1 hts (hgA (hcV wdL_X0_95 wdI_X0_placeSlips wdS_X0_placeSlips wdN_RX0 wdC_X0_placeSlips)) rfl rfl rfl pdX0_placeSlips ⟨Nat.le_of_ble_eq_true rfl, Nat.le_of_ble_eq_true rfl⟩) 2 (wC_p2 q cI S) rfl rfl rfl hl.1 rfl (Nat.le_of_ble_eq_true rfl) dX0_tick_10 ⟨Nat.zero_le _, Nat.zero_le _⟩ (fun H locs hw => ?_)
        refine lv_aload_n hx hb dX0_tick_13 rfl (lv_at hl 0 rfl) ?_
        refine lv_iload_n hx hb dX0_tick_14 rfl (lv_at hl 1 rfl) ?_
        obtain ⟨S11, e10, h⟩ := h_bd_ok h
        refine h_callV cx hw (c_X0_fillRows l dC dI cI cZ q S8 x1 S11 e10) (cwV 1 hts (hgA (hcV wdL_X0_98 wdI_X0_fillRows wdS_X0_fillRows wdN_RX0 wdC_X0_fillRows)) rfl rfl rfl pdX0_fillRows ⟨Nat.le_of_ble_eq_true rfl, Nat.le_of_ble_eq_true rfl⟩) 2 (wC_p2 q cI S8) rfl rfl rfl hl.1 rfl (Nat.le_of_ble_eq_true rfl) dX0_tick_15 ⟨Nat.zero_le _, Nat.zero_le _⟩ (fun H locs hw => ?_)
        refine lv_iinc (v := x1 + 1) (lv' := [(1, .int (x1 + 1)), (0, .ref (q 2))]) hx hb dX0_tick_18 hl (k := 1) rfl rfl (by decide) rfl (fun ls hl => ?_)
        refine lv_goto (tgt := 2) hx hb dX0_tick_21 (by decide) ?_
        exact ih2 _ _ h _ _ _ hw (lv_sub hl [1, 0] rfl)
  refine lv_iconst (v := 0) hx hb dX0_tick_0 (by decide) ?_
  refine lv_istore_n (lv' := [(1, .int 0), (0, .ref (q 2))]) hx hb dX0_tick_1 rfl hl (by decide) rfl (fun ls hl => ?_)
  exact kk2 h_fu _ _ h _ _ _ hw (lv_sub hl [1, 0] rfl)
set_option maxHeartbeats 4000000 in
set_option maxRecDepth 100000 in
theorem c_X0_runTicks (l : Launch) (dC : Nat → ClassId) (dI : Nat → Nat → Nat) (cI cZ : ClassId) (q : Nat → Nat) (S : HSt) (a1 : Int32) (r : Int32) (S9 : HSt) (h : f_X0_runTicks S a1 = some (r, S9)) : MI l yX0_runTicks hsX0_runTicks rmX0_runTicks (dC, dI) cI cZ (wC q cI) S [.ref (q 2), .int a1] r S9 := by
  refine MI.ofW (cc := cX0_runTicks) (maxL := 4) (ret := (some .int)) (by decide +kernel) rfl (Nat.le_of_ble_eq_true rfl) ?_
  intro p e s m below meth c A cx hr hlk hw ls hl
  have hx := cx.1.1
  have hb := cx.1.2.1
  have hml := cx.1.2.2.1
  have hts := cx.1.2.2.2.2
  have hta : ∀ z ∈ hALL, z.before _ s = true := fun z h => hts z (List.mem_cons_of_mem _ h)
  have lk86 : (Cond.fieldLink RX0 86 (TX0 3).1 (TX0 3).2.1 (TX0 3).2.2.1).before _ s = true := hta _ wdF_X0_86
  have hl : lv_has ls 4 [(0, .ref (q 2)), (1, .int a1)] := hl
  unfold f_X0_runTicks at h
  have kk4 : ∀ (n4 : Nat) (S : HSt) (x1 x2 x3 : Int32), f_X0_runTicks_4 n4 S x1 x2 x3 = some (r, S9) → ∀ (H : Heap) (locs : List Loc) (ls : Array Slot), HW (dC, dI) (wC q cI) S A s H locs → lv_has ls 4 [(0, .ref (q 2)), (1, .int x1), (2, .int x2), (3, .int x3)] → W p l e rmX0_runTicks s m ([.ref (q 2), .int a1] : List Value).toArray below meth c H locs 0 0 (MQ below (QI (dC, dI) (wC q cI) r S9 A) ([.ref (q 2), .int a1] : List Value).toArray s 0 0 A) (F0 m 4 ls []) := by
    intro n4
    induction n4 with
    | zero =>
      intro S x1 x2 x3 h
      have h9 : (none : Option (Int32 × HSt)) = some (r, S9) := h
      cases h9
    | succ n4 ih4 =>
      intro S x1 x2 x3 h H locs ls hw hl
      have h : f_X0_runTicks_4_s (f_X0_runTicks_4 n4) S x1 x2 x3 = some (r, S9) := h
      unfold f_X0_runTicks_4_s at h
      have kk21 : ∀ (S : HSt) (x1 x2 x3 : Int32), f_X0_runTicks_21 (f_X0_runTicks_4 n4) S x1 x2 x3 = some (r, S9) → ∀ (H : Heap) (locs : List Loc) (ls : Array Slot), HW (dC, dI) (wC q cI) S A s H locs → lv_has ls 4 [(0, .ref (q 2)), (1, .int x1), (2, .int x2), (3, .int x3)] → W p l e rmX0_runTicks s m ([.ref (q 2), .int a1] : List Value).toArray below meth c H locs 0 0 (MQ below (QI (dC, dI) (wC q cI) r S9 A) ([.ref (q 2), .int a1] : List Value).toArray s 0 0 A) (F0 m 21 ls []) := by
        intro S x1 x2 x3 h H locs ls hw hl
        unfold f_X0_runTicks_21 at h
        refine lv_iinc (v := x3 + 1) (lv' := [(3, .int (x3 + 1)), (0, .ref (q 2)), (1, .int x1), (2, .int x2)]) hx hb dX0_runTicks_21 hl (k := 3) rfl rfl (by decide) rfl (fun ls hl => ?_)
        refine lv_goto (tgt := 4) hx hb dX0_runTicks_24 (by decide) ?_
        exact ih4 _ _ _ _ h _ _ _ hw (lv_sub hl [1, 2, 3, 0] rfl)
      refine lv_iload_n hx hb dX0_runTicks_4 rfl (lv_at hl 3 rfl) ?_
      refine lv_iload_n hx hb dX0_runTicks_5 rfl (lv_at hl 1 rfl) ?_
      refine lv_icmp_ge (tgt := 27) hx hb dX0_runTicks_6 (by decide) (fun c1 => ?_) (fun c1 => ?_)
      · have h := h_ifp c1 h
        refine lv_aload_n hx hb dX0_runTicks_27 rfl (lv_at hl 0 rfl) ?_
        refine lv_dup hx hb dX0_runTicks_28 rfl ?_
        refine h_get (v := .int (S.1 3)) cx hw 2 (wC_p2 q cI S) rfl hinX0 3 (by decide) lk86 rfl dX0_runTicks_29 ?_
        refine lv_iload_n hx hb dX0_runTicks_32 rfl (lv_at hl 1 rfl) ?_
        refine lv_iadd hx hb dX0_runTicks_33 ?_
        obtain ⟨S2, e3, h⟩ := h_bd_ok h
        refine h_puti (x := (S.1 3) + x1) cx hw 2 (wC_p2 q cI S) rfl hinX0 tyX0 tyX0_ok nmX0 3 (by decide) lk86 rfl (by decide +kernel) (Nat.le_of_ble_eq_true rfl) 3 (wC_i3 q cI S ((S.1 3) + x1)) e3 dX0_runTicks_34 (fun H locs hw => ?_)
        refine lv_iload_n hx hb dX0_runTicks_37 rfl (lv_at hl 2 rfl) ?_
        exact h_iret cx hw hr hlk rfl (congrArg Prod.fst (Option.some.inj h)) (congrArg Prod.snd (Option.some.inj h)) dX0_runTicks_38
      · have h := h_ifn c1 h
        refine lv_aload_n hx hb dX0_runTicks_9 rfl (lv_at hl 0 rfl) ?_
        obtain ⟨r4, S6, e5, h⟩ := h_bi_ok h
        refine h_callI cx hw (c_X0_tick l dC dI cI cZ q S r4 S6 e5) (cwV 0 hts (hgA (hcV wdL_X0_82 wdI_X0_tick wdS_X0_tick wdN_RX0 wdC_X0_tick)) rfl rfl rfl pdX0_tick ⟨Nat.le_of_ble_eq_true rfl, Nat.le_of_ble_eq_true rfl⟩) 2 (wC_p2 q cI S) rfl rfl rfl hl.1 rfl (Nat.le_of_ble_eq_true rfl) dX0_runTicks_10 ⟨Nat.zero_le _, Nat.zero_le _⟩ (fun H locs hw => ?_)
        refine lv_iconst (v := 1) hx hb dX0_runTicks_13 (by decide) ?_
        refine lv_iand hx hb dX0_runTicks_14 ?_
        refine lv_if_eq (tgt := 21) hx hb dX0_runTicks_15 (by decide) (fun c7 => ?_) (fun c7 => ?_)
        · have h := h_ifp c7 h
          exact kk21 _ _ _ _ h _ _ _ hw (lv_sub hl [0, 1, 2, 3] rfl)
        · have h := h_ifn c7 h
          refine lv_iinc (v := x2 + 1) (lv' := [(2, .int (x2 + 1)), (0, .ref (q 2)), (1, .int x1), (3, .int x3)]) hx hb dX0_runTicks_18 hl (k := 2) rfl rfl (by decide) rfl (fun ls hl => ?_)
          exact kk21 _ _ _ _ h _ _ _ hw (lv_sub hl [1, 2, 0, 3] rfl)
  refine lv_iconst (v := 0) hx hb dX0_runTicks_0 (by decide) ?_
  refine lv_istore_n (lv' := [(2, .int 0), (0, .ref (q 2)), (1, .int a1)]) hx hb dX0_runTicks_1 rfl hl (by decide) rfl (fun ls hl => ?_)
  refine lv_iconst (v := 0) hx hb dX0_runTicks_2 (by decide) ?_
  refine lv_istore_n (lv' := [(3, .int 0), (2, .int 0), (0, .ref (q 2)), (1, .int a1)]) hx hb dX0_runTicks_3 rfl hl (by decide) rfl (fun ls hl => ?_)
  exact kk4 h_fu _ _ _ _ h _ _ _ hw (lv_sub hl [2, 3, 1, 0] rfl)
set_option maxHeartbeats 4000000 in
set_option maxRecDepth 100000 in
theorem c_X0_ticksTillStill (l : Launch) (dC : Nat → ClassId) (dI : Nat → Nat → Nat) (cI cZ : ClassId) (q : Nat → Nat) (S : HSt) (r : Int32) (S9 : HSt) (h : f_X0_ticksTillStill S = some (r, S9)) : MI l yX0_ticksTillStill hsX0_ticksTillStill rmX0_ticksTillStill (dC, dI) cI cZ (wC q cI) S [.ref (q 2)] r S9 := by
  refine MI.ofW (cc := cX0_ticksTillStill) (maxL := 3) (ret := (some .int)) (by decide +kernel) rfl (Nat.le_of_ble_eq_true rfl) ?_
  intro p e s m below meth c A cx hr hlk hw ls hl
  have hx := cx.1.1
  have hb := cx.1.2.1
  have hml := cx.1.2.2.1
  have hts := cx.1.2.2.2.2
  have hta : ∀ z ∈ hALL, z.before _ s = true := fun z h => hts z (List.mem_cons_of_mem _ h)
  have lk18 : (Cond.fieldLink RX0 18 (TX0 4).1 (TX0 4).2.1 (TX0 4).2.2.1).before _ s = true := hta _ wdF_X0_18
  have lk22 : (Cond.fieldLink RX0 22 (TX0 5).1 (TX0 5).2.1 (TX0 5).2.2.1).before _ s = true := hta _ wdF_X0_22
  have lk37 : (Cond.fieldLink RX0 37 (TX0 10).1 (TX0 10).2.1 (TX0 10).2.2.1).before _ s = true := hta _ wdF_X0_37
  have lk40 : (Cond.fieldLink RX0 40 (TX0 11).1 (TX0 11).2.1 (TX0 11).2.2.1).before _ s = true := hta _ wdF_X0_40
  have hl : lv_has ls 3 [(0, .ref (q 2))] := hl
  unfold f_X0_ticksTillStill at h
  have kk41 : ∀ (n41 : Nat) (S : HSt) (x1 x2 : Int32), f_X0_ticksTillStill_41 n41 S x1 x2 = some (r, S9) → ∀ (H : Heap) (locs : List Loc) (ls : Array Slot), HW (dC, dI) (wC q cI) S A s H locs → lv_has ls 3 [(0, .ref (q 2)), (1, .int x1), (2, .int x2)] → W p l e rmX0_ticksTillStill s m ([.ref (q 2)] : List Value).toArray below meth c H locs 0 0 (MQ below (QI (dC, dI) (wC q cI) r S9 A) ([.ref (q 2)] : List Value).toArray s 0 0 A) (F0 m 41 ls []) := by
    intro n41
    induction n41 with
    | zero =>
      intro S x1 x2 h
      have h9 : (none : Option (Int32 × HSt)) = some (r, S9) := h
      cases h9
    | succ n41 ih41 =>
      intro S x1 x2 h H locs ls hw hl
      have h : f_X0_ticksTillStill_41_s (f_X0_ticksTillStill_41 n41) S x1 x2 = some (r, S9) := h
      unfold f_X0_ticksTillStill_41_s at h
      have kk68 : ∀ (S : HSt) (x1 : Int32), f_X0_ticksTillStill_68 S x1 = some (r, S9) → ∀ (H : Heap) (locs : List Loc) (ls : Array Slot), HW (dC, dI) (wC q cI) S A s H locs → lv_has ls 3 [(0, .ref (q 2)), (1, .int x1)] → W p l e rmX0_ticksTillStill s m ([.ref (q 2)] : List Value).toArray below meth c H locs 0 0 (MQ below (QI (dC, dI) (wC q cI) r S9 A) ([.ref (q 2)] : List Value).toArray s 0 0 A) (F0 m 68 ls []) := by
        intro S x1 h H locs ls hw hl
        unfold f_X0_ticksTillStill_68 at h
        refine lv_aload_n hx hb dX0_ticksTillStill_68 rfl (lv_at hl 0 rfl) ?_
        refine h_get (v := .ref (q 17)) cx hw 2 (wC_p2 q cI S) rfl hinX0 10 (by decide) lk37 rfl dX0_ticksTillStill_69 ?_
        refine lv_iconst (v := 0) hx hb dX0_ticksTillStill_72 (by decide) ?_
        refine lv_aload_n hx hb dX0_ticksTillStill_73 rfl (lv_at hl 0 rfl) ?_
        refine h_get (v := .ref (q 11)) cx hw 2 (wC_p2 q cI S) rfl hinX0 4 (by decide) lk18 rfl dX0_ticksTillStill_74 ?_
        refine lv_iconst (v := 0) hx hb dX0_ticksTillStill_77 (by decide) ?_
        refine lv_aload_n hx hb dX0_ticksTillStill_78 rfl (lv_at hl 0 rfl) ?_
        refine h_get (v := .ref (q 17)) cx hw 2 (wC_p2 q cI S) rfl hinX0 10 (by decide) lk37 rfl dX0_ticksTillStill_79 ?_
        refine h_len (v := 96) cx hw 17 (wC_p17 q cI S) rfl dX0_ticksTillStill_82 ?_
        obtain ⟨S1, e2, h⟩ := h_bd_ok h
        refine h_copy cx hw (hta _ wdL_X0_89) (hta _ wdV_arraycopyName) (hta _ wdT_arraycopyName) (hta _ wdN_java_lang_System) 17 11 (wC_p17 q cI S) (wC_p11 q cI S) (wC_s11 q cI S) (by decide) e2 hl.1 (Nat.le_of_ble_eq_true rfl) (by decide +kernel) rfl dX0_ticksTillStill_83 (fun H locs hw => ?_)
        refine lv_aload_n hx hb dX0_ticksTillStill_86 rfl (lv_at hl 0 rfl) ?_
        refine h_get (v := .ref (q 18)) cx hw 2 (wC_p2 q cI S1) rfl hinX0 11 (by decide) lk40 rfl dX0_ticksTillStill_87 ?_
        refine lv_iconst (v := 0) hx hb dX0_ticksTillStill_90 (by decide) ?_
        refine lv_aload_n hx hb dX0_ticksTillStill_91 rfl (lv_at hl 0 rfl) ?_
        refine h_get (v := .ref (q 12)) cx hw 2 (wC_p2 q cI S1) rfl hinX0 5 (by decide) lk22 rfl dX0_ticksTillStill_92 ?_
        refine lv_iconst (v := 0) hx hb dX0_ticksTillStill_95 (by decide) ?_
        refine lv_aload_n hx hb dX0_ticksTillStill_96 rfl (lv_at hl 0 rfl) ?_
        refine h_get (v := .ref (q 18)) cx hw 2 (wC_p2 q cI S1) rfl hinX0 11 (by decide) lk40 rfl dX0_ticksTillStill_97 ?_
        refine h_len (v := 96) cx hw 18 (wC_p18 q cI S1) rfl dX0_ticksTillStill_100 ?_
        obtain ⟨S3, e4, h⟩ := h_bd_ok h
        refine h_copy cx hw (hta _ wdL_X0_89) (hta _ wdV_arraycopyName) (hta _ wdT_arraycopyName) (hta _ wdN_java_lang_System) 18 12 (wC_p18 q cI S1) (wC_p12 q cI S1) (wC_s12 q cI S1) (by decide) e4 hl.1 (Nat.le_of_ble_eq_true rfl) (by decide +kernel) rfl dX0_ticksTillStill_101 (fun H locs hw => ?_)
        refine lv_iload_n hx hb dX0_ticksTillStill_104 rfl (lv_at hl 1 rfl) ?_
        exact h_iret cx hw hr hlk rfl (congrArg Prod.fst (Option.some.inj h)) (congrArg Prod.snd (Option.some.inj h)) dX0_ticksTillStill_105
      have kk62 : ∀ (S : HSt) (x1 x2 : Int32), f_X0_ticksTillStill_62 (f_X0_ticksTillStill_41 n41) S x1 x2 = some (r, S9) → ∀ (H : Heap) (locs : List Loc) (ls : Array Slot), HW (dC, dI) (wC q cI) S A s H locs → lv_has ls 3 [(0, .ref (q 2)), (1, .int x1), (2, .int x2)] → W p l e rmX0_ticksTillStill s m ([.ref (q 2)] : List Value).toArray below meth c H locs 0 0 (MQ below (QI (dC, dI) (wC q cI) r S9 A) ([.ref (q 2)] : List Value).toArray s 0 0 A) (F0 m 62 ls []) := by
        intro S x1 x2 h H locs ls hw hl
        unfold f_X0_ticksTillStill_62 at h
        refine lv_iinc (v := x2 + 1) (lv' := [(2, .int (x2 + 1)), (0, .ref (q 2)), (1, .int x1)]) hx hb dX0_ticksTillStill_62 hl (k := 2) rfl rfl (by decide) rfl (fun ls hl => ?_)
        refine lv_goto (tgt := 41) hx hb dX0_ticksTillStill_65 (by decide) ?_
        exact ih41 _ _ _ h _ _ _ hw (lv_sub hl [1, 2, 0] rfl)
      refine lv_iload_n hx hb dX0_ticksTillStill_41 rfl (lv_at hl 1 rfl) ?_
      refine lv_bipush (v := (-9)) hx hb dX0_ticksTillStill_42 (by decide) ?_
      refine lv_icmp_ne (tgt := 68) hx hb dX0_ticksTillStill_44 (by decide) (fun c1 => ?_) (fun c1 => ?_)
      · have h := h_ifn c1 h
        exact kk68 _ _ h _ _ _ hw (lv_sub hl [0, 1] rfl)
      · have h := h_ifp c1 h
        refine lv_iload_n hx hb dX0_ticksTillStill_47 rfl (lv_at hl 2 rfl) ?_
        refine lv_bipush (v := 30) hx hb dX0_ticksTillStill_48 (by decide) ?_
        refine lv_icmp_ge (tgt := 68) hx hb dX0_ticksTillStill_50 (by decide) (fun c2 => ?_) (fun c2 => ?_)
        · have h := h_ifp c2 h
          exact kk68 _ _ h _ _ _ hw (lv_sub hl [0, 1] rfl)
        · have h := h_ifn c2 h
          refine lv_aload_n hx hb dX0_ticksTillStill_53 rfl (lv_at hl 0 rfl) ?_
          obtain ⟨r3, S5, e4, h⟩ := h_bi_ok h
          refine h_callI cx hw (c_X0_tick l dC dI cI cZ q S r3 S5 e4) (cwV 0 hts (hgA (hcV wdL_X0_82 wdI_X0_tick wdS_X0_tick wdN_RX0 wdC_X0_tick)) rfl rfl rfl pdX0_tick ⟨Nat.le_of_ble_eq_true rfl, Nat.le_of_ble_eq_true rfl⟩) 2 (wC_p2 q cI S) rfl rfl rfl hl.1 rfl (Nat.le_of_ble_eq_true rfl) dX0_ticksTillStill_54 ⟨Nat.zero_le _, Nat.zero_le _⟩ (fun H locs hw => ?_)
          refine lv_if_ne (tgt := 62) hx hb dX0_ticksTillStill_57 (by decide) (fun c6 => ?_) (fun c6 => ?_)
          · have h := h_ifn c6 h
            exact kk62 _ _ _ h _ _ _ hw (lv_sub hl [0, 1, 2] rfl)
          · have h := h_ifp c6 h
            refine lv_iload_n hx hb dX0_ticksTillStill_60 rfl (lv_at hl 2 rfl) ?_
            refine lv_istore_n (lv' := [(1, .int x2), (0, .ref (q 2)), (2, .int x2)]) hx hb dX0_ticksTillStill_61 rfl hl (by decide) rfl (fun ls hl => ?_)
            exact kk62 _ _ _ h _ _ _ hw (lv_sub hl [1, 0, 2] rfl)
  refine lv_aload_n hx hb dX0_ticksTillStill_0 rfl (lv_at hl 0 rfl) ?_
  refine h_get (v := .ref (q 11)) cx hw 2 (wC_p2 q cI S) rfl hinX0 4 (by decide) lk18 rfl dX0_ticksTillStill_1 ?_
  refine lv_iconst (v := 0) hx hb dX0_ticksTillStill_4 (by decide) ?_
  refine lv_aload_n hx hb dX0_ticksTillStill_5 rfl (lv_at hl 0 rfl) ?_
  refine h_get (v := .ref (q 17)) cx hw 2 (wC_p2 q cI S) rfl hinX0 10 (by decide) lk37 rfl dX0_ticksTillStill_6 ?_
  refine lv_iconst (v := 0) hx hb dX0_ticksTillStill_9 (by decide) ?_
  refine lv_aload_n hx hb dX0_ticksTillStill_10 rfl (lv_at hl 0 rfl) ?_
  refine h_get (v := .ref (q 17)) cx hw 2 (wC_p2 q cI S) rfl hinX0 10 (by decide) lk37 rfl dX0_ticksTillStill_11 ?_
  refine h_len (v := 96) cx hw 17 (wC_p17 q cI S) rfl dX0_ticksTillStill_14 ?_
  obtain ⟨S1, e2, h⟩ := h_bd_ok h
  refine h_copy cx hw (hta _ wdL_X0_89) (hta _ wdV_arraycopyName) (hta _ wdT_arraycopyName) (hta _ wdN_java_lang_System) 11 17 (wC_p11 q cI S) (wC_p17 q cI S) (wC_s17 q cI S) (by decide) e2 hl.1 (Nat.le_of_ble_eq_true rfl) (by decide +kernel) rfl dX0_ticksTillStill_15 (fun H locs hw => ?_)
  refine lv_aload_n hx hb dX0_ticksTillStill_18 rfl (lv_at hl 0 rfl) ?_
  refine h_get (v := .ref (q 12)) cx hw 2 (wC_p2 q cI S1) rfl hinX0 5 (by decide) lk22 rfl dX0_ticksTillStill_19 ?_
  refine lv_iconst (v := 0) hx hb dX0_ticksTillStill_22 (by decide) ?_
  refine lv_aload_n hx hb dX0_ticksTillStill_23 rfl (lv_at hl 0 rfl) ?_
  refine h_get (v := .ref (q 18)) cx hw 2 (wC_p2 q cI S1) rfl hinX0 11 (by decide) lk40 rfl dX0_ticksTillStill_24 ?_
  refine lv_iconst (v := 0) hx hb dX0_ticksTillStill_27 (by decide) ?_
  refine lv_aload_n hx hb dX0_ticksTillStill_28 rfl (lv_at hl 0 rfl) ?_
  refine h_get (v := .ref (q 18)) cx hw 2 (wC_p2 q cI S1) rfl hinX0 11 (by decide) lk40 rfl dX0_ticksTillStill_29 ?_
  refine h_len (v := 96) cx hw 18 (wC_p18 q cI S1) rfl dX0_ticksTillStill_32 ?_
  obtain ⟨S3, e4, h⟩ := h_bd_ok h
  refine h_copy cx hw (hta _ wdL_X0_89) (hta _ wdV_arraycopyName) (hta _ wdT_arraycopyName) (hta _ wdN_java_lang_System) 12 18 (wC_p12 q cI S1) (wC_p18 q cI S1) (wC_s18 q cI S1) (by decide) e4 hl.1 (Nat.le_of_ble_eq_true rfl) (by decide +kernel) rfl dX0_ticksTillStill_33 (fun H locs hw => ?_)
  refine lv_bipush (v := (-9)) hx hb dX0_ticksTillStill_36 (by decide) ?_
  refine lv_istore_n (lv' := [(1, .int (-9)), (0, .ref (q 2))]) hx hb dX0_ticksTillStill_38 rfl hl (by decide) rfl (fun ls hl => ?_)
  refine lv_iconst (v := 0) hx hb dX0_ticksTillStill_39 (by decide) ?_
  refine lv_istore_n (lv' := [(2, .int 0), (1, .int (-9)), (0, .ref (q 2))]) hx hb dX0_ticksTillStill_40 rfl hl (by decide) rfl (fun ls hl => ?_)
  exact kk41 h_fu _ _ _ h _ _ _ hw (lv_sub hl [2, 1, 0] rfl)
set_option maxHeartbeats 4000000 in
set_option maxRecDepth 100000 in
theorem c_X1_isLink (l : Launch) (dC : Nat → ClassId) (dI : Nat → Nat → Nat) (cI cZ : ClassId) (q : Nat → Nat) (S : HSt) (a1 : Int32) (r : Int32) (h : f_X1_isLink S a1 = some r) : MI l yX1_isLink hsX1_isLink rmX1_isLink (dC, dI) cI cZ (wC q cI) S [.ref (q 1), .int a1] r S := by
  refine MI.ofW (cc := cX1_isLink) (maxL := 2) (ret := (some .boolean)) (by decide +kernel) rfl (Nat.le_of_ble_eq_true rfl) ?_
  intro p e s m below meth c A cx hr hlk hw ls hl
  have hx := cx.1.1
  have hb := cx.1.2.1
  have hml := cx.1.2.2.1
  have hts := cx.1.2.2.2.2
  have hta : ∀ z ∈ hALL, z.before _ s = true := fun z h => hts z (List.mem_cons_of_mem _ h)
  have lk30 : (Cond.fieldLink RX1 30 (TX1 0).1 (TX1 0).2.1 (TX1 0).2.2.1).before _ s = true := hta _ wdF_X1_30
  have hl : lv_has ls 2 [(0, .ref (q 1)), (1, .int a1)] := hl
  unfold f_X1_isLink at h
  refine lv_iload_n hx hb dX1_isLink_0 rfl (lv_at hl 1 rfl) ?_
  refine lv_if_lt (tgt := 16) hx hb dX1_isLink_1 (by decide) (fun c1 => ?_) (fun c1 => ?_)
  · have h := h_ifp c1 h
    refine lv_iconst (v := 0) hx hb dX1_isLink_16 (by decide) ?_
    exact h_iret cx hw hr hlk rfl (Option.some.inj h) rfl dX1_isLink_17
  · have h := h_ifn c1 h
    refine lv_iload_n hx hb dX1_isLink_4 rfl (lv_at hl 1 rfl) ?_
    refine lv_aload_n hx hb dX1_isLink_5 rfl (lv_at hl 0 rfl) ?_
    refine h_get (v := .int (S.1 0)) cx hw 1 (wC_p1 q cI S) rfl hinX1 0 (by decide) lk30 rfl dX1_isLink_6 ?_
    refine lv_icmp_ge (tgt := 16) hx hb dX1_isLink_9 (by decide) (fun c2 => ?_) (fun c2 => ?_)
    · have h := h_ifp c2 h
      refine lv_iconst (v := 0) hx hb dX1_isLink_16 (by decide) ?_
      exact h_iret cx hw hr hlk rfl (Option.some.inj h) rfl dX1_isLink_17
    · have h := h_ifn c2 h
      refine lv_iconst (v := 1) hx hb dX1_isLink_12 (by decide) ?_
      refine lv_goto (tgt := 17) hx hb dX1_isLink_13 (by decide) ?_
      exact h_iret cx hw hr hlk rfl (Option.some.inj h) rfl dX1_isLink_17
set_option maxHeartbeats 4000000 in
set_option maxRecDepth 100000 in
theorem c_X1_sideAt (l : Launch) (dC : Nat → ClassId) (dI : Nat → Nat → Nat) (cI cZ : ClassId) (q : Nat → Nat) (S : HSt) (a1 a2 : Int32) (r : Int32) (h : f_X1_sideAt S a1 a2 = some r) : MI l yX1_sideAt hsX1_sideAt rmX1_sideAt (dC, dI) cI cZ (wC q cI) S [.ref (q 1), .int a1, .int a2] r S := by
  refine MI.ofW (cc := cX1_sideAt) (maxL := 3) (ret := (some .int)) (by decide +kernel) rfl (Nat.le_of_ble_eq_true rfl) ?_
  intro p e s m below meth c A cx hr hlk hw ls hl
  have hx := cx.1.1
  have hb := cx.1.2.1
  have hml := cx.1.2.2.1
  have hts := cx.1.2.2.2.2
  have hta : ∀ z ∈ hALL, z.before _ s = true := fun z h => hts z (List.mem_cons_of_mem _ h)
  have lk9 : (Cond.fieldLink RX1 9 (TX1 1).1 (TX1 1).2.1 (TX1 1).2.2.1).before _ s = true := hta _ wdF_X1_9
  have hl : lv_has ls 3 [(0, .ref (q 1)), (1, .int a1), (2, .int a2)] := hl
  unfold f_X1_sideAt at h
  refine lv_aload_n hx hb dX1_sideAt_0 rfl (lv_at hl 0 rfl) ?_
  refine h_get (v := .ref (q 5)) cx hw 1 (wC_p1 q cI S) rfl hinX1 1 (by decide) lk9 rfl dX1_sideAt_1 ?_
  refine lv_iconst (v := 2) hx hb dX1_sideAt_4 (by decide) ?_
  refine lv_iload_n hx hb dX1_sideAt_5 rfl (lv_at hl 1 rfl) ?_
  refine lv_imul hx hb dX1_sideAt_6 ?_
  obtain ⟨v1, e2, h⟩ := h_bd_ok h
  refine h_ald cx hw 5 (wC_p5 q cI S) e2 dX1_sideAt_7 ?_
  refine lv_iload_n hx hb dX1_sideAt_8 rfl (lv_at hl 2 rfl) ?_
  refine lv_icmp_ne (tgt := 16) hx hb dX1_sideAt_9 (by decide) (fun c3 => ?_) (fun c3 => ?_)
  · have h := h_ifn c3 h
    refine lv_aload_n hx hb dX1_sideAt_16 rfl (lv_at hl 0 rfl) ?_
    refine h_get (v := .ref (q 5)) cx hw 1 (wC_p1 q cI S) rfl hinX1 1 (by decide) lk9 rfl dX1_sideAt_17 ?_
    refine lv_iconst (v := 2) hx hb dX1_sideAt_20 (by decide) ?_
    refine lv_iload_n hx hb dX1_sideAt_21 rfl (lv_at hl 1 rfl) ?_
    refine lv_imul hx hb dX1_sideAt_22 ?_
    refine lv_iconst (v := 1) hx hb dX1_sideAt_23 (by decide) ?_
    refine lv_iadd hx hb dX1_sideAt_24 ?_
    obtain ⟨v4, e5, h⟩ := h_bd_ok h
    refine h_ald cx hw 5 (wC_p5 q cI S) e5 dX1_sideAt_25 ?_
    refine lv_iload_n hx hb dX1_sideAt_26 rfl (lv_at hl 2 rfl) ?_
    refine lv_icmp_ne (tgt := 38) hx hb dX1_sideAt_27 (by decide) (fun c6 => ?_) (fun c6 => ?_)
    · have h := h_ifn c6 h
      refine lv_iconst (v := (-1)) hx hb dX1_sideAt_38 (by decide) ?_
      exact h_iret cx hw hr hlk rfl (Option.some.inj h) rfl dX1_sideAt_39
    · have h := h_ifp c6 h
      refine lv_iconst (v := 2) hx hb dX1_sideAt_30 (by decide) ?_
      refine lv_iload_n hx hb dX1_sideAt_31 rfl (lv_at hl 1 rfl) ?_
      refine lv_imul hx hb dX1_sideAt_32 ?_
      refine lv_iconst (v := 1) hx hb dX1_sideAt_33 (by decide) ?_
      refine lv_iadd hx hb dX1_sideAt_34 ?_
      refine lv_goto (tgt := 39) hx hb dX1_sideAt_35 (by decide) ?_
      exact h_iret cx hw hr hlk rfl (Option.some.inj h) rfl dX1_sideAt_39
  · have h := h_ifp c3 h
    refine lv_iconst (v := 2) hx hb dX1_sideAt_12 (by decide) ?_
    refine lv_iload_n hx hb dX1_sideAt_13 rfl (lv_at hl 1 rfl) ?_
    refine lv_imul hx hb dX1_sideAt_14 ?_
    exact h_iret cx hw hr hlk rfl (Option.some.inj h) rfl dX1_sideAt_15
set_option maxHeartbeats 4000000 in
set_option maxRecDepth 100000 in
theorem c_X1_joined (l : Launch) (dC : Nat → ClassId) (dI : Nat → Nat → Nat) (cI cZ : ClassId) (q : Nat → Nat) (S : HSt) (a1 a2 : Int32) (r : Int32) (h : f_X1_joined S a1 a2 = some r) : MI l yX1_joined hsX1_joined rmX1_joined (dC, dI) cI cZ (wC q cI) S [.ref (q 1), .int a1, .int a2] r S := by
  refine MI.ofW (cc := cX1_joined) (maxL := 4) (ret := (some .boolean)) (by decide +kernel) rfl (Nat.le_of_ble_eq_true rfl) ?_
  intro p e s m below meth c A cx hr hlk hw ls hl
  have hx := cx.1.1
  have hb := cx.1.2.1
  have hml := cx.1.2.2.1
  have hts := cx.1.2.2.2.2
  have hta : ∀ z ∈ hALL, z.before _ s = true := fun z h => hts z (List.mem_cons_of_mem _ h)
  have lk30 : (Cond.fieldLink RX1 30 (TX1 0).1 (TX1 0).2.1 (TX1 0).2.2.1).before _ s = true := hta _ wdF_X1_30
  have hl : lv_has ls 4 [(0, .ref (q 1)), (1, .int a1), (2, .int a2)] := hl
  unfold f_X1_joined at h
  have kk2 : ∀ (n2 : Nat) (x1 x2 x3 : Int32), f_X1_joined_2 S n2 x1 x2 x3 = some r → ∀ (H : Heap) (locs : List Loc) (ls : Array Slot), HW (dC, dI) (wC q cI) S A s H locs → lv_has ls 4 [(0, .ref (q 1)), (1, .int x1), (2, .int x2), (3, .int x3)] → W p l e rmX1_joined s m ([.ref (q 1), .int a1, .int a2] : List Value).toArray below meth c H locs 0 0 (MQ below (QI (dC, dI) (wC q cI) r S A) ([.ref (q 1), .int a1, .int a2] : List Value).toArray s 0 0 A) (F0 m 2 ls []) := by
    intro n2
    induction n2 with
    | zero =>
      intro x1 x2 x3 h
      have h9 : (none : Option Int32) = some r := h
      cases h9
    | succ n2 ih2 =>
      intro x1 x2 x3 h H locs ls hw hl
      have h : f_X1_joined_2_s S (f_X1_joined_2 S n2) x1 x2 x3 = some r := h
      unfold f_X1_joined_2_s at h
      have kk32 : ∀ (x1 x2 x3 : Int32), f_X1_joined_32 S (f_X1_joined_2 S n2) x1 x2 x3 = some r → ∀ (H : Heap) (locs : List Loc) (ls : Array Slot), HW (dC, dI) (wC q cI) S A s H locs → lv_has ls 4 [(0, .ref (q 1)), (1, .int x1), (2, .int x2), (3, .int x3)] → W p l e rmX1_joined s m ([.ref (q 1), .int a1, .int a2] : List Value).toArray below meth c H locs 0 0 (MQ below (QI (dC, dI) (wC q cI) r S A) ([.ref (q 1), .int a1, .int a2] : List Value).toArray s 0 0 A) (F0 m 32 ls []) := by
        intro x1 x2 x3 h H locs ls hw hl
        unfold f_X1_joined_32 at h
        refine lv_iinc (v := x3 + 1) (lv' := [(3, .int (x3 + 1)), (0, .ref (q 1)), (1, .int x1), (2, .int x2)]) hx hb dX1_joined_32 hl (k := 3) rfl rfl (by decide) rfl (fun ls hl => ?_)
        refine lv_goto (tgt := 2) hx hb dX1_joined_35 (by decide) ?_
        exact ih2 _ _ _ h _ _ _ hw (lv_sub hl [1, 2, 3, 0] rfl)
      refine lv_iload_n hx hb dX1_joined_2 rfl (lv_at hl 3 rfl) ?_
      refine lv_aload_n hx hb dX1_joined_3 rfl (lv_at hl 0 rfl) ?_
      refine h_get (v := .int (S.1 0)) cx hw 1 (wC_p1 q cI S) rfl hinX1 0 (by decide) lk30 rfl dX1_joined_4 ?_
      refine lv_icmp_ge (tgt := 38) hx hb dX1_joined_7 (by decide) (fun c1 => ?_) (fun c1 => ?_)
      · have h := h_ifp c1 h
        refine lv_iconst (v := 0) hx hb dX1_joined_38 (by decide) ?_
        exact h_iret cx hw hr hlk rfl (Option.some.inj h) rfl dX1_joined_39
      · have h := h_ifn c1 h
        refine lv_aload_n hx hb dX1_joined_10 rfl (lv_at hl 0 rfl) ?_
        refine lv_iload_n hx hb dX1_joined_11 rfl (lv_at hl 3 rfl) ?_
        refine lv_iload_n hx hb dX1_joined_12 rfl (lv_at hl 1 rfl) ?_
        obtain ⟨r2, e3, h⟩ := h_bd_ok h
        refine h_callI cx hw (c_X1_sideAt l dC dI cI cZ q S x3 x1 r2 e3) (cwV 2 hts (hgA (hcV wdL_X1_34 wdI_X1_sideAt wdS_X1_sideAt wdN_RX1 wdC_X1_sideAt)) rfl rfl rfl pdX1_sideAt ⟨Nat.le_of_ble_eq_true rfl, Nat.le_of_ble_eq_true rfl⟩) 1 (wC_p1 q cI S) rfl rfl rfl hl.1 rfl (Nat.le_of_ble_eq_true rfl) dX1_joined_13 ⟨Nat.zero_le _, Nat.zero_le _⟩ (fun H locs hw => ?_)
        refine lv_iconst (v := (-1)) hx hb dX1_joined_16 (by decide) ?_
        refine lv_icmp_eq (tgt := 32) hx hb dX1_joined_17 (by decide) (fun c4 => ?_) (fun c4 => ?_)
        · have h := h_ifp c4 h
          exact kk32 _ _ _ h _ _ _ hw (lv_sub hl [0, 1, 2, 3] rfl)
        · have h := h_ifn c4 h
          refine lv_aload_n hx hb dX1_joined_20 rfl (lv_at hl 0 rfl) ?_
          refine lv_iload_n hx hb dX1_joined_21 rfl (lv_at hl 3 rfl) ?_
          refine lv_iload_n hx hb dX1_joined_22 rfl (lv_at hl 2 rfl) ?_
          obtain ⟨r5, e6, h⟩ := h_bd_ok h
          refine h_callI cx hw (c_X1_sideAt l dC dI cI cZ q S x3 x2 r5 e6) (cwV 2 hts (hgA (hcV wdL_X1_34 wdI_X1_sideAt wdS_X1_sideAt wdN_RX1 wdC_X1_sideAt)) rfl rfl rfl pdX1_sideAt ⟨Nat.le_of_ble_eq_true rfl, Nat.le_of_ble_eq_true rfl⟩) 1 (wC_p1 q cI S) rfl rfl rfl hl.1 rfl (Nat.le_of_ble_eq_true rfl) dX1_joined_23 ⟨Nat.zero_le _, Nat.zero_le _⟩ (fun H locs hw => ?_)
          refine lv_iconst (v := (-1)) hx hb dX1_joined_26 (by decide) ?_
          refine lv_icmp_eq (tgt := 32) hx hb dX1_joined_27 (by decide) (fun c7 => ?_) (fun c7 => ?_)
          · have h := h_ifp c7 h
            exact kk32 _ _ _ h _ _ _ hw (lv_sub hl [0, 1, 2, 3] rfl)
          · have h := h_ifn c7 h
            refine lv_iconst (v := 1) hx hb dX1_joined_30 (by decide) ?_
            exact h_iret cx hw hr hlk rfl (Option.some.inj h) rfl dX1_joined_31
  refine lv_iconst (v := 0) hx hb dX1_joined_0 (by decide) ?_
  refine lv_istore_n (lv' := [(3, .int 0), (0, .ref (q 1)), (1, .int a1), (2, .int a2)]) hx hb dX1_joined_1 rfl hl (by decide) rfl (fun ls hl => ?_)
  exact kk2 h_fu _ _ _ h _ _ _ hw (lv_sub hl [1, 2, 3, 0] rfl)
set_option maxHeartbeats 4000000 in
set_option maxRecDepth 100000 in
theorem c_X1_shorten (l : Launch) (dC : Nat → ClassId) (dI : Nat → Nat → Nat) (cI cZ : ClassId) (q : Nat → Nat) (S : HSt) (a1 : Int32) (r : Int32) (S9 : HSt) (h : f_X1_shorten S a1 = some (r, S9)) : MI l yX1_shorten hsX1_shorten rmX1_shorten (dC, dI) cI cZ (wC q cI) S [.ref (q 1), .int a1] r S9 := by
  refine MI.ofW (cc := cX1_shorten) (maxL := 7) (ret := (some .boolean)) (by decide +kernel) rfl (Nat.le_of_ble_eq_true rfl) ?_
  intro p e s m below meth c A cx hr hlk hw ls hl
  have hx := cx.1.1
  have hb := cx.1.2.1
  have hml := cx.1.2.2.1
  have hts := cx.1.2.2.2.2
  have hta : ∀ z ∈ hALL, z.before _ s = true := fun z h => hts z (List.mem_cons_of_mem _ h)
  have lk15 : (Cond.fieldLink RX1 15 (TX1 2).1 (TX1 2).2.1 (TX1 2).2.2.1).before _ s = true := hta _ wdF_X1_15
  have lk24 : (Cond.fieldLink RX1 24 (TX1 5).1 (TX1 5).2.1 (TX1 5).2.2.1).before _ s = true := hta _ wdF_X1_24
  have lk30 : (Cond.fieldLink RX1 30 (TX1 0).1 (TX1 0).2.1 (TX1 0).2.2.1).before _ s = true := hta _ wdF_X1_30
  have lk9 : (Cond.fieldLink RX1 9 (TX1 1).1 (TX1 1).2.1 (TX1 1).2.2.1).before _ s = true := hta _ wdF_X1_9
  have hiniX3 := hta _ wdN_RX3
  have hstX3_pair := hta _ wdT_X3_pair
  have hl : lv_has ls 7 [(0, .ref (q 1)), (1, .int a1)] := hl
  unfold f_X1_shorten at h
  have kk4 : ∀ (n4 : Nat) (S : HSt) (x1 x2 x3 : Int32), f_X1_shorten_4 n4 S x1 x2 x3 = some (r, S9) → ∀ (H : Heap) (locs : List Loc) (ls : Array Slot), HW (dC, dI) (wC q cI) S A s H locs → lv_has ls 7 [(0, .ref (q 1)), (1, .int x1), (2, .int x2), (3, .int x3)] → W p l e rmX1_shorten s m ([.ref (q 1), .int a1] : List Value).toArray below meth c H locs 0 0 (MQ below (QI (dC, dI) (wC q cI) r S9 A) ([.ref (q 1), .int a1] : List Value).toArray s 0 0 A) (F0 m 4 ls []) := by
    intro n4
    induction n4 with
    | zero =>
      intro S x1 x2 x3 h
      have h9 : (none : Option (Int32 × HSt)) = some (r, S9) := h
      cases h9
    | succ n4 ih4 =>
      intro S x1 x2 x3 h H locs ls hw hl
      have h : f_X1_shorten_4_s (f_X1_shorten_4 n4) S x1 x2 x3 = some (r, S9) := h
      unfold f_X1_shorten_4_s at h
      have kk108 : ∀ (S : HSt) (x1 x2 x3 : Int32), f_X1_shorten_108 (f_X1_shorten_4 n4) S x1 x2 x3 = some (r, S9) → ∀ (H : Heap) (locs : List Loc) (ls : Array Slot), HW (dC, dI) (wC q cI) S A s H locs → lv_has ls 7 [(0, .ref (q 1)), (1, .int x1), (2, .int x2), (3, .int x3)] → W p l e rmX1_shorten s m ([.ref (q 1), .int a1] : List Value).toArray below meth c H locs 0 0 (MQ below (QI (dC, dI) (wC q cI) r S9 A) ([.ref (q 1), .int a1] : List Value).toArray s 0 0 A) (F0 m 108 ls []) := by
        intro S x1 x2 x3 h H locs ls hw hl
        unfold f_X1_shorten_108 at h
        refine lv_iinc (v := x3 + 1) (lv' := [(3, .int (x3 + 1)), (0, .ref (q 1)), (1, .int x1), (2, .int x2)]) hx hb dX1_shorten_108 hl (k := 3) rfl rfl (by decide) rfl (fun ls hl => ?_)
        refine lv_goto (tgt := 4) hx hb dX1_shorten_111 (by decide) ?_
        exact ih4 _ _ _ _ h _ _ _ hw (lv_sub hl [1, 2, 3, 0] rfl)
      have kk97 : ∀ (S : HSt) (x1 x3 x5 x6 : Int32), f_X1_shorten_97 (f_X1_shorten_4 n4) S x1 x3 x5 x6 = some (r, S9) → ∀ (H : Heap) (locs : List Loc) (ls : Array Slot), HW (dC, dI) (wC q cI) S A s H locs → lv_has ls 7 [(0, .ref (q 1)), (1, .int x1), (3, .int x3), (5, .int x5), (6, .int x6)] → W p l e rmX1_shorten s m ([.ref (q 1), .int a1] : List Value).toArray below meth c H locs 0 0 (MQ below (QI (dC, dI) (wC q cI) r S9 A) ([.ref (q 1), .int a1] : List Value).toArray s 0 0 A) (F0 m 97 ls []) := by
        intro S x1 x3 x5 x6 h H locs ls hw hl
        unfold f_X1_shorten_97 at h
        refine lv_aload_n hx hb dX1_shorten_97 rfl (lv_at hl 0 rfl) ?_
        refine h_get (v := .ref (q 9)) cx hw 1 (wC_p1 q cI S) rfl hinX1 5 (by decide) lk24 rfl dX1_shorten_98 ?_
        refine lv_iload hx hb dX1_shorten_101 (lv_at hl 3 rfl) ?_
        refine lv_iload hx hb dX1_shorten_103 (lv_at hl 4 rfl) ?_
        obtain ⟨S1, e2, h⟩ := h_bd_ok h
        refine h_ast cx hw 9 (wC_p9 q cI S) (wC_s9 q cI S) e2 dX1_shorten_105 (fun H locs hw => ?_)
        refine lv_iconst (v := 1) hx hb dX1_shorten_106 (by decide) ?_
        refine lv_istore_n (lv' := [(2, .int 1), (0, .ref (q 1)), (1, .int x1), (3, .int x3), (5, .int x5), (6, .int x6)]) hx hb dX1_shorten_107 rfl hl (by decide) rfl (fun ls hl => ?_)
        exact kk108 _ _ _ _ h _ _ _ hw (lv_sub hl [1, 2, 0, 3] rfl)
      refine lv_iload_n hx hb dX1_shorten_4 rfl (lv_at hl 3 rfl) ?_
      refine lv_iconst (v := 2) hx hb dX1_shorten_5 (by decide) ?_
      refine lv_aload_n hx hb dX1_shorten_6 rfl (lv_at hl 0 rfl) ?_
      refine h_get (v := .int (S.1 0)) cx hw 1 (wC_p1 q cI S) rfl hinX1 0 (by decide) lk30 rfl dX1_shorten_7 ?_
      refine lv_imul hx hb dX1_shorten_10 ?_
      refine lv_icmp_ge (tgt := 114) hx hb dX1_shorten_11 (by decide) (fun c1 => ?_) (fun c1 => ?_)
      · have h := h_ifp c1 h
        refine lv_iload_n hx hb dX1_shorten_114 rfl (lv_at hl 2 rfl) ?_
        obtain ⟨hb9, h⟩ := h_b_ok h
        exact h_iret cx hw hr hlk (h_nb hb9) (congrArg Prod.fst (Option.some.inj h)) (congrArg Prod.snd (Option.some.inj h)) dX1_shorten_115
      · have h := h_ifn c1 h
        refine lv_aload_n hx hb dX1_shorten_14 rfl (lv_at hl 0 rfl) ?_
        refine h_get (v := .ref (q 9)) cx hw 1 (wC_p1 q cI S) rfl hinX1 5 (by decide) lk24 rfl dX1_shorten_15 ?_
        refine lv_aload_n hx hb dX1_shorten_18 rfl (lv_at hl 0 rfl) ?_
        refine h_get (v := .ref (q 5)) cx hw 1 (wC_p1 q cI S) rfl hinX1 1 (by decide) lk9 rfl dX1_shorten_19 ?_
        refine lv_iload_n hx hb dX1_shorten_22 rfl (lv_at hl 3 rfl) ?_
        refine lv_iconst (v := 1) hx hb dX1_shorten_23 (by decide) ?_
        refine lv_ixor hx hb dX1_shorten_24 ?_
        obtain ⟨v2, e3, h⟩ := h_bd_ok h
        refine h_ald cx hw 5 (wC_p5 q cI S) e3 dX1_shorten_25 ?_
        refine lv_iload_n hx hb dX1_shorten_26 rfl (lv_at hl 1 rfl) ?_
        obtain ⟨r4, e5, h⟩ := h_bd_ok h
        refine h_callN cx.1 (c_X3_pair l v2 x1 r4 e5) ⟨va_cnB 2 hts (hgA (hcW wdC_X3_pair)) rfl rfl rfl cx.2.2.1.1 hiniX3 pdX3_pair.2 ⟨Nat.le_of_ble_eq_true rfl, Nat.le_of_ble_eq_true rfl⟩, hstX3_pair, trivial⟩ rfl hl.1 rfl (Nat.le_of_ble_eq_true rfl) dX1_shorten_27 ⟨Nat.zero_le _, Nat.zero_le _⟩ ?_
        obtain ⟨v6, e7, h⟩ := h_bd_ok h
        refine h_ald cx hw 9 (wC_p9 q cI S) e7 dX1_shorten_30 ?_
        refine lv_istore (lv' := [(4, .int v6), (0, .ref (q 1)), (1, .int x1), (2, .int x2), (3, .int x3)]) hx hb dX1_shorten_31 hl (by decide) rfl (fun ls hl => ?_)
        refine lv_aload_n hx hb dX1_shorten_33 rfl (lv_at hl 1 rfl) ?_
        refine lv_iload_n hx hb dX1_shorten_34 rfl (lv_at hl 4 rfl) ?_
        obtain ⟨r8, e9, h⟩ := h_bd_ok h
        refine h_callI cx hw (c_X1_isUpSide l dC dI cI cZ q S x3 r8 e9) (cwV 1 hts (hgA (hcV wdL_X1_55 wdI_X1_isUpSide wdS_X1_isUpSide wdN_RX1 wdC_X1_isUpSide)) rfl rfl rfl pdX1_isUpSide ⟨Nat.le_of_ble_eq_true rfl, Nat.le_of_ble_eq_true rfl⟩) 1 (wC_p1 q cI S) rfl rfl rfl hl.1 rfl (Nat.le_of_ble_eq_true rfl) dX1_shorten_35 ⟨Nat.zero_le _, Nat.zero_le _⟩ (fun H locs hw => ?_)
        refine lv_if_eq (tgt := 108) hx hb dX1_shorten_38 (by decide) (fun c10 => ?_) (fun c10 => ?_)
        · have h := h_ifp c10 h
          exact kk108 _ _ _ _ h _ _ _ hw (lv_sub hl [1, 2, 3, 4] rfl)
        · have h := h_ifn c10 h
          refine lv_iload hx hb dX1_shorten_41 (lv_at hl 0 rfl) ?_
          refine lv_bipush (v := (-9)) hx hb dX1_shorten_43 (by decide) ?_
          refine lv_icmp_eq (tgt := 108) hx hb dX1_shorten_45 (by decide) (fun c11 => ?_) (fun c11 => ?_)
          · have h := h_ifp c11 h
            exact kk108 _ _ _ _ h _ _ _ hw (lv_sub hl [1, 2, 3, 4] rfl)
          · have h := h_ifn c11 h
            refine lv_aload_n hx hb dX1_shorten_48 rfl (lv_at hl 1 rfl) ?_
            refine h_get (v := .ref (q 5)) cx hw 1 (wC_p1 q cI S) rfl hinX1 1 (by decide) lk9 rfl dX1_shorten_49 ?_
            refine lv_iload_n hx hb dX1_shorten_52 rfl (lv_at hl 4 rfl) ?_
            obtain ⟨v12, e13, h⟩ := h_bd_ok h
            refine h_ald cx hw 5 (wC_p5 q cI S) e13 dX1_shorten_53 ?_
            refine lv_iload_n hx hb dX1_shorten_54 rfl (lv_at hl 2 rfl) ?_
            obtain ⟨r14, e15, h⟩ := h_bd_ok h
            refine h_callN cx.1 (c_X3_pair l v12 x1 r14 e15) ⟨va_cnB 2 hts (hgA (hcW wdC_X3_pair)) rfl rfl rfl cx.2.2.1.1 hiniX3 pdX3_pair.2 ⟨Nat.le_of_ble_eq_true rfl, Nat.le_of_ble_eq_true rfl⟩, hstX3_pair, trivial⟩ rfl hl.1 rfl (Nat.le_of_ble_eq_true rfl) dX1_shorten_55 ⟨Nat.zero_le _, Nat.zero_le _⟩ ?_
            refine lv_istore (lv' := [(5, .int r14), (4, .int v6), (0, .ref (q 1)), (1, .int x1), (2, .int x2), (3, .int x3)]) hx hb dX1_shorten_58 hl (by decide) rfl (fun ls hl => ?_)
            refine lv_iload hx hb dX1_shorten_60 (lv_at hl 1 rfl) ?_
            refine lv_aload_n hx hb dX1_shorten_62 rfl (lv_at hl 2 rfl) ?_
            refine h_get (v := .ref (q 6)) cx hw 1 (wC_p1 q cI S) rfl hinX1 2 (by decide) lk15 rfl dX1_shorten_63 ?_
            refine lv_iload_n hx hb dX1_shorten_66 rfl (lv_at hl 5 rfl) ?_
            refine lv_iconst (v := 1) hx hb dX1_shorten_67 (by decide) ?_
            refine lv_ishr hx hb dX1_shorten_68 ?_
            obtain ⟨v16, e17, h⟩ := h_bd_ok h
            refine h_ald cx hw 6 (wC_p6 q cI S) e17 dX1_shorten_69 ?_
            refine lv_iadd hx hb dX1_shorten_70 ?_
            refine lv_istore (lv' := [(6, .int (v6 + v16)), (5, .int r14), (4, .int v6), (0, .ref (q 1)), (1, .int x1), (2, .int x2), (3, .int x3)]) hx hb dX1_shorten_71 hl (by decide) rfl (fun ls hl => ?_)
            refine lv_aload_n hx hb dX1_shorten_73 rfl (lv_at hl 3 rfl) ?_
            refine h_get (v := .ref (q 9)) cx hw 1 (wC_p1 q cI S) rfl hinX1 5 (by decide) lk24 rfl dX1_shorten_74 ?_
            refine lv_iload hx hb dX1_shorten_77 (lv_at hl 1 rfl) ?_
            obtain ⟨v18, e19, h⟩ := h_bd_ok h
            refine h_ald cx hw 9 (wC_p9 q cI S) e19 dX1_shorten_79 ?_
            refine lv_bipush (v := (-9)) hx hb dX1_shorten_80 (by decide) ?_
            refine lv_icmp_eq (tgt := 97) hx hb dX1_shorten_82 (by decide) (fun c20 => ?_) (fun c20 => ?_)
            · have h := h_ifp c20 h
              exact kk97 _ _ _ _ _ h _ _ _ hw (lv_sub hl [3, 4, 6, 1, 0] rfl)
            · have h := h_ifn c20 h
              refine lv_iload hx hb dX1_shorten_85 (lv_at hl 0 rfl) ?_
              refine lv_aload_n hx hb dX1_shorten_87 rfl (lv_at hl 3 rfl) ?_
              refine h_get (v := .ref (q 9)) cx hw 1 (wC_p1 q cI S) rfl hinX1 5 (by decide) lk24 rfl dX1_shorten_88 ?_
              refine lv_iload hx hb dX1_shorten_91 (lv_at hl 1 rfl) ?_
              obtain ⟨v21, e22, h⟩ := h_bd_ok h
              refine h_ald cx hw 9 (wC_p9 q cI S) e22 dX1_shorten_93 ?_
              refine lv_icmp_ge (tgt := 108) hx hb dX1_shorten_94 (by decide) (fun c23 => ?_) (fun c23 => ?_)
              · have h := h_ifp c23 h
                exact kk108 _ _ _ _ h _ _ _ hw (lv_sub hl [3, 4, 5, 6] rfl)
              · have h := h_ifn c23 h
                exact kk97 _ _ _ _ _ h _ _ _ hw (lv_sub hl [3, 4, 6, 1, 0] rfl)
  refine lv_iconst (v := 0) hx hb dX1_shorten_0 (by decide) ?_
  refine lv_istore_n (lv' := [(2, .int 0), (0, .ref (q 1)), (1, .int a1)]) hx hb dX1_shorten_1 rfl hl (by decide) rfl (fun ls hl => ?_)
  refine lv_iconst (v := 0) hx hb dX1_shorten_2 (by decide) ?_
  refine lv_istore_n (lv' := [(3, .int 0), (2, .int 0), (0, .ref (q 1)), (1, .int a1)]) hx hb dX1_shorten_3 rfl hl (by decide) rfl (fun ls hl => ?_)
  exact kk4 h_fu _ _ _ _ h _ _ _ hw (lv_sub hl [2, 3, 1, 0] rfl)
