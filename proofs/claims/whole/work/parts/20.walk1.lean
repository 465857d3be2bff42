set_option maxHeartbeats 4000000 in
set_option maxRecDepth 100000 in
theorem c_X0_has (l : Launch) (dC : Nat → ClassId) (dI : Nat → Nat → Nat) (cI cZ : ClassId) (q : Nat → Nat) (S : HSt) (a1 a2 : Int32) (r : Int32) (h : f_X0_has S a1 a2 = some r) : MI l yX0_has hsX0_has rmX0_has (dC, dI) cI cZ (wC q cI) S [.ref (q 2), .int a1, .int a2] r S := by
  refine MI.ofW (cc := cX0_has) (maxL := 3) (ret := (some .boolean)) (by decide +kernel) rfl (Nat.le_of_ble_eq_true rfl) ?_
  intro p e s m below meth c A cx hr hlk hw ls hl
  have hx := cx.1.1
  have hb := cx.1.2.1
  have hml := cx.1.2.2.1
  have hts := cx.1.2.2.2.2
  have hta : ∀ z ∈ hALL, z.before _ s = true := fun z h => hts z (List.mem_cons_of_mem _ h)
  have lk25 : (Cond.fieldLink RX0 25 (TX0 6).1 (TX0 6).2.1 (TX0 6).2.2.1).before _ s = true := hta _ wdF_X0_25
  have hl : lv_has ls 3 [(0, .ref (q 2)), (1, .int a1), (2, .int a2)] := hl
  unfold f_X0_has at h
  refine lv_aload_n hx hb dX0_has_0 rfl (lv_at hl 0 rfl) ?_
  refine h_get (v := .ref (q 13)) cx hw 2 (wC_p2 q cI S) rfl hinX0 6 (by decide) lk25 rfl dX0_has_1 ?_
  refine lv_iload_n hx hb dX0_has_4 rfl (lv_at hl 1 rfl) ?_
  refine lv_iconst (v := 4) hx hb dX0_has_5 (by decide) ?_
  refine lv_imul hx hb dX0_has_6 ?_
  refine lv_iload_n hx hb dX0_has_7 rfl (lv_at hl 2 rfl) ?_
  refine lv_iadd hx hb dX0_has_8 ?_
  obtain ⟨v1, e2, h⟩ := h_bd_ok h
  refine h_ald cx hw 13 (wC_p13 q cI S) e2 dX0_has_9 ?_
  refine lv_iconst (v := 1) hx hb dX0_has_10 (by decide) ?_
  refine lv_icmp_ne (tgt := 18) hx hb dX0_has_11 (by decide) (fun c3 => ?_) (fun c3 => ?_)
  · have h := h_ifn c3 h
    refine lv_iconst (v := 0) hx hb dX0_has_18 (by decide) ?_
    exact h_iret cx hw hr hlk rfl (Option.some.inj h) rfl dX0_has_19
  · have h := h_ifp c3 h
    refine lv_iconst (v := 1) hx hb dX0_has_14 (by decide) ?_
    refine lv_goto (tgt := 19) hx hb dX0_has_15 (by decide) ?_
    exact h_iret cx hw hr hlk rfl (Option.some.inj h) rfl dX0_has_19
set_option maxHeartbeats 4000000 in
set_option maxRecDepth 100000 in
theorem c_X3_slot (l : Launch) (a0 a1 : Int32) (r : Int32) (h : f_X3_slot a0 a1 = some r) : MS l yX3_slot hsX3_slot rmX3_slot [.int a0, .int a1] r := by
  refine MS.ofW (cc := cX3_slot) (maxL := 2) (ret := (some .int)) (by decide +kernel) rfl (Nat.le_of_ble_eq_true rfl) ?_
  intro p e s m below meth c cf hr hlk ls hl
  have hx := cf.1
  have hb := cf.2.1
  have hml := cf.2.2.1
  have hts := cf.2.2.2.2
  have hta : ∀ z ∈ hALL, z.before _ s = true := fun z h => hts z (List.mem_cons_of_mem _ h)
  have hl : lv_has ls 2 [(0, .int a0), (1, .int a1)] := hl
  unfold f_X3_slot at h
  refine lv_iload_n hx hb dX3_slot_0 rfl (lv_at hl 0 rfl) ?_
  refine lv_iconst (v := 4) hx hb dX3_slot_1 (by decide) ?_
  refine lv_imul hx hb dX3_slot_2 ?_
  refine lv_iload_n hx hb dX3_slot_3 rfl (lv_at hl 1 rfl) ?_
  refine lv_iadd hx hb dX3_slot_4 ?_
  exact h_sret cf hr hlk rfl (Option.some.inj h) dX3_slot_5
set_option maxHeartbeats 4000000 in
set_option maxRecDepth 100000 in
theorem c_X0_handNothing (l : Launch) (dC : Nat → ClassId) (dI : Nat → Nat → Nat) (cI cZ : ClassId) (q : Nat → Nat) (S : HSt) (a1 : Int32) (S9 : HSt) (h : f_X0_handNothing S a1 = some S9) : MV l yX0_handNothing hsX0_handNothing rmX0_handNothing (dC, dI) cI cZ (wC q cI) S [.ref (q 2), .int a1] S9 := by
  refine MV.ofW (cc := cX0_handNothing) (maxL := 3) (ret := none) (by decide +kernel) rfl (Nat.le_of_ble_eq_true rfl) ?_
  intro p e s m below meth c A cx hr hlk hw ls hl
  have hx := cx.1.1
  have hb := cx.1.2.1
  have hml := cx.1.2.2.1
  have hts := cx.1.2.2.2.2
  have hta : ∀ z ∈ hALL, z.before _ s = true := fun z h => hts z (List.mem_cons_of_mem _ h)
  have lk18 : (Cond.fieldLink RX0 18 (TX0 4).1 (TX0 4).2.1 (TX0 4).2.2.1).before _ s = true := hta _ wdF_X0_18
  have lk43 : (Cond.fieldLink RX0 43 (TX0 0).1 (TX0 0).2.1 (TX0 0).2.2.1).before _ s = true := hta _ wdF_X0_43
  have lk51 : (Cond.fieldLink RX0 51 (TX1 0).1 (TX1 0).2.1 (TX1 0).2.2.1).before _ s = true := hta _ wdF_X0_51
  have lk60 : (Cond.fieldLink RX0 60 (TX1 1).1 (TX1 1).2.1 (TX1 1).2.2.1).before _ s = true := hta _ wdF_X0_60
  have hiniX3 := hta _ wdN_RX3
  have hstX3_slot := hta _ wdT_X3_slot
  have hl : lv_has ls 3 [(0, .ref (q 2)), (1, .int a1)] := hl
  unfold f_X0_handNothing at h
  have kk2 : ∀ (n2 : Nat) (S : HSt) (x1 x2 : Int32), f_X0_handNothing_2 n2 S x1 x2 = some S9 → ∀ (H : Heap) (locs : List Loc) (ls : Array Slot), HW (dC, dI) (wC q cI) S A s H locs → lv_has ls 3 [(0, .ref (q 2)), (1, .int x1), (2, .int x2)] → W p l e rmX0_handNothing s m ([.ref (q 2), .int a1] : List Value).toArray below meth c H locs 0 0 (MQ below (QV (dC, dI) (wC q cI) S9 A) ([.ref (q 2), .int a1] : List Value).toArray s 0 0 A) (F0 m 2 ls []) := by
    intro n2
    induction n2 with
    | zero =>
      intro S x1 x2 h
      have h9 : (none : Option HSt) = some S9 := h
      cases h9
    | succ n2 ih2 =>
      intro S x1 x2 h H locs ls hw hl
      have h : f_X0_handNothing_2_s (f_X0_handNothing_2 n2) S x1 x2 = some S9 := h
      unfold f_X0_handNothing_2_s at h
      have kk41 : ∀ (S : HSt) (x1 x2 : Int32), f_X0_handNothing_41 (f_X0_handNothing_2 n2) S x1 x2 = some S9 → ∀ (H : Heap) (locs : List Loc) (ls : Array Slot), HW (dC, dI) (wC q cI) S A s H locs → lv_has ls 3 [(0, .ref (q 2)), (1, .int x1), (2, .int x2)] → W p l e rmX0_handNothing s m ([.ref (q 2), .int a1] : List Value).toArray below meth c H locs 0 0 (MQ below (QV (dC, dI) (wC q cI) S9 A) ([.ref (q 2), .int a1] : List Value).toArray s 0 0 A) (F0 m 41 ls []) := by
        intro S x1 x2 h H locs ls hw hl
        unfold f_X0_handNothing_41 at h
        refine lv_iinc (v := x2 + 1) (lv' := [(2, .int (x2 + 1)), (0, .ref (q 2)), (1, .int x1)]) hx hb dX0_handNothing_41 hl (k := 2) rfl rfl (by decide) rfl (fun ls hl => ?_)
        refine lv_goto (tgt := 2) hx hb dX0_handNothing_44 (by decide) ?_
        exact ih2 _ _ _ h _ _ _ hw (lv_sub hl [1, 2, 0] rfl)
      refine lv_iload_n hx hb dX0_handNothing_2 rfl (lv_at hl 2 rfl) ?_
      refine lv_iconst (v := 2) hx hb dX0_handNothing_3 (by decide) ?_
      refine lv_aload_n hx hb dX0_handNothing_4 rfl (lv_at hl 0 rfl) ?_
      refine h_get (v := .ref (q 1)) cx hw 2 (wC_p2 q cI S) rfl hinX0 0 (by decide) lk43 rfl dX0_handNothing_5 ?_
      refine h_get (v := .int (S.1 0)) cx hw 1 (wC_p1 q cI S) rfl hinX1 0 (by decide) lk51 rfl dX0_handNothing_8 ?_
      refine lv_imul hx hb dX0_handNothing_11 ?_
      refine lv_iconst (v := 0) hx hb dX0_handNothing_12 (by decide) ?_
      obtain ⟨r1, e2, h⟩ := h_bd_ok h
      refine h_callN cx.1 (c_X3_slot l (2 * (S.1 0)) 0 r1 e2) ⟨va_cnB 2 hts (hgA (hcW wdC_X3_slot)) rfl rfl rfl cx.2.2.1.2.1 hiniX3 pdX3_slot.2 ⟨Nat.le_of_ble_eq_true rfl, Nat.le_of_ble_eq_true rfl⟩, hstX3_slot, trivial⟩ rfl hl.1 rfl (Nat.le_of_ble_eq_true rfl) dX0_handNothing_13 ⟨Nat.zero_le _, Nat.zero_le _⟩ ?_
      refine lv_icmp_ge (tgt := 47) hx hb dX0_handNothing_16 (by decide) (fun c3 => ?_) (fun c3 => ?_)
      · have h := h_ifp c3 h
        exact h_vret cx hw hr hlk (Option.some.inj h) dX0_handNothing_47
      · have h := h_ifn c3 h
        refine lv_aload_n hx hb dX0_handNothing_19 rfl (lv_at hl 0 rfl) ?_
        refine h_get (v := .ref (q 1)) cx hw 2 (wC_p2 q cI S) rfl hinX0 0 (by decide) lk43 rfl dX0_handNothing_20 ?_
        refine h_get (v := .ref (q 5)) cx hw 1 (wC_p1 q cI S) rfl hinX1 1 (by decide) lk60 rfl dX0_handNothing_23 ?_
        refine lv_iload_n hx hb dX0_handNothing_26 rfl (lv_at hl 2 rfl) ?_
        refine lv_iconst (v := 4) hx hb dX0_handNothing_27 (by decide) ?_
        refine lv_idiv hx hb dX0_handNothing_28 (by decide) ?_
        obtain ⟨v4, e5, h⟩ := h_bd_ok h
        refine h_ald cx hw 5 (wC_p5 q cI S) e5 dX0_handNothing_29 ?_
        refine lv_iload_n hx hb dX0_handNothing_30 rfl (lv_at hl 1 rfl) ?_
        refine lv_icmp_ne (tgt := 41) hx hb dX0_handNothing_31 (by decide) (fun c6 => ?_) (fun c6 => ?_)
        · have h := h_ifn c6 h
          exact kk41 _ _ _ h _ _ _ hw (lv_sub hl [0, 1, 2] rfl)
        · have h := h_ifp c6 h
          refine lv_aload_n hx hb dX0_handNothing_34 rfl (lv_at hl 0 rfl) ?_
          refine h_get (v := .ref (q 11)) cx hw 2 (wC_p2 q cI S) rfl hinX0 4 (by decide) lk18 rfl dX0_handNothing_35 ?_
          refine lv_iload_n hx hb dX0_handNothing_38 rfl (lv_at hl 2 rfl) ?_
          refine lv_iconst (v := 0) hx hb dX0_handNothing_39 (by decide) ?_
          obtain ⟨S7, e8, h⟩ := h_bd_ok h
          refine h_ast cx hw 11 (wC_p11 q cI S) (wC_s11 q cI S) e8 dX0_handNothing_40 (fun H locs hw => ?_)
          exact kk41 _ _ _ h _ _ _ hw (lv_sub hl [0, 1, 2] rfl)
  refine lv_iconst (v := 0) hx hb dX0_handNothing_0 (by decide) ?_
  refine lv_istore_n (lv' := [(2, .int 0), (0, .ref (q 2)), (1, .int a1)]) hx hb dX0_handNothing_1 rfl hl (by decide) rfl (fun ls hl => ?_)
  exact kk2 h_fu _ _ _ h _ _ _ hw (lv_sub hl [1, 2, 0] rfl)
set_option maxHeartbeats 4000000 in
set_option maxRecDepth 100000 in
theorem c_X0_changeMode (l : Launch) (dC : Nat → ClassId) (dI : Nat → Nat → Nat) (cI cZ : ClassId) (q : Nat → Nat) (S : HSt) (a1 a2 a3 : Int32) (r : Int32) (S9 : HSt) (h : f_X0_changeMode S a1 a2 a3 = some (r, S9)) : MI l yX0_changeMode hsX0_changeMode rmX0_changeMode (dC, dI) cI cZ (wC q cI) S [.ref (q 2), .int a1, .int a2, .int a3] r S9 := by
  refine MI.ofW (cc := cX0_changeMode) (maxL := 5) (ret := (some .int)) (by decide +kernel) rfl (Nat.le_of_ble_eq_true rfl) ?_
  intro p e s m below meth c A cx hr hlk hw ls hl
  have hx := cx.1.1
  have hb := cx.1.2.1
  have hml := cx.1.2.2.1
  have hts := cx.1.2.2.2.2
  have hta : ∀ z ∈ hALL, z.before _ s = true := fun z h => hts z (List.mem_cons_of_mem _ h)
  have lk25 : (Cond.fieldLink RX0 25 (TX0 6).1 (TX0 6).2.1 (TX0 6).2.2.1).before _ s = true := hta _ wdF_X0_25
  have hl : lv_has ls 5 [(0, .ref (q 2)), (1, .int a1), (2, .int a2), (3, .int a3)] := hl
  unfold f_X0_changeMode at h
  refine lv_aload_n hx hb dX0_changeMode_0 rfl (lv_at hl 0 rfl) ?_
  refine h_get (v := .ref (q 13)) cx hw 2 (wC_p2 q cI S) rfl hinX0 6 (by decide) lk25 rfl dX0_changeMode_1 ?_
  refine lv_iload_n hx hb dX0_changeMode_4 rfl (lv_at hl 1 rfl) ?_
  refine lv_iconst (v := 4) hx hb dX0_changeMode_5 (by decide) ?_
  refine lv_imul hx hb dX0_changeMode_6 ?_
  refine lv_iload_n hx hb dX0_changeMode_7 rfl (lv_at hl 2 rfl) ?_
  refine lv_iadd hx hb dX0_changeMode_8 ?_
  obtain ⟨v1, e2, h⟩ := h_bd_ok h
  refine h_ald cx hw 13 (wC_p13 q cI S) e2 dX0_changeMode_9 ?_
  refine lv_istore (lv' := [(4, .int v1), (0, .ref (q 2)), (1, .int a1), (2, .int a2), (3, .int a3)]) hx hb dX0_changeMode_10 hl (by decide) rfl (fun ls hl => ?_)
  refine lv_aload_n hx hb dX0_changeMode_12 rfl (lv_at hl 1 rfl) ?_
  refine h_get (v := .ref (q 13)) cx hw 2 (wC_p2 q cI S) rfl hinX0 6 (by decide) lk25 rfl dX0_changeMode_13 ?_
  refine lv_iload_n hx hb dX0_changeMode_16 rfl (lv_at hl 2 rfl) ?_
  refine lv_iconst (v := 4) hx hb dX0_changeMode_17 (by decide) ?_
  refine lv_imul hx hb dX0_changeMode_18 ?_
  refine lv_iload_n hx hb dX0_changeMode_19 rfl (lv_at hl 3 rfl) ?_
  refine lv_iadd hx hb dX0_changeMode_20 ?_
  refine lv_iload_n hx hb dX0_changeMode_21 rfl (lv_at hl 4 rfl) ?_
  obtain ⟨S3, e4, h⟩ := h_bd_ok h
  refine h_ast cx hw 13 (wC_p13 q cI S) (wC_s13 q cI S) e4 dX0_changeMode_22 (fun H locs hw => ?_)
  refine lv_iload_n hx hb dX0_changeMode_23 rfl (lv_at hl 3 rfl) ?_
  refine lv_iconst (v := 2) hx hb dX0_changeMode_24 (by decide) ?_
  refine lv_icmp_ne (tgt := 39) hx hb dX0_changeMode_25 (by decide) (fun c5 => ?_) (fun c5 => ?_)
  · have h := h_ifn c5 h
    refine lv_iload hx hb dX0_changeMode_39 (lv_at hl 0 rfl) ?_
    exact h_iret cx hw hr hlk rfl (congrArg Prod.fst (Option.some.inj h)) (congrArg Prod.snd (Option.some.inj h)) dX0_changeMode_41
  · have h := h_ifp c5 h
    refine lv_iload_n hx hb dX0_changeMode_28 rfl (lv_at hl 4 rfl) ?_
    refine lv_iload hx hb dX0_changeMode_29 (lv_at hl 0 rfl) ?_
    refine lv_icmp_eq (tgt := 39) hx hb dX0_changeMode_31 (by decide) (fun c6 => ?_) (fun c6 => ?_)
    · have h := h_ifp c6 h
      refine lv_iload hx hb dX0_changeMode_39 (lv_at hl 0 rfl) ?_
      exact h_iret cx hw hr hlk rfl (congrArg Prod.fst (Option.some.inj h)) (congrArg Prod.snd (Option.some.inj h)) dX0_changeMode_41
    · have h := h_ifn c6 h
      refine lv_aload_n hx hb dX0_changeMode_34 rfl (lv_at hl 1 rfl) ?_
      refine lv_iload_n hx hb dX0_changeMode_35 rfl (lv_at hl 2 rfl) ?_
      obtain ⟨S9, e8, h⟩ := h_bd_ok h
      refine h_callV cx hw (c_X0_handNothing l dC dI cI cZ q S3 a1 S9 e8) (cwV 1 hts (hgA (hcV wdL_X0_47 wdI_X0_handNothing wdS_X0_handNothing wdN_RX0 wdC_X0_handNothing)) rfl rfl rfl pdX0_handNothing ⟨Nat.le_of_ble_eq_true rfl, Nat.le_of_ble_eq_true rfl⟩) 2 (wC_p2 q cI S3) rfl rfl rfl hl.1 rfl (Nat.le_of_ble_eq_true rfl) dX0_changeMode_36 ⟨Nat.zero_le _, Nat.zero_le _⟩ (fun H locs hw => ?_)
      refine lv_iload hx hb dX0_changeMode_39 (lv_at hl 0 rfl) ?_
      exact h_iret cx hw hr hlk rfl (congrArg Prod.fst (Option.some.inj h)) (congrArg Prod.snd (Option.some.inj h)) dX0_changeMode_41
set_option maxHeartbeats 4000000 in
set_option maxRecDepth 100000 in
theorem c_X0_forgetLink (l : Launch) (dC : Nat → ClassId) (dI : Nat → Nat → Nat) (cI cZ : ClassId) (q : Nat → Nat) (S : HSt) (a1 : Int32) (S9 : HSt) (h : f_X0_forgetLink S a1 = some S9) : MV l yX0_forgetLink hsX0_forgetLink rmX0_forgetLink (dC, dI) cI cZ (wC q cI) S [.ref (q 2), .int a1] S9 := by
  refine MV.ofW (cc := cX0_forgetLink) (maxL := 3) (ret := none) (by decide +kernel) rfl (Nat.le_of_ble_eq_true rfl) ?_
  intro p e s m below meth c A cx hr hlk hw ls hl
  have hx := cx.1.1
  have hb := cx.1.2.1
  have hml := cx.1.2.2.1
  have hts := cx.1.2.2.2.2
  have hta : ∀ z ∈ hALL, z.before _ s = true := fun z h => hts z (List.mem_cons_of_mem _ h)
  have lk18 : (Cond.fieldLink RX0 18 (TX0 4).1 (TX0 4).2.1 (TX0 4).2.2.1).before _ s = true := hta _ wdF_X0_18
  have lk22 : (Cond.fieldLink RX0 22 (TX0 5).1 (TX0 5).2.1 (TX0 5).2.2.1).before _ s = true := hta _ wdF_X0_22
  have hiniX3 := hta _ wdN_RX3
  have hstX3_slot := hta _ wdT_X3_slot
  have hl : lv_has ls 3 [(0, .ref (q 2)), (1, .int a1)] := hl
  unfold f_X0_forgetLink at h
  have kk8 : ∀ (n8 : Nat) (S : HSt) (x1 x2 : Int32), f_X0_forgetLink_8 n8 S x1 x2 = some S9 → ∀ (H : Heap) (locs : List Loc) (ls : Array Slot), HW (dC, dI) (wC q cI) S A s H locs → lv_has ls 3 [(0, .ref (q 2)), (1, .int x1), (2, .int x2)] → W p l e rmX0_forgetLink s m ([.ref (q 2), .int a1] : List Value).toArray below meth c H locs 0 0 (MQ below (QV (dC, dI) (wC q cI) S9 A) ([.ref (q 2), .int a1] : List Value).toArray s 0 0 A) (F0 m 8 ls []) := by
    intro n8
    induction n8 with
    | zero =>
      intro S x1 x2 h
      have h9 : (none : Option HSt) = some S9 := h
      cases h9
    | succ n8 ih8 =>
      intro S x1 x2 h H locs ls hw hl
      have h : f_X0_forgetLink_8_s (f_X0_forgetLink_8 n8) S x1 x2 = some S9 := h
      unfold f_X0_forgetLink_8_s at h
      refine lv_iload_n hx hb dX0_forgetLink_8 rfl (lv_at hl 2 rfl) ?_
      refine lv_iconst (v := 2) hx hb dX0_forgetLink_9 (by decide) ?_
      refine lv_iload_n hx hb dX0_forgetLink_10 rfl (lv_at hl 1 rfl) ?_
      refine lv_imul hx hb dX0_forgetLink_11 ?_
      refine lv_iconst (v := 2) hx hb dX0_forgetLink_12 (by decide) ?_
      refine lv_iadd hx hb dX0_forgetLink_13 ?_
      refine lv_iconst (v := 0) hx hb dX0_forgetLink_14 (by decide) ?_
      obtain ⟨r1, e2, h⟩ := h_bd_ok h
      refine h_callN cx.1 (c_X3_slot l ((2 * x1) + 2) 0 r1 e2) ⟨va_cnB 2 hts (hgA (hcW wdC_X3_slot)) rfl rfl rfl cx.2.2.1.2.1 hiniX3 pdX3_slot.2 ⟨Nat.le_of_ble_eq_true rfl, Nat.le_of_ble_eq_true rfl⟩, hstX3_slot, trivial⟩ rfl hl.1 rfl (Nat.le_of_ble_eq_true rfl) dX0_forgetLink_15 ⟨Nat.zero_le _, Nat.zero_le _⟩ ?_
      refine lv_icmp_ge (tgt := 41) hx hb dX0_forgetLink_18 (by decide) (fun c3 => ?_) (fun c3 => ?_)
      · have h := h_ifp c3 h
        exact h_vret cx hw hr hlk (Option.some.inj h) dX0_forgetLink_41
      · have h := h_ifn c3 h
        refine lv_aload_n hx hb dX0_forgetLink_21 rfl (lv_at hl 0 rfl) ?_
        refine h_get (v := .ref (q 11)) cx hw 2 (wC_p2 q cI S) rfl hinX0 4 (by decide) lk18 rfl dX0_forgetLink_22 ?_
        refine lv_iload_n hx hb dX0_forgetLink_25 rfl (lv_at hl 2 rfl) ?_
        refine lv_iconst (v := 0) hx hb dX0_forgetLink_26 (by decide) ?_
        obtain ⟨S4, e5, h⟩ := h_bd_ok h
        refine h_ast cx hw 11 (wC_p11 q cI S) (wC_s11 q cI S) e5 dX0_forgetLink_27 (fun H locs hw => ?_)
        refine lv_aload_n hx hb dX0_forgetLink_28 rfl (lv_at hl 0 rfl) ?_
        refine h_get (v := .ref (q 12)) cx hw 2 (wC_p2 q cI S4) rfl hinX0 5 (by decide) lk22 rfl dX0_forgetLink_29 ?_
        refine lv_iload_n hx hb dX0_forgetLink_32 rfl (lv_at hl 2 rfl) ?_
        refine lv_iconst (v := 0) hx hb dX0_forgetLink_33 (by decide) ?_
        obtain ⟨S6, e7, h⟩ := h_bd_ok h
        refine h_ast cx hw 12 (wC_p12 q cI S4) (wC_s12 q cI S4) e7 dX0_forgetLink_34 (fun H locs hw => ?_)
        refine lv_iinc (v := x2 + 1) (lv' := [(2, .int (x2 + 1)), (0, .ref (q 2)), (1, .int x1)]) hx hb dX0_forgetLink_35 hl (k := 2) rfl rfl (by decide) rfl (fun ls hl => ?_)
        refine lv_goto (tgt := 8) hx hb dX0_forgetLink_38 (by decide) ?_
        exact ih8 _ _ _ h _ _ _ hw (lv_sub hl [1, 2, 0] rfl)
  refine lv_iconst (v := 2) hx hb dX0_forgetLink_0 (by decide) ?_
  refine lv_iload_n hx hb dX0_forgetLink_1 rfl (lv_at hl 1 rfl) ?_
  refine lv_imul hx hb dX0_forgetLink_2 ?_
  refine lv_iconst (v := 0) hx hb dX0_forgetLink_3 (by decide) ?_
  obtain ⟨r1, e2, h⟩ := h_bd_ok h
  refine h_callN cx.1 (c_X3_slot l (2 * a1) 0 r1 e2) ⟨va_cnB 2 hts (hgA (hcW wdC_X3_slot)) rfl rfl rfl cx.2.2.1.2.1 hiniX3 pdX3_slot.2 ⟨Nat.le_of_ble_eq_true rfl, Nat.le_of_ble_eq_true rfl⟩, hstX3_slot, trivial⟩ rfl hl.1 rfl (Nat.le_of_ble_eq_true rfl) dX0_forgetLink_4 ⟨Nat.zero_le _, Nat.zero_le _⟩ ?_
  refine lv_istore_n (lv' := [(2, .int r1), (0, .ref (q 2)), (1, .int a1)]) hx hb dX0_forgetLink_7 rfl hl (by decide) rfl (fun ls hl => ?_)
  exact kk8 h_fu _ _ _ h _ _ _ hw (lv_sub hl [1, 2, 0] rfl)
set_option maxHeartbeats 4000000 in
set_option maxRecDepth 100000 in
theorem c_X3_pair (l : Launch) (a0 a1 : Int32) (r : Int32) (h : f_X3_pair a0 a1 = some r) : MS l yX3_pair hsX3_pair rmX3_pair [.int a0, .int a1] r := by
  refine MS.ofW (cc := cX3_pair) (maxL := 2) (ret := (some .int)) (by decide +kernel) rfl (Nat.le_of_ble_eq_true rfl) ?_
  intro p e s m below meth c cf hr hlk ls hl
  have hx := cf.1
  have hb := cf.2.1
  have hml := cf.2.2.1
  have hts := cf.2.2.2.2
  have hta : ∀ z ∈ hALL, z.before _ s = true := fun z h => hts z (List.mem_cons_of_mem _ h)
  have hl : lv_has ls 2 [(0, .int a0), (1, .int a1)] := hl
  unfold f_X3_pair at h
  refine lv_iload_n hx hb dX3_pair_0 rfl (lv_at hl 0 rfl) ?_
  refine lv_iconst (v := 4) hx hb dX3_pair_1 (by decide) ?_
  refine lv_imul hx hb dX3_pair_2 ?_
  refine lv_iload_n hx hb dX3_pair_3 rfl (lv_at hl 1 rfl) ?_
  refine lv_iadd hx hb dX3_pair_4 ?_
  exact h_sret cf hr hlk rfl (Option.some.inj h) dX3_pair_5
set_option maxHeartbeats 4000000 in
set_option maxRecDepth 100000 in
theorem c_X0_slipUsed (l : Launch) (dC : Nat → ClassId) (dI : Nat → Nat → Nat) (cI cZ : ClassId) (q : Nat → Nat) (S : HSt) (a1 a2 : Int32) (r : Int32) (h : f_X0_slipUsed S a1 a2 = some r) : MI l yX0_slipUsed hsX0_slipUsed rmX0_slipUsed (dC, dI) cI cZ (wC q cI) S [.ref (q 2), .int a1, .int a2] r S := by
  refine MI.ofW (cc := cX0_slipUsed) (maxL := 4) (ret := (some .int)) (by decide +kernel) rfl (Nat.le_of_ble_eq_true rfl) ?_
  intro p e s m below meth c A cx hr hlk hw ls hl
  have hx := cx.1.1
  have hb := cx.1.2.1
  have hml := cx.1.2.2.1
  have hts := cx.1.2.2.2.2
  have hta : ∀ z ∈ hALL, z.before _ s = true := fun z h => hts z (List.mem_cons_of_mem _ h)
  have lk22 : (Cond.fieldLink RX0 22 (TX0 5).1 (TX0 5).2.1 (TX0 5).2.2.1).before _ s = true := hta _ wdF_X0_22
  have lk43 : (Cond.fieldLink RX0 43 (TX0 0).1 (TX0 0).2.1 (TX0 0).2.2.1).before _ s = true := hta _ wdF_X0_43
  have lk63 : (Cond.fieldLink RX0 63 (TX1 6).1 (TX1 6).2.1 (TX1 6).2.2.1).before _ s = true := hta _ wdF_X0_63
  have hiniX3 := hta _ wdN_RX3
  have hstX3_pair := hta _ wdT_X3_pair
  have hstX3_slot := hta _ wdT_X3_slot
  have hl : lv_has ls 4 [(0, .ref (q 2)), (1, .int a1), (2, .int a2)] := hl
  unfold f_X0_slipUsed at h
  refine lv_aload_n hx hb dX0_slipUsed_0 rfl (lv_at hl 0 rfl) ?_
  refine h_get (v := .ref (q 1)) cx hw 2 (wC_p2 q cI S) rfl hinX0 0 (by decide) lk43 rfl dX0_slipUsed_1 ?_
  refine h_get (v := .ref (q 10)) cx hw 1 (wC_p1 q cI S) rfl hinX1 6 (by decide) lk63 rfl dX0_slipUsed_4 ?_
  refine lv_iload_n hx hb dX0_slipUsed_7 rfl (lv_at hl 1 rfl) ?_
  refine lv_iload_n hx hb dX0_slipUsed_8 rfl (lv_at hl 2 rfl) ?_
  obtain ⟨r1, e2, h⟩ := h_bd_ok h
  refine h_callN cx.1 (c_X3_pair l a1 a2 r1 e2) ⟨va_cnB 2 hts (hgA (hcW wdC_X3_pair)) rfl rfl rfl cx.2.2.1.2.2.1 hiniX3 pdX3_pair.2 ⟨Nat.le_of_ble_eq_true rfl, Nat.le_of_ble_eq_true rfl⟩, hstX3_pair, trivial⟩ rfl hl.1 rfl (Nat.le_of_ble_eq_true rfl) dX0_slipUsed_9 ⟨Nat.zero_le _, Nat.zero_le _⟩ ?_
  obtain ⟨v3, e4, h⟩ := h_bd_ok h
  refine h_ald cx hw 10 (wC_p10 q cI S) e4 dX0_slipUsed_12 ?_
  refine lv_istore_n (lv' := [(3, .int v3), (0, .ref (q 2)), (1, .int a1), (2, .int a2)]) hx hb dX0_slipUsed_13 rfl hl (by decide) rfl (fun ls hl => ?_)
  refine lv_iload_n hx hb dX0_slipUsed_14 rfl (lv_at hl 0 rfl) ?_
  refine lv_iconst (v := (-1)) hx hb dX0_slipUsed_15 (by decide) ?_
  refine lv_icmp_ne (tgt := 23) hx hb dX0_slipUsed_16 (by decide) (fun c5 => ?_) (fun c5 => ?_)
  · have h := h_ifn c5 h
    refine lv_aload_n hx hb dX0_slipUsed_23 rfl (lv_at hl 1 rfl) ?_
    refine h_get (v := .ref (q 12)) cx hw 2 (wC_p2 q cI S) rfl hinX0 5 (by decide) lk22 rfl dX0_slipUsed_24 ?_
    refine lv_iload_n hx hb dX0_slipUsed_27 rfl (lv_at hl 0 rfl) ?_
    refine lv_iload_n hx hb dX0_slipUsed_28 rfl (lv_at hl 3 rfl) ?_
    obtain ⟨r6, e7, h⟩ := h_bd_ok h
    refine h_callN cx.1 (c_X3_slot l v3 a2 r6 e7) ⟨va_cnB 2 hts (hgA (hcW wdC_X3_slot)) rfl rfl rfl cx.2.2.1.2.1 hiniX3 pdX3_slot.2 ⟨Nat.le_of_ble_eq_true rfl, Nat.le_of_ble_eq_true rfl⟩, hstX3_slot, trivial⟩ rfl hl.1 rfl (Nat.le_of_ble_eq_true rfl) dX0_slipUsed_29 ⟨Nat.zero_le _, Nat.zero_le _⟩ ?_
    obtain ⟨v8, e9, h⟩ := h_bd_ok h
    refine h_ald cx hw 12 (wC_p12 q cI S) e9 dX0_slipUsed_32 ?_
    exact h_iret cx hw hr hlk rfl (Option.some.inj h) rfl dX0_slipUsed_33
  · have h := h_ifp c5 h
    refine lv_iconst (v := 0) hx hb dX0_slipUsed_19 (by decide) ?_
    refine lv_goto (tgt := 33) hx hb dX0_slipUsed_20 (by decide) ?_
    exact h_iret cx hw hr hlk rfl (Option.some.inj h) rfl dX0_slipUsed_33
set_option maxHeartbeats 4000000 in
set_option maxRecDepth 100000 in
theorem c_X3_labelOf (l : Launch) (a0 : Int32) (r : Int32) (h : f_X3_labelOf a0 = some r) : MS l yX3_labelOf hsX3_labelOf rmX3_labelOf [.int a0] r := by
  refine MS.ofW (cc := cX3_labelOf) (maxL := 1) (ret := (some .int)) (by decide +kernel) rfl (Nat.le_of_ble_eq_true rfl) ?_
  intro p e s m below meth c cf hr hlk ls hl
  have hx := cf.1
  have hb := cf.2.1
  have hml := cf.2.2.1
  have hts := cf.2.2.2.2
  have hta : ∀ z ∈ hALL, z.before _ s = true := fun z h => hts z (List.mem_cons_of_mem _ h)
  have hl : lv_has ls 1 [(0, .int a0)] := hl
  unfold f_X3_labelOf at h
  refine lv_iload_n hx hb dX3_labelOf_0 rfl (lv_at hl 0 rfl) ?_
  refine lv_iconst (v := 4) hx hb dX3_labelOf_1 (by decide) ?_
  refine lv_ishr hx hb dX3_labelOf_2 ?_
  exact h_sret cf hr hlk rfl (Option.some.inj h) dX3_labelOf_3
set_option maxHeartbeats 4000000 in
set_option maxRecDepth 100000 in
theorem c_X0_classMeant (l : Launch) (dC : Nat → ClassId) (dI : Nat → Nat → Nat) (cI cZ : ClassId) (q : Nat → Nat) (S : HSt) (a1 a2 a3 : Int32) (r : Int32) (h : f_X0_classMeant S a1 a2 a3 = some r) : MI l yX0_classMeant hsX0_classMeant rmX0_classMeant (dC, dI) cI cZ (wC q cI) S [.ref (q 2), .int a1, .int a2, .int a3] r S := by
  refine MI.ofW (cc := cX0_classMeant) (maxL := 9) (ret := (some .int)) (by decide +kernel) rfl (Nat.le_of_ble_eq_true rfl) ?_
  intro p e s m below meth c A cx hr hlk hw ls hl
  have hx := cx.1.1
  have hb := cx.1.2.1
  have hml := cx.1.2.2.1
  have hts := cx.1.2.2.2.2
  have hta : ∀ z ∈ hALL, z.before _ s = true := fun z h => hts z (List.mem_cons_of_mem _ h)
  have lk18 : (Cond.fieldLink RX0 18 (TX0 4).1 (TX0 4).2.1 (TX0 4).2.2.1).before _ s = true := hta _ wdF_X0_18
  have lk43 : (Cond.fieldLink RX0 43 (TX0 0).1 (TX0 0).2.1 (TX0 0).2.2.1).before _ s = true := hta _ wdF_X0_43
  have lk51 : (Cond.fieldLink RX0 51 (TX1 0).1 (TX1 0).2.1 (TX1 0).2.2.1).before _ s = true := hta _ wdF_X0_51
  have lk60 : (Cond.fieldLink RX0 60 (TX1 1).1 (TX1 1).2.1 (TX1 1).2.2.1).before _ s = true := hta _ wdF_X0_60
  have hiniX3 := hta _ wdN_RX3
  have hstX3_labelOf := hta _ wdT_X3_labelOf
  have hstX3_slot := hta _ wdT_X3_slot
  have hl : lv_has ls 9 [(0, .ref (q 2)), (1, .int a1), (2, .int a2), (3, .int a3)] := hl
  unfold f_X0_classMeant at h
  have kk14 : ∀ (x1 x2 x3 t0 : Int32), f_X0_classMeant_14 S x1 x2 x3 t0 = some r → ∀ (H : Heap) (locs : List Loc) (ls : Array Slot), HW (dC, dI) (wC q cI) S A s H locs → lv_has ls 9 [(0, .ref (q 2)), (1, .int x1), (2, .int x2), (3, .int x3)] → W p l e rmX0_classMeant s m ([.ref (q 2), .int a1, .int a2, .int a3] : List Value).toArray below meth c H locs 0 0 (MQ below (QI (dC, dI) (wC q cI) r S A) ([.ref (q 2), .int a1, .int a2, .int a3] : List Value).toArray s 0 0 A) (F0 m 14 ls [.int t0]) := by
    intro x1 x2 x3 t0 h H locs ls hw hl
    unfold f_X0_classMeant_14 at h
    have kk40 : ∀ (x1 x3 x4 t0 : Int32), f_X0_classMeant_40 S x1 x3 x4 t0 = some r → ∀ (H : Heap) (locs : List Loc) (ls : Array Slot), HW (dC, dI) (wC q cI) S A s H locs → lv_has ls 9 [(0, .ref (q 2)), (1, .int x1), (3, .int x3), (4, .int x4)] → W p l e rmX0_classMeant s m ([.ref (q 2), .int a1, .int a2, .int a3] : List Value).toArray below meth c H locs 0 0 (MQ below (QI (dC, dI) (wC q cI) r S A) ([.ref (q 2), .int a1, .int a2, .int a3] : List Value).toArray s 0 0 A) (F0 m 40 ls [.int t0]) := by
      intro x1 x3 x4 t0 h H locs ls hw hl
      unfold f_X0_classMeant_40 at h
      have kk45 : ∀ (n45 : Nat) (x1 x3 x4 x5 x6 : Int32), f_X0_classMeant_45 S n45 x1 x3 x4 x5 x6 = some r → ∀ (H : Heap) (locs : List Loc) (ls : Array Slot), HW (dC, dI) (wC q cI) S A s H locs → lv_has ls 9 [(0, .ref (q 2)), (1, .int x1), (3, .int x3), (4, .int x4), (5, .int x5), (6, .int x6)] → W p l e rmX0_classMeant s m ([.ref (q 2), .int a1, .int a2, .int a3] : List Value).toArray below meth c H locs 0 0 (MQ below (QI (dC, dI) (wC q cI) r S A) ([.ref (q 2), .int a1, .int a2, .int a3] : List Value).toArray s 0 0 A) (F0 m 45 ls []) := by
        intro n45
        induction n45 with
        | zero =>
          intro x1 x3 x4 x5 x6 h
          have h9 : (none : Option Int32) = some r := h
          cases h9
        | succ n45 ih45 =>
          intro x1 x3 x4 x5 x6 h H locs ls hw hl
          have h : f_X0_classMeant_45_s S (f_X0_classMeant_45 S n45) x1 x3 x4 x5 x6 = some r := h
          unfold f_X0_classMeant_45_s at h
          have kk55 : ∀ (n55 : Nat) (x1 x3 x4 x5 x6 x7 : Int32), f_X0_classMeant_55 S (f_X0_classMeant_45 S n45) n55 x1 x3 x4 x5 x6 x7 = some r → ∀ (H : Heap) (locs : List Loc) (ls : Array Slot), HW (dC, dI) (wC q cI) S A s H locs → lv_has ls 9 [(0, .ref (q 2)), (1, .int x1), (3, .int x3), (4, .int x4), (5, .int x5), (6, .int x6), (7, .int x7)] → W p l e rmX0_classMeant s m ([.ref (q 2), .int a1, .int a2, .int a3] : List Value).toArray below meth c H locs 0 0 (MQ below (QI (dC, dI) (wC q cI) r S A) ([.ref (q 2), .int a1, .int a2, .int a3] : List Value).toArray s 0 0 A) (F0 m 55 ls []) := by
            intro n55
            induction n55 with
            | zero =>
              intro x1 x3 x4 x5 x6 x7 h
              have h9 : (none : Option Int32) = some r := h
              cases h9
            | succ n55 ih55 =>
              intro x1 x3 x4 x5 x6 x7 h H locs ls hw hl
              have h : f_X0_classMeant_55_s S (f_X0_classMeant_45 S n45) (f_X0_classMeant_55 S (f_X0_classMeant_45 S n45) n55) x1 x3 x4 x5 x6 x7 = some r := h
              unfold f_X0_classMeant_55_s at h
              have kk107 : ∀ (x1 x3 x4 x5 x6 x7 : Int32), f_X0_classMeant_107 S (f_X0_classMeant_55 S (f_X0_classMeant_45 S n45) n55) x1 x3 x4 x5 x6 x7 = some r → ∀ (H : Heap) (locs : List Loc) (ls : Array Slot), HW (dC, dI) (wC q cI) S A s H locs → lv_has ls 9 [(0, .ref (q 2)), (1, .int x1), (3, .int x3), (4, .int x4), (5, .int x5), (6, .int x6), (7, .int x7)] → W p l e rmX0_classMeant s m ([.ref (q 2), .int a1, .int a2, .int a3] : List Value).toArray below meth c H locs 0 0 (MQ below (QI (dC, dI) (wC q cI) r S A) ([.ref (q 2), .int a1, .int a2, .int a3] : List Value).toArray s 0 0 A) (F0 m 107 ls []) := by
                intro x1 x3 x4 x5 x6 x7 h H locs ls hw hl
                unfold f_X0_classMeant_107 at h
                refine lv_iinc (v := x7 + 1) (lv' := [(7, .int (x7 + 1)), (0, .ref (q 2)), (1, .int x1), (3, .int x3), (4, .int x4), (5, .int x5), (6, .int x6)]) hx hb dX0_classMeant_107 hl (k := 6) rfl rfl (by decide) rfl (fun ls hl => ?_)
                refine lv_goto (tgt := 55) hx hb dX0_classMeant_110 (by decide) ?_
                exact ih55 _ _ _ _ _ _ h _ _ _ hw (lv_sub hl [1, 2, 3, 4, 5, 6, 0] rfl)
              refine lv_iload hx hb dX0_classMeant_55 (lv_at hl 6 rfl) ?_
              refine lv_iload hx hb dX0_classMeant_57 (lv_at hl 4 rfl) ?_
              refine lv_icmp_ge (tgt := 113) hx hb dX0_classMeant_59 (by decide) (fun c1 => ?_) (fun c1 => ?_)
              · have h := h_ifp c1 h
                refine lv_iinc (v := x6 + 1) (lv' := [(6, .int (x6 + 1)), (0, .ref (q 2)), (1, .int x1), (3, .int x3), (4, .int x4), (5, .int x5), (7, .int x7)]) hx hb dX0_classMeant_113 hl (k := 5) rfl rfl (by decide) rfl (fun ls hl => ?_)
                refine lv_goto (tgt := 45) hx hb dX0_classMeant_116 (by decide) ?_
                exact ih45 _ _ _ _ _ h _ _ _ hw (lv_sub hl [1, 2, 3, 4, 5, 0] rfl)
              · have h := h_ifn c1 h
                refine lv_aload_n hx hb dX0_classMeant_62 rfl (lv_at hl 0 rfl) ?_
                refine h_get (v := .ref (q 11)) cx hw 2 (wC_p2 q cI S) rfl hinX0 4 (by decide) lk18 rfl dX0_classMeant_63 ?_
                refine lv_iload hx hb dX0_classMeant_66 (lv_at hl 6 rfl) ?_
                refine lv_iload hx hb dX0_classMeant_68 (lv_at hl 5 rfl) ?_
                obtain ⟨r2, e3, h⟩ := h_bd_ok h
                refine h_callN cx.1 (c_X3_slot l x7 x6 r2 e3) ⟨va_cnB 2 hts (hgA (hcW wdC_X3_slot)) rfl rfl rfl cx.2.2.1.2.1 hiniX3 pdX3_slot.2 ⟨Nat.le_of_ble_eq_true rfl, Nat.le_of_ble_eq_true rfl⟩, hstX3_slot, trivial⟩ rfl hl.1 rfl (Nat.le_of_ble_eq_true rfl) dX0_classMeant_70 ⟨Nat.zero_le _, Nat.zero_le _⟩ ?_
                obtain ⟨v4, e5, h⟩ := h_bd_ok h
                refine h_ald cx hw 11 (wC_p11 q cI S) e5 dX0_classMeant_73 ?_
                refine lv_istore (lv' := [(8, .int v4), (0, .ref (q 2)), (1, .int x1), (3, .int x3), (4, .int x4), (5, .int x5), (6, .int x6), (7, .int x7)]) hx hb dX0_classMeant_74 hl (by decide) rfl (fun ls hl => ?_)
                refine lv_aload_n hx hb dX0_classMeant_76 rfl (lv_at hl 1 rfl) ?_
                refine h_get (v := .ref (q 1)) cx hw 2 (wC_p2 q cI S) rfl hinX0 0 (by decide) lk43 rfl dX0_classMeant_77 ?_
                refine h_get (v := .ref (q 5)) cx hw 1 (wC_p1 q cI S) rfl hinX1 1 (by decide) lk60 rfl dX0_classMeant_80 ?_
                refine lv_iload hx hb dX0_classMeant_83 (lv_at hl 7 rfl) ?_
                obtain ⟨v6, e7, h⟩ := h_bd_ok h
                refine h_ald cx hw 5 (wC_p5 q cI S) e7 dX0_classMeant_85 ?_
                refine lv_iload_n hx hb dX0_classMeant_86 rfl (lv_at hl 2 rfl) ?_
                refine lv_icmp_ne (tgt := 107) hx hb dX0_classMeant_87 (by decide) (fun c8 => ?_) (fun c8 => ?_)
                · have h := h_ifn c8 h
                  exact kk107 _ _ _ _ _ _ h _ _ _ hw (lv_sub hl [1, 2, 3, 4, 5, 6, 7] rfl)
                · have h := h_ifp c8 h
                  refine lv_iload hx hb dX0_classMeant_90 (lv_at hl 0 rfl) ?_
                  refine lv_if_eq (tgt := 107) hx hb dX0_classMeant_92 (by decide) (fun c9 => ?_) (fun c9 => ?_)
                  · have h := h_ifp c9 h
                    exact kk107 _ _ _ _ _ _ h _ _ _ hw (lv_sub hl [1, 2, 3, 4, 5, 6, 7] rfl)
                  · have h := h_ifn c9 h
                    refine lv_iload hx hb dX0_classMeant_95 (lv_at hl 0 rfl) ?_
                    obtain ⟨r10, e11, h⟩ := h_bd_ok h
                    refine h_callN cx.1 (c_X3_labelOf l v4 r10 e11) ⟨va_cnB 1 hts (hgA (hcW wdC_X3_labelOf)) rfl rfl rfl cx.2.2.1.2.2.2.2.2.1 hiniX3 pdX3_labelOf.2 ⟨Nat.le_of_ble_eq_true rfl, Nat.le_of_ble_eq_true rfl⟩, hstX3_labelOf, trivial⟩ rfl hl.1 rfl (Nat.le_of_ble_eq_true rfl) dX0_classMeant_97 ⟨Nat.zero_le _, Nat.zero_le _⟩ ?_
                    refine lv_iload_n hx hb dX0_classMeant_100 rfl (lv_at hl 3 rfl) ?_
                    refine lv_icmp_ne (tgt := 107) hx hb dX0_classMeant_101 (by decide) (fun c12 => ?_) (fun c12 => ?_)
                    · have h := h_ifn c12 h
                      exact kk107 _ _ _ _ _ _ h _ _ _ hw (lv_sub hl [1, 2, 3, 4, 5, 6, 7] rfl)
                    · have h := h_ifp c12 h
                      refine lv_iload hx hb dX0_classMeant_104 (lv_at hl 6 rfl) ?_
                      exact h_iret cx hw hr hlk rfl (Option.some.inj h) rfl dX0_classMeant_106
          refine lv_iload hx hb dX0_classMeant_45 (lv_at hl 5 rfl) ?_
          refine lv_iconst (v := 4) hx hb dX0_classMeant_47 (by decide) ?_
          refine lv_icmp_ge (tgt := 119) hx hb dX0_classMeant_48 (by decide) (fun c1 => ?_) (fun c1 => ?_)
          · have h := h_ifp c1 h
            refine lv_iconst (v := (-1)) hx hb dX0_classMeant_119 (by decide) ?_
            exact h_iret cx hw hr hlk rfl (Option.some.inj h) rfl dX0_classMeant_120
          · have h := h_ifn c1 h
            refine lv_iload hx hb dX0_classMeant_51 (lv_at hl 3 rfl) ?_
            refine lv_istore (lv' := [(7, .int x4), (0, .ref (q 2)), (1, .int x1), (3, .int x3), (4, .int x4), (5, .int x5), (6, .int x6)]) hx hb dX0_classMeant_53 hl (by decide) rfl (fun ls hl => ?_)
            exact kk55 h_fu _ _ _ _ _ _ h _ _ _ hw (lv_sub hl [1, 2, 3, 4, 5, 6, 0] rfl)
      refine lv_istore (lv' := [(5, .int t0), (0, .ref (q 2)), (1, .int x1), (3, .int x3), (4, .int x4)]) hx hb dX0_classMeant_40 hl (by decide) rfl (fun ls hl => ?_)
      refine lv_iconst (v := 0) hx hb dX0_classMeant_42 (by decide) ?_
      refine lv_istore (lv' := [(6, .int 0), (5, .int t0), (0, .ref (q 2)), (1, .int x1), (3, .int x3), (4, .int x4)]) hx hb dX0_classMeant_43 hl (by decide) rfl (fun ls hl => ?_)
      exact kk45 h_fu _ _ _ _ _ h _ _ _ hw (lv_sub hl [2, 3, 4, 5, 1, 0] rfl)
    refine lv_istore (lv' := [(4, .int t0), (0, .ref (q 2)), (1, .int x1), (2, .int x2), (3, .int x3)]) hx hb dX0_classMeant_14 hl (by decide) rfl (fun ls hl => ?_)
    refine lv_aload_n hx hb dX0_classMeant_16 rfl (lv_at hl 1 rfl) ?_
    refine lv_iload_n hx hb dX0_classMeant_17 rfl (lv_at hl 2 rfl) ?_
    refine lv_iconst (v := 2) hx hb dX0_classMeant_18 (by decide) ?_
    obtain ⟨r1, e2, h⟩ := h_bd_ok h
    refine h_callI cx hw (c_X0_has l dC dI cI cZ q S x1 2 r1 e2) (cwV 2 hts (hgA (hcV wdL_X0_69 wdI_X0_has wdS_X0_has wdN_RX0 wdC_X0_has)) rfl rfl rfl pdX0_has ⟨Nat.le_of_ble_eq_true rfl, Nat.le_of_ble_eq_true rfl⟩) 2 (wC_p2 q cI S) rfl rfl rfl hl.1 rfl (Nat.le_of_ble_eq_true rfl) dX0_classMeant_19 ⟨Nat.zero_le _, Nat.zero_le _⟩ (fun H locs hw => ?_)
    refine lv_if_eq (tgt := 31) hx hb dX0_classMeant_22 (by decide) (fun c3 => ?_) (fun c3 => ?_)
    · have h := h_ifp c3 h
      refine lv_iconst (v := 2) hx hb dX0_classMeant_31 (by decide) ?_
      refine lv_aload_n hx hb dX0_classMeant_32 rfl (lv_at hl 1 rfl) ?_
      refine h_get (v := .ref (q 1)) cx hw 2 (wC_p2 q cI S) rfl hinX0 0 (by decide) lk43 rfl dX0_classMeant_33 ?_
      refine h_get (v := .int (S.1 0)) cx hw 1 (wC_p1 q cI S) rfl hinX1 0 (by decide) lk51 rfl dX0_classMeant_36 ?_
      refine lv_imul hx hb dX0_classMeant_39 ?_
      exact kk40 _ _ _ _ h _ _ _ hw (lv_sub hl [1, 2, 4, 0] rfl)
    · have h := h_ifn c3 h
      refine lv_iload_n hx hb dX0_classMeant_25 rfl (lv_at hl 3 rfl) ?_
      refine lv_iconst (v := 1) hx hb dX0_classMeant_26 (by decide) ?_
      refine lv_iadd hx hb dX0_classMeant_27 ?_
      refine lv_goto (tgt := 40) hx hb dX0_classMeant_28 (by decide) ?_
      exact kk40 _ _ _ _ h _ _ _ hw (lv_sub hl [1, 2, 4, 0] rfl)
  refine lv_aload_n hx hb dX0_classMeant_0 rfl (lv_at hl 0 rfl) ?_
  refine lv_iload_n hx hb dX0_classMeant_1 rfl (lv_at hl 1 rfl) ?_
  refine lv_iconst (v := 2) hx hb dX0_classMeant_2 (by decide) ?_
  obtain ⟨r1, e2, h⟩ := h_bd_ok h
  refine h_callI cx hw (c_X0_has l dC dI cI cZ q S a1 2 r1 e2) (cwV 2 hts (hgA (hcV wdL_X0_69 wdI_X0_has wdS_X0_has wdN_RX0 wdC_X0_has)) rfl rfl rfl pdX0_has ⟨Nat.le_of_ble_eq_true rfl, Nat.le_of_ble_eq_true rfl⟩) 2 (wC_p2 q cI S) rfl rfl rfl hl.1 rfl (Nat.le_of_ble_eq_true rfl) dX0_classMeant_3 ⟨Nat.zero_le _, Nat.zero_le _⟩ (fun H locs hw => ?_)
  refine lv_if_eq (tgt := 13) hx hb dX0_classMeant_6 (by decide) (fun c3 => ?_) (fun c3 => ?_)
  · have h := h_ifp c3 h
    refine lv_iconst (v := 0) hx hb dX0_classMeant_13 (by decide) ?_
    exact kk14 _ _ _ _ h _ _ _ hw (lv_sub hl [0, 1, 2, 3] rfl)
  · have h := h_ifn c3 h
    refine lv_iload_n hx hb dX0_classMeant_9 rfl (lv_at hl 2 rfl) ?_
    refine lv_goto (tgt := 14) hx hb dX0_classMeant_10 (by decide) ?_
    exact kk14 _ _ _ _ h _ _ _ hw (lv_sub hl [0, 1, 2, 3] rfl)
set_option maxHeartbeats 4000000 in
set_option maxRecDepth 100000 in
theorem c_X0_greatestLabel (l : Launch) (dC : Nat → ClassId) (dI : Nat → Nat → Nat) (cI cZ : ClassId) (q : Nat → Nat) (S : HSt) (r : Int32) (h : f_X0_greatestLabel S = some r) : MI l yX0_greatestLabel hsX0_greatestLabel rmX0_greatestLabel (dC, dI) cI cZ (wC q cI) S [.ref (q 2)] r S := by
  refine MI.ofW (cc := cX0_greatestLabel) (maxL := 3) (ret := (some .int)) (by decide +kernel) rfl (Nat.le_of_ble_eq_true rfl) ?_
  intro p e s m below meth c A cx hr hlk hw ls hl
  have hx := cx.1.1
  have hb := cx.1.2.1
  have hml := cx.1.2.2.1
  have hts := cx.1.2.2.2.2
  have hta : ∀ z ∈ hALL, z.before _ s = true := fun z h => hts z (List.mem_cons_of_mem _ h)
  have lk18 : (Cond.fieldLink RX0 18 (TX0 4).1 (TX0 4).2.1 (TX0 4).2.2.1).before _ s = true := hta _ wdF_X0_18
  have hiniX3 := hta _ wdN_RX3
  have hstX3_labelOf := hta _ wdT_X3_labelOf
  have hl : lv_has ls 3 [(0, .ref (q 2))] := hl
  unfold f_X0_greatestLabel at h
  have kk4 : ∀ (n4 : Nat) (x1 x2 : Int32), f_X0_greatestLabel_4 S n4 x1 x2 = some r → ∀ (H : Heap) (locs : List Loc) (ls : Array Slot), HW (dC, dI) (wC q cI) S A s H locs → lv_has ls 3 [(0, .ref (q 2)), (1, .int x1), (2, .int x2)] → W p l e rmX0_greatestLabel s m ([.ref (q 2)] : List Value).toArray below meth c H locs 0 0 (MQ below (QI (dC, dI) (wC q cI) r S A) ([.ref (q 2)] : List Value).toArray s 0 0 A) (F0 m 4 ls []) := by
    intro n4
    induction n4 with
    | zero =>
      intro x1 x2 h
      have h9 : (none : Option Int32) = some r := h
      cases h9
    | succ n4 ih4 =>
      intro x1 x2 h H locs ls hw hl
      have h : f_X0_greatestLabel_4_s S (f_X0_greatestLabel_4 S n4) x1 x2 = some r := h
      unfold f_X0_greatestLabel_4_s at h
      refine lv_iload_n hx hb dX0_greatestLabel_4 rfl (lv_at hl 2 rfl) ?_
      refine lv_aload_n hx hb dX0_greatestLabel_5 rfl (lv_at hl 0 rfl) ?_
      refine h_get (v := .ref (q 11)) cx hw 2 (wC_p2 q cI S) rfl hinX0 4 (by decide) lk18 rfl dX0_greatestLabel_6 ?_
      refine h_len (v := 96) cx hw 11 (wC_p11 q cI S) rfl dX0_greatestLabel_9 ?_
      refine lv_icmp_ge (tgt := 33) hx hb dX0_greatestLabel_10 (by decide) (fun c1 => ?_) (fun c1 => ?_)
      · have h := h_ifp c1 h
        refine lv_iload_n hx hb dX0_greatestLabel_33 rfl (lv_at hl 1 rfl) ?_
        exact h_iret cx hw hr hlk rfl (Option.some.inj h) rfl dX0_greatestLabel_34
      · have h := h_ifn c1 h
        refine lv_iload_n hx hb dX0_greatestLabel_13 rfl (lv_at hl 1 rfl) ?_
        refine lv_aload_n hx hb dX0_greatestLabel_14 rfl (lv_at hl 0 rfl) ?_
        refine h_get (v := .ref (q 11)) cx hw 2 (wC_p2 q cI S) rfl hinX0 4 (by decide) lk18 rfl dX0_greatestLabel_15 ?_
        refine lv_iload_n hx hb dX0_greatestLabel_18 rfl (lv_at hl 2 rfl) ?_
        obtain ⟨v2, e3, h⟩ := h_bd_ok h
        refine h_ald cx hw 11 (wC_p11 q cI S) e3 dX0_greatestLabel_19 ?_
        obtain ⟨r4, e5, h⟩ := h_bd_ok h
        refine h_callN cx.1 (c_X3_labelOf l v2 r4 e5) ⟨va_cnB 1 hts (hgA (hcW wdC_X3_labelOf)) rfl rfl rfl cx.2.2.1.2.2.2.2.2.1 hiniX3 pdX3_labelOf.2 ⟨Nat.le_of_ble_eq_true rfl, Nat.le_of_ble_eq_true rfl⟩, hstX3_labelOf, trivial⟩ rfl hl.1 rfl (Nat.le_of_ble_eq_true rfl) dX0_greatestLabel_20 ⟨Nat.zero_le _, Nat.zero_le _⟩ ?_
        refine va_mmax hx hb (hml.trans hl.1.symm) cx.1.2.2.2.1 (hta _ wdL_X0_77) (hta _ wdT_Lib_Math_max_name) (hta _ wdN_java_lang_Math) (hta _ wdC_Lib_Math_max_name) (Nat.le_of_ble_eq_true rfl) (Nat.le_of_ble_eq_true rfl) (Nat.zero_le _) (Nat.zero_le _) dX0_greatestLabel_23 ?_
        refine lv_istore_n (lv' := [(1, .int (if x1 < r4 then r4 else x1)), (0, .ref (q 2)), (2, .int x2)]) hx hb dX0_greatestLabel_26 rfl hl (by decide) rfl (fun ls hl => ?_)
        refine lv_iinc (v := x2 + 1) (lv' := [(2, .int (x2 + 1)), (1, .int (if x1 < r4 then r4 else x1)), (0, .ref (q 2))]) hx hb dX0_greatestLabel_27 hl (k := 2) rfl rfl (by decide) rfl (fun ls hl => ?_)
        refine lv_goto (tgt := 4) hx hb dX0_greatestLabel_30 (by decide) ?_
        exact ih4 _ _ h _ _ _ hw (lv_sub hl [2, 1, 0] rfl)
  refine lv_iconst (v := 0) hx hb dX0_greatestLabel_0 (by decide) ?_
  refine lv_istore_n (lv' := [(1, .int 0), (0, .ref (q 2))]) hx hb dX0_greatestLabel_1 rfl hl (by decide) rfl (fun ls hl => ?_)
  refine lv_iconst (v := 0) hx hb dX0_greatestLabel_2 (by decide) ?_
  refine lv_istore_n (lv' := [(2, .int 0), (1, .int 0), (0, .ref (q 2))]) hx hb dX0_greatestLabel_3 rfl hl (by decide) rfl (fun ls hl => ?_)
  exact kk4 h_fu _ _ h _ _ _ hw (lv_sub hl [2, 1, 0] rfl)
set_option maxHeartbeats 4000000 in
set_option maxRecDepth 100000 in
theorem c_X3_countOf (l : Launch) (a0 : Int32) (r : Int32) (h : f_X3_countOf a0 = some r) : MS l yX3_countOf hsX3_countOf rmX3_countOf [.int a0] r := by
  refine MS.ofW (cc := cX3_countOf) (maxL := 1) (ret := (some .int)) (by decide +kernel) rfl (Nat.le_of_ble_eq_true rfl) ?_
  intro p e s m below meth c cf hr hlk ls hl
  have hx := cf.1
  have hb := cf.2.1
  have hml := cf.2.2.1
  have hts := cf.2.2.2.2
  have hta : ∀ z ∈ hALL, z.before _ s = true := fun z h => hts z (List.mem_cons_of_mem _ h)
  have hl : lv_has ls 1 [(0, .int a0)] := hl
  unfold f_X3_countOf at h
  refine lv_iload_n hx hb dX3_countOf_0 rfl (lv_at hl 0 rfl) ?_
  refine lv_bipush (v := 15) hx hb dX3_countOf_1 (by decide) ?_
  refine lv_iand hx hb dX3_countOf_3 ?_
  exact h_sret cf hr hlk rfl (Option.some.inj h) dX3_countOf_4
set_option maxHeartbeats 4000000 in
set_option maxRecDepth 100000 in
theorem c_X0_countToHand (l : Launch) (dC : Nat → ClassId) (dI : Nat → Nat → Nat) (cI cZ : ClassId) (q : Nat → Nat) (S : HSt) (a1 a2 : Int32) (r : Int32) (h : f_X0_countToHand S a1 a2 = some r) : MI l yX0_countToHand hsX0_countToHand rmX0_countToHand (dC, dI) cI cZ (wC q cI) S [.ref (q 2), .int a1, .int a2] r S := by
  refine MI.ofW (cc := cX0_countToHand) (maxL := 5) (ret := (some .int)) (by decide +kernel) rfl (Nat.le_of_ble_eq_true rfl) ?_
  intro p e s m below meth c A cx hr hlk hw ls hl
  have hx := cx.1.1
  have hb := cx.1.2.1
  have hml := cx.1.2.2.1
  have hts := cx.1.2.2.2.2
  have hta : ∀ z ∈ hALL, z.before _ s = true := fun z h => hts z (List.mem_cons_of_mem _ h)
  have lk120 : (Cond.fieldLink RX0 120 (TX1 4).1 (TX1 4).2.1 (TX1 4).2.2.1).before _ s = true := hta _ wdF_X0_120
  have lk15 : (Cond.fieldLink RX0 15 (TX0 2).1 (TX0 2).2.1 (TX0 2).2.2.1).before _ s = true := hta _ wdF_X0_15
  have lk43 : (Cond.fieldLink RX0 43 (TX0 0).1 (TX0 0).2.1 (TX0 0).2.2.1).before _ s = true := hta _ wdF_X0_43
  have lk63 : (Cond.fieldLink RX0 63 (TX1 6).1 (TX1 6).2.1 (TX1 6).2.2.1).before _ s = true := hta _ wdF_X0_63
  have lk9 : (Cond.fieldLink RX0 9 (TX0 1).1 (TX0 1).2.1 (TX0 1).2.2.1).before _ s = true := hta _ wdF_X0_9
  have hiniX3 := hta _ wdN_RX3
  have hstX3_countOf := hta _ wdT_X3_countOf
  have hstX3_pair := hta _ wdT_X3_pair
  have hl : lv_has ls 5 [(0, .ref (q 2)), (1, .int a1), (2, .int a2)] := hl
  unfold f_X0_countToHand at h
  refine lv_aload_n hx hb dX0_countToHand_0 rfl (lv_at hl 0 rfl) ?_
  refine h_get (v := .ref (q 1)) cx hw 2 (wC_p2 q cI S) rfl hinX0 0 (by decide) lk43 rfl dX0_countToHand_1 ?_
  refine h_get (v := .ref (q 8)) cx hw 1 (wC_p1 q cI S) rfl hinX1 4 (by decide) lk120 rfl dX0_countToHand_4 ?_
  refine lv_iload_n hx hb dX0_countToHand_7 rfl (lv_at hl 2 rfl) ?_
  obtain ⟨v1, e2, h⟩ := h_bd_ok h
  refine h_ald cx hw 8 (wC_p8 q cI S) e2 dX0_countToHand_8 ?_
  refine lv_iload_n hx hb dX0_countToHand_9 rfl (lv_at hl 1 rfl) ?_
  refine lv_icmp_ne (tgt := 15) hx hb dX0_countToHand_10 (by decide) (fun c3 => ?_) (fun c3 => ?_)
  · have h := h_ifn c3 h
    refine lv_aload_n hx hb dX0_countToHand_15 rfl (lv_at hl 0 rfl) ?_
    refine h_get (v := .ref (q 1)) cx hw 2 (wC_p2 q cI S) rfl hinX0 0 (by decide) lk43 rfl dX0_countToHand_16 ?_
    refine h_get (v := .ref (q 10)) cx hw 1 (wC_p1 q cI S) rfl hinX1 6 (by decide) lk63 rfl dX0_countToHand_19 ?_
    refine lv_iload_n hx hb dX0_countToHand_22 rfl (lv_at hl 1 rfl) ?_
    refine lv_iload_n hx hb dX0_countToHand_23 rfl (lv_at hl 2 rfl) ?_
    obtain ⟨r4, e5, h⟩ := h_bd_ok h
    refine h_callN cx.1 (c_X3_pair l a1 a2 r4 e5) ⟨va_cnB 2 hts (hgA (hcW wdC_X3_pair)) rfl rfl rfl cx.2.2.1.2.2.1 hiniX3 pdX3_pair.2 ⟨Nat.le_of_ble_eq_true rfl, Nat.le_of_ble_eq_true rfl⟩, hstX3_pair, trivial⟩ rfl hl.1 rfl (Nat.le_of_ble_eq_true rfl) dX0_countToHand_24 ⟨Nat.zero_le _, Nat.zero_le _⟩ ?_
    obtain ⟨v6, e7, h⟩ := h_bd_ok h
    refine h_ald cx hw 10 (wC_p10 q cI S) e7 dX0_countToHand_27 ?_
    refine lv_iconst (v := (-1)) hx hb dX0_countToHand_28 (by decide) ?_
    refine lv_icmp_ne (tgt := 34) hx hb dX0_countToHand_29 (by decide) (fun c8 => ?_) (fun c8 => ?_)
    · have h := h_ifn c8 h
      refine lv_aload_n hx hb dX0_countToHand_34 rfl (lv_at hl 0 rfl) ?_
      refine lv_iload_n hx hb dX0_countToHand_35 rfl (lv_at hl 1 rfl) ?_
      refine lv_iload_n hx hb dX0_countToHand_36 rfl (lv_at hl 2 rfl) ?_
      obtain ⟨r9, e10, h⟩ := h_bd_ok h
      refine h_callI cx hw (c_X0_slipUsed l dC dI cI cZ q S a1 a2 r9 e10) (cwV 2 hts (hgA (hcV wdL_X0_123 wdI_X0_slipUsed wdS_X0_slipUsed wdN_RX0 wdC_X0_slipUsed)) rfl rfl rfl pdX0_slipUsed ⟨Nat.le_of_ble_eq_true rfl, Nat.le_of_ble_eq_true rfl⟩) 2 (wC_p2 q cI S) rfl rfl rfl hl.1 rfl (Nat.le_of_ble_eq_true rfl) dX0_countToHand_37 ⟨Nat.zero_le _, Nat.zero_le _⟩ (fun H locs hw => ?_)
      refine lv_istore_n (lv' := [(3, .int r9), (0, .ref (q 2)), (1, .int a1), (2, .int a2)]) hx hb dX0_countToHand_40 rfl hl (by decide) rfl (fun ls hl => ?_)
      refine lv_iload_n hx hb dX0_countToHand_41 rfl (lv_at hl 0 rfl) ?_
      refine lv_if_ne (tgt := 59) hx hb dX0_countToHand_42 (by decide) (fun c11 => ?_) (fun c11 => ?_)
      · have h := h_ifn c11 h
        refine lv_iload_n hx hb dX0_countToHand_59 rfl (lv_at hl 0 rfl) ?_
        obtain ⟨r12, e13, h⟩ := h_bd_ok h
        refine h_callN cx.1 (c_X3_countOf l r9 r12 e13) ⟨va_cnB 1 hts (hgA (hcW wdC_X3_countOf)) rfl rfl rfl cx.2.2.1.2.2.2.1 hiniX3 pdX3_countOf.2 ⟨Nat.le_of_ble_eq_true rfl, Nat.le_of_ble_eq_true rfl⟩, hstX3_countOf, trivial⟩ rfl hl.1 rfl (Nat.le_of_ble_eq_true rfl) dX0_countToHand_60 ⟨Nat.zero_le _, Nat.zero_le _⟩ ?_
        refine lv_iconst (v := 1) hx hb dX0_countToHand_63 (by decide) ?_
        refine lv_iadd hx hb dX0_countToHand_64 ?_
        refine lv_istore (lv' := [(4, .int (r12 + 1)), (3, .int r9), (0, .ref (q 2)), (1, .int a1), (2, .int a2)]) hx hb dX0_countToHand_65 hl (by decide) rfl (fun ls hl => ?_)
        refine lv_iload hx hb dX0_countToHand_67 (lv_at hl 0 rfl) ?_
        refine lv_aload_n hx hb dX0_countToHand_69 rfl (lv_at hl 2 rfl) ?_
        refine h_get (v := .int (S.1 2)) cx hw 2 (wC_p2 q cI S) rfl hinX0 2 (by decide) lk15 rfl dX0_countToHand_70 ?_
        refine lv_icmp_le (tgt := 80) hx hb dX0_countToHand_73 (by decide) (fun c14 => ?_) (fun c14 => ?_)
        · have h := h_ifp c14 h
          refine lv_iload hx hb dX0_countToHand_80 (lv_at hl 0 rfl) ?_
          exact h_iret cx hw hr hlk rfl (Option.some.inj h) rfl dX0_countToHand_82
        · have h := h_ifn c14 h
          refine lv_iconst (v := (-1)) hx hb dX0_countToHand_76 (by decide) ?_
          refine lv_goto (tgt := 82) hx hb dX0_countToHand_77 (by decide) ?_
          exact h_iret cx hw hr hlk rfl (Option.some.inj h) rfl dX0_countToHand_82
      · have h := h_ifp c11 h
        refine lv_aload_n hx hb dX0_countToHand_45 rfl (lv_at hl 1 rfl) ?_
        refine h_get (v := .int (S.1 1)) cx hw 2 (wC_p2 q cI S) rfl hinX0 1 (by decide) lk9 rfl dX0_countToHand_46 ?_
        refine lv_iconst (v := 1) hx hb dX0_countToHand_49 (by decide) ?_
        refine lv_icmp_ne (tgt := 57) hx hb dX0_countToHand_50 (by decide) (fun c15 => ?_) (fun c15 => ?_)
        · have h := h_ifn c15 h
          refine lv_iconst (v := 1) hx hb dX0_countToHand_57 (by decide) ?_
          exact h_iret cx hw hr hlk rfl (Option.some.inj h) rfl dX0_countToHand_58
        · have h := h_ifp c15 h
          refine lv_iconst (v := (-1)) hx hb dX0_countToHand_53 (by decide) ?_
          refine lv_goto (tgt := 58) hx hb dX0_countToHand_54 (by decide) ?_
          exact h_iret cx hw hr hlk rfl (Option.some.inj h) rfl dX0_countToHand_58
    · have h := h_ifp c8 h
      refine lv_iconst (v := (-1)) hx hb dX0_countToHand_32 (by decide) ?_
      exact h_iret cx hw hr hlk rfl (Option.some.inj h) rfl dX0_countToHand_33
  · have h := h_ifp c3 h
    refine lv_iconst (v := 0) hx hb dX0_countToHand_13 (by decide) ?_
    exact h_iret cx hw hr hlk rfl (Option.some.inj h) rfl dX0_countToHand_14
set_option maxHeartbeats 4000000 in
set_option maxRecDepth 100000 in
theorem c_X1_isUpSide (l : Launch) (dC : Nat → ClassId) (dI : Nat → Nat → Nat) (cI cZ : ClassId) (q : Nat → Nat) (S : HSt) (a1 : Int32) (r : Int32) (h : f_X1_isUpSide S a1 = some r) : MI l yX1_isUpSide hsX1_isUpSide rmX1_isUpSide (dC, dI) cI cZ (wC q cI) S [.ref (q 1), .int a1] r S := by
  refine MI.ofW (cc := cX1_isUpSide) (maxL := 2) (ret := (some .boolean)) (by decide +kernel) rfl (Nat.le_of_ble_eq_true rfl) ?_
  intro p e s m below meth c A cx hr hlk hw ls hl
  have hx := cx.1.1
  have hb := cx.1.2.1
  have hml := cx.1.2.2.1
  have hts := cx.1.2.2.2.2
  have hta : ∀ z ∈ hALL, z.before _ s = true := fun z h => hts z (List.mem_cons_of_mem _ h)
  have lk18 : (Cond.fieldLink RX1 18 (TX1 3).1 (TX1 3).2.1 (TX1 3).2.2.1).before _ s = true := hta _ wdF_X1_18
  have hl : lv_has ls 2 [(0, .ref (q 1)), (1, .int a1)] := hl
  unfold f_X1_isUpSide at h
  refine lv_aload_n hx hb dX1_isUpSide_0 rfl (lv_at hl 0 rfl) ?_
  refine h_get (v := .ref (q 7)) cx hw 1 (wC_p1 q cI S) rfl hinX1 3 (by decide) lk18 rfl dX1_isUpSide_1 ?_
  refine lv_iload_n hx hb dX1_isUpSide_4 rfl (lv_at hl 1 rfl) ?_
  refine lv_iconst (v := 1) hx hb dX1_isUpSide_5 (by decide) ?_
  refine lv_ishr hx hb dX1_isUpSide_6 ?_
  obtain ⟨v1, e2, h⟩ := h_bd_ok h
  refine h_ald cx hw 7 (wC_p7 q cI S) e2 dX1_isUpSide_7 ?_
  refine lv_iconst (v := 1) hx hb dX1_isUpSide_8 (by decide) ?_
  refine lv_icmp_ne (tgt := 16) hx hb dX1_isUpSide_9 (by decide) (fun c3 => ?_) (fun c3 => ?_)
  · have h := h_ifn c3 h
    refine lv_iconst (v := 0) hx hb dX1_isUpSide_16 (by decide) ?_
    exact h_iret cx hw hr hlk rfl (Option.some.inj h) rfl dX1_isUpSide_17
  · have h := h_ifp c3 h
    refine lv_iconst (v := 1) hx hb dX1_isUpSide_12 (by decide) ?_
    refine lv_goto (tgt := 17) hx hb dX1_isUpSide_13 (by decide) ?_
    exact h_iret cx hw hr hlk rfl (Option.some.inj h) rfl dX1_isUpSide_17
set_option maxHeartbeats 4000000 in
set_option maxRecDepth 100000 in
theorem c_X0_goesOver (l : Launch) (dC : Nat → ClassId) (dI : Nat → Nat → Nat) (cI cZ : ClassId) (q : Nat → Nat) (S : HSt) (a1 a2 : Int32) (r : Int32) (h : f_X0_goesOver S a1 a2 = some r) : MI l yX0_goesOver hsX0_goesOver rmX0_goesOver (dC, dI) cI cZ (wC q cI) S [.ref (q 2), .int a1, .int a2] r S := by
  refine MI.ofW (cc := cX0_goesOver) (maxL := 4) (ret := (some .boolean)) (by decide +kernel) rfl (Nat.le_of_ble_eq_true rfl) ?_
  intro p e s m below meth c A cx hr hlk hw ls hl
  have hx := cx.1.1
  have hb := cx.1.2.1
  have hml := cx.1.2.2.1
  have hts := cx.1.2.2.2.2
  have hta : ∀ z ∈ hALL, z.before _ s = true := fun z h => hts z (List.mem_cons_of_mem _ h)
  have lk43 : (Cond.fieldLink RX0 43 (TX0 0).1 (TX0 0).2.1 (TX0 0).2.2.1).before _ s = true := hta _ wdF_X0_43
  have lk60 : (Cond.fieldLink RX0 60 (TX1 1).1 (TX1 1).2.1 (TX1 1).2.2.1).before _ s = true := hta _ wdF_X0_60
  have lk63 : (Cond.fieldLink RX0 63 (TX1 6).1 (TX1 6).2.1 (TX1 6).2.2.1).before _ s = true := hta _ wdF_X0_63
  have hiniX3 := hta _ wdN_RX3
  have hstX3_pair := hta _ wdT_X3_pair
  have hl : lv_has ls 4 [(0, .ref (q 2)), (1, .int a1), (2, .int a2)] := hl
  unfold f_X0_goesOver at h
  have kk61 : f_X0_goesOver_61 S = some r → ∀ (H : Heap) (locs : List Loc) (ls : Array Slot), HW (dC, dI) (wC q cI) S A s H locs → lv_has ls 4 [] → W p l e rmX0_goesOver s m ([.ref (q 2), .int a1, .int a2] : List Value).toArray below meth c H locs 0 0 (MQ below (QI (dC, dI) (wC q cI) r S A) ([.ref (q 2), .int a1, .int a2] : List Value).toArray s 0 0 A) (F0 m 61 ls []) := by
    intro  h H locs ls hw hl
    unfold f_X0_goesOver_61 at h
    refine lv_iconst (v := 1) hx hb dX0_goesOver_61 (by decide) ?_
    refine lv_goto (tgt := 66) hx hb dX0_goesOver_62 (by decide) ?_
    exact h_iret cx hw hr hlk rfl (Option.some.inj h) rfl dX0_goesOver_66
  refine lv_aload_n hx hb dX0_goesOver_0 rfl (lv_at hl 0 rfl) ?_
  refine h_get (v := .ref (q 1)) cx hw 2 (wC_p2 q cI S) rfl hinX0 0 (by decide) lk43 rfl dX0_goesOver_1 ?_
  refine lv_iload_n hx hb dX0_goesOver_4 rfl (lv_at hl 1 rfl) ?_
  obtain ⟨r1, e2, h⟩ := h_bd_ok h
  refine h_callI cx hw (c_X1_isUpSide l dC dI cI cZ q S a1 r1 e2) (cwV 1 hts (hgA (hcV wdL_X0_129 wdI_X1_isUpSide wdS_X1_isUpSide wdN_RX1 wdC_X1_isUpSide)) rfl rfl rfl pdX1_isUpSide ⟨Nat.le_of_ble_eq_true rfl, Nat.le_of_ble_eq_true rfl⟩) 1 (wC_p1 q cI S) rfl rfl rfl hl.1 rfl (Nat.le_of_ble_eq_true rfl) dX0_goesOver_5 ⟨Nat.zero_le _, Nat.zero_le _⟩ (fun H locs hw => ?_)
  refine lv_if_ne (tgt := 13) hx hb dX0_goesOver_8 (by decide) (fun c3 => ?_) (fun c3 => ?_)
  · have h := h_ifn c3 h
    refine lv_aload_n hx hb dX0_goesOver_13 rfl (lv_at hl 0 rfl) ?_
    refine h_get (v := .ref (q 1)) cx hw 2 (wC_p2 q cI S) rfl hinX0 0 (by decide) lk43 rfl dX0_goesOver_14 ?_
    refine h_get (v := .ref (q 5)) cx hw 1 (wC_p1 q cI S) rfl hinX1 1 (by decide) lk60 rfl dX0_goesOver_17 ?_
    refine lv_iload_n hx hb dX0_goesOver_20 rfl (lv_at hl 1 rfl) ?_
    refine lv_iconst (v := 1) hx hb dX0_goesOver_21 (by decide) ?_
    refine lv_ixor hx hb dX0_goesOver_22 ?_
    obtain ⟨v4, e5, h⟩ := h_bd_ok h
    refine h_ald cx hw 5 (wC_p5 q cI S) e5 dX0_goesOver_23 ?_
    refine lv_istore_n (lv' := [(3, .int v4), (0, .ref (q 2)), (1, .int a1), (2, .int a2)]) hx hb dX0_goesOver_24 rfl hl (by decide) rfl (fun ls hl => ?_)
    refine lv_aload_n hx hb dX0_goesOver_25 rfl (lv_at hl 1 rfl) ?_
    refine lv_aload_n hx hb dX0_goesOver_26 rfl (lv_at hl 1 rfl) ?_
    refine h_get (v := .ref (q 1)) cx hw 2 (wC_p2 q cI S) rfl hinX0 0 (by decide) lk43 rfl dX0_goesOver_27 ?_
    refine h_get (v := .ref (q 5)) cx hw 1 (wC_p1 q cI S) rfl hinX1 1 (by decide) lk60 rfl dX0_goesOver_30 ?_
    refine lv_iload_n hx hb dX0_goesOver_33 rfl (lv_at hl 2 rfl) ?_
    obtain ⟨v6, e7, h⟩ := h_bd_ok h
    refine h_ald cx hw 5 (wC_p5 q cI S) e7 dX0_goesOver_34 ?_
    refine lv_iconst (v := 0) hx hb dX0_goesOver_35 (by decide) ?_
    obtain ⟨r8, e9, h⟩ := h_bd_ok h
    refine h_callI cx hw (c_X0_has l dC dI cI cZ q S v6 0 r8 e9) (cwV 2 hts (hgA (hcV wdL_X0_69 wdI_X0_has wdS_X0_has wdN_RX0 wdC_X0_has)) rfl rfl rfl pdX0_has ⟨Nat.le_of_ble_eq_true rfl, Nat.le_of_ble_eq_true rfl⟩) 2 (wC_p2 q cI S) rfl rfl rfl hl.1 rfl (Nat.le_of_ble_eq_true rfl) dX0_goesOver_36 ⟨Nat.zero_le _, Nat.zero_le _⟩ (fun H locs hw => ?_)
    refine lv_if_eq (tgt := 61) hx hb dX0_goesOver_39 (by decide) (fun c10 => ?_) (fun c10 => ?_)
    · have h := h_ifp c10 h
      exact kk61  h _ _ _ hw (lv_sub hl [] rfl)
    · have h := h_ifn c10 h
      refine lv_aload_n hx hb dX0_goesOver_42 rfl (lv_at hl 1 rfl) ?_
      refine h_get (v := .ref (q 1)) cx hw 2 (wC_p2 q cI S) rfl hinX0 0 (by decide) lk43 rfl dX0_goesOver_43 ?_
      refine h_get (v := .ref (q 10)) cx hw 1 (wC_p1 q cI S) rfl hinX1 6 (by decide) lk63 rfl dX0_goesOver_46 ?_
      refine lv_iload_n hx hb dX0_goesOver_49 rfl (lv_at hl 0 rfl) ?_
      refine lv_iload_n hx hb dX0_goesOver_50 rfl (lv_at hl 3 rfl) ?_
      obtain ⟨r11, e12, h⟩ := h_bd_ok h
      refine h_callN cx.1 (c_X3_pair l v4 a2 r11 e12) ⟨va_cnB 2 hts (hgA (hcW wdC_X3_pair)) rfl rfl rfl cx.2.2.1.2.2.1 hiniX3 pdX3_pair.2 ⟨Nat.le_of_ble_eq_true rfl, Nat.le_of_ble_eq_true rfl⟩, hstX3_pair, trivial⟩ rfl hl.1 rfl (Nat.le_of_ble_eq_true rfl) dX0_goesOver_51 ⟨Nat.zero_le _, Nat.zero_le _⟩ ?_
      obtain ⟨v13, e14, h⟩ := h_bd_ok h
      refine h_ald cx hw 10 (wC_p10 q cI S) e14 dX0_goesOver_54 ?_
      refine lv_iload_n hx hb dX0_goesOver_55 rfl (lv_at hl 2 rfl) ?_
      refine lv_iconst (v := 1) hx hb dX0_goesOver_56 (by decide) ?_
      refine lv_ixor hx hb dX0_goesOver_57 ?_
      refine lv_icmp_ne (tgt := 65) hx hb dX0_goesOver_58 (by decide) (fun c15 => ?_) (fun c15 => ?_)
      · have h := h_ifn c15 h
        refine lv_iconst (v := 0) hx hb dX0_goesOver_65 (by decide) ?_
        exact h_iret cx hw hr hlk rfl (Option.some.inj h) rfl dX0_goesOver_66
      · have h := h_ifp c15 h
        exact kk61  h _ _ _ hw (lv_sub hl [] rfl)
  · have h := h_ifp c3 h
    refine lv_iconst (v := 0) hx hb dX0_goesOver_11 (by decide) ?_
    exact h_iret cx hw hr hlk rfl (Option.some.inj h) rfl dX0_goesOver_12
set_option maxHeartbeats 4000000 in
set_option maxRecDepth 100000 in
theorem c_X3_slipWith (l : Launch) (a0 a1 : Int32) (r : Int32) (h : f_X3_slipWith a0 a1 = some r) : MS l yX3_slipWith hsX3_slipWith rmX3_slipWith [.int a0, .int a1] r := by
  refine MS.ofW (cc := cX3_slipWith) (maxL := 2) (ret := (some .int)) (by decide +kernel) rfl (Nat.le_of_ble_eq_true rfl) ?_
  intro p e s m below meth c cf hr hlk ls hl
  have hx := cf.1
  have hb := cf.2.1
  have hml := cf.2.2.1
  have hts := cf.2.2.2.2
  have hta : ∀ z ∈ hALL, z.before _ s = true := fun z h => hts z (List.mem_cons_of_mem _ h)
  have hl : lv_has ls 2 [(0, .int a0), (1, .int a1)] := hl
  unfold f_X3_slipWith at h
  refine lv_iload_n hx hb dX3_slipWith_0 rfl (lv_at hl 0 rfl) ?_
  refine lv_bipush (v := 16) hx hb dX3_slipWith_1 (by decide) ?_
  refine lv_imul hx hb dX3_slipWith_3 ?_
  refine lv_iload_n hx hb dX3_slipWith_4 rfl (lv_at hl 1 rfl) ?_
  refine lv_iadd hx hb dX3_slipWith_5 ?_
  exact h_sret cf hr hlk rfl (Option.some.inj h) dX3_slipWith_6
set_option maxHeartbeats 4000000 in
set_option maxRecDepth 100000 in
theorem c_X0_placeOver (l : Launch) (dC : Nat → ClassId) (dI : Nat → Nat → Nat) (cI cZ : ClassId) (q : Nat → Nat) (S : HSt) (a1 : Int32) (S9 : HSt) (h : f_X0_placeOver S a1 = some S9) : MV l yX0_placeOver hsX0_placeOver rmX0_placeOver (dC, dI) cI cZ (wC q cI) S [.ref (q 2), .int a1] S9 := by
  refine MV.ofW (cc := cX0_placeOver) (maxL := 4) (ret := none) (by decide +kernel) rfl (Nat.le_of_ble_eq_true rfl) ?_
  intro p e s m below meth c A cx hr hlk hw ls hl
  have hx := cx.1.1
  have hb := cx.1.2.1
  have hml := cx.1.2.2.1
  have hts := cx.1.2.2.2.2
  have hta : ∀ z ∈ hALL, z.before _ s = true := fun z h => hts z (List.mem_cons_of_mem _ h)
  have lk28 : (Cond.fieldLink RX0 28 (TX0 7).1 (TX0 7).2.1 (TX0 7).2.2.1).before _ s = true := hta _ wdF_X0_28
  have lk31 : (Cond.fieldLink RX0 31 (TX0 8).1 (TX0 8).2.1 (TX0 8).2.2.1).before _ s = true := hta _ wdF_X0_31
  have hiniX3 := hta _ wdN_RX3
  have hstX3_slipWith := hta _ wdT_X3_slipWith
  have hstX3_slot := hta _ wdT_X3_slot
  have hl : lv_has ls 4 [(0, .ref (q 2)), (1, .int a1)] := hl
  unfold f_X0_placeOver at h
  have kk2 : ∀ (n2 : Nat) (S : HSt) (x1 x2 : Int32), f_X0_placeOver_2 n2 S x1 x2 = some S9 → ∀ (H : Heap) (locs : List Loc) (ls : Array Slot), HW (dC, dI) (wC q cI) S A s H locs → lv_has ls 4 [(0, .ref (q 2)), (1, .int x1), (2, .int x2)] → W p l e rmX0_placeOver s m ([.ref (q 2), .int a1] : List Value).toArray below meth c H locs 0 0 (MQ below (QV (dC, dI) (wC q cI) S9 A) ([.ref (q 2), .int a1] : List Value).toArray s 0 0 A) (F0 m 2 ls []) := by
    intro n2
    induction n2 with
    | zero =>
      intro S x1 x2 h
      have h9 : (none : Option HSt) = some S9 := h
      cases h9
    | succ n2 ih2 =>
      intro S x1 x2 h H locs ls hw hl
      have h : f_X0_placeOver_2_s (f_X0_placeOver_2 n2) S x1 x2 = some S9 := h
      unfold f_X0_placeOver_2_s at h
      have kk31 : ∀ (S : HSt) (x1 x2 t0 : Int32), f_X0_placeOver_31 (f_X0_placeOver_2 n2) S x1 x2 t0 = some S9 → ∀ (H : Heap) (locs : List Loc) (ls : Array Slot), HW (dC, dI) (wC q cI) S A s H locs → lv_has ls 4 [(0, .ref (q 2)), (1, .int x1), (2, .int x2)] → W p l e rmX0_placeOver s m ([.ref (q 2), .int a1] : List Value).toArray below meth c H locs 0 0 (MQ below (QV (dC, dI) (wC q cI) S9 A) ([.ref (q 2), .int a1] : List Value).toArray s 0 0 A) (F0 m 31 ls [.int t0]) := by
        intro S x1 x2 t0 h H locs ls hw hl
        unfold f_X0_placeOver_31 at h
        have kk59 : ∀ (S : HSt) (x1 x2 t0 t1 : Int32), f_X0_placeOver_59 (f_X0_placeOver_2 n2) S x1 x2 t0 t1 = some S9 → ∀ (H : Heap) (locs : List Loc) (ls : Array Slot), HW (dC, dI) (wC q cI) S A s H locs → lv_has ls 4 [(0, .ref (q 2)), (1, .int x1), (2, .int x2)] → W p l e rmX0_placeOver s m ([.ref (q 2), .int a1] : List Value).toArray below meth c H locs 0 0 (MQ below (QV (dC, dI) (wC q cI) S9 A) ([.ref (q 2), .int a1] : List Value).toArray s 0 0 A) (F0 m 59 ls [.int t0, .int t1, .ref (q 14)]) := by
          intro S x1 x2 t0 t1 h H locs ls hw hl
          unfold f_X0_placeOver_59 at h
          obtain ⟨S1, e2, h⟩ := h_bd_ok h
          refine h_ast cx hw 14 (wC_p14 q cI S) (wC_s14 q cI S) e2 dX0_placeOver_59 (fun H locs hw => ?_)
          refine lv_iinc (v := x2 + 1) (lv' := [(2, .int (x2 + 1)), (0, .ref (q 2)), (1, .int x1)]) hx hb dX0_placeOver_60 hl (k := 2) rfl rfl (by decide) rfl (fun ls hl => ?_)
          refine lv_goto (tgt := 2) hx hb dX0_placeOver_63 (by decide) ?_
          exact ih2 _ _ _ h _ _ _ hw (lv_sub hl [1, 2, 0] rfl)
        refine lv_istore_n (lv' := [(3, .int t0), (0, .ref (q 2)), (1, .int x1), (2, .int x2)]) hx hb dX0_placeOver_31 rfl hl (by decide) rfl (fun ls hl => ?_)
        refine lv_aload_n hx hb dX0_placeOver_32 rfl (lv_at hl 1 rfl) ?_
        refine h_get (v := .ref (q 14)) cx hw 2 (wC_p2 q cI S) rfl hinX0 7 (by decide) lk28 rfl dX0_placeOver_33 ?_
        refine lv_iload_n hx hb dX0_placeOver_36 rfl (lv_at hl 2 rfl) ?_
        refine lv_iload_n hx hb dX0_placeOver_37 rfl (lv_at hl 3 rfl) ?_
        obtain ⟨r1, e2, h⟩ := h_bd_ok h
        refine h_callN cx.1 (c_X3_slot l x1 x2 r1 e2) ⟨va_cnB 2 hts (hgA (hcW wdC_X3_slot)) rfl rfl rfl cx.2.2.1.2.1 hiniX3 pdX3_slot.2 ⟨Nat.le_of_ble_eq_true rfl, Nat.le_of_ble_eq_true rfl⟩, hstX3_slot, trivial⟩ rfl hl.1 rfl (Nat.le_of_ble_eq_true rfl) dX0_placeOver_38 ⟨Nat.zero_le _, Nat.zero_le _⟩ ?_
        refine lv_iload_n hx hb dX0_placeOver_41 rfl (lv_at hl 0 rfl) ?_
        refine lv_if_eq (tgt := 58) hx hb dX0_placeOver_42 (by decide) (fun c3 => ?_) (fun c3 => ?_)
        · have h := h_ifp c3 h
          refine lv_iconst (v := 0) hx hb dX0_placeOver_58 (by decide) ?_
          exact kk59 _ _ _ _ _ h _ _ _ hw (lv_sub hl [1, 2, 3] rfl)
        · have h := h_ifn c3 h
          refine lv_iconst (v := 1) hx hb dX0_placeOver_45 (by decide) ?_
          refine lv_aload_n hx hb dX0_placeOver_46 rfl (lv_at hl 1 rfl) ?_
          refine h_get (v := .ref (q 15)) cx hw 2 (wC_p2 q cI S) rfl hinX0 8 (by decide) lk31 rfl dX0_placeOver_47 ?_
          refine lv_iload_n hx hb dX0_placeOver_50 rfl (lv_at hl 3 rfl) ?_
          obtain ⟨v4, e5, h⟩ := h_bd_ok h
          refine h_ald cx hw 15 (wC_p15 q cI S) e5 dX0_placeOver_51 ?_
          obtain ⟨r6, e7, h⟩ := h_bd_ok h
          refine h_callN cx.1 (c_X3_slipWith l 1 v4 r6 e7) ⟨va_cnB 2 hts (hgA (hcW wdC_X3_slipWith)) rfl rfl rfl cx.2.2.1.2.2.2.2.1 hiniX3 pdX3_slipWith.2 ⟨Nat.le_of_ble_eq_true rfl, Nat.le_of_ble_eq_true rfl⟩, hstX3_slipWith, trivial⟩ rfl hl.1 rfl (Nat.le_of_ble_eq_true rfl) dX0_placeOver_52 ⟨Nat.zero_le _, Nat.zero_le _⟩ ?_
          refine lv_goto (tgt := 59) hx hb dX0_placeOver_55 (by decide) ?_
          exact kk59 _ _ _ _ _ h _ _ _ hw (lv_sub hl [1, 2, 3] rfl)
      have kk30 : ∀ (S : HSt) (x1 x2 : Int32), f_X0_placeOver_30 (f_X0_placeOver_2 n2) S x1 x2 = some S9 → ∀ (H : Heap) (locs : List Loc) (ls : Array Slot), HW (dC, dI) (wC q cI) S A s H locs → lv_has ls 4 [(0, .ref (q 2)), (1, .int x1), (2, .int x2)] → W p l e rmX0_placeOver s m ([.ref (q 2), .int a1] : List Value).toArray below meth c H locs 0 0 (MQ below (QV (dC, dI) (wC q cI) S9 A) ([.ref (q 2), .int a1] : List Value).toArray s 0 0 A) (F0 m 30 ls []) := by
        intro S x1 x2 h H locs ls hw hl
        unfold f_X0_placeOver_30 at h
        refine lv_iconst (v := 0) hx hb dX0_placeOver_30 (by decide) ?_
        exact kk31 _ _ _ _ h _ _ _ hw (lv_sub hl [0, 1, 2] rfl)
      refine lv_iload_n hx hb dX0_placeOver_2 rfl (lv_at hl 2 rfl) ?_
      refine lv_iconst (v := 4) hx hb dX0_placeOver_3 (by decide) ?_
      refine lv_icmp_ge (tgt := 66) hx hb dX0_placeOver_4 (by decide) (fun c1 => ?_) (fun c1 => ?_)
      · have h := h_ifp c1 h
        exact h_vret cx hw hr hlk (Option.some.inj h) dX0_placeOver_66
      · have h := h_ifn c1 h
        refine lv_aload_n hx hb dX0_placeOver_7 rfl (lv_at hl 0 rfl) ?_
        refine h_get (v := .ref (q 15)) cx hw 2 (wC_p2 q cI S) rfl hinX0 8 (by decide) lk31 rfl dX0_placeOver_8 ?_
        refine lv_iload_n hx hb dX0_placeOver_11 rfl (lv_at hl 2 rfl) ?_
        obtain ⟨v2, e3, h⟩ := h_bd_ok h
        refine h_ald cx hw 15 (wC_p15 q cI S) e3 dX0_placeOver_12 ?_
        refine lv_iconst (v := (-1)) hx hb dX0_placeOver_13 (by decide) ?_
        refine lv_icmp_eq (tgt := 30) hx hb dX0_placeOver_14 (by decide) (fun c4 => ?_) (fun c4 => ?_)
        · have h := h_ifp c4 h
          exact kk30 _ _ _ h _ _ _ hw (lv_sub hl [0, 1, 2] rfl)
        · have h := h_ifn c4 h
          refine lv_aload_n hx hb dX0_placeOver_17 rfl (lv_at hl 0 rfl) ?_
          refine lv_iload_n hx hb dX0_placeOver_18 rfl (lv_at hl 1 rfl) ?_
          refine lv_iload_n hx hb dX0_placeOver_19 rfl (lv_at hl 2 rfl) ?_
          obtain ⟨r5, e6, h⟩ := h_bd_ok h
          refine h_callI cx hw (c_X0_goesOver l dC dI cI cZ q S x1 x2 r5 e6) (cwV 2 hts (hgA (hcV wdL_X0_114 wdI_X0_goesOver wdS_X0_goesOver wdN_RX0 wdC_X0_goesOver)) rfl rfl rfl pdX0_goesOver ⟨Nat.le_of_ble_eq_true rfl, Nat.le_of_ble_eq_true rfl⟩) 2 (wC_p2 q cI S) rfl rfl rfl hl.1 rfl (Nat.le_of_ble_eq_true rfl) dX0_placeOver_20 ⟨Nat.zero_le _, Nat.zero_le _⟩ (fun H locs hw => ?_)
          refine lv_if_eq (tgt := 30) hx hb dX0_placeOver_23 (by decide) (fun c7 => ?_) (fun c7 => ?_)
          · have h := h_ifp c7 h
            exact kk30 _ _ _ h _ _ _ hw (lv_sub hl [0, 1, 2] rfl)
          · have h := h_ifn c7 h
            refine lv_iconst (v := 1) hx hb dX0_placeOver_26 (by decide) ?_
            refine lv_goto (tgt := 31) hx hb dX0_placeOver_27 (by decide) ?_
            exact kk31 _ _ _ _ h _ _ _ hw (lv_sub hl [0, 1, 2] rfl)
  refine lv_iconst (v := 0) hx hb dX0_placeOver_0 (by decide) ?_
  refine lv_istore_n (lv' := [(2, .int 0), (0, .ref (q 2)), (1, .int a1)]) hx hb dX0_placeOver_1 rfl hl (by decide) rfl (fun ls hl => ?_)
  exact kk2 h_fu _ _ _ h _ _ _ hw (lv_sub hl [1, 2, 0] rfl)
set_option maxHeartbeats 4000000 in
set_option maxRecDepth 100000 in
theorem c_X0_placeSlips (l : Launch) (dC : Nat → ClassId) (dI : Nat → Nat → Nat) (cI cZ : ClassId) (q : Nat → Nat) (S : HSt) (a1 : Int32) (S9 : HSt) (h : f_X0_placeSlips S a1 = some S9) : MV l yX0_placeSlips hsX0_placeSlips rmX0_placeSlips (dC, dI) cI cZ (wC q cI) S [.ref (q 2), .int a1] S9 := by
  refine MV.ofW (cc := cX0_placeSlips) (maxL := 3) (ret := none) (by decide +kernel) rfl (Nat.le_of_ble_eq_true rfl) ?_
  intro p e s m below meth c A cx hr hlk hw ls hl
  have hx := cx.1.1
  have hb := cx.1.2.1
  have hml := cx.1.2.2.1
  have hts := cx.1.2.2.2.2
  have hta : ∀ z ∈ hALL, z.before _ s = true := fun z h => hts z (List.mem_cons_of_mem _ h)
  have lk31 : (Cond.fieldLink RX0 31 (TX0 8).1 (TX0 8).2.1 (TX0 8).2.2.1).before _ s = true := hta _ wdF_X0_31
  have lk43 : (Cond.fieldLink RX0 43 (TX0 0).1 (TX0 0).2.1 (TX0 0).2.2.1).before _ s = true := hta _ wdF_X0_43
  have lk51 : (Cond.fieldLink RX0 51 (TX1 0).1 (TX1 0).2.1 (TX1 0).2.2.1).before _ s = true := hta _ wdF_X0_51
  have lk60 : (Cond.fieldLink RX0 60 (TX1 1).1 (TX1 1).2.1 (TX1 1).2.2.1).before _ s = true := hta _ wdF_X0_60
  have hl : lv_has ls 3 [(0, .ref (q 2)), (1, .int a1)] := hl
  unfold f_X0_placeSlips at h
  have kk2 : ∀ (n2 : Nat) (S : HSt) (x1 x2 : Int32), f_X0_placeSlips_2 n2 S x1 x2 = some S9 → ∀ (H : Heap) (locs : List Loc) (ls : Array Slot), HW (dC, dI) (wC q cI) S A s H locs → lv_has ls 3 [(0, .ref (q 2)), (1, .int x1), (2, .int x2)] → W p l e rmX0_placeSlips s m ([.ref (q 2), .int a1] : List Value).toArray below meth c H locs 0 0 (MQ below (QV (dC, dI) (wC q cI) S9 A) ([.ref (q 2), .int a1] : List Value).toArray s 0 0 A) (F0 m 2 ls []) := by
    intro n2
    induction n2 with
    | zero =>
      intro S x1 x2 h
      have h9 : (none : Option HSt) = some S9 := h
      cases h9
    | succ n2 ih2 =>
      intro S x1 x2 h H locs ls hw hl
      have h : f_X0_placeSlips_2_s (f_X0_placeSlips_2 n2) S x1 x2 = some S9 := h
      unfold f_X0_placeSlips_2_s at h
      have kk27 : ∀ (n27 : Nat) (S : HSt) (x1 x2 : Int32), f_X0_placeSlips_27 n27 S x1 x2 = some S9 → ∀ (H : Heap) (locs : List Loc) (ls : Array Slot), HW (dC, dI) (wC q cI) S A s H locs → lv_has ls 3 [(0, .ref (q 2)), (1, .int x1), (2, .int x2)] → W p l e rmX0_placeSlips s m ([.ref (q 2), .int a1] : List Value).toArray below meth c H locs 0 0 (MQ below (QV (dC, dI) (wC q cI) S9 A) ([.ref (q 2), .int a1] : List Value).toArray s 0 0 A) (F0 m 27 ls []) := by
        intro n27
        induction n27 with
        | zero =>
          intro S x1 x2 h
          have h9 : (none : Option HSt) = some S9 := h
          cases h9
        | succ n27 ih27 =>
          intro S x1 x2 h H locs ls hw hl
          have h : f_X0_placeSlips_27_s (f_X0_placeSlips_27 n27) S x1 x2 = some S9 := h
          unfold f_X0_placeSlips_27_s at h
          have kk58 : ∀ (S : HSt) (x1 x2 : Int32), f_X0_placeSlips_58 (f_X0_placeSlips_27 n27) S x1 x2 = some S9 → ∀ (H : Heap) (locs : List Loc) (ls : Array Slot), HW (dC, dI) (wC q cI) S A s H locs → lv_has ls 3 [(0, .ref (q 2)), (1, .int x1), (2, .int x2)] → W p l e rmX0_placeSlips s m ([.ref (q 2), .int a1] : List Value).toArray below meth c H locs 0 0 (MQ below (QV (dC, dI) (wC q cI) S9 A) ([.ref (q 2), .int a1] : List Value).toArray s 0 0 A) (F0 m 58 ls []) := by
            intro S x1 x2 h H locs ls hw hl
            unfold f_X0_placeSlips_58 at h
            refine lv_iinc (v := x2 + 1) (lv' := [(2, .int (x2 + 1)), (0, .ref (q 2)), (1, .int x1)]) hx hb dX0_placeSlips_58 hl (k := 2) rfl rfl (by decide) rfl (fun ls hl => ?_)
            refine lv_goto (tgt := 27) hx hb dX0_placeSlips_61 (by decide) ?_
            exact ih27 _ _ _ h _ _ _ hw (lv_sub hl [1, 2, 0] rfl)
          refine lv_iload_n hx hb dX0_placeSlips_27 rfl (lv_at hl 2 rfl) ?_
          refine lv_iconst (v := 2) hx hb dX0_placeSlips_28 (by decide) ?_
          refine lv_aload_n hx hb dX0_placeSlips_29 rfl (lv_at hl 0 rfl) ?_
          refine h_get (v := .ref (q 1)) cx hw 2 (wC_p2 q cI S) rfl hinX0 0 (by decide) lk43 rfl dX0_placeSlips_30 ?_
          refine h_get (v := .int (S.1 0)) cx hw 1 (wC_p1 q cI S) rfl hinX1 0 (by decide) lk51 rfl dX0_placeSlips_33 ?_
          refine lv_imul hx hb dX0_placeSlips_36 ?_
          refine lv_icmp_ge (tgt := 64) hx hb dX0_placeSlips_37 (by decide) (fun c1 => ?_) (fun c1 => ?_)
          · have h := h_ifp c1 h
            exact h_vret cx hw hr hlk (Option.some.inj h) dX0_placeSlips_64
          · have h := h_ifn c1 h
            refine lv_aload_n hx hb dX0_placeSlips_40 rfl (lv_at hl 0 rfl) ?_
            refine h_get (v := .ref (q 1)) cx hw 2 (wC_p2 q cI S) rfl hinX0 0 (by decide) lk43 rfl dX0_placeSlips_41 ?_
            refine h_get (v := .ref (q 5)) cx hw 1 (wC_p1 q cI S) rfl hinX1 1 (by decide) lk60 rfl dX0_placeSlips_44 ?_
            refine lv_iload_n hx hb dX0_placeSlips_47 rfl (lv_at hl 2 rfl) ?_
            obtain ⟨v2, e3, h⟩ := h_bd_ok h
            refine h_ald cx hw 5 (wC_p5 q cI S) e3 dX0_placeSlips_48 ?_
            refine lv_iload_n hx hb dX0_placeSlips_49 rfl (lv_at hl 1 rfl) ?_
            refine lv_icmp_ne (tgt := 58) hx hb dX0_placeSlips_50 (by decide) (fun c4 => ?_) (fun c4 => ?_)
            · have h := h_ifn c4 h
              exact kk58 _ _ _ h _ _ _ hw (lv_sub hl [0, 1, 2] rfl)
            · have h := h_ifp c4 h
              refine lv_aload_n hx hb dX0_placeSlips_53 rfl (lv_at hl 0 rfl) ?_
              refine lv_iload_n hx hb dX0_placeSlips_54 rfl (lv_at hl 2 rfl) ?_
              obtain ⟨S7, e6, h⟩ := h_bd_ok h
              refine h_callV cx hw (c_X0_placeOver l dC dI cI cZ q S x2 S7 e6) (cwV 1 hts (hgA (hcV wdL_X0_111 wdI_X0_placeOver wdS_X0_placeOver wdN_RX0 wdC_X0_placeOver)) rfl rfl rfl pdX0_placeOver ⟨Nat.le_of_ble_eq_true rfl, Nat.le_of_ble_eq_true rfl⟩) 2 (wC_p2 q cI S) rfl rfl rfl hl.1 rfl (Nat.le_of_ble_eq_true rfl) dX0_placeSlips_55 ⟨Nat.zero_le _, Nat.zero_le _⟩ (fun H locs hw => ?_)
              exact kk58 _ _ _ h _ _ _ hw (lv_sub hl [0, 1, 2] rfl)
      refine lv_iload_n hx hb dX0_placeSlips_2 rfl (lv_at hl 2 rfl) ?_
      refine lv_iconst (v := 4) hx hb dX0_placeSlips_3 (by decide) ?_
      refine lv_icmp_ge (tgt := 25) hx hb dX0_placeSlips_4 (by decide) (fun c1 => ?_) (fun c1 => ?_)
      · have h := h_ifp c1 h
        refine lv_iconst (v := 0) hx hb dX0_placeSlips_25 (by decide) ?_
        refine lv_istore_n (lv' := [(2, .int 0), (0, .ref (q 2)), (1, .int x1)]) hx hb dX0_placeSlips_26 rfl hl (by decide) rfl (fun ls hl => ?_)
        exact kk27 h_fu _ _ _ h _ _ _ hw (lv_sub hl [1, 2, 0] rfl)
      · have h := h_ifn c1 h
        refine lv_aload_n hx hb dX0_placeSlips_7 rfl (lv_at hl 0 rfl) ?_
        refine h_get (v := .ref (q 15)) cx hw 2 (wC_p2 q cI S) rfl hinX0 8 (by decide) lk31 rfl dX0_placeSlips_8 ?_
        refine lv_iload_n hx hb dX0_placeSlips_11 rfl (lv_at hl 2 rfl) ?_
        refine lv_aload_n hx hb dX0_placeSlips_12 rfl (lv_at hl 0 rfl) ?_
        refine lv_iload_n hx hb dX0_placeSlips_13 rfl (lv_at hl 1 rfl) ?_
        refine lv_iload_n hx hb dX0_placeSlips_14 rfl (lv_at hl 2 rfl) ?_
        obtain ⟨r2, e3, h⟩ := h_bd_ok h
        refine h_callI cx hw (c_X0_countToHand l dC dI cI cZ q S x1 x2 r2 e3) (cwV 2 hts (hgA (hcV wdL_X0_108 wdI_X0_countToHand wdS_X0_countToHand wdN_RX0 wdC_X0_countToHand)) rfl rfl rfl pdX0_countToHand ⟨Nat.le_of_ble_eq_true rfl, Nat.le_of_ble_eq_true rfl⟩) 2 (wC_p2 q cI S) rfl rfl rfl hl.1 rfl (Nat.le_of_ble_eq_true rfl) dX0_placeSlips_15 ⟨Nat.zero_le _, Nat.zero_le _⟩ (fun H locs hw => ?_)
        obtain ⟨S4, e5, h⟩ := h_bd_ok h
        refine h_ast cx hw 15 (wC_p15 q cI S) (wC_s15 q cI S) e5 dX0_placeSlips_18 (fun H locs hw => ?_)
        refine lv_iinc (v := x2 + 1) (lv' := [(2, .int (x2 + 1)), (0, .ref (q 2)), (1, .int x1)]) hx hb dX0_placeSlips_19 hl (k := 2) rfl rfl (by decide) rfl (fun ls hl => ?_)
        refine lv_goto (tgt := 2) hx hb dX0_placeSlips_22 (by decide) ?_
        exact ih2 _ _ _ h _ _ _ hw (lv_sub hl [1, 2, 0] rfl)
  refine lv_iconst (v := 0) hx hb dX0_placeSlips_0 (by decide) ?_
  refine lv_istore_n (lv' := [(2, .int 0), (0, .ref (q 2)), (1, .int a1)]) hx hb dX0_placeSlips_1 rfl hl (by decide) rfl (fun ls hl => ?_)
  exact kk2 h_fu _ _ _ h _ _ _ hw (lv_sub hl [1, 2, 0] rfl)
set_option maxHeartbeats 4000000 in
set_option maxRecDepth 100000 in
theorem c_X0_labelAhead (l : Launch) (dC : Nat → ClassId) (dI : Nat → Nat → Nat) (cI cZ : ClassId) (q : Nat → Nat) (S : HSt) (a1 a2 a3 a4 : Int32) (r : Int32) (h : f_X0_labelAhead S a1 a2 a3 a4 = some r) : MI l yX0_labelAhead hsX0_labelAhead rmX0_labelAhead (dC, dI) cI cZ (wC q cI) S [.ref (q 2), .int a1, .int a2, .int a3, .int a4] r S := by
  refine MI.ofW (cc := cX0_labelAhead) (maxL := 9) (ret := (some .int)) (by decide +kernel) rfl (Nat.le_of_ble_eq_true rfl) ?_
  intro p e s m below meth c A cx hr hlk hw ls hl
  have hx := cx.1.1
  have hb := cx.1.2.1
  have hml := cx.1.2.2.1
  have hts := cx.1.2.2.2.2
  have hta : ∀ z ∈ hALL, z.before _ s = true := fun z h => hts z (List.mem_cons_of_mem _ h)
  have lk120 : (Cond.fieldLink RX0 120 (TX1 4).1 (TX1 4).2.1 (TX1 4).2.2.1).before _ s = true := hta _ wdF_X0_120
  have lk18 : (Cond.fieldLink RX0 18 (TX0 4).1 (TX0 4).2.1 (TX0 4).2.2.1).before _ s = true := hta _ wdF_X0_18
  have lk28 : (Cond.fieldLink RX0 28 (TX0 7).1 (TX0 7).2.1 (TX0 7).2.2.1).before _ s = true := hta _ wdF_X0_28
  have lk43 : (Cond.fieldLink RX0 43 (TX0 0).1 (TX0 0).2.1 (TX0 0).2.2.1).before _ s = true := hta _ wdF_X0_43
  have lk60 : (Cond.fieldLink RX0 60 (TX1 1).1 (TX1 1).2.1 (TX1 1).2.2.1).before _ s = true := hta _ wdF_X0_60
  have hiniX3 := hta _ wdN_RX3
  have hstX3_labelOf := hta _ wdT_X3_labelOf
  have hstX3_slot := hta _ wdT_X3_slot
  have hl : lv_has ls 9 [(0, .ref (q 2)), (1, .int a1), (2, .int a2), (3, .int a3), (4, .int a4)] := hl
  unfold f_X0_labelAhead at h
  have kk9 : ∀ (n9 : Nat) (x1 x2 x4 x5 x6 x7 : Int32), f_X0_labelAhead_9 S n9 x1 x2 x4 x5 x6 x7 = some r → ∀ (H : Heap) (locs : List Loc) (ls : Array Slot), HW (dC, dI) (wC q cI) S A s H locs → lv_has ls 9 [(0, .ref (q 2)), (1, .int x1), (2, .int x2), (4, .int x4), (5, .int x5), (6, .int x6), (7, .int x7)] → W p l e rmX0_labelAhead s m ([.ref (q 2), .int a1, .int a2, .int a3, .int a4] : List Value).toArray below meth c H locs 0 0 (MQ below (QI (dC, dI) (wC q cI) r S A) ([.ref (q 2), .int a1, .int a2, .int a3, .int a4] : List Value).toArray s 0 0 A) (F0 m 9 ls []) := by
    intro n9
    induction n9 with
    | zero =>
      intro x1 x2 x4 x5 x6 x7 h
      have h9 : (none : Option Int32) = some r := h
      cases h9
    | succ n9 ih9 =>
      intro x1 x2 x4 x5 x6 x7 h H locs ls hw hl
      have h : f_X0_labelAhead_9_s S (f_X0_labelAhead_9 S n9) x1 x2 x4 x5 x6 x7 = some r := h
      unfold f_X0_labelAhead_9_s at h
      have kk88 : ∀ (x1 x2 x4 x5 x6 x7 : Int32), f_X0_labelAhead_88 S (f_X0_labelAhead_9 S n9) x1 x2 x4 x5 x6 x7 = some r → ∀ (H : Heap) (locs : List Loc) (ls : Array Slot), HW (dC, dI) (wC q cI) S A s H locs → lv_has ls 9 [(0, .ref (q 2)), (1, .int x1), (2, .int x2), (4, .int x4), (5, .int x5), (6, .int x6), (7, .int x7)] → W p l e rmX0_labelAhead s m ([.ref (q 2), .int a1, .int a2, .int a3, .int a4] : List Value).toArray below meth c H locs 0 0 (MQ below (QI (dC, dI) (wC q cI) r S A) ([.ref (q 2), .int a1, .int a2, .int a3, .int a4] : List Value).toArray s 0 0 A) (F0 m 88 ls []) := by
        intro x1 x2 x4 x5 x6 x7 h H locs ls hw hl
        unfold f_X0_labelAhead_88 at h
        refine lv_iinc (v := x7 + 1) (lv' := [(7, .int (x7 + 1)), (0, .ref (q 2)), (1, .int x1), (2, .int x2), (4, .int x4), (5, .int x5), (6, .int x6)]) hx hb dX0_labelAhead_88 hl (k := 6) rfl rfl (by decide) rfl (fun ls hl => ?_)
        refine lv_goto (tgt := 9) hx hb dX0_labelAhead_91 (by decide) ?_
        exact ih9 _ _ _ _ _ _ h _ _ _ hw (lv_sub hl [1, 2, 3, 4, 5, 6, 0] rfl)
      have kk54 : ∀ (x1 x2 x4 x6 x7 t0 : Int32), f_X0_labelAhead_54 S (f_X0_labelAhead_9 S n9) x1 x2 x4 x6 x7 t0 = some r → ∀ (H : Heap) (locs : List Loc) (ls : Array Slot), HW (dC, dI) (wC q cI) S A s H locs → lv_has ls 9 [(0, .ref (q 2)), (1, .int x1), (2, .int x2), (4, .int x4), (6, .int x6), (7, .int x7)] → W p l e rmX0_labelAhead s m ([.ref (q 2), .int a1, .int a2, .int a3, .int a4] : List Value).toArray below meth c H locs 0 0 (MQ below (QI (dC, dI) (wC q cI) r S A) ([.ref (q 2), .int a1, .int a2, .int a3, .int a4] : List Value).toArray s 0 0 A) (F0 m 54 ls [.int t0]) := by
        intro x1 x2 x4 x6 x7 t0 h H locs ls hw hl
        unfold f_X0_labelAhead_54 at h
        have kk86 : ∀ (x1 x2 x4 x5 x7 t0 : Int32), f_X0_labelAhead_86 S (f_X0_labelAhead_9 S n9) x1 x2 x4 x5 x7 t0 = some r → ∀ (H : Heap) (locs : List Loc) (ls : Array Slot), HW (dC, dI) (wC q cI) S A s H locs → lv_has ls 9 [(0, .ref (q 2)), (1, .int x1), (2, .int x2), (4, .int x4), (5, .int x5), (7, .int x7)] → W p l e rmX0_labelAhead s m ([.ref (q 2), .int a1, .int a2, .int a3, .int a4] : List Value).toArray below meth c H locs 0 0 (MQ below (QI (dC, dI) (wC q cI) r S A) ([.ref (q 2), .int a1, .int a2, .int a3, .int a4] : List Value).toArray s 0 0 A) (F0 m 86 ls [.int t0]) := by
          intro x1 x2 x4 x5 x7 t0 h H locs ls hw hl
          unfold f_X0_labelAhead_86 at h
          refine lv_istore (lv' := [(6, .int t0), (0, .ref (q 2)), (1, .int x1), (2, .int x2), (4, .int x4), (5, .int x5), (7, .int x7)]) hx hb dX0_labelAhead_86 hl (by decide) rfl (fun ls hl => ?_)
          exact kk88 _ _ _ _ _ _ h _ _ _ hw (lv_sub hl [1, 2, 3, 4, 5, 0, 6] rfl)
        refine lv_istore (lv' := [(5, .int t0), (0, .ref (q 2)), (1, .int x1), (2, .int x2), (4, .int x4), (6, .int x6), (7, .int x7)]) hx hb dX0_labelAhead_54 hl (by decide) rfl (fun ls hl => ?_)
        refine lv_aload_n hx hb dX0_labelAhead_56 rfl (lv_at hl 1 rfl) ?_
        refine h_get (v := .ref (q 11)) cx hw 2 (wC_p2 q cI S) rfl hinX0 4 (by decide) lk18 rfl dX0_labelAhead_57 ?_
        refine lv_iload hx hb dX0_labelAhead_60 (lv_at hl 6 rfl) ?_
        refine lv_iload_n hx hb dX0_labelAhead_62 rfl (lv_at hl 3 rfl) ?_
        obtain ⟨r1, e2, h⟩ := h_bd_ok h
        refine h_callN cx.1 (c_X3_slot l x7 x2 r1 e2) ⟨va_cnB 2 hts (hgA (hcW wdC_X3_slot)) rfl rfl rfl cx.2.2.1.2.1 hiniX3 pdX3_slot.2 ⟨Nat.le_of_ble_eq_true rfl, Nat.le_of_ble_eq_true rfl⟩, hstX3_slot, trivial⟩ rfl hl.1 rfl (Nat.le_of_ble_eq_true rfl) dX0_labelAhead_63 ⟨Nat.zero_le _, Nat.zero_le _⟩ ?_
        obtain ⟨v3, e4, h⟩ := h_bd_ok h
        refine h_ald cx hw 11 (wC_p11 q cI S) e4 dX0_labelAhead_66 ?_
        obtain ⟨r5, e6, h⟩ := h_bd_ok h
        refine h_callN cx.1 (c_X3_labelOf l v3 r5 e6) ⟨va_cnB 1 hts (hgA (hcW wdC_X3_labelOf)) rfl rfl rfl cx.2.2.1.2.2.2.2.2.1 hiniX3 pdX3_labelOf.2 ⟨Nat.le_of_ble_eq_true rfl, Nat.le_of_ble_eq_true rfl⟩, hstX3_labelOf, trivial⟩ rfl hl.1 rfl (Nat.le_of_ble_eq_true rfl) dX0_labelAhead_67 ⟨Nat.zero_le _, Nat.zero_le _⟩ ?_
        refine lv_istore (lv' := [(8, .int r5), (5, .int t0), (0, .ref (q 2)), (1, .int x1), (2, .int x2), (4, .int x4), (6, .int x6), (7, .int x7)]) hx hb dX0_labelAhead_70 hl (by decide) rfl (fun ls hl => ?_)
        refine lv_iload hx hb dX0_labelAhead_72 (lv_at hl 0 rfl) ?_
        refine lv_bipush (v := 16) hx hb dX0_labelAhead_74 (by decide) ?_
        refine lv_icmp_lt (tgt := 84) hx hb dX0_labelAhead_76 (by decide) (fun c7 => ?_) (fun c7 => ?_)
        · have h := h_ifp c7 h
          refine lv_iload hx hb dX0_labelAhead_84 (lv_at hl 6 rfl) ?_
          exact kk86 _ _ _ _ _ _ h _ _ _ hw (lv_sub hl [2, 3, 4, 5, 1, 7] rfl)
        · have h := h_ifn c7 h
          refine lv_iload hx hb dX0_labelAhead_79 (lv_at hl 0 rfl) ?_
          refine lv_goto (tgt := 86) hx hb dX0_labelAhead_81 (by decide) ?_
          exact kk86 _ _ _ _ _ _ h _ _ _ hw (lv_sub hl [2, 3, 4, 5, 1, 7] rfl)
      have kk49 : ∀ (x1 x2 x4 x6 x7 : Int32), f_X0_labelAhead_49 S (f_X0_labelAhead_9 S n9) x1 x2 x4 x6 x7 = some r → ∀ (H : Heap) (locs : List Loc) (ls : Array Slot), HW (dC, dI) (wC q cI) S A s H locs → lv_has ls 9 [(0, .ref (q 2)), (1, .int x1), (2, .int x2), (4, .int x4), (6, .int x6), (7, .int x7)] → W p l e rmX0_labelAhead s m ([.ref (q 2), .int a1, .int a2, .int a3, .int a4] : List Value).toArray below meth c H locs 0 0 (MQ below (QI (dC, dI) (wC q cI) r S A) ([.ref (q 2), .int a1, .int a2, .int a3, .int a4] : List Value).toArray s 0 0 A) (F0 m 49 ls []) := by
        intro x1 x2 x4 x6 x7 h H locs ls hw hl
        unfold f_X0_labelAhead_49 at h
        refine lv_iconst (v := 1) hx hb dX0_labelAhead_49 (by decide) ?_
        refine lv_goto (tgt := 54) hx hb dX0_labelAhead_50 (by decide) ?_
        exact kk54 _ _ _ _ _ _ h _ _ _ hw (lv_sub hl [0, 1, 2, 3, 4, 5] rfl)
      refine lv_iload hx hb dX0_labelAhead_9 (lv_at hl 6 rfl) ?_
      refine lv_iload hx hb dX0_labelAhead_11 (lv_at hl 3 rfl) ?_
      refine lv_icmp_ge (tgt := 94) hx hb dX0_labelAhead_13 (by decide) (fun c1 => ?_) (fun c1 => ?_)
      · have h := h_ifp c1 h
        refine lv_iload hx hb dX0_labelAhead_94 (lv_at hl 4 rfl) ?_
        refine lv_if_ne (tgt := 101) hx hb dX0_labelAhead_96 (by decide) (fun c2 => ?_) (fun c2 => ?_)
        · have h := h_ifn c2 h
          refine lv_aload_n hx hb dX0_labelAhead_101 rfl (lv_at hl 0 rfl) ?_
          refine h_get (v := .ref (q 1)) cx hw 2 (wC_p2 q cI S) rfl hinX0 0 (by decide) lk43 rfl dX0_labelAhead_102 ?_
          refine h_get (v := .ref (q 8)) cx hw 1 (wC_p1 q cI S) rfl hinX1 4 (by decide) lk120 rfl dX0_labelAhead_105 ?_
          refine lv_iload_n hx hb dX0_labelAhead_108 rfl (lv_at hl 2 rfl) ?_
          obtain ⟨v3, e4, h⟩ := h_bd_ok h
          refine h_ald cx hw 8 (wC_p8 q cI S) e4 dX0_labelAhead_109 ?_
          refine lv_iload_n hx hb dX0_labelAhead_110 rfl (lv_at hl 1 rfl) ?_
          refine lv_icmp_ne (tgt := 127) hx hb dX0_labelAhead_111 (by decide) (fun c5 => ?_) (fun c5 => ?_)
          · have h := h_ifn c5 h
            refine lv_iload hx hb dX0_labelAhead_127 (lv_at hl 5 rfl) ?_
            exact h_iret cx hw hr hlk rfl (Option.some.inj h) rfl dX0_labelAhead_129
          · have h := h_ifp c5 h
            refine lv_aload_n hx hb dX0_labelAhead_114 rfl (lv_at hl 0 rfl) ?_
            refine lv_iload_n hx hb dX0_labelAhead_115 rfl (lv_at hl 1 rfl) ?_
            refine lv_iconst (v := 3) hx hb dX0_labelAhead_116 (by decide) ?_
            obtain ⟨r6, e7, h⟩ := h_bd_ok h
            refine h_callI cx hw (c_X0_has l dC dI cI cZ q S x1 3 r6 e7) (cwV 2 hts (hgA (hcV wdL_X0_69 wdI_X0_has wdS_X0_has wdN_RX0 wdC_X0_has)) rfl rfl rfl pdX0_has ⟨Nat.le_of_ble_eq_true rfl, Nat.le_of_ble_eq_true rfl⟩) 2 (wC_p2 q cI S) rfl rfl rfl hl.1 rfl (Nat.le_of_ble_eq_true rfl) dX0_labelAhead_117 ⟨Nat.zero_le _, Nat.zero_le _⟩ (fun H locs hw => ?_)
            refine lv_if_eq (tgt := 127) hx hb dX0_labelAhead_120 (by decide) (fun c8 => ?_) (fun c8 => ?_)
            · have h := h_ifp c8 h
              refine lv_iload hx hb dX0_labelAhead_127 (lv_at hl 5 rfl) ?_
              exact h_iret cx hw hr hlk rfl (Option.some.inj h) rfl dX0_labelAhead_129
            · have h := h_ifn c8 h
              refine lv_iconst (v := 3) hx hb dX0_labelAhead_123 (by decide) ?_
              refine lv_goto (tgt := 129) hx hb dX0_labelAhead_124 (by decide) ?_
              exact h_iret cx hw hr hlk rfl (Option.some.inj h) rfl dX0_labelAhead_129
        · have h := h_ifp c2 h
          refine lv_iconst (v := (-1)) hx hb dX0_labelAhead_99 (by decide) ?_
          exact h_iret cx hw hr hlk rfl (Option.some.inj h) rfl dX0_labelAhead_100
      · have h := h_ifn c1 h
        refine lv_aload_n hx hb dX0_labelAhead_16 rfl (lv_at hl 0 rfl) ?_
        refine h_get (v := .ref (q 1)) cx hw 2 (wC_p2 q cI S) rfl hinX0 0 (by decide) lk43 rfl dX0_labelAhead_17 ?_
        refine h_get (v := .ref (q 5)) cx hw 1 (wC_p1 q cI S) rfl hinX1 1 (by decide) lk60 rfl dX0_labelAhead_20 ?_
        refine lv_iload hx hb dX0_labelAhead_23 (lv_at hl 6 rfl) ?_
        obtain ⟨v9, e10, h⟩ := h_bd_ok h
        refine h_ald cx hw 5 (wC_p5 q cI S) e10 dX0_labelAhead_25 ?_
        refine lv_iload_n hx hb dX0_labelAhead_26 rfl (lv_at hl 1 rfl) ?_
        refine lv_icmp_ne (tgt := 88) hx hb dX0_labelAhead_27 (by decide) (fun c11 => ?_) (fun c11 => ?_)
        · have h := h_ifn c11 h
          exact kk88 _ _ _ _ _ _ h _ _ _ hw (lv_sub hl [0, 1, 2, 3, 4, 5, 6] rfl)
        · have h := h_ifp c11 h
          refine lv_iload hx hb dX0_labelAhead_30 (lv_at hl 4 rfl) ?_
          refine lv_if_ne (tgt := 49) hx hb dX0_labelAhead_32 (by decide) (fun c12 => ?_) (fun c12 => ?_)
          · have h := h_ifn c12 h
            exact kk49 _ _ _ _ _ h _ _ _ hw (lv_sub hl [0, 1, 2, 3, 5, 6] rfl)
          · have h := h_ifp c12 h
            refine lv_aload_n hx hb dX0_labelAhead_35 rfl (lv_at hl 0 rfl) ?_
            refine h_get (v := .ref (q 14)) cx hw 2 (wC_p2 q cI S) rfl hinX0 7 (by decide) lk28 rfl dX0_labelAhead_36 ?_
            refine lv_iload hx hb dX0_labelAhead_39 (lv_at hl 6 rfl) ?_
            refine lv_iload_n hx hb dX0_labelAhead_41 rfl (lv_at hl 2 rfl) ?_
            obtain ⟨r13, e14, h⟩ := h_bd_ok h
            refine h_callN cx.1 (c_X3_slot l x7 x2 r13 e14) ⟨va_cnB 2 hts (hgA (hcW wdC_X3_slot)) rfl rfl rfl cx.2.2.1.2.1 hiniX3 pdX3_slot.2 ⟨Nat.le_of_ble_eq_true rfl, Nat.le_of_ble_eq_true rfl⟩, hstX3_slot, trivial⟩ rfl hl.1 rfl (Nat.le_of_ble_eq_true rfl) dX0_labelAhead_42 ⟨Nat.zero_le _, Nat.zero_le _⟩ ?_
            obtain ⟨v15, e16, h⟩ := h_bd_ok h
            refine h_ald cx hw 14 (wC_p14 q cI S) e16 dX0_labelAhead_45 ?_
            refine lv_if_eq (tgt := 53) hx hb dX0_labelAhead_46 (by decide) (fun c17 => ?_) (fun c17 => ?_)
            · have h := h_ifp c17 h
              refine lv_iconst (v := 0) hx hb dX0_labelAhead_53 (by decide) ?_
              exact kk54 _ _ _ _ _ _ h _ _ _ hw (lv_sub hl [0, 1, 2, 3, 5, 6] rfl)
            · have h := h_ifn c17 h
              exact kk49 _ _ _ _ _ h _ _ _ hw (lv_sub hl [0, 1, 2, 3, 5, 6] rfl)
  refine lv_iconst (v := 0) hx hb dX0_labelAhead_0 (by decide) ?_
  refine lv_istore (lv' := [(5, .int 0), (0, .ref (q 2)), (1, .int a1), (2, .int a2), (3, .int a3), (4, .int a4)]) hx hb dX0_labelAhead_1 hl (by decide) rfl (fun ls hl => ?_)
  refine lv_iconst (v := 0) hx hb dX0_labelAhead_3 (by decide) ?_
  refine lv_istore (lv' := [(6, .int 0), (5, .int 0), (0, .ref (q 2)), (1, .int a1), (2, .int a2), (3, .int a3), (4, .int a4)]) hx hb dX0_labelAhead_4 hl (by decide) rfl (fun ls hl => ?_)
  refine lv_iload_n hx hb dX0_labelAhead_6 rfl (lv_at hl 5 rfl) ?_
  refine lv_istore (lv' := [(7, .int a3), (6, .int 0), (5, .int 0), (0, .ref (q 2)), (1, .int a1), (2, .int a2), (3, .int a3), (4, .int a4)]) hx hb dX0_labelAhead_7 hl (by decide) rfl (fun ls hl => ?_)
  exact kk9 h_fu _ _ _ _ _ _ h _ _ _ hw (lv_sub hl [3, 4, 5, 7, 2, 1, 0] rfl)
set_option maxHeartbeats 4000000 in
set_option maxRecDepth 100000 in
theorem c_X0_bitOf (l : Launch) (a0 : Int32) (r : Int32) (h : f_X0_bitOf a0 = some r) : MS l yX0_bitOf hsX0_bitOf rmX0_bitOf [.int a0] r := by
  refine MS.ofW (cc := cX0_bitOf) (maxL := 1) (ret := (some .int)) (by decide +kernel) rfl (Nat.le_of_ble_eq_true rfl) ?_
  intro p e s m below meth c cf hr hlk ls hl
  have hx := cf.1
  have hb := cf.2.1
  have hml := cf.2.2.1
  have hts := cf.2.2.2.2
  have hta : ∀ z ∈ hALL, z.before _ s = true := fun z h => hts z (List.mem_cons_of_mem _ h)
  have hl : lv_has ls 1 [(0, .int a0)] := hl
  unfold f_X0_bitOf at h
  refine lv_iload_n hx hb dX0_bitOf_0 rfl (lv_at hl 0 rfl) ?_
  refine lv_bipush (v := 16) hx hb dX0_bitOf_1 (by decide) ?_
  refine lv_icmp_lt (tgt := 15) hx hb dX0_bitOf_3 (by decide) (fun c1 => ?_) (fun c1 => ?_)
  · have h := h_ifp c1 h
    refine lv_iconst (v := 0) hx hb dX0_bitOf_15 (by decide) ?_
    exact h_sret cf hr hlk rfl (Option.some.inj h) dX0_bitOf_16
  · have h := h_ifn c1 h
    refine lv_iconst (v := 1) hx hb dX0_bitOf_6 (by decide) ?_
    refine lv_iload_n hx hb dX0_bitOf_7 rfl (lv_at hl 0 rfl) ?_
    refine lv_bipush (v := 16) hx hb dX0_bitOf_8 (by decide) ?_
    refine lv_isub hx hb dX0_bitOf_10 ?_
    refine lv_ishl hx hb dX0_bitOf_11 ?_
    refine lv_goto (tgt := 16) hx hb dX0_bitOf_12 (by decide) ?_
    exact h_sret cf hr hlk rfl (Option.some.inj h) dX0_bitOf_16
set_option maxHeartbeats 4000000 in
set_option maxRecDepth 100000 in
theorem c_X0_leastFree (l : Launch) (a0 : Int32) (r : Int32) (h : f_X0_leastFree a0 = some r) : MS l yX0_leastFree hsX0_leastFree rmX0_leastFree [.int a0] r := by
  refine MS.ofW (cc := cX0_leastFree) (maxL := 2) (ret := (some .int)) (by decide +kernel) rfl (Nat.le_of_ble_eq_true rfl) ?_
  intro p e s m below meth c cf hr hlk ls hl
  have hx := cf.1
  have hb := cf.2.1
  have hml := cf.2.2.1
  have hts := cf.2.2.2.2
  have hta : ∀ z ∈ hALL, z.before _ s = true := fun z h => hts z (List.mem_cons_of_mem _ h)
  have hl : lv_has ls 2 [(0, .int a0)] := hl
  unfold f_X0_leastFree at h
  have kk3 : ∀ (n3 : Nat) (x0 x1 : Int32), f_X0_leastFree_3 n3 x0 x1 = some r → ∀ (ls : Array Slot), lv_has ls 2 [(0, .int x0), (1, .int x1)] → W p l e rmX0_leastFree s m ([.int a0] : List Value).toArray below meth c s.heap [] 0 0 (MQ below (vp_Si (fun r' => r' = r)) ([.int a0] : List Value).toArray s 0 0 (fun _ => False)) (F0 m 3 ls []) := by
    intro n3
    induction n3 with
    | zero =>
      intro x0 x1 h
      have h9 : (none : Option Int32) = some r := h
      cases h9
    | succ n3 ih3 =>
      intro x0 x1 h ls hl
      have h : f_X0_leastFree_3_s (f_X0_leastFree_3 n3) x0 x1 = some r := h
      unfold f_X0_leastFree_3_s at h
      refine lv_iload_n hx hb dX0_leastFree_3 rfl (lv_at hl 1 rfl) ?_
      refine lv_bipush (v := 20) hx hb dX0_leastFree_4 (by decide) ?_
      refine lv_icmp_ge (tgt := 26) hx hb dX0_leastFree_6 (by decide) (fun c1 => ?_) (fun c1 => ?_)
      · have h := h_ifp c1 h
        refine lv_bipush (v := 20) hx hb dX0_leastFree_26 (by decide) ?_
        exact h_sret cf hr hlk rfl (Option.some.inj h) dX0_leastFree_28
      · have h := h_ifn c1 h
        refine lv_iload_n hx hb dX0_leastFree_9 rfl (lv_at hl 0 rfl) ?_
        refine lv_iload_n hx hb dX0_leastFree_10 rfl (lv_at hl 1 rfl) ?_
        obtain ⟨r2, e3, h⟩ := h_bd_ok h
        refine h_callS cf (c_X0_bitOf l x1 r2 e3) (va_cwS 1 hts (hgA (hcS wdL_X0_141 wdT_X0_bitOf wdN_RX0 wdC_X0_bitOf)) rfl rfl rfl pdX0_bitOf.2 ⟨Nat.le_of_ble_eq_true rfl, Nat.le_of_ble_eq_true rfl⟩) rfl hl.1 rfl (Nat.le_of_ble_eq_true rfl) dX0_leastFree_11 ⟨Nat.zero_le _, Nat.zero_le _⟩ ?_
        refine lv_iand hx hb dX0_leastFree_14 ?_
        refine lv_if_ne (tgt := 20) hx hb dX0_leastFree_15 (by decide) (fun c4 => ?_) (fun c4 => ?_)
        · have h := h_ifn c4 h
          refine lv_iinc (v := x1 + 1) (lv' := [(1, .int (x1 + 1)), (0, .int x0)]) hx hb dX0_leastFree_20 hl (k := 1) rfl rfl (by decide) rfl (fun ls hl => ?_)
          refine lv_goto (tgt := 3) hx hb dX0_leastFree_23 (by decide) ?_
          exact ih3 _ _ h _ (lv_sub hl [1, 0] rfl)
        · have h := h_ifp c4 h
          refine lv_iload_n hx hb dX0_leastFree_18 rfl (lv_at hl 1 rfl) ?_
          exact h_sret cf hr hlk rfl (Option.some.inj h) dX0_leastFree_19
  refine lv_bipush (v := 16) hx hb dX0_leastFree_0 (by decide) ?_
  refine lv_istore_n (lv' := [(1, .int 16), (0, .int a0)]) hx hb dX0_leastFree_2 rfl hl (by decide) rfl (fun ls hl => ?_)
  exact kk3 h_fu _ _ h _ (lv_sub hl [1, 0] rfl)
