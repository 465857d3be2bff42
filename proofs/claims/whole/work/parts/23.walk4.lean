set_option maxHeartbeats 4000000 in
set_option maxRecDepth 100000 in
theorem c_X3_isCost (l : Launch) (a0 : Int32) (r : Int32) (h : f_X3_isCost a0 = some r) : MS l yX3_isCost hsX3_isCost rmX3_isCost [.int a0] r := by
  refine MS.ofW (cc := cX3_isCost) (maxL := 1) (ret := (some .boolean)) (by decide +kernel) rfl (Nat.le_of_ble_eq_true rfl) ?_
  intro p e s m below meth c cf hr hlk ls hl
  have hx := cf.1
  have hb := cf.2.1
  have hml := cf.2.2.1
  have hts := cf.2.2.2.2
  have hta : ∀ z ∈ hALL, z.before _ s = true := fun z h => hts z (List.mem_cons_of_mem _ h)
  have hl : lv_has ls 1 [(0, .int a0)] := hl
  unfold f_X3_isCost at h
  refine lv_iload_n hx hb dX3_isCost_0 rfl (lv_at hl 0 rfl) ?_
  refine lv_iconst (v := 1) hx hb dX3_isCost_1 (by decide) ?_
  refine lv_icmp_lt (tgt := 15) hx hb dX3_isCost_2 (by decide) (fun c1 => ?_) (fun c1 => ?_)
  · have h := h_ifp c1 h
    refine lv_iconst (v := 0) hx hb dX3_isCost_15 (by decide) ?_
    exact h_sret cf hr hlk rfl (Option.some.inj h) dX3_isCost_16
  · have h := h_ifn c1 h
    refine lv_iload_n hx hb dX3_isCost_5 rfl (lv_at hl 0 rfl) ?_
    refine lv_bipush (v := 9) hx hb dX3_isCost_6 (by decide) ?_
    refine lv_icmp_gt (tgt := 15) hx hb dX3_isCost_8 (by decide) (fun c2 => ?_) (fun c2 => ?_)
    · have h := h_ifp c2 h
      refine lv_iconst (v := 0) hx hb dX3_isCost_15 (by decide) ?_
      exact h_sret cf hr hlk rfl (Option.some.inj h) dX3_isCost_16
    · have h := h_ifn c2 h
      refine lv_iconst (v := 1) hx hb dX3_isCost_11 (by decide) ?_
      refine lv_goto (tgt := 16) hx hb dX3_isCost_12 (by decide) ?_
      exact h_sret cf hr hlk rfl (Option.some.inj h) dX3_isCost_16
set_option maxHeartbeats 4000000 in
set_option maxRecDepth 100000 in
theorem c_X3_link (l : Launch) (dC : Nat → ClassId) (dI : Nat → Nat → Nat) (cI cZ : ClassId) (q : Nat → Nat) (S : HSt) (a1 a2 a3 : Int32) (r : Int32) (S9 : HSt) (h : f_X3_link S a1 a2 a3 = some (r, S9)) : MI l yX3_link hsX3_link rmX3_link (dC, dI) cI cZ (wC q cI) S [.ref (q 0), .int a1, .int a2, .int a3] r S9 := by
  refine MI.ofW (cc := cX3_link) (maxL := 4) (ret := (some .int)) (by decide +kernel) rfl (Nat.le_of_ble_eq_true rfl) ?_
  intro p e s m below meth c A cx hr hlk hw ls hl
  have hx := cx.1.1
  have hb := cx.1.2.1
  have hml := cx.1.2.2.1
  have hts := cx.1.2.2.2.2
  have hta : ∀ z ∈ hALL, z.before _ s = true := fun z h => hts z (List.mem_cons_of_mem _ h)
  have lk12 : (Cond.fieldLink RX3 12 (TX3 0).1 (TX3 0).2.1 (TX3 0).2.2.1).before _ s = true := hta _ wdF_X3_12
  have lk48 : (Cond.fieldLink RX3 48 (TX1 0).1 (TX1 0).2.1 (TX1 0).2.2.1).before _ s = true := hta _ wdF_X3_48
  have hl : lv_has ls 4 [(0, .ref (q 0)), (1, .int a1), (2, .int a2), (3, .int a3)] := hl
  unfold f_X3_link at h
  refine lv_iload_n hx hb dX3_link_0 rfl (lv_at hl 1 rfl) ?_
  obtain ⟨r1, e2, h⟩ := h_bd_ok h
  refine h_callS cx.1 (c_X3_isBox l a1 r1 e2) (va_cwS 1 hts (hgA (hcS wdL_X3_37 wdT_X3_isBox wdN_RX3 wdC_X3_isBox)) rfl rfl rfl pdX3_isBox.2 ⟨Nat.le_of_ble_eq_true rfl, Nat.le_of_ble_eq_true rfl⟩) rfl hl.1 rfl (Nat.le_of_ble_eq_true rfl) dX3_link_1 ⟨Nat.zero_le _, Nat.zero_le _⟩ ?_
  refine lv_if_eq (tgt := 14) hx hb dX3_link_4 (by decide) (fun c3 => ?_) (fun c3 => ?_)
  · have h := h_ifp c3 h
    refine lv_iconst (v := (-1)) hx hb dX3_link_14 (by decide) ?_
    exact h_iret cx hw hr hlk rfl (congrArg Prod.fst (Option.some.inj h)) (congrArg Prod.snd (Option.some.inj h)) dX3_link_15
  · have h := h_ifn c3 h
    refine lv_iload_n hx hb dX3_link_7 rfl (lv_at hl 2 rfl) ?_
    obtain ⟨r4, e5, h⟩ := h_bd_ok h
    refine h_callS cx.1 (c_X3_isBox l a2 r4 e5) (va_cwS 1 hts (hgA (hcS wdL_X3_37 wdT_X3_isBox wdN_RX3 wdC_X3_isBox)) rfl rfl rfl pdX3_isBox.2 ⟨Nat.le_of_ble_eq_true rfl, Nat.le_of_ble_eq_true rfl⟩) rfl hl.1 rfl (Nat.le_of_ble_eq_true rfl) dX3_link_8 ⟨Nat.zero_le _, Nat.zero_le _⟩ ?_
    refine lv_if_ne (tgt := 16) hx hb dX3_link_11 (by decide) (fun c6 => ?_) (fun c6 => ?_)
    · have h := h_ifn c6 h
      refine lv_iload_n hx hb dX3_link_16 rfl (lv_at hl 3 rfl) ?_
      obtain ⟨r7, e8, h⟩ := h_bd_ok h
      refine h_callS cx.1 (c_X3_isCost l a3 r7 e8) (va_cwS 1 hts (hgA (hcS wdL_X3_41 wdT_X3_isCost wdN_RX3 wdC_X3_isCost)) rfl rfl rfl pdX3_isCost.2 ⟨Nat.le_of_ble_eq_true rfl, Nat.le_of_ble_eq_true rfl⟩) rfl hl.1 rfl (Nat.le_of_ble_eq_true rfl) dX3_link_17 ⟨Nat.zero_le _, Nat.zero_le _⟩ ?_
      refine lv_if_ne (tgt := 26) hx hb dX3_link_20 (by decide) (fun c9 => ?_) (fun c9 => ?_)
      · have h := h_ifn c9 h
        refine lv_iload_n hx hb dX3_link_26 rfl (lv_at hl 1 rfl) ?_
        refine lv_iload_n hx hb dX3_link_27 rfl (lv_at hl 2 rfl) ?_
        refine lv_icmp_eq (tgt := 43) hx hb dX3_link_28 (by decide) (fun c10 => ?_) (fun c10 => ?_)
        · have h := h_ifp c10 h
          refine lv_bipush (v := (-3)) hx hb dX3_link_43 (by decide) ?_
          exact h_iret cx hw hr hlk rfl (congrArg Prod.fst (Option.some.inj h)) (congrArg Prod.snd (Option.some.inj h)) dX3_link_45
        · have h := h_ifn c10 h
          refine lv_aload_n hx hb dX3_link_31 rfl (lv_at hl 0 rfl) ?_
          refine h_get (v := .ref (q 1)) cx hw 0 (wC_p0 q cI S) rfl hinX3 0 (by decide) lk12 rfl dX3_link_32 ?_
          refine lv_iload_n hx hb dX3_link_35 rfl (lv_at hl 1 rfl) ?_
          refine lv_iload_n hx hb dX3_link_36 rfl (lv_at hl 2 rfl) ?_
          obtain ⟨r11, e12, h⟩ := h_bd_ok h
          refine h_callI cx hw (c_X1_joined l dC dI cI cZ q S a1 a2 r11 e12) (cwV 2 hts (hgA (hcV wdL_X3_44 wdI_X1_joined wdS_X1_joined wdN_RX1 wdC_X1_joined)) rfl rfl rfl pdX1_joined ⟨Nat.le_of_ble_eq_true rfl, Nat.le_of_ble_eq_true rfl⟩) 1 (wC_p1 q cI S) rfl rfl rfl hl.1 rfl (Nat.le_of_ble_eq_true rfl) dX3_link_37 ⟨Nat.zero_le _, Nat.zero_le _⟩ (fun H locs hw => ?_)
          refine lv_if_eq (tgt := 46) hx hb dX3_link_40 (by decide) (fun c13 => ?_) (fun c13 => ?_)
          · have h := h_ifp c13 h
            refine lv_aload_n hx hb dX3_link_46 rfl (lv_at hl 0 rfl) ?_
            refine h_get (v := .ref (q 1)) cx hw 0 (wC_p0 q cI S) rfl hinX3 0 (by decide) lk12 rfl dX3_link_47 ?_
            refine h_get (v := .int (S.1 0)) cx hw 1 (wC_p1 q cI S) rfl hinX1 0 (by decide) lk48 rfl dX3_link_50 ?_
            refine lv_bipush (v := 12) hx hb dX3_link_53 (by decide) ?_
            refine lv_icmp_lt (tgt := 61) hx hb dX3_link_55 (by decide) (fun c14 => ?_) (fun c14 => ?_)
            · have h := h_ifp c14 h
              refine lv_aload_n hx hb dX3_link_61 rfl (lv_at hl 0 rfl) ?_
              refine h_get (v := .ref (q 1)) cx hw 0 (wC_p0 q cI S) rfl hinX3 0 (by decide) lk12 rfl dX3_link_62 ?_
              refine lv_iload_n hx hb dX3_link_65 rfl (lv_at hl 1 rfl) ?_
              refine lv_iload_n hx hb dX3_link_66 rfl (lv_at hl 2 rfl) ?_
              refine va_mmin hx hb (hml.trans hl.1.symm) cx.1.2.2.2.1 (hta _ wdL_X3_52) (hta _ wdT_Lib_Math_min_name) (hta _ wdN_java_lang_Math) (hta _ wdC_Lib_Math_min_name) (Nat.le_of_ble_eq_true rfl) (Nat.le_of_ble_eq_true rfl) (Nat.zero_le _) (Nat.zero_le _) dX3_link_67 ?_
              refine lv_iload_n hx hb dX3_link_70 rfl (lv_at hl 1 rfl) ?_
              refine lv_iload_n hx hb dX3_link_71 rfl (lv_at hl 2 rfl) ?_
              refine va_mmax hx hb (hml.trans hl.1.symm) cx.1.2.2.2.1 (hta _ wdL_X3_58) (hta _ wdT_Lib_Math_max_name) (hta _ wdN_java_lang_Math) (hta _ wdC_Lib_Math_max_name) (Nat.le_of_ble_eq_true rfl) (Nat.le_of_ble_eq_true rfl) (Nat.zero_le _) (Nat.zero_le _) dX3_link_72 ?_
              refine lv_iload_n hx hb dX3_link_75 rfl (lv_at hl 3 rfl) ?_
              obtain ⟨r15, S17, e16, h⟩ := h_bi_ok h
              refine h_callI cx hw (c_X1_addLink l dC dI cI cZ q S (if a2 < a1 then a2 else a1) (if a1 < a2 then a2 else a1) a3 r15 S17 e16) (cwV 3 hts (hgA (hcV wdL_X3_61 wdI_X1_addLink wdS_X1_addLink wdN_RX1 wdC_X1_addLink)) rfl rfl rfl pdX1_addLink ⟨Nat.le_of_ble_eq_true rfl, Nat.le_of_ble_eq_true rfl⟩) 1 (wC_p1 q cI S) rfl rfl rfl hl.1 rfl (Nat.le_of_ble_eq_true rfl) dX3_link_76 ⟨Nat.zero_le _, Nat.zero_le _⟩ (fun H locs hw => ?_)
              exact h_iret cx hw hr hlk rfl (congrArg Prod.fst (Option.some.inj h)) (congrArg Prod.snd (Option.some.inj h)) dX3_link_79
            · have h := h_ifn c14 h
              refine lv_bipush (v := (-4)) hx hb dX3_link_58 (by decide) ?_
              exact h_iret cx hw hr hlk rfl (congrArg Prod.fst (Option.some.inj h)) (congrArg Prod.snd (Option.some.inj h)) dX3_link_60
          · have h := h_ifn c13 h
            refine lv_bipush (v := (-3)) hx hb dX3_link_43 (by decide) ?_
            exact h_iret cx hw hr hlk rfl (congrArg Prod.fst (Option.some.inj h)) (congrArg Prod.snd (Option.some.inj h)) dX3_link_45
      · have h := h_ifp c9 h
        refine lv_bipush (v := (-2)) hx hb dX3_link_23 (by decide) ?_
        exact h_iret cx hw hr hlk rfl (congrArg Prod.fst (Option.some.inj h)) (congrArg Prod.snd (Option.some.inj h)) dX3_link_25
    · have h := h_ifp c6 h
      refine lv_iconst (v := (-1)) hx hb dX3_link_14 (by decide) ?_
      exact h_iret cx hw hr hlk rfl (congrArg Prod.fst (Option.some.inj h)) (congrArg Prod.snd (Option.some.inj h)) dX3_link_15
set_option maxHeartbeats 4000000 in
set_option maxRecDepth 100000 in
theorem c_X3_cost (l : Launch) (dC : Nat → ClassId) (dI : Nat → Nat → Nat) (cI cZ : ClassId) (q : Nat → Nat) (S : HSt) (a1 a2 : Int32) (r : Int32) (S9 : HSt) (h : f_X3_cost S a1 a2 = some (r, S9)) : MI l yX3_cost hsX3_cost rmX3_cost (dC, dI) cI cZ (wC q cI) S [.ref (q 0), .int a1, .int a2] r S9 := by
  refine MI.ofW (cc := cX3_cost) (maxL := 4) (ret := (some .int)) (by decide +kernel) rfl (Nat.le_of_ble_eq_true rfl) ?_
  intro p e s m below meth c A cx hr hlk hw ls hl
  have hx := cx.1.1
  have hb := cx.1.2.1
  have hml := cx.1.2.2.1
  have hts := cx.1.2.2.2.2
  have hta : ∀ z ∈ hALL, z.before _ s = true := fun z h => hts z (List.mem_cons_of_mem _ h)
  have lk12 : (Cond.fieldLink RX3 12 (TX3 0).1 (TX3 0).2.1 (TX3 0).2.2.1).before _ s = true := hta _ wdF_X3_12
  have lk68 : (Cond.fieldLink RX3 68 (TX1 2).1 (TX1 2).2.1 (TX1 2).2.2.1).before _ s = true := hta _ wdF_X3_68
  have hl : lv_has ls 4 [(0, .ref (q 0)), (1, .int a1), (2, .int a2)] := hl
  unfold f_X3_cost at h
  refine lv_aload_n hx hb dX3_cost_0 rfl (lv_at hl 0 rfl) ?_
  refine h_get (v := .ref (q 1)) cx hw 0 (wC_p0 q cI S) rfl hinX3 0 (by decide) lk12 rfl dX3_cost_1 ?_
  refine lv_iload_n hx hb dX3_cost_4 rfl (lv_at hl 1 rfl) ?_
  obtain ⟨r1, e2, h⟩ := h_bd_ok h
  refine h_callI cx hw (c_X1_isLink l dC dI cI cZ q S a1 r1 e2) (cwV 1 hts (hgA (hcV wdL_X3_65 wdI_X1_isLink wdS_X1_isLink wdN_RX1 wdC_X1_isLink)) rfl rfl rfl pdX1_isLink ⟨Nat.le_of_ble_eq_true rfl, Nat.le_of_ble_eq_true rfl⟩) 1 (wC_p1 q cI S) rfl rfl rfl hl.1 rfl (Nat.le_of_ble_eq_true rfl) dX3_cost_5 ⟨Nat.zero_le _, Nat.zero_le _⟩ (fun H locs hw => ?_)
  refine lv_if_ne (tgt := 13) hx hb dX3_cost_8 (by decide) (fun c3 => ?_) (fun c3 => ?_)
  · have h := h_ifn c3 h
    refine lv_iload_n hx hb dX3_cost_13 rfl (lv_at hl 2 rfl) ?_
    obtain ⟨r4, e5, h⟩ := h_bd_ok h
    refine h_callS cx.1 (c_X3_isCost l a2 r4 e5) (va_cwS 1 hts (hgA (hcS wdL_X3_41 wdT_X3_isCost wdN_RX3 wdC_X3_isCost)) rfl rfl rfl pdX3_isCost.2 ⟨Nat.le_of_ble_eq_true rfl, Nat.le_of_ble_eq_true rfl⟩) rfl hl.1 rfl (Nat.le_of_ble_eq_true rfl) dX3_cost_14 ⟨Nat.zero_le _, Nat.zero_le _⟩ ?_
    refine lv_if_ne (tgt := 23) hx hb dX3_cost_17 (by decide) (fun c6 => ?_) (fun c6 => ?_)
    · have h := h_ifn c6 h
      refine lv_aload_n hx hb dX3_cost_23 rfl (lv_at hl 0 rfl) ?_
      refine h_get (v := .ref (q 1)) cx hw 0 (wC_p0 q cI S) rfl hinX3 0 (by decide) lk12 rfl dX3_cost_24 ?_
      refine h_get (v := .ref (q 6)) cx hw 1 (wC_p1 q cI S) rfl hinX1 2 (by decide) lk68 rfl dX3_cost_27 ?_
      refine lv_iload_n hx hb dX3_cost_30 rfl (lv_at hl 1 rfl) ?_
      obtain ⟨v7, e8, h⟩ := h_bd_ok h
      refine h_ald cx hw 6 (wC_p6 q cI S) e8 dX3_cost_31 ?_
      refine lv_istore_n (lv' := [(3, .int v7), (0, .ref (q 0)), (1, .int a1), (2, .int a2)]) hx hb dX3_cost_32 rfl hl (by decide) rfl (fun ls hl => ?_)
      refine lv_aload_n hx hb dX3_cost_33 rfl (lv_at hl 1 rfl) ?_
      refine h_get (v := .ref (q 1)) cx hw 0 (wC_p0 q cI S) rfl hinX3 0 (by decide) lk12 rfl dX3_cost_34 ?_
      refine lv_iload_n hx hb dX3_cost_37 rfl (lv_at hl 2 rfl) ?_
      refine lv_iload_n hx hb dX3_cost_38 rfl (lv_at hl 3 rfl) ?_
      obtain ⟨S11, e10, h⟩ := h_bd_ok h
      refine h_callV cx hw (c_X1_setCost l dC dI cI cZ q S a1 a2 S11 e10) (cwV 2 hts (hgA (hcV wdL_X3_72 wdI_X1_setCost wdS_X1_setCost wdN_RX1 wdC_X1_setCost)) rfl rfl rfl pdX1_setCost ⟨Nat.le_of_ble_eq_true rfl, Nat.le_of_ble_eq_true rfl⟩) 1 (wC_p1 q cI S) rfl rfl rfl hl.1 rfl (Nat.le_of_ble_eq_true rfl) dX3_cost_39 ⟨Nat.zero_le _, Nat.zero_le _⟩ (fun H locs hw => ?_)
      refine lv_iload_n hx hb dX3_cost_42 rfl (lv_at hl 0 rfl) ?_
      exact h_iret cx hw hr hlk rfl (congrArg Prod.fst (Option.some.inj h)) (congrArg Prod.snd (Option.some.inj h)) dX3_cost_43
    · have h := h_ifp c6 h
      refine lv_bipush (v := (-2)) hx hb dX3_cost_20 (by decide) ?_
      exact h_iret cx hw hr hlk rfl (congrArg Prod.fst (Option.some.inj h)) (congrArg Prod.snd (Option.some.inj h)) dX3_cost_22
  · have h := h_ifp c3 h
    refine lv_iconst (v := (-1)) hx hb dX3_cost_11 (by decide) ?_
    exact h_iret cx hw hr hlk rfl (congrArg Prod.fst (Option.some.inj h)) (congrArg Prod.snd (Option.some.inj h)) dX3_cost_12
set_option maxHeartbeats 4000000 in
set_option maxRecDepth 100000 in
theorem c_X3_isYesNo (l : Launch) (a0 : Int32) (r : Int32) (h : f_X3_isYesNo a0 = some r) : MS l yX3_isYesNo hsX3_isYesNo rmX3_isYesNo [.int a0] r := by
  refine MS.ofW (cc := cX3_isYesNo) (maxL := 1) (ret := (some .boolean)) (by decide +kernel) rfl (Nat.le_of_ble_eq_true rfl) ?_
  intro p e s m below meth c cf hr hlk ls hl
  have hx := cf.1
  have hb := cf.2.1
  have hml := cf.2.2.1
  have hts := cf.2.2.2.2
  have hta : ∀ z ∈ hALL, z.before _ s = true := fun z h => hts z (List.mem_cons_of_mem _ h)
  have hl : lv_has ls 1 [(0, .int a0)] := hl
  unfold f_X3_isYesNo at h
  have kk9 : f_X3_isYesNo_9 = some r → ∀ (ls : Array Slot), lv_has ls 1 [] → W p l e rmX3_isYesNo s m ([.int a0] : List Value).toArray below meth c s.heap [] 0 0 (MQ below (vp_Si (fun r' => r' = r)) ([.int a0] : List Value).toArray s 0 0 (fun _ => False)) (F0 m 9 ls []) := by
    intro  h ls hl
    unfold f_X3_isYesNo_9 at h
    refine lv_iconst (v := 1) hx hb dX3_isYesNo_9 (by decide) ?_
    refine lv_goto (tgt := 14) hx hb dX3_isYesNo_10 (by decide) ?_
    exact h_sret cf hr hlk rfl (Option.some.inj h) dX3_isYesNo_14
  refine lv_iload_n hx hb dX3_isYesNo_0 rfl (lv_at hl 0 rfl) ?_
  refine lv_if_eq (tgt := 9) hx hb dX3_isYesNo_1 (by decide) (fun c1 => ?_) (fun c1 => ?_)
  · have h := h_ifp c1 h
    exact kk9  h _ (lv_sub hl [] rfl)
  · have h := h_ifn c1 h
    refine lv_iload_n hx hb dX3_isYesNo_4 rfl (lv_at hl 0 rfl) ?_
    refine lv_iconst (v := 1) hx hb dX3_isYesNo_5 (by decide) ?_
    refine lv_icmp_ne (tgt := 13) hx hb dX3_isYesNo_6 (by decide) (fun c2 => ?_) (fun c2 => ?_)
    · have h := h_ifn c2 h
      refine lv_iconst (v := 0) hx hb dX3_isYesNo_13 (by decide) ?_
      exact h_sret cf hr hlk rfl (Option.some.inj h) dX3_isYesNo_14
    · have h := h_ifp c2 h
      exact kk9  h _ (lv_sub hl [] rfl)
set_option maxHeartbeats 4000000 in
set_option maxRecDepth 100000 in
theorem c_X3_up (l : Launch) (dC : Nat → ClassId) (dI : Nat → Nat → Nat) (cI cZ : ClassId) (q : Nat → Nat) (S : HSt) (a1 a2 : Int32) (r : Int32) (S9 : HSt) (h : f_X3_up S a1 a2 = some (r, S9)) : MI l yX3_up hsX3_up rmX3_up (dC, dI) cI cZ (wC q cI) S [.ref (q 0), .int a1, .int a2] r S9 := by
  refine MI.ofW (cc := cX3_up) (maxL := 4) (ret := (some .int)) (by decide +kernel) rfl (Nat.le_of_ble_eq_true rfl) ?_
  intro p e s m below meth c A cx hr hlk hw ls hl
  have hx := cx.1.1
  have hb := cx.1.2.1
  have hml := cx.1.2.2.1
  have hts := cx.1.2.2.2.2
  have hta : ∀ z ∈ hALL, z.before _ s = true := fun z h => hts z (List.mem_cons_of_mem _ h)
  have lk12 : (Cond.fieldLink RX3 12 (TX3 0).1 (TX3 0).2.1 (TX3 0).2.2.1).before _ s = true := hta _ wdF_X3_12
  have lk21 : (Cond.fieldLink RX3 21 (TX3 1).1 (TX3 1).2.1 (TX3 1).2.2.1).before _ s = true := hta _ wdF_X3_21
  have lk79 : (Cond.fieldLink RX3 79 (TX1 3).1 (TX1 3).2.1 (TX1 3).2.2.1).before _ s = true := hta _ wdF_X3_79
  have hl : lv_has ls 4 [(0, .ref (q 0)), (1, .int a1), (2, .int a2)] := hl
  unfold f_X3_up at h
  refine lv_aload_n hx hb dX3_up_0 rfl (lv_at hl 0 rfl) ?_
  refine h_get (v := .ref (q 1)) cx hw 0 (wC_p0 q cI S) rfl hinX3 0 (by decide) lk12 rfl dX3_up_1 ?_
  refine lv_iload_n hx hb dX3_up_4 rfl (lv_at hl 1 rfl) ?_
  obtain ⟨r1, e2, h⟩ := h_bd_ok h
  refine h_callI cx hw (c_X1_isLink l dC dI cI cZ q S a1 r1 e2) (cwV 1 hts (hgA (hcV wdL_X3_65 wdI_X1_isLink wdS_X1_isLink wdN_RX1 wdC_X1_isLink)) rfl rfl rfl pdX1_isLink ⟨Nat.le_of_ble_eq_true rfl, Nat.le_of_ble_eq_true rfl⟩) 1 (wC_p1 q cI S) rfl rfl rfl hl.1 rfl (Nat.le_of_ble_eq_true rfl) dX3_up_5 ⟨Nat.zero_le _, Nat.zero_le _⟩ (fun H locs hw => ?_)
  refine lv_if_ne (tgt := 13) hx hb dX3_up_8 (by decide) (fun c3 => ?_) (fun c3 => ?_)
  · have h := h_ifn c3 h
    refine lv_iload_n hx hb dX3_up_13 rfl (lv_at hl 2 rfl) ?_
    obtain ⟨r4, e5, h⟩ := h_bd_ok h
    refine h_callS cx.1 (c_X3_isYesNo l a2 r4 e5) (va_cwS 1 hts (hgA (hcS wdL_X3_76 wdT_X3_isYesNo wdN_RX3 wdC_X3_isYesNo)) rfl rfl rfl pdX3_isYesNo.2 ⟨Nat.le_of_ble_eq_true rfl, Nat.le_of_ble_eq_true rfl⟩) rfl hl.1 rfl (Nat.le_of_ble_eq_true rfl) dX3_up_14 ⟨Nat.zero_le _, Nat.zero_le _⟩ ?_
    refine lv_if_ne (tgt := 23) hx hb dX3_up_17 (by decide) (fun c6 => ?_) (fun c6 => ?_)
    · have h := h_ifn c6 h
      refine lv_aload_n hx hb dX3_up_23 rfl (lv_at hl 0 rfl) ?_
      refine h_get (v := .ref (q 1)) cx hw 0 (wC_p0 q cI S) rfl hinX3 0 (by decide) lk12 rfl dX3_up_24 ?_
      refine h_get (v := .ref (q 7)) cx hw 1 (wC_p1 q cI S) rfl hinX1 3 (by decide) lk79 rfl dX3_up_27 ?_
      refine lv_iload_n hx hb dX3_up_30 rfl (lv_at hl 1 rfl) ?_
      obtain ⟨v7, e8, h⟩ := h_bd_ok h
      refine h_ald cx hw 7 (wC_p7 q cI S) e8 dX3_up_31 ?_
      refine lv_istore_n (lv' := [(3, .int v7), (0, .ref (q 0)), (1, .int a1), (2, .int a2)]) hx hb dX3_up_32 rfl hl (by decide) rfl (fun ls hl => ?_)
      refine lv_aload_n hx hb dX3_up_33 rfl (lv_at hl 1 rfl) ?_
      refine h_get (v := .ref (q 1)) cx hw 0 (wC_p0 q cI S) rfl hinX3 0 (by decide) lk12 rfl dX3_up_34 ?_
      refine lv_iload_n hx hb dX3_up_37 rfl (lv_at hl 2 rfl) ?_
      refine lv_iload_n hx hb dX3_up_38 rfl (lv_at hl 3 rfl) ?_
      obtain ⟨S11, e10, h⟩ := h_bd_ok h
      refine h_callV cx hw (c_X1_setUp l dC dI cI cZ q S a1 a2 S11 e10) (cwV 2 hts (hgA (hcV wdL_X3_82 wdI_X1_setUp wdS_X1_setUp wdN_RX1 wdC_X1_setUp)) rfl rfl rfl pdX1_setUp ⟨Nat.le_of_ble_eq_true rfl, Nat.le_of_ble_eq_true rfl⟩) 1 (wC_p1 q cI S) rfl rfl rfl hl.1 rfl (Nat.le_of_ble_eq_true rfl) dX3_up_39 ⟨Nat.zero_le _, Nat.zero_le _⟩ (fun H locs hw => ?_)
      refine lv_iload_n hx hb dX3_up_42 rfl (lv_at hl 3 rfl) ?_
      refine lv_if_ne (tgt := 54) hx hb dX3_up_43 (by decide) (fun c12 => ?_) (fun c12 => ?_)
      · have h := h_ifn c12 h
        refine lv_iload_n hx hb dX3_up_54 rfl (lv_at hl 0 rfl) ?_
        exact h_iret cx hw hr hlk rfl (congrArg Prod.fst (Option.some.inj h)) (congrArg Prod.snd (Option.some.inj h)) dX3_up_55
      · have h := h_ifp c12 h
        refine lv_aload_n hx hb dX3_up_46 rfl (lv_at hl 1 rfl) ?_
        refine h_get (v := .ref (q 2)) cx hw 0 (wC_p0 q cI S11) rfl hinX3 1 (by decide) lk21 rfl dX3_up_47 ?_
        refine lv_iload_n hx hb dX3_up_50 rfl (lv_at hl 2 rfl) ?_
        obtain ⟨S15, e14, h⟩ := h_bd_ok h
        refine h_callV cx hw (c_X0_forgetLink l dC dI cI cZ q S11 a1 S15 e14) (cwV 1 hts (hgA (hcV wdL_X3_85 wdI_X0_forgetLink wdS_X0_forgetLink wdN_RX0 wdC_X0_forgetLink)) rfl rfl rfl pdX0_forgetLink ⟨Nat.le_of_ble_eq_true rfl, Nat.le_of_ble_eq_true rfl⟩) 2 (wC_p2 q cI S11) rfl rfl rfl hl.1 rfl (Nat.le_of_ble_eq_true rfl) dX3_up_51 ⟨Nat.zero_le _, Nat.zero_le _⟩ (fun H locs hw => ?_)
        refine lv_iload_n hx hb dX3_up_54 rfl (lv_at hl 0 rfl) ?_
        exact h_iret cx hw hr hlk rfl (congrArg Prod.fst (Option.some.inj h)) (congrArg Prod.snd (Option.some.inj h)) dX3_up_55
    · have h := h_ifp c6 h
      refine lv_bipush (v := (-2)) hx hb dX3_up_20 (by decide) ?_
      exact h_iret cx hw hr hlk rfl (congrArg Prod.fst (Option.some.inj h)) (congrArg Prod.snd (Option.some.inj h)) dX3_up_22
  · have h := h_ifp c3 h
    refine lv_iconst (v := (-1)) hx hb dX3_up_11 (by decide) ?_
    exact h_iret cx hw hr hlk rfl (congrArg Prod.fst (Option.some.inj h)) (congrArg Prod.snd (Option.some.inj h)) dX3_up_12
set_option maxHeartbeats 4000000 in
set_option maxRecDepth 100000 in
theorem c_X3_isClass (l : Launch) (a0 : Int32) (r : Int32) (h : f_X3_isClass a0 = some r) : MS l yX3_isClass hsX3_isClass rmX3_isClass [.int a0] r := by
  refine MS.ofW (cc := cX3_isClass) (maxL := 1) (ret := (some .boolean)) (by decide +kernel) rfl (Nat.le_of_ble_eq_true rfl) ?_
  intro p e s m below meth c cf hr hlk ls hl
  have hx := cf.1
  have hb := cf.2.1
  have hml := cf.2.2.1
  have hts := cf.2.2.2.2
  have hta : ∀ z ∈ hALL, z.before _ s = true := fun z h => hts z (List.mem_cons_of_mem _ h)
  have hl : lv_has ls 1 [(0, .int a0)] := hl
  unfold f_X3_isClass at h
  refine lv_iload_n hx hb dX3_isClass_0 rfl (lv_at hl 0 rfl) ?_
  refine lv_if_lt (tgt := 13) hx hb dX3_isClass_1 (by decide) (fun c1 => ?_) (fun c1 => ?_)
  · have h := h_ifp c1 h
    refine lv_iconst (v := 0) hx hb dX3_isClass_13 (by decide) ?_
    exact h_sret cf hr hlk rfl (Option.some.inj h) dX3_isClass_14
  · have h := h_ifn c1 h
    refine lv_iload_n hx hb dX3_isClass_4 rfl (lv_at hl 0 rfl) ?_
    refine lv_iconst (v := 4) hx hb dX3_isClass_5 (by decide) ?_
    refine lv_icmp_ge (tgt := 13) hx hb dX3_isClass_6 (by decide) (fun c2 => ?_) (fun c2 => ?_)
    · have h := h_ifp c2 h
      refine lv_iconst (v := 0) hx hb dX3_isClass_13 (by decide) ?_
      exact h_sret cf hr hlk rfl (Option.some.inj h) dX3_isClass_14
    · have h := h_ifn c2 h
      refine lv_iconst (v := 1) hx hb dX3_isClass_9 (by decide) ?_
      refine lv_goto (tgt := 14) hx hb dX3_isClass_10 (by decide) ?_
      exact h_sret cf hr hlk rfl (Option.some.inj h) dX3_isClass_14
set_option maxHeartbeats 4000000 in
set_option maxRecDepth 100000 in
theorem c_X3_end (l : Launch) (dC : Nat → ClassId) (dI : Nat → Nat → Nat) (cI cZ : ClassId) (q : Nat → Nat) (S : HSt) (a1 a2 : Int32) (r : Int32) (S9 : HSt) (h : f_X3_end S a1 a2 = some (r, S9)) : MI l yX3_end hsX3_end rmX3_end (dC, dI) cI cZ (wC q cI) S [.ref (q 0), .int a1, .int a2] r S9 := by
  refine MI.ofW (cc := cX3_end) (maxL := 4) (ret := (some .int)) (by decide +kernel) rfl (Nat.le_of_ble_eq_true rfl) ?_
  intro p e s m below meth c A cx hr hlk hw ls hl
  have hx := cx.1.1
  have hb := cx.1.2.1
  have hml := cx.1.2.2.1
  have hts := cx.1.2.2.2.2
  have hta : ∀ z ∈ hALL, z.before _ s = true := fun z h => hts z (List.mem_cons_of_mem _ h)
  have lk12 : (Cond.fieldLink RX3 12 (TX3 0).1 (TX3 0).2.1 (TX3 0).2.2.1).before _ s = true := hta _ wdF_X3_12
  have lk92 : (Cond.fieldLink RX3 92 (TX1 4).1 (TX1 4).2.1 (TX1 4).2.2.1).before _ s = true := hta _ wdF_X3_92
  have hl : lv_has ls 4 [(0, .ref (q 0)), (1, .int a1), (2, .int a2)] := hl
  unfold f_X3_end at h
  have kk25 : ∀ (S : HSt) (x1 x2 : Int32), f_X3_end_25 S x1 x2 = some (r, S9) → ∀ (H : Heap) (locs : List Loc) (ls : Array Slot), HW (dC, dI) (wC q cI) S A s H locs → lv_has ls 4 [(0, .ref (q 0)), (1, .int x1), (2, .int x2)] → W p l e rmX3_end s m ([.ref (q 0), .int a1, .int a2] : List Value).toArray below meth c H locs 0 0 (MQ below (QI (dC, dI) (wC q cI) r S9 A) ([.ref (q 0), .int a1, .int a2] : List Value).toArray s 0 0 A) (F0 m 25 ls []) := by
    intro S x1 x2 h H locs ls hw hl
    unfold f_X3_end_25 at h
    refine lv_aload_n hx hb dX3_end_25 rfl (lv_at hl 0 rfl) ?_
    refine h_get (v := .ref (q 1)) cx hw 0 (wC_p0 q cI S) rfl hinX3 0 (by decide) lk12 rfl dX3_end_26 ?_
    refine h_get (v := .ref (q 8)) cx hw 1 (wC_p1 q cI S) rfl hinX1 4 (by decide) lk92 rfl dX3_end_29 ?_
    refine lv_iload_n hx hb dX3_end_32 rfl (lv_at hl 1 rfl) ?_
    obtain ⟨v1, e2, h⟩ := h_bd_ok h
    refine h_ald cx hw 8 (wC_p8 q cI S) e2 dX3_end_33 ?_
    refine lv_istore_n (lv' := [(3, .int v1), (0, .ref (q 0)), (1, .int x1), (2, .int x2)]) hx hb dX3_end_34 rfl hl (by decide) rfl (fun ls hl => ?_)
    refine lv_aload_n hx hb dX3_end_35 rfl (lv_at hl 1 rfl) ?_
    refine h_get (v := .ref (q 1)) cx hw 0 (wC_p0 q cI S) rfl hinX3 0 (by decide) lk12 rfl dX3_end_36 ?_
    refine lv_iload_n hx hb dX3_end_39 rfl (lv_at hl 2 rfl) ?_
    refine lv_iload_n hx hb dX3_end_40 rfl (lv_at hl 3 rfl) ?_
    obtain ⟨S5, e4, h⟩ := h_bd_ok h
    refine h_callV cx hw (c_X1_setEnd l dC dI cI cZ q S x1 x2 S5 e4) (cwV 2 hts (hgA (hcV wdL_X3_95 wdI_X1_setEnd wdS_X1_setEnd wdN_RX1 wdC_X1_setEnd)) rfl rfl rfl pdX1_setEnd ⟨Nat.le_of_ble_eq_true rfl, Nat.le_of_ble_eq_true rfl⟩) 1 (wC_p1 q cI S) rfl rfl rfl hl.1 rfl (Nat.le_of_ble_eq_true rfl) dX3_end_41 ⟨Nat.zero_le _, Nat.zero_le _⟩ (fun H locs hw => ?_)
    refine lv_iload_n hx hb dX3_end_44 rfl (lv_at hl 0 rfl) ?_
    exact h_iret cx hw hr hlk rfl (congrArg Prod.fst (Option.some.inj h)) (congrArg Prod.snd (Option.some.inj h)) dX3_end_45
  refine lv_iload_n hx hb dX3_end_0 rfl (lv_at hl 1 rfl) ?_
  obtain ⟨r1, e2, h⟩ := h_bd_ok h
  refine h_callS cx.1 (c_X3_isClass l a1 r1 e2) (va_cwS 1 hts (hgA (hcS wdL_X3_89 wdT_X3_isClass wdN_RX3 wdC_X3_isClass)) rfl rfl rfl pdX3_isClass.2 ⟨Nat.le_of_ble_eq_true rfl, Nat.le_of_ble_eq_true rfl⟩) rfl hl.1 rfl (Nat.le_of_ble_eq_true rfl) dX3_end_1 ⟨Nat.zero_le _, Nat.zero_le _⟩ ?_
  refine lv_if_ne (tgt := 9) hx hb dX3_end_4 (by decide) (fun c3 => ?_) (fun c3 => ?_)
  · have h := h_ifn c3 h
    refine lv_iload_n hx hb dX3_end_9 rfl (lv_at hl 2 rfl) ?_
    obtain ⟨r4, e5, h⟩ := h_bd_ok h
    refine h_callS cx.1 (c_X3_isBox l a2 r4 e5) (va_cwS 1 hts (hgA (hcS wdL_X3_37 wdT_X3_isBox wdN_RX3 wdC_X3_isBox)) rfl rfl rfl pdX3_isBox.2 ⟨Nat.le_of_ble_eq_true rfl, Nat.le_of_ble_eq_true rfl⟩) rfl hl.1 rfl (Nat.le_of_ble_eq_true rfl) dX3_end_10 ⟨Nat.zero_le _, Nat.zero_le _⟩ ?_
    refine lv_if_ne (tgt := 25) hx hb dX3_end_13 (by decide) (fun c6 => ?_) (fun c6 => ?_)
    · have h := h_ifn c6 h
      exact kk25 _ _ _ h _ _ _ hw (lv_sub hl [0, 1, 2] rfl)
    · have h := h_ifp c6 h
      refine lv_iload_n hx hb dX3_end_16 rfl (lv_at hl 2 rfl) ?_
      refine lv_bipush (v := (-9)) hx hb dX3_end_17 (by decide) ?_
      refine lv_icmp_eq (tgt := 25) hx hb dX3_end_19 (by decide) (fun c7 => ?_) (fun c7 => ?_)
      · have h := h_ifp c7 h
        exact kk25 _ _ _ h _ _ _ hw (lv_sub hl [0, 1, 2] rfl)
      · have h := h_ifn c7 h
        refine lv_bipush (v := (-2)) hx hb dX3_end_22 (by decide) ?_
        exact h_iret cx hw hr hlk rfl (congrArg Prod.fst (Option.some.inj h)) (congrArg Prod.snd (Option.some.inj h)) dX3_end_24
  · have h := h_ifp c3 h
    refine lv_iconst (v := (-1)) hx hb dX3_end_7 (by decide) ?_
    exact h_iret cx hw hr hlk rfl (congrArg Prod.fst (Option.some.inj h)) (congrArg Prod.snd (Option.some.inj h)) dX3_end_8
set_option maxHeartbeats 4000000 in
set_option maxRecDepth 100000 in
theorem c_X3_ofLink (l : Launch) (dC : Nat → ClassId) (dI : Nat → Nat → Nat) (cI cZ : ClassId) (q : Nat → Nat) (S : HSt) (a1 a2 : Int32) (r : Int32) (h : f_X3_ofLink S a1 a2 = some r) : MI l yX3_ofLink hsX3_ofLink rmX3_ofLink (dC, dI) cI cZ (wC q cI) S [.ref (q 0), .int a1, .int a2] r S := by
  refine MI.ofW (cc := cX3_ofLink) (maxL := 3) (ret := (some .int)) (by decide +kernel) rfl (Nat.le_of_ble_eq_true rfl) ?_
  intro p e s m below meth c A cx hr hlk hw ls hl
  have hx := cx.1.1
  have hb := cx.1.2.1
  have hml := cx.1.2.2.1
  have hts := cx.1.2.2.2.2
  have hta : ∀ z ∈ hALL, z.before _ s = true := fun z h => hts z (List.mem_cons_of_mem _ h)
  have lk12 : (Cond.fieldLink RX3 12 (TX3 0).1 (TX3 0).2.1 (TX3 0).2.2.1).before _ s = true := hta _ wdF_X3_12
  have lk68 : (Cond.fieldLink RX3 68 (TX1 2).1 (TX1 2).2.1 (TX1 2).2.2.1).before _ s = true := hta _ wdF_X3_68
  have lk79 : (Cond.fieldLink RX3 79 (TX1 3).1 (TX1 3).2.1 (TX1 3).2.2.1).before _ s = true := hta _ wdF_X3_79
  have lk98 : (Cond.fieldLink RX3 98 (TX1 1).1 (TX1 1).2.1 (TX1 1).2.2.1).before _ s = true := hta _ wdF_X3_98
  have hl : lv_has ls 3 [(0, .ref (q 0)), (1, .int a1), (2, .int a2)] := hl
  unfold f_X3_ofLink at h
  refine lv_aload_n hx hb dX3_ofLink_0 rfl (lv_at hl 0 rfl) ?_
  refine h_get (v := .ref (q 1)) cx hw 0 (wC_p0 q cI S) rfl hinX3 0 (by decide) lk12 rfl dX3_ofLink_1 ?_
  refine lv_iload_n hx hb dX3_ofLink_4 rfl (lv_at hl 1 rfl) ?_
  obtain ⟨r1, e2, h⟩ := h_bd_ok h
  refine h_callI cx hw (c_X1_isLink l dC dI cI cZ q S a1 r1 e2) (cwV 1 hts (hgA (hcV wdL_X3_65 wdI_X1_isLink wdS_X1_isLink wdN_RX1 wdC_X1_isLink)) rfl rfl rfl pdX1_isLink ⟨Nat.le_of_ble_eq_true rfl, Nat.le_of_ble_eq_true rfl⟩) 1 (wC_p1 q cI S) rfl rfl rfl hl.1 rfl (Nat.le_of_ble_eq_true rfl) dX3_ofLink_5 ⟨Nat.zero_le _, Nat.zero_le _⟩ (fun H locs hw => ?_)
  refine lv_if_ne (tgt := 13) hx hb dX3_ofLink_8 (by decide) (fun c3 => ?_) (fun c3 => ?_)
  · have h := h_ifn c3 h
    refine lv_iload_n hx hb dX3_ofLink_13 rfl (lv_at hl 2 rfl) ?_
    by_cases c4 : a2 = 0
    · have h := h_ifp c4 h
      refine lv_tableIn (off := 30) (tgt := 44) hx hb dX3_ofLink_14 (by rw [c4]; decide) (by rw [c4]; decide) (by rw [c4]; rfl) (by decide) ?_
      refine lv_aload_n hx hb dX3_ofLink_44 rfl (lv_at hl 0 rfl) ?_
      refine h_get (v := .ref (q 1)) cx hw 0 (wC_p0 q cI S) rfl hinX3 0 (by decide) lk12 rfl dX3_ofLink_45 ?_
      refine h_get (v := .ref (q 5)) cx hw 1 (wC_p1 q cI S) rfl hinX1 1 (by decide) lk98 rfl dX3_ofLink_48 ?_
      refine lv_iconst (v := 2) hx hb dX3_ofLink_51 (by decide) ?_
      refine lv_iload_n hx hb dX3_ofLink_52 rfl (lv_at hl 1 rfl) ?_
      refine lv_imul hx hb dX3_ofLink_53 ?_
      obtain ⟨v5, e6, h⟩ := h_bd_ok h
      refine h_ald cx hw 5 (wC_p5 q cI S) e6 dX3_ofLink_54 ?_
      exact h_iret cx hw hr hlk rfl (Option.some.inj h) rfl dX3_ofLink_55
    · have h := h_ifn c4 h
      by_cases c7 : a2 = 1
      · have h := h_ifp c7 h
        refine lv_tableIn (off := 42) (tgt := 56) hx hb dX3_ofLink_14 (by rw [c7]; decide) (by rw [c7]; decide) (by rw [c7]; rfl) (by decide) ?_
        refine lv_aload_n hx hb dX3_ofLink_56 rfl (lv_at hl 0 rfl) ?_
        refine h_get (v := .ref (q 1)) cx hw 0 (wC_p0 q cI S) rfl hinX3 0 (by decide) lk12 rfl dX3_ofLink_57 ?_
        refine h_get (v := .ref (q 5)) cx hw 1 (wC_p1 q cI S) rfl hinX1 1 (by decide) lk98 rfl dX3_ofLink_60 ?_
        refine lv_iconst (v := 2) hx hb dX3_ofLink_63 (by decide) ?_
        refine lv_iload_n hx hb dX3_ofLink_64 rfl (lv_at hl 1 rfl) ?_
        refine lv_imul hx hb dX3_ofLink_65 ?_
        refine lv_iconst (v := 1) hx hb dX3_ofLink_66 (by decide) ?_
        refine lv_iadd hx hb dX3_ofLink_67 ?_
        obtain ⟨v8, e9, h⟩ := h_bd_ok h
        refine h_ald cx hw 5 (wC_p5 q cI S) e9 dX3_ofLink_68 ?_
        exact h_iret cx hw hr hlk rfl (Option.some.inj h) rfl dX3_ofLink_69
      · have h := h_ifn c7 h
        by_cases c10 : a2 = 2
        · have h := h_ifp c10 h
          refine lv_tableIn (off := 56) (tgt := 70) hx hb dX3_ofLink_14 (by rw [c10]; decide) (by rw [c10]; decide) (by rw [c10]; rfl) (by decide) ?_
          refine lv_aload_n hx hb dX3_ofLink_70 rfl (lv_at hl 0 rfl) ?_
          refine h_get (v := .ref (q 1)) cx hw 0 (wC_p0 q cI S) rfl hinX3 0 (by decide) lk12 rfl dX3_ofLink_71 ?_
          refine h_get (v := .ref (q 6)) cx hw 1 (wC_p1 q cI S) rfl hinX1 2 (by decide) lk68 rfl dX3_ofLink_74 ?_
          refine lv_iload_n hx hb dX3_ofLink_77 rfl (lv_at hl 1 rfl) ?_
          obtain ⟨v11, e12, h⟩ := h_bd_ok h
          refine h_ald cx hw 6 (wC_p6 q cI S) e12 dX3_ofLink_78 ?_
          exact h_iret cx hw hr hlk rfl (Option.some.inj h) rfl dX3_ofLink_79
        · have h := h_ifn c10 h
          by_cases c13 : a2 = 3
          · have h := h_ifp c13 h
            refine lv_tableIn (off := 66) (tgt := 80) hx hb dX3_ofLink_14 (by rw [c13]; decide) (by rw [c13]; decide) (by rw [c13]; rfl) (by decide) ?_
            refine lv_aload_n hx hb dX3_ofLink_80 rfl (lv_at hl 0 rfl) ?_
            refine h_get (v := .ref (q 1)) cx hw 0 (wC_p0 q cI S) rfl hinX3 0 (by decide) lk12 rfl dX3_ofLink_81 ?_
            refine h_get (v := .ref (q 7)) cx hw 1 (wC_p1 q cI S) rfl hinX1 3 (by decide) lk79 rfl dX3_ofLink_84 ?_
            refine lv_iload_n hx hb dX3_ofLink_87 rfl (lv_at hl 1 rfl) ?_
            obtain ⟨v14, e15, h⟩ := h_bd_ok h
            refine h_ald cx hw 7 (wC_p7 q cI S) e15 dX3_ofLink_88 ?_
            exact h_iret cx hw hr hlk rfl (Option.some.inj h) rfl dX3_ofLink_89
          · have h := h_ifn c13 h
            refine lv_tableOut (tgt := 90) hx hb dX3_ofLink_14 (h_tout4 c4 c7 c10 c13) (by decide) ?_
            refine lv_bipush (v := (-2)) hx hb dX3_ofLink_90 (by decide) ?_
            exact h_iret cx hw hr hlk rfl (Option.some.inj h) rfl dX3_ofLink_92
  · have h := h_ifp c3 h
    refine lv_iconst (v := (-1)) hx hb dX3_ofLink_11 (by decide) ?_
    exact h_iret cx hw hr hlk rfl (Option.some.inj h) rfl dX3_ofLink_12
set_option maxHeartbeats 4000000 in
set_option maxRecDepth 100000 in
theorem c_X3_next (l : Launch) (dC : Nat → ClassId) (dI : Nat → Nat → Nat) (cI cZ : ClassId) (q : Nat → Nat) (S : HSt) (a1 a2 : Int32) (r : Int32) (h : f_X3_next S a1 a2 = some r) : MI l yX3_next hsX3_next rmX3_next (dC, dI) cI cZ (wC q cI) S [.ref (q 0), .int a1, .int a2] r S := by
  refine MI.ofW (cc := cX3_next) (maxL := 3) (ret := (some .int)) (by decide +kernel) rfl (Nat.le_of_ble_eq_true rfl) ?_
  intro p e s m below meth c A cx hr hlk hw ls hl
  have hx := cx.1.1
  have hb := cx.1.2.1
  have hml := cx.1.2.2.1
  have hts := cx.1.2.2.2.2
  have hta : ∀ z ∈ hALL, z.before _ s = true := fun z h => hts z (List.mem_cons_of_mem _ h)
  have lk12 : (Cond.fieldLink RX3 12 (TX3 0).1 (TX3 0).2.1 (TX3 0).2.2.1).before _ s = true := hta _ wdF_X3_12
  have hl : lv_has ls 3 [(0, .ref (q 0)), (1, .int a1), (2, .int a2)] := hl
  unfold f_X3_next at h
  refine lv_iload_n hx hb dX3_next_0 rfl (lv_at hl 1 rfl) ?_
  obtain ⟨r1, e2, h⟩ := h_bd_ok h
  refine h_callS cx.1 (c_X3_isBox l a1 r1 e2) (va_cwS 1 hts (hgA (hcS wdL_X3_37 wdT_X3_isBox wdN_RX3 wdC_X3_isBox)) rfl rfl rfl pdX3_isBox.2 ⟨Nat.le_of_ble_eq_true rfl, Nat.le_of_ble_eq_true rfl⟩) rfl hl.1 rfl (Nat.le_of_ble_eq_true rfl) dX3_next_1 ⟨Nat.zero_le _, Nat.zero_le _⟩ ?_
  refine lv_if_eq (tgt := 14) hx hb dX3_next_4 (by decide) (fun c3 => ?_) (fun c3 => ?_)
  · have h := h_ifp c3 h
    refine lv_iconst (v := (-1)) hx hb dX3_next_14 (by decide) ?_
    exact h_iret cx hw hr hlk rfl (Option.some.inj h) rfl dX3_next_15
  · have h := h_ifn c3 h
    refine lv_iload_n hx hb dX3_next_7 rfl (lv_at hl 2 rfl) ?_
    obtain ⟨r4, e5, h⟩ := h_bd_ok h
    refine h_callS cx.1 (c_X3_isClass l a2 r4 e5) (va_cwS 1 hts (hgA (hcS wdL_X3_89 wdT_X3_isClass wdN_RX3 wdC_X3_isClass)) rfl rfl rfl pdX3_isClass.2 ⟨Nat.le_of_ble_eq_true rfl, Nat.le_of_ble_eq_true rfl⟩) rfl hl.1 rfl (Nat.le_of_ble_eq_true rfl) dX3_next_8 ⟨Nat.zero_le _, Nat.zero_le _⟩ ?_
    refine lv_if_ne (tgt := 16) hx hb dX3_next_11 (by decide) (fun c6 => ?_) (fun c6 => ?_)
    · have h := h_ifn c6 h
      refine lv_aload_n hx hb dX3_next_16 rfl (lv_at hl 0 rfl) ?_
      refine h_get (v := .ref (q 1)) cx hw 0 (wC_p0 q cI S) rfl hinX3 0 (by decide) lk12 rfl dX3_next_17 ?_
      refine lv_iload_n hx hb dX3_next_20 rfl (lv_at hl 1 rfl) ?_
      refine lv_iload_n hx hb dX3_next_21 rfl (lv_at hl 2 rfl) ?_
      obtain ⟨r7, e8, h⟩ := h_bd_ok h
      refine h_callI cx hw (c_X1_nextBox l dC dI cI cZ q S a1 a2 r7 e8) (cwV 2 hts (hgA (hcV wdL_X3_101 wdI_X1_nextBox wdS_X1_nextBox wdN_RX1 wdC_X1_nextBox)) rfl rfl rfl pdX1_nextBox ⟨Nat.le_of_ble_eq_true rfl, Nat.le_of_ble_eq_true rfl⟩) 1 (wC_p1 q cI S) rfl rfl rfl hl.1 rfl (Nat.le_of_ble_eq_true rfl) dX3_next_22 ⟨Nat.zero_le _, Nat.zero_le _⟩ (fun H locs hw => ?_)
      exact h_iret cx hw hr hlk rfl (Option.some.inj h) rfl dX3_next_25
    · have h := h_ifp c6 h
      refine lv_iconst (v := (-1)) hx hb dX3_next_14 (by decide) ?_
      exact h_iret cx hw hr hlk rfl (Option.some.inj h) rfl dX3_next_15
set_option maxHeartbeats 4000000 in
set_option maxRecDepth 100000 in
theorem c_X3_far (l : Launch) (dC : Nat → ClassId) (dI : Nat → Nat → Nat) (cI cZ : ClassId) (q : Nat → Nat) (S : HSt) (a1 a2 : Int32) (r : Int32) (h : f_X3_far S a1 a2 = some r) : MI l yX3_far hsX3_far rmX3_far (dC, dI) cI cZ (wC q cI) S [.ref (q 0), .int a1, .int a2] r S := by
  refine MI.ofW (cc := cX3_far) (maxL := 3) (ret := (some .int)) (by decide +kernel) rfl (Nat.le_of_ble_eq_true rfl) ?_
  intro p e s m below meth c A cx hr hlk hw ls hl
  have hx := cx.1.1
  have hb := cx.1.2.1
  have hml := cx.1.2.2.1
  have hts := cx.1.2.2.2.2
  have hta : ∀ z ∈ hALL, z.before _ s = true := fun z h => hts z (List.mem_cons_of_mem _ h)
  have lk104 : (Cond.fieldLink RX3 104 (TX1 5).1 (TX1 5).2.1 (TX1 5).2.2.1).before _ s = true := hta _ wdF_X3_104
  have lk12 : (Cond.fieldLink RX3 12 (TX3 0).1 (TX3 0).2.1 (TX3 0).2.2.1).before _ s = true := hta _ wdF_X3_12
  have hl : lv_has ls 3 [(0, .ref (q 0)), (1, .int a1), (2, .int a2)] := hl
  unfold f_X3_far at h
  refine lv_iload_n hx hb dX3_far_0 rfl (lv_at hl 1 rfl) ?_
  obtain ⟨r1, e2, h⟩ := h_bd_ok h
  refine h_callS cx.1 (c_X3_isBox l a1 r1 e2) (va_cwS 1 hts (hgA (hcS wdL_X3_37 wdT_X3_isBox wdN_RX3 wdC_X3_isBox)) rfl rfl rfl pdX3_isBox.2 ⟨Nat.le_of_ble_eq_true rfl, Nat.le_of_ble_eq_true rfl⟩) rfl hl.1 rfl (Nat.le_of_ble_eq_true rfl) dX3_far_1 ⟨Nat.zero_le _, Nat.zero_le _⟩ ?_
  refine lv_if_eq (tgt := 14) hx hb dX3_far_4 (by decide) (fun c3 => ?_) (fun c3 => ?_)
  · have h := h_ifp c3 h
    refine lv_iconst (v := (-1)) hx hb dX3_far_14 (by decide) ?_
    exact h_iret cx hw hr hlk rfl (Option.some.inj h) rfl dX3_far_15
  · have h := h_ifn c3 h
    refine lv_iload_n hx hb dX3_far_7 rfl (lv_at hl 2 rfl) ?_
    obtain ⟨r4, e5, h⟩ := h_bd_ok h
    refine h_callS cx.1 (c_X3_isClass l a2 r4 e5) (va_cwS 1 hts (hgA (hcS wdL_X3_89 wdT_X3_isClass wdN_RX3 wdC_X3_isClass)) rfl rfl rfl pdX3_isClass.2 ⟨Nat.le_of_ble_eq_true rfl, Nat.le_of_ble_eq_true rfl⟩) rfl hl.1 rfl (Nat.le_of_ble_eq_true rfl) dX3_far_8 ⟨Nat.zero_le _, Nat.zero_le _⟩ ?_
    refine lv_if_ne (tgt := 16) hx hb dX3_far_11 (by decide) (fun c6 => ?_) (fun c6 => ?_)
    · have h := h_ifn c6 h
      refine lv_aload_n hx hb dX3_far_16 rfl (lv_at hl 0 rfl) ?_
      refine h_get (v := .ref (q 1)) cx hw 0 (wC_p0 q cI S) rfl hinX3 0 (by decide) lk12 rfl dX3_far_17 ?_
      refine h_get (v := .ref (q 9)) cx hw 1 (wC_p1 q cI S) rfl hinX1 5 (by decide) lk104 rfl dX3_far_20 ?_
      refine lv_iload_n hx hb dX3_far_23 rfl (lv_at hl 1 rfl) ?_
      refine lv_iload_n hx hb dX3_far_24 rfl (lv_at hl 2 rfl) ?_
      obtain ⟨r7, e8, h⟩ := h_bd_ok h
      refine h_callS cx.1 (c_X3_pair l a1 a2 r7 e8) (va_cwS 2 hts (hgA (hcS wdL_X3_107 wdT_X3_pair wdN_RX3 wdC_X3_pair)) rfl rfl rfl pdX3_pair.2 ⟨Nat.le_of_ble_eq_true rfl, Nat.le_of_ble_eq_true rfl⟩) rfl hl.1 rfl (Nat.le_of_ble_eq_true rfl) dX3_far_25 ⟨Nat.zero_le _, Nat.zero_le _⟩ ?_
      obtain ⟨v9, e10, h⟩ := h_bd_ok h
      refine h_ald cx hw 9 (wC_p9 q cI S) e10 dX3_far_28 ?_
      exact h_iret cx hw hr hlk rfl (Option.some.inj h) rfl dX3_far_29
    · have h := h_ifp c6 h
      refine lv_iconst (v := (-1)) hx hb dX3_far_14 (by decide) ?_
      exact h_iret cx hw hr hlk rfl (Option.some.inj h) rfl dX3_far_15
set_option maxHeartbeats 4000000 in
set_option maxRecDepth 100000 in
theorem c_X3_mode (l : Launch) (dC : Nat → ClassId) (dI : Nat → Nat → Nat) (cI cZ : ClassId) (q : Nat → Nat) (S : HSt) (a1 a2 a3 : Int32) (r : Int32) (S9 : HSt) (h : f_X3_mode S a1 a2 a3 = some (r, S9)) : MI l yX3_mode hsX3_mode rmX3_mode (dC, dI) cI cZ (wC q cI) S [.ref (q 0), .int a1, .int a2, .int a3] r S9 := by
  refine MI.ofW (cc := cX3_mode) (maxL := 4) (ret := (some .int)) (by decide +kernel) rfl (Nat.le_of_ble_eq_true rfl) ?_
  intro p e s m below meth c A cx hr hlk hw ls hl
  have hx := cx.1.1
  have hb := cx.1.2.1
  have hml := cx.1.2.2.1
  have hts := cx.1.2.2.2.2
  have hta : ∀ z ∈ hALL, z.before _ s = true := fun z h => hts z (List.mem_cons_of_mem _ h)
  have lk21 : (Cond.fieldLink RX3 21 (TX3 1).1 (TX3 1).2.1 (TX3 1).2.2.1).before _ s = true := hta _ wdF_X3_21
  have hl : lv_has ls 4 [(0, .ref (q 0)), (1, .int a1), (2, .int a2), (3, .int a3)] := hl
  unfold f_X3_mode at h
  refine lv_iload_n hx hb dX3_mode_0 rfl (lv_at hl 1 rfl) ?_
  obtain ⟨r1, e2, h⟩ := h_bd_ok h
  refine h_callS cx.1 (c_X3_isBox l a1 r1 e2) (va_cwS 1 hts (hgA (hcS wdL_X3_37 wdT_X3_isBox wdN_RX3 wdC_X3_isBox)) rfl rfl rfl pdX3_isBox.2 ⟨Nat.le_of_ble_eq_true rfl, Nat.le_of_ble_eq_true rfl⟩) rfl hl.1 rfl (Nat.le_of_ble_eq_true rfl) dX3_mode_1 ⟨Nat.zero_le _, Nat.zero_le _⟩ ?_
  refine lv_if_ne (tgt := 9) hx hb dX3_mode_4 (by decide) (fun c3 => ?_) (fun c3 => ?_)
  · have h := h_ifn c3 h
    refine lv_iload_n hx hb dX3_mode_9 rfl (lv_at hl 2 rfl) ?_
    refine lv_if_lt (tgt := 25) hx hb dX3_mode_10 (by decide) (fun c4 => ?_) (fun c4 => ?_)
    · have h := h_ifp c4 h
      refine lv_bipush (v := (-2)) hx hb dX3_mode_25 (by decide) ?_
      exact h_iret cx hw hr hlk rfl (congrArg Prod.fst (Option.some.inj h)) (congrArg Prod.snd (Option.some.inj h)) dX3_mode_27
    · have h := h_ifn c4 h
      refine lv_iload_n hx hb dX3_mode_13 rfl (lv_at hl 2 rfl) ?_
      refine lv_iconst (v := 4) hx hb dX3_mode_14 (by decide) ?_
      refine lv_icmp_ge (tgt := 25) hx hb dX3_mode_15 (by decide) (fun c5 => ?_) (fun c5 => ?_)
      · have h := h_ifp c5 h
        refine lv_bipush (v := (-2)) hx hb dX3_mode_25 (by decide) ?_
        exact h_iret cx hw hr hlk rfl (congrArg Prod.fst (Option.some.inj h)) (congrArg Prod.snd (Option.some.inj h)) dX3_mode_27
      · have h := h_ifn c5 h
        refine lv_iload_n hx hb dX3_mode_18 rfl (lv_at hl 3 rfl) ?_
        obtain ⟨r6, e7, h⟩ := h_bd_ok h
        refine h_callS cx.1 (c_X3_isYesNo l a3 r6 e7) (va_cwS 1 hts (hgA (hcS wdL_X3_76 wdT_X3_isYesNo wdN_RX3 wdC_X3_isYesNo)) rfl rfl rfl pdX3_isYesNo.2 ⟨Nat.le_of_ble_eq_true rfl, Nat.le_of_ble_eq_true rfl⟩) rfl hl.1 rfl (Nat.le_of_ble_eq_true rfl) dX3_mode_19 ⟨Nat.zero_le _, Nat.zero_le _⟩ ?_
        refine lv_if_ne (tgt := 28) hx hb dX3_mode_22 (by decide) (fun c8 => ?_) (fun c8 => ?_)
        · have h := h_ifn c8 h
          refine lv_aload_n hx hb dX3_mode_28 rfl (lv_at hl 0 rfl) ?_
          refine h_get (v := .ref (q 2)) cx hw 0 (wC_p0 q cI S) rfl hinX3 1 (by decide) lk21 rfl dX3_mode_29 ?_
          refine lv_iload_n hx hb dX3_mode_32 rfl (lv_at hl 1 rfl) ?_
          refine lv_iload_n hx hb dX3_mode_33 rfl (lv_at hl 2 rfl) ?_
          refine lv_iload_n hx hb dX3_mode_34 rfl (lv_at hl 3 rfl) ?_
          obtain ⟨r9, S11, e10, h⟩ := h_bi_ok h
          refine h_callI cx hw (c_X0_changeMode l dC dI cI cZ q S a1 a2 a3 r9 S11 e10) (cwV 3 hts (hgA (hcV wdL_X3_110 wdI_X0_changeMode wdS_X0_changeMode wdN_RX0 wdC_X0_changeMode)) rfl rfl rfl pdX0_changeMode ⟨Nat.le_of_ble_eq_true rfl, Nat.le_of_ble_eq_true rfl⟩) 2 (wC_p2 q cI S) rfl rfl rfl hl.1 rfl (Nat.le_of_ble_eq_true rfl) dX3_mode_35 ⟨Nat.zero_le _, Nat.zero_le _⟩ (fun H locs hw => ?_)
          exact h_iret cx hw hr hlk rfl (congrArg Prod.fst (Option.some.inj h)) (congrArg Prod.snd (Option.some.inj h)) dX3_mode_38
        · have h := h_ifp c8 h
          refine lv_bipush (v := (-2)) hx hb dX3_mode_25 (by decide) ?_
          exact h_iret cx hw hr hlk rfl (congrArg Prod.fst (Option.some.inj h)) (congrArg Prod.snd (Option.some.inj h)) dX3_mode_27
  · have h := h_ifp c3 h
    refine lv_iconst (v := (-1)) hx hb dX3_mode_7 (by decide) ?_
    exact h_iret cx hw hr hlk rfl (congrArg Prod.fst (Option.some.inj h)) (congrArg Prod.snd (Option.some.inj h)) dX3_mode_8
set_option maxHeartbeats 4000000 in
set_option maxRecDepth 100000 in
theorem c_X3_setting (l : Launch) (dC : Nat → ClassId) (dI : Nat → Nat → Nat) (cI cZ : ClassId) (q : Nat → Nat) (S : HSt) (a1 a2 : Int32) (r : Int32) (S9 : HSt) (h : f_X3_setting S a1 a2 = some (r, S9)) : MI l yX3_setting hsX3_setting rmX3_setting (dC, dI) cI cZ (wC q cI) S [.ref (q 0), .int a1, .int a2] r S9 := by
  refine MI.ofW (cc := cX3_setting) (maxL := 4) (ret := (some .int)) (by decide +kernel) rfl (Nat.le_of_ble_eq_true rfl) ?_
  intro p e s m below meth c A cx hr hlk hw ls hl
  have hx := cx.1.1
  have hb := cx.1.2.1
  have hml := cx.1.2.2.1
  have hts := cx.1.2.2.2.2
  have hta : ∀ z ∈ hALL, z.before _ s = true := fun z h => hts z (List.mem_cons_of_mem _ h)
  have lk113 : (Cond.fieldLink RX3 113 (TX0 1).1 (TX0 1).2.1 (TX0 1).2.2.1).before _ s = true := hta _ wdF_X3_113
  have lk116 : (Cond.fieldLink RX3 116 (TX0 2).1 (TX0 2).2.1 (TX0 2).2.2.1).before _ s = true := hta _ wdF_X3_116
  have lk21 : (Cond.fieldLink RX3 21 (TX3 1).1 (TX3 1).2.1 (TX3 1).2.2.1).before _ s = true := hta _ wdF_X3_21
  have hl : lv_has ls 4 [(0, .ref (q 0)), (1, .int a1), (2, .int a2)] := hl
  unfold f_X3_setting at h
  have kk29 : ∀ (S : HSt) (x1 x2 : Int32), f_X3_setting_29 S x1 x2 = some (r, S9) → ∀ (H : Heap) (locs : List Loc) (ls : Array Slot), HW (dC, dI) (wC q cI) S A s H locs → lv_has ls 4 [(0, .ref (q 0)), (1, .int x1), (2, .int x2)] → W p l e rmX3_setting s m ([.ref (q 0), .int a1, .int a2] : List Value).toArray below meth c H locs 0 0 (MQ below (QI (dC, dI) (wC q cI) r S9 A) ([.ref (q 0), .int a1, .int a2] : List Value).toArray s 0 0 A) (F0 m 29 ls []) := by
    intro S x1 x2 h H locs ls hw hl
    unfold f_X3_setting_29 at h
    refine lv_iload_n hx hb dX3_setting_29 rfl (lv_at hl 1 rfl) ?_
    refine lv_iconst (v := 1) hx hb dX3_setting_30 (by decide) ?_
    refine lv_icmp_ne (tgt := 63) hx hb dX3_setting_31 (by decide) (fun c1 => ?_) (fun c1 => ?_)
    · have h := h_ifn c1 h
      refine lv_bipush (v := (-2)) hx hb dX3_setting_63 (by decide) ?_
      exact h_iret cx hw hr hlk rfl (congrArg Prod.fst (Option.some.inj h)) (congrArg Prod.snd (Option.some.inj h)) dX3_setting_65
    · have h := h_ifp c1 h
      refine lv_iload_n hx hb dX3_setting_34 rfl (lv_at hl 2 rfl) ?_
      refine lv_iconst (v := 1) hx hb dX3_setting_35 (by decide) ?_
      refine lv_icmp_lt (tgt := 63) hx hb dX3_setting_36 (by decide) (fun c2 => ?_) (fun c2 => ?_)
      · have h := h_ifp c2 h
        refine lv_bipush (v := (-2)) hx hb dX3_setting_63 (by decide) ?_
        exact h_iret cx hw hr hlk rfl (congrArg Prod.fst (Option.some.inj h)) (congrArg Prod.snd (Option.some.inj h)) dX3_setting_65
      · have h := h_ifn c2 h
        refine lv_iload_n hx hb dX3_setting_39 rfl (lv_at hl 2 rfl) ?_
        refine lv_bipush (v := 9) hx hb dX3_setting_40 (by decide) ?_
        refine lv_icmp_gt (tgt := 63) hx hb dX3_setting_42 (by decide) (fun c3 => ?_) (fun c3 => ?_)
        · have h := h_ifp c3 h
          refine lv_bipush (v := (-2)) hx hb dX3_setting_63 (by decide) ?_
          exact h_iret cx hw hr hlk rfl (congrArg Prod.fst (Option.some.inj h)) (congrArg Prod.snd (Option.some.inj h)) dX3_setting_65
        · have h := h_ifn c3 h
          refine lv_aload_n hx hb dX3_setting_45 rfl (lv_at hl 0 rfl) ?_
          refine h_get (v := .ref (q 2)) cx hw 0 (wC_p0 q cI S) rfl hinX3 1 (by decide) lk21 rfl dX3_setting_46 ?_
          refine h_get (v := .int (S.1 2)) cx hw 2 (wC_p2 q cI S) rfl hinX0 2 (by decide) lk116 rfl dX3_setting_49 ?_
          refine lv_istore_n (lv' := [(3, .int (S.1 2)), (0, .ref (q 0)), (1, .int x1), (2, .int x2)]) hx hb dX3_setting_52 rfl hl (by decide) rfl (fun ls hl => ?_)
          refine lv_aload_n hx hb dX3_setting_53 rfl (lv_at hl 1 rfl) ?_
          refine h_get (v := .ref (q 2)) cx hw 0 (wC_p0 q cI S) rfl hinX3 1 (by decide) lk21 rfl dX3_setting_54 ?_
          refine lv_iload_n hx hb dX3_setting_57 rfl (lv_at hl 3 rfl) ?_
          obtain ⟨S4, e5, h⟩ := h_bd_ok h
          refine h_puti (x := x2) cx hw 2 (wC_p2 q cI S) rfl hinX0 tyX0 tyX0_ok nmX0 2 (by decide) lk116 rfl (by decide +kernel) (Nat.le_of_ble_eq_true rfl) 2 (wC_i2 q cI S x2) e5 dX3_setting_58 (fun H locs hw => ?_)
          refine lv_iload_n hx hb dX3_setting_61 rfl (lv_at hl 0 rfl) ?_
          exact h_iret cx hw hr hlk rfl (congrArg Prod.fst (Option.some.inj h)) (congrArg Prod.snd (Option.some.inj h)) dX3_setting_62
  refine lv_iload_n hx hb dX3_setting_0 rfl (lv_at hl 1 rfl) ?_
  refine lv_if_ne (tgt := 29) hx hb dX3_setting_1 (by decide) (fun c1 => ?_) (fun c1 => ?_)
  · have h := h_ifn c1 h
    exact kk29 _ _ _ h _ _ _ hw (lv_sub hl [0, 1, 2] rfl)
  · have h := h_ifp c1 h
    refine lv_iload_n hx hb dX3_setting_4 rfl (lv_at hl 2 rfl) ?_
    obtain ⟨r2, e3, h⟩ := h_bd_ok h
    refine h_callS cx.1 (c_X3_isYesNo l a2 r2 e3) (va_cwS 1 hts (hgA (hcS wdL_X3_76 wdT_X3_isYesNo wdN_RX3 wdC_X3_isYesNo)) rfl rfl rfl pdX3_isYesNo.2 ⟨Nat.le_of_ble_eq_true rfl, Nat.le_of_ble_eq_true rfl⟩) rfl hl.1 rfl (Nat.le_of_ble_eq_true rfl) dX3_setting_5 ⟨Nat.zero_le _, Nat.zero_le _⟩ ?_
    refine lv_if_eq (tgt := 29) hx hb dX3_setting_8 (by decide) (fun c4 => ?_) (fun c4 => ?_)
    · have h := h_ifp c4 h
      exact kk29 _ _ _ h _ _ _ hw (lv_sub hl [0, 1, 2] rfl)
    · have h := h_ifn c4 h
      refine lv_aload_n hx hb dX3_setting_11 rfl (lv_at hl 0 rfl) ?_
      refine h_get (v := .ref (q 2)) cx hw 0 (wC_p0 q cI S) rfl hinX3 1 (by decide) lk21 rfl dX3_setting_12 ?_
      refine h_get (v := .int (S.1 1)) cx hw 2 (wC_p2 q cI S) rfl hinX0 1 (by decide) lk113 rfl dX3_setting_15 ?_
      refine lv_istore_n (lv' := [(3, .int (S.1 1)), (0, .ref (q 0)), (1, .int a1), (2, .int a2)]) hx hb dX3_setting_18 rfl hl (by decide) rfl (fun ls hl => ?_)
      refine lv_aload_n hx hb dX3_setting_19 rfl (lv_at hl 1 rfl) ?_
      refine h_get (v := .ref (q 2)) cx hw 0 (wC_p0 q cI S) rfl hinX3 1 (by decide) lk21 rfl dX3_setting_20 ?_
      refine lv_iload_n hx hb dX3_setting_23 rfl (lv_at hl 3 rfl) ?_
      obtain ⟨S5, e6, h⟩ := h_bd_ok h
      refine h_puti (x := a2) cx hw 2 (wC_p2 q cI S) rfl hinX0 tyX0 tyX0_ok nmX0 1 (by decide) lk113 rfl (by decide +kernel) (Nat.le_of_ble_eq_true rfl) 1 (wC_i1 q cI S a2) e6 dX3_setting_24 (fun H locs hw => ?_)
      refine lv_iload_n hx hb dX3_setting_27 rfl (lv_at hl 0 rfl) ?_
      exact h_iret cx hw hr hlk rfl (congrArg Prod.fst (Option.some.inj h)) (congrArg Prod.snd (Option.some.inj h)) dX3_setting_28
set_option maxHeartbeats 4000000 in
set_option maxRecDepth 100000 in
theorem c_X3_ticks (l : Launch) (dC : Nat → ClassId) (dI : Nat → Nat → Nat) (cI cZ : ClassId) (q : Nat → Nat) (S : HSt) (a1 : Int32) (r : Int32) (S9 : HSt) (h : f_X3_ticks S a1 = some (r, S9)) : MI l yX3_ticks hsX3_ticks rmX3_ticks (dC, dI) cI cZ (wC q cI) S [.ref (q 0), .int a1] r S9 := by
  refine MI.ofW (cc := cX3_ticks) (maxL := 2) (ret := (some .int)) (by decide +kernel) rfl (Nat.le_of_ble_eq_true rfl) ?_
  intro p e s m below meth c A cx hr hlk hw ls hl
  have hx := cx.1.1
  have hb := cx.1.2.1
  have hml := cx.1.2.2.1
  have hts := cx.1.2.2.2.2
  have hta : ∀ z ∈ hALL, z.before _ s = true := fun z h => hts z (List.mem_cons_of_mem _ h)
  have lk21 : (Cond.fieldLink RX3 21 (TX3 1).1 (TX3 1).2.1 (TX3 1).2.2.1).before _ s = true := hta _ wdF_X3_21
  have hl : lv_has ls 2 [(0, .ref (q 0)), (1, .int a1)] := hl
  unfold f_X3_ticks at h
  refine lv_iload_n hx hb dX3_ticks_0 rfl (lv_at hl 1 rfl) ?_
  refine lv_if_lt (tgt := 10) hx hb dX3_ticks_1 (by decide) (fun c1 => ?_) (fun c1 => ?_)
  · have h := h_ifp c1 h
    refine lv_bipush (v := (-2)) hx hb dX3_ticks_10 (by decide) ?_
    exact h_iret cx hw hr hlk rfl (congrArg Prod.fst (Option.some.inj h)) (congrArg Prod.snd (Option.some.inj h)) dX3_ticks_12
  · have h := h_ifn c1 h
    refine lv_iload_n hx hb dX3_ticks_4 rfl (lv_at hl 1 rfl) ?_
    refine lv_bipush (v := 20) hx hb dX3_ticks_5 (by decide) ?_
    refine lv_icmp_le (tgt := 13) hx hb dX3_ticks_7 (by decide) (fun c2 => ?_) (fun c2 => ?_)
    · have h := h_ifp c2 h
      refine lv_aload_n hx hb dX3_ticks_13 rfl (lv_at hl 0 rfl) ?_
      refine h_get (v := .ref (q 2)) cx hw 0 (wC_p0 q cI S) rfl hinX3 1 (by decide) lk21 rfl dX3_ticks_14 ?_
      refine lv_iload_n hx hb dX3_ticks_17 rfl (lv_at hl 1 rfl) ?_
      obtain ⟨r3, S5, e4, h⟩ := h_bi_ok h
      refine h_callI cx hw (c_X0_runTicks l dC dI cI cZ q S a1 r3 S5 e4) (cwV 1 hts (hgA (hcV wdL_X3_119 wdI_X0_runTicks wdS_X0_runTicks wdN_RX0 wdC_X0_runTicks)) rfl rfl rfl pdX0_runTicks ⟨Nat.le_of_ble_eq_true rfl, Nat.le_of_ble_eq_true rfl⟩) 2 (wC_p2 q cI S) rfl rfl rfl hl.1 rfl (Nat.le_of_ble_eq_true rfl) dX3_ticks_18 ⟨Nat.zero_le _, Nat.zero_le _⟩ (fun H locs hw => ?_)
      exact h_iret cx hw hr hlk rfl (congrArg Prod.fst (Option.some.inj h)) (congrArg Prod.snd (Option.some.inj h)) dX3_ticks_21
    · have h := h_ifn c2 h
      refine lv_bipush (v := (-2)) hx hb dX3_ticks_10 (by decide) ?_
      exact h_iret cx hw hr hlk rfl (congrArg Prod.fst (Option.some.inj h)) (congrArg Prod.snd (Option.some.inj h)) dX3_ticks_12
set_option maxHeartbeats 4000000 in
set_option maxRecDepth 100000 in
theorem c_X3_sideFor (l : Launch) (dC : Nat → ClassId) (dI : Nat → Nat → Nat) (cI cZ : ClassId) (q : Nat → Nat) (S : HSt) (a1 a2 : Int32) (r : Int32) (h : f_X3_sideFor S a1 a2 = some r) : MI l yX3_sideFor hsX3_sideFor rmX3_sideFor (dC, dI) cI cZ (wC q cI) S [.ref (q 0), .int a1, .int a2] r S := by
  refine MI.ofW (cc := cX3_sideFor) (maxL := 3) (ret := (some .int)) (by decide +kernel) rfl (Nat.le_of_ble_eq_true rfl) ?_
  intro p e s m below meth c A cx hr hlk hw ls hl
  have hx := cx.1.1
  have hb := cx.1.2.1
  have hml := cx.1.2.2.1
  have hts := cx.1.2.2.2.2
  have hta : ∀ z ∈ hALL, z.before _ s = true := fun z h => hts z (List.mem_cons_of_mem _ h)
  have lk12 : (Cond.fieldLink RX3 12 (TX3 0).1 (TX3 0).2.1 (TX3 0).2.2.1).before _ s = true := hta _ wdF_X3_12
  have hl : lv_has ls 3 [(0, .ref (q 0)), (1, .int a1), (2, .int a2)] := hl
  unfold f_X3_sideFor at h
  refine lv_iload_n hx hb dX3_sideFor_0 rfl (lv_at hl 1 rfl) ?_
  obtain ⟨r1, e2, h⟩ := h_bd_ok h
  refine h_callS cx.1 (c_X3_isBox l a1 r1 e2) (va_cwS 1 hts (hgA (hcS wdL_X3_37 wdT_X3_isBox wdN_RX3 wdC_X3_isBox)) rfl rfl rfl pdX3_isBox.2 ⟨Nat.le_of_ble_eq_true rfl, Nat.le_of_ble_eq_true rfl⟩) rfl hl.1 rfl (Nat.le_of_ble_eq_true rfl) dX3_sideFor_1 ⟨Nat.zero_le _, Nat.zero_le _⟩ ?_
  refine lv_if_eq (tgt := 30) hx hb dX3_sideFor_4 (by decide) (fun c3 => ?_) (fun c3 => ?_)
  · have h := h_ifp c3 h
    refine lv_iconst (v := (-1)) hx hb dX3_sideFor_30 (by decide) ?_
    exact h_iret cx hw hr hlk rfl (Option.some.inj h) rfl dX3_sideFor_31
  · have h := h_ifn c3 h
    refine lv_aload_n hx hb dX3_sideFor_7 rfl (lv_at hl 0 rfl) ?_
    refine h_get (v := .ref (q 1)) cx hw 0 (wC_p0 q cI S) rfl hinX3 0 (by decide) lk12 rfl dX3_sideFor_8 ?_
    refine lv_iload_n hx hb dX3_sideFor_11 rfl (lv_at hl 2 rfl) ?_
    obtain ⟨r4, e5, h⟩ := h_bd_ok h
    refine h_callI cx hw (c_X1_isLink l dC dI cI cZ q S a2 r4 e5) (cwV 1 hts (hgA (hcV wdL_X3_65 wdI_X1_isLink wdS_X1_isLink wdN_RX1 wdC_X1_isLink)) rfl rfl rfl pdX1_isLink ⟨Nat.le_of_ble_eq_true rfl, Nat.le_of_ble_eq_true rfl⟩) 1 (wC_p1 q cI S) rfl rfl rfl hl.1 rfl (Nat.le_of_ble_eq_true rfl) dX3_sideFor_12 ⟨Nat.zero_le _, Nat.zero_le _⟩ (fun H locs hw => ?_)
    refine lv_if_eq (tgt := 30) hx hb dX3_sideFor_15 (by decide) (fun c6 => ?_) (fun c6 => ?_)
    · have h := h_ifp c6 h
      refine lv_iconst (v := (-1)) hx hb dX3_sideFor_30 (by decide) ?_
      exact h_iret cx hw hr hlk rfl (Option.some.inj h) rfl dX3_sideFor_31
    · have h := h_ifn c6 h
      refine lv_aload_n hx hb dX3_sideFor_18 rfl (lv_at hl 0 rfl) ?_
      refine h_get (v := .ref (q 1)) cx hw 0 (wC_p0 q cI S) rfl hinX3 0 (by decide) lk12 rfl dX3_sideFor_19 ?_
      refine lv_iload_n hx hb dX3_sideFor_22 rfl (lv_at hl 2 rfl) ?_
      refine lv_iload_n hx hb dX3_sideFor_23 rfl (lv_at hl 1 rfl) ?_
      obtain ⟨r7, e8, h⟩ := h_bd_ok h
      refine h_callI cx hw (c_X1_sideAt l dC dI cI cZ q S a2 a1 r7 e8) (cwV 2 hts (hgA (hcV wdL_X3_187 wdI_X1_sideAt wdS_X1_sideAt wdN_RX1 wdC_X1_sideAt)) rfl rfl rfl pdX1_sideAt ⟨Nat.le_of_ble_eq_true rfl, Nat.le_of_ble_eq_true rfl⟩) 1 (wC_p1 q cI S) rfl rfl rfl hl.1 rfl (Nat.le_of_ble_eq_true rfl) dX3_sideFor_24 ⟨Nat.zero_le _, Nat.zero_le _⟩ (fun H locs hw => ?_)
      refine lv_goto (tgt := 31) hx hb dX3_sideFor_27 (by decide) ?_
      exact h_iret cx hw hr hlk rfl (Option.some.inj h) rfl dX3_sideFor_31
set_option maxHeartbeats 4000000 in
set_option maxRecDepth 100000 in
theorem c_X3_partOf (l : Launch) (a0 a1 : Int32) (r : Int32) (h : f_X3_partOf a0 a1 = some r) : MS l yX3_partOf hsX3_partOf rmX3_partOf [.int a0, .int a1] r := by
  refine MS.ofW (cc := cX3_partOf) (maxL := 2) (ret := (some .int)) (by decide +kernel) rfl (Nat.le_of_ble_eq_true rfl) ?_
  intro p e s m below meth c cf hr hlk ls hl
  have hx := cf.1
  have hb := cf.2.1
  have hml := cf.2.2.1
  have hts := cf.2.2.2.2
  have hta : ∀ z ∈ hALL, z.before _ s = true := fun z h => hts z (List.mem_cons_of_mem _ h)
  have hl : lv_has ls 2 [(0, .int a0), (1, .int a1)] := hl
  unfold f_X3_partOf at h
  refine lv_iload_n hx hb dX3_partOf_0 rfl (lv_at hl 1 rfl) ?_
  refine lv_if_lt (tgt := 9) hx hb dX3_partOf_1 (by decide) (fun c1 => ?_) (fun c1 => ?_)
  · have h := h_ifp c1 h
    refine lv_bipush (v := (-2)) hx hb dX3_partOf_9 (by decide) ?_
    exact h_sret cf hr hlk rfl (Option.some.inj h) dX3_partOf_11
  · have h := h_ifn c1 h
    refine lv_iload_n hx hb dX3_partOf_4 rfl (lv_at hl 1 rfl) ?_
    refine lv_iconst (v := 1) hx hb dX3_partOf_5 (by decide) ?_
    refine lv_icmp_le (tgt := 12) hx hb dX3_partOf_6 (by decide) (fun c2 => ?_) (fun c2 => ?_)
    · have h := h_ifp c2 h
      refine lv_iload_n hx hb dX3_partOf_12 rfl (lv_at hl 0 rfl) ?_
      refine lv_if_ne (tgt := 19) hx hb dX3_partOf_13 (by decide) (fun c3 => ?_) (fun c3 => ?_)
      · have h := h_ifn c3 h
        refine lv_iload_n hx hb dX3_partOf_19 rfl (lv_at hl 1 rfl) ?_
        refine lv_if_ne (tgt := 30) hx hb dX3_partOf_20 (by decide) (fun c4 => ?_) (fun c4 => ?_)
        · have h := h_ifn c4 h
          refine lv_iload_n hx hb dX3_partOf_30 rfl (lv_at hl 0 rfl) ?_
          obtain ⟨r5, e6, h⟩ := h_bd_ok h
          refine h_callS cf (c_X3_countOf l a0 r5 e6) (va_cwS 1 hts (hgA (hcS wdL_X3_190 wdT_X3_countOf wdN_RX3 wdC_X3_countOf)) rfl rfl rfl pdX3_countOf.2 ⟨Nat.le_of_ble_eq_true rfl, Nat.le_of_ble_eq_true rfl⟩) rfl hl.1 rfl (Nat.le_of_ble_eq_true rfl) dX3_partOf_31 ⟨Nat.zero_le _, Nat.zero_le _⟩ ?_
          exact h_sret cf hr hlk rfl (Option.some.inj h) dX3_partOf_34
        · have h := h_ifp c4 h
          refine lv_iload_n hx hb dX3_partOf_23 rfl (lv_at hl 0 rfl) ?_
          obtain ⟨r7, e8, h⟩ := h_bd_ok h
          refine h_callS cf (c_X3_labelOf l a0 r7 e8) (va_cwS 1 hts (hgA (hcS wdL_X3_141 wdT_X3_labelOf wdN_RX3 wdC_X3_labelOf)) rfl rfl rfl pdX3_labelOf.2 ⟨Nat.le_of_ble_eq_true rfl, Nat.le_of_ble_eq_true rfl⟩) rfl hl.1 rfl (Nat.le_of_ble_eq_true rfl) dX3_partOf_24 ⟨Nat.zero_le _, Nat.zero_le _⟩ ?_
          refine lv_goto (tgt := 34) hx hb dX3_partOf_27 (by decide) ?_
          exact h_sret cf hr hlk rfl (Option.some.inj h) dX3_partOf_34
      · have h := h_ifp c3 h
        refine lv_bipush (v := (-9)) hx hb dX3_partOf_16 (by decide) ?_
        exact h_sret cf hr hlk rfl (Option.some.inj h) dX3_partOf_18
    · have h := h_ifn c2 h
      refine lv_bipush (v := (-2)) hx hb dX3_partOf_9 (by decide) ?_
      exact h_sret cf hr hlk rfl (Option.some.inj h) dX3_partOf_11
set_option maxHeartbeats 4000000 in
set_option maxRecDepth 100000 in
theorem c_X3_handed (l : Launch) (dC : Nat → ClassId) (dI : Nat → Nat → Nat) (cI cZ : ClassId) (q : Nat → Nat) (S : HSt) (a1 a2 a3 a4 : Int32) (r : Int32) (h : f_X3_handed S a1 a2 a3 a4 = some r) : MI l yX3_handed hsX3_handed rmX3_handed (dC, dI) cI cZ (wC q cI) S [.ref (q 0), .int a1, .int a2, .int a3, .int a4] r S := by
  refine MI.ofW (cc := cX3_handed) (maxL := 6) (ret := (some .int)) (by decide +kernel) rfl (Nat.le_of_ble_eq_true rfl) ?_
  intro p e s m below meth c A cx hr hlk hw ls hl
  have hx := cx.1.1
  have hb := cx.1.2.1
  have hml := cx.1.2.2.1
  have hts := cx.1.2.2.2.2
  have hta : ∀ z ∈ hALL, z.before _ s = true := fun z h => hts z (List.mem_cons_of_mem _ h)
  have lk126 : (Cond.fieldLink RX3 126 (TX0 4).1 (TX0 4).2.1 (TX0 4).2.2.1).before _ s = true := hta _ wdF_X3_126
  have lk21 : (Cond.fieldLink RX3 21 (TX3 1).1 (TX3 1).2.1 (TX3 1).2.2.1).before _ s = true := hta _ wdF_X3_21
  have hl : lv_has ls 6 [(0, .ref (q 0)), (1, .int a1), (2, .int a2), (3, .int a3), (4, .int a4)] := hl
  unfold f_X3_handed at h
  refine lv_aload_n hx hb dX3_handed_0 rfl (lv_at hl 0 rfl) ?_
  refine lv_iload_n hx hb dX3_handed_1 rfl (lv_at hl 1 rfl) ?_
  refine lv_iload_n hx hb dX3_handed_2 rfl (lv_at hl 2 rfl) ?_
  obtain ⟨r1, e2, h⟩ := h_bd_ok h
  refine h_callI cx hw (c_X3_sideFor l dC dI cI cZ q S a1 a2 r1 e2) (cwV 2 hts (hgA (hcV wdL_X3_123 wdI_X3_sideFor wdS_X3_sideFor wdN_RX3 wdC_X3_sideFor)) rfl rfl rfl pdX3_sideFor ⟨Nat.le_of_ble_eq_true rfl, Nat.le_of_ble_eq_true rfl⟩) 0 (wC_p0 q cI S) rfl rfl rfl hl.1 rfl (Nat.le_of_ble_eq_true rfl) dX3_handed_3 ⟨Nat.zero_le _, Nat.zero_le _⟩ (fun H locs hw => ?_)
  refine lv_istore (lv' := [(5, .int r1), (0, .ref (q 0)), (1, .int a1), (2, .int a2), (3, .int a3), (4, .int a4)]) hx hb dX3_handed_6 hl (by decide) rfl (fun ls hl => ?_)
  refine lv_iload hx hb dX3_handed_8 (lv_at hl 0 rfl) ?_
  refine lv_iconst (v := (-1)) hx hb dX3_handed_10 (by decide) ?_
  refine lv_icmp_eq (tgt := 21) hx hb dX3_handed_11 (by decide) (fun c3 => ?_) (fun c3 => ?_)
  · have h := h_ifp c3 h
    refine lv_iconst (v := (-1)) hx hb dX3_handed_21 (by decide) ?_
    exact h_iret cx hw hr hlk rfl (Option.some.inj h) rfl dX3_handed_22
  · have h := h_ifn c3 h
    refine lv_iload_n hx hb dX3_handed_14 rfl (lv_at hl 4 rfl) ?_
    obtain ⟨r4, e5, h⟩ := h_bd_ok h
    refine h_callS cx.1 (c_X3_isClass l a3 r4 e5) (va_cwS 1 hts (hgA (hcS wdL_X3_89 wdT_X3_isClass wdN_RX3 wdC_X3_isClass)) rfl rfl rfl pdX3_isClass.2 ⟨Nat.le_of_ble_eq_true rfl, Nat.le_of_ble_eq_true rfl⟩) rfl hl.1 rfl (Nat.le_of_ble_eq_true rfl) dX3_handed_15 ⟨Nat.zero_le _, Nat.zero_le _⟩ ?_
    refine lv_if_ne (tgt := 23) hx hb dX3_handed_18 (by decide) (fun c6 => ?_) (fun c6 => ?_)
    · have h := h_ifn c6 h
      refine lv_aload_n hx hb dX3_handed_23 rfl (lv_at hl 1 rfl) ?_
      refine h_get (v := .ref (q 2)) cx hw 0 (wC_p0 q cI S) rfl hinX3 1 (by decide) lk21 rfl dX3_handed_24 ?_
      refine h_get (v := .ref (q 11)) cx hw 2 (wC_p2 q cI S) rfl hinX0 4 (by decide) lk126 rfl dX3_handed_27 ?_
      refine lv_iload hx hb dX3_handed_30 (lv_at hl 0 rfl) ?_
      refine lv_iload_n hx hb dX3_handed_32 rfl (lv_at hl 4 rfl) ?_
      obtain ⟨r7, e8, h⟩ := h_bd_ok h
      refine h_callS cx.1 (c_X3_slot l r1 a3 r7 e8) (va_cwS 2 hts (hgA (hcS wdL_X3_129 wdT_X3_slot wdN_RX3 wdC_X3_slot)) rfl rfl rfl pdX3_slot.2 ⟨Nat.le_of_ble_eq_true rfl, Nat.le_of_ble_eq_true rfl⟩) rfl hl.1 rfl (Nat.le_of_ble_eq_true rfl) dX3_handed_33 ⟨Nat.zero_le _, Nat.zero_le _⟩ ?_
      obtain ⟨v9, e10, h⟩ := h_bd_ok h
      refine h_ald cx hw 11 (wC_p11 q cI S) e10 dX3_handed_36 ?_
      refine lv_iload hx hb dX3_handed_37 (lv_at hl 5 rfl) ?_
      obtain ⟨r11, e12, h⟩ := h_bd_ok h
      refine h_callS cx.1 (c_X3_partOf l v9 a4 r11 e12) (va_cwS 2 hts (hgA (hcS wdL_X3_132 wdT_X3_partOf wdN_RX3 wdC_X3_partOf)) rfl rfl rfl pdX3_partOf.2 ⟨Nat.le_of_ble_eq_true rfl, Nat.le_of_ble_eq_true rfl⟩) rfl hl.1 rfl (Nat.le_of_ble_eq_true rfl) dX3_handed_39 ⟨Nat.zero_le _, Nat.zero_le _⟩ ?_
      exact h_iret cx hw hr hlk rfl (Option.some.inj h) rfl dX3_handed_42
    · have h := h_ifp c6 h
      refine lv_iconst (v := (-1)) hx hb dX3_handed_21 (by decide) ?_
      exact h_iret cx hw hr hlk rfl (Option.some.inj h) rfl dX3_handed_22
set_option maxHeartbeats 4000000 in
set_option maxRecDepth 100000 in
theorem c_X3_kept (l : Launch) (dC : Nat → ClassId) (dI : Nat → Nat → Nat) (cI cZ : ClassId) (q : Nat → Nat) (S : HSt) (a1 a2 a3 a4 : Int32) (r : Int32) (h : f_X3_kept S a1 a2 a3 a4 = some r) : MI l yX3_kept hsX3_kept rmX3_kept (dC, dI) cI cZ (wC q cI) S [.ref (q 0), .int a1, .int a2, .int a3, .int a4] r S := by
  refine MI.ofW (cc := cX3_kept) (maxL := 6) (ret := (some .int)) (by decide +kernel) rfl (Nat.le_of_ble_eq_true rfl) ?_
  intro p e s m below meth c A cx hr hlk hw ls hl
  have hx := cx.1.1
  have hb := cx.1.2.1
  have hml := cx.1.2.2.1
  have hts := cx.1.2.2.2.2
  have hta : ∀ z ∈ hALL, z.before _ s = true := fun z h => hts z (List.mem_cons_of_mem _ h)
  have lk135 : (Cond.fieldLink RX3 135 (TX0 5).1 (TX0 5).2.1 (TX0 5).2.2.1).before _ s = true := hta _ wdF_X3_135
  have lk21 : (Cond.fieldLink RX3 21 (TX3 1).1 (TX3 1).2.1 (TX3 1).2.2.1).before _ s = true := hta _ wdF_X3_21
  have hl : lv_has ls 6 [(0, .ref (q 0)), (1, .int a1), (2, .int a2), (3, .int a3), (4, .int a4)] := hl
  unfold f_X3_kept at h
  refine lv_aload_n hx hb dX3_kept_0 rfl (lv_at hl 0 rfl) ?_
  refine lv_iload_n hx hb dX3_kept_1 rfl (lv_at hl 1 rfl) ?_
  refine lv_iload_n hx hb dX3_kept_2 rfl (lv_at hl 2 rfl) ?_
  obtain ⟨r1, e2, h⟩ := h_bd_ok h
  refine h_callI cx hw (c_X3_sideFor l dC dI cI cZ q S a1 a2 r1 e2) (cwV 2 hts (hgA (hcV wdL_X3_123 wdI_X3_sideFor wdS_X3_sideFor wdN_RX3 wdC_X3_sideFor)) rfl rfl rfl pdX3_sideFor ⟨Nat.le_of_ble_eq_true rfl, Nat.le_of_ble_eq_true rfl⟩) 0 (wC_p0 q cI S) rfl rfl rfl hl.1 rfl (Nat.le_of_ble_eq_true rfl) dX3_kept_3 ⟨Nat.zero_le _, Nat.zero_le _⟩ (fun H locs hw => ?_)
  refine lv_istore (lv' := [(5, .int r1), (0, .ref (q 0)), (1, .int a1), (2, .int a2), (3, .int a3), (4, .int a4)]) hx hb dX3_kept_6 hl (by decide) rfl (fun ls hl => ?_)
  refine lv_iload hx hb dX3_kept_8 (lv_at hl 0 rfl) ?_
  refine lv_iconst (v := (-1)) hx hb dX3_kept_10 (by decide) ?_
  refine lv_icmp_eq (tgt := 21) hx hb dX3_kept_11 (by decide) (fun c3 => ?_) (fun c3 => ?_)
  · have h := h_ifp c3 h
    refine lv_iconst (v := (-1)) hx hb dX3_kept_21 (by decide) ?_
    exact h_iret cx hw hr hlk rfl (Option.some.inj h) rfl dX3_kept_22
  · have h := h_ifn c3 h
    refine lv_iload_n hx hb dX3_kept_14 rfl (lv_at hl 4 rfl) ?_
    obtain ⟨r4, e5, h⟩ := h_bd_ok h
    refine h_callS cx.1 (c_X3_isClass l a3 r4 e5) (va_cwS 1 hts (hgA (hcS wdL_X3_89 wdT_X3_isClass wdN_RX3 wdC_X3_isClass)) rfl rfl rfl pdX3_isClass.2 ⟨Nat.le_of_ble_eq_true rfl, Nat.le_of_ble_eq_true rfl⟩) rfl hl.1 rfl (Nat.le_of_ble_eq_true rfl) dX3_kept_15 ⟨Nat.zero_le _, Nat.zero_le _⟩ ?_
    refine lv_if_ne (tgt := 23) hx hb dX3_kept_18 (by decide) (fun c6 => ?_) (fun c6 => ?_)
    · have h := h_ifn c6 h
      refine lv_aload_n hx hb dX3_kept_23 rfl (lv_at hl 1 rfl) ?_
      refine h_get (v := .ref (q 2)) cx hw 0 (wC_p0 q cI S) rfl hinX3 1 (by decide) lk21 rfl dX3_kept_24 ?_
      refine h_get (v := .ref (q 12)) cx hw 2 (wC_p2 q cI S) rfl hinX0 5 (by decide) lk135 rfl dX3_kept_27 ?_
      refine lv_iload hx hb dX3_kept_30 (lv_at hl 0 rfl) ?_
      refine lv_iload_n hx hb dX3_kept_32 rfl (lv_at hl 4 rfl) ?_
      obtain ⟨r7, e8, h⟩ := h_bd_ok h
      refine h_callS cx.1 (c_X3_slot l r1 a3 r7 e8) (va_cwS 2 hts (hgA (hcS wdL_X3_129 wdT_X3_slot wdN_RX3 wdC_X3_slot)) rfl rfl rfl pdX3_slot.2 ⟨Nat.le_of_ble_eq_true rfl, Nat.le_of_ble_eq_true rfl⟩) rfl hl.1 rfl (Nat.le_of_ble_eq_true rfl) dX3_kept_33 ⟨Nat.zero_le _, Nat.zero_le _⟩ ?_
      obtain ⟨v9, e10, h⟩ := h_bd_ok h
      refine h_ald cx hw 12 (wC_p12 q cI S) e10 dX3_kept_36 ?_
      refine lv_iload hx hb dX3_kept_37 (lv_at hl 5 rfl) ?_
      obtain ⟨r11, e12, h⟩ := h_bd_ok h
      refine h_callS cx.1 (c_X3_partOf l v9 a4 r11 e12) (va_cwS 2 hts (hgA (hcS wdL_X3_132 wdT_X3_partOf wdN_RX3 wdC_X3_partOf)) rfl rfl rfl pdX3_partOf.2 ⟨Nat.le_of_ble_eq_true rfl, Nat.le_of_ble_eq_true rfl⟩) rfl hl.1 rfl (Nat.le_of_ble_eq_true rfl) dX3_kept_39 ⟨Nat.zero_le _, Nat.zero_le _⟩ ?_
      exact h_iret cx hw hr hlk rfl (Option.some.inj h) rfl dX3_kept_42
    · have h := h_ifp c6 h
      refine lv_iconst (v := (-1)) hx hb dX3_kept_21 (by decide) ?_
      exact h_iret cx hw hr hlk rfl (Option.some.inj h) rfl dX3_kept_22
set_option maxHeartbeats 4000000 in
set_option maxRecDepth 100000 in
theorem c_X3_used (l : Launch) (dC : Nat → ClassId) (dI : Nat → Nat → Nat) (cI cZ : ClassId) (q : Nat → Nat) (S : HSt) (a1 a2 : Int32) (r : Int32) (h : f_X3_used S a1 a2 = some r) : MI l yX3_used hsX3_used rmX3_used (dC, dI) cI cZ (wC q cI) S [.ref (q 0), .int a1, .int a2] r S := by
  refine MI.ofW (cc := cX3_used) (maxL := 4) (ret := (some .int)) (by decide +kernel) rfl (Nat.le_of_ble_eq_true rfl) ?_
  intro p e s m below meth c A cx hr hlk hw ls hl
  have hx := cx.1.1
  have hb := cx.1.2.1
  have hml := cx.1.2.2.1
  have hts := cx.1.2.2.2.2
  have hta : ∀ z ∈ hALL, z.before _ s = true := fun z h => hts z (List.mem_cons_of_mem _ h)
  have lk21 : (Cond.fieldLink RX3 21 (TX3 1).1 (TX3 1).2.1 (TX3 1).2.2.1).before _ s = true := hta _ wdF_X3_21
  have hl : lv_has ls 4 [(0, .ref (q 0)), (1, .int a1), (2, .int a2)] := hl
  unfold f_X3_used at h
  refine lv_iload_n hx hb dX3_used_0 rfl (lv_at hl 1 rfl) ?_
  obtain ⟨r1, e2, h⟩ := h_bd_ok h
  refine h_callS cx.1 (c_X3_isBox l a1 r1 e2) (va_cwS 1 hts (hgA (hcS wdL_X3_37 wdT_X3_isBox wdN_RX3 wdC_X3_isBox)) rfl rfl rfl pdX3_isBox.2 ⟨Nat.le_of_ble_eq_true rfl, Nat.le_of_ble_eq_true rfl⟩) rfl hl.1 rfl (Nat.le_of_ble_eq_true rfl) dX3_used_1 ⟨Nat.zero_le _, Nat.zero_le _⟩ ?_
  refine lv_if_eq (tgt := 14) hx hb dX3_used_4 (by decide) (fun c3 => ?_) (fun c3 => ?_)
  · have h := h_ifp c3 h
    refine lv_iconst (v := (-1)) hx hb dX3_used_14 (by decide) ?_
    exact h_iret cx hw hr hlk rfl (Option.some.inj h) rfl dX3_used_15
  · have h := h_ifn c3 h
    refine lv_iload_n hx hb dX3_used_7 rfl (lv_at hl 2 rfl) ?_
    obtain ⟨r4, e5, h⟩ := h_bd_ok h
    refine h_callS cx.1 (c_X3_isClass l a2 r4 e5) (va_cwS 1 hts (hgA (hcS wdL_X3_89 wdT_X3_isClass wdN_RX3 wdC_X3_isClass)) rfl rfl rfl pdX3_isClass.2 ⟨Nat.le_of_ble_eq_true rfl, Nat.le_of_ble_eq_true rfl⟩) rfl hl.1 rfl (Nat.le_of_ble_eq_true rfl) dX3_used_8 ⟨Nat.zero_le _, Nat.zero_le _⟩ ?_
    refine lv_if_ne (tgt := 16) hx hb dX3_used_11 (by decide) (fun c6 => ?_) (fun c6 => ?_)
    · have h := h_ifn c6 h
      refine lv_aload_n hx hb dX3_used_16 rfl (lv_at hl 0 rfl) ?_
      refine h_get (v := .ref (q 2)) cx hw 0 (wC_p0 q cI S) rfl hinX3 1 (by decide) lk21 rfl dX3_used_17 ?_
      refine lv_iload_n hx hb dX3_used_20 rfl (lv_at hl 1 rfl) ?_
      refine lv_iload_n hx hb dX3_used_21 rfl (lv_at hl 2 rfl) ?_
      obtain ⟨r7, e8, h⟩ := h_bd_ok h
      refine h_callI cx hw (c_X0_slipUsed l dC dI cI cZ q S a1 a2 r7 e8) (cwV 2 hts (hgA (hcV wdL_X3_138 wdI_X0_slipUsed wdS_X0_slipUsed wdN_RX0 wdC_X0_slipUsed)) rfl rfl rfl pdX0_slipUsed ⟨Nat.le_of_ble_eq_true rfl, Nat.le_of_ble_eq_true rfl⟩) 2 (wC_p2 q cI S) rfl rfl rfl hl.1 rfl (Nat.le_of_ble_eq_true rfl) dX3_used_22 ⟨Nat.zero_le _, Nat.zero_le _⟩ (fun H locs hw => ?_)
      refine lv_istore_n (lv' := [(3, .int r7), (0, .ref (q 0)), (1, .int a1), (2, .int a2)]) hx hb dX3_used_25 rfl hl (by decide) rfl (fun ls hl => ?_)
      refine lv_iload_n hx hb dX3_used_26 rfl (lv_at hl 0 rfl) ?_
      refine lv_if_ne (tgt := 35) hx hb dX3_used_27 (by decide) (fun c9 => ?_) (fun c9 => ?_)
      · have h := h_ifn c9 h
        refine lv_iload_n hx hb dX3_used_35 rfl (lv_at hl 0 rfl) ?_
        obtain ⟨r10, e11, h⟩ := h_bd_ok h
        refine h_callS cx.1 (c_X3_labelOf l r7 r10 e11) (va_cwS 1 hts (hgA (hcS wdL_X3_141 wdT_X3_labelOf wdN_RX3 wdC_X3_labelOf)) rfl rfl rfl pdX3_labelOf.2 ⟨Nat.le_of_ble_eq_true rfl, Nat.le_of_ble_eq_true rfl⟩) rfl hl.1 rfl (Nat.le_of_ble_eq_true rfl) dX3_used_36 ⟨Nat.zero_le _, Nat.zero_le _⟩ ?_
        exact h_iret cx hw hr hlk rfl (Option.some.inj h) rfl dX3_used_39
      · have h := h_ifp c9 h
        refine lv_bipush (v := (-9)) hx hb dX3_used_30 (by decide) ?_
        refine lv_goto (tgt := 39) hx hb dX3_used_32 (by decide) ?_
        exact h_iret cx hw hr hlk rfl (Option.some.inj h) rfl dX3_used_39
    · have h := h_ifp c6 h
      refine lv_iconst (v := (-1)) hx hb dX3_used_14 (by decide) ?_
      exact h_iret cx hw hr hlk rfl (Option.some.inj h) rfl dX3_used_15
set_option maxHeartbeats 4000000 in
set_option maxRecDepth 100000 in
theorem c_X3_meaning (l : Launch) (dC : Nat → ClassId) (dI : Nat → Nat → Nat) (cI cZ : ClassId) (q : Nat → Nat) (S : HSt) (a1 a2 a3 : Int32) (r : Int32) (h : f_X3_meaning S a1 a2 a3 = some r) : MI l yX3_meaning hsX3_meaning rmX3_meaning (dC, dI) cI cZ (wC q cI) S [.ref (q 0), .int a1, .int a2, .int a3] r S := by
  refine MI.ofW (cc := cX3_meaning) (maxL := 6) (ret := (some .int)) (by decide +kernel) rfl (Nat.le_of_ble_eq_true rfl) ?_
  intro p e s m below meth c A cx hr hlk hw ls hl
  have hx := cx.1.1
  have hb := cx.1.2.1
  have hml := cx.1.2.2.1
  have hts := cx.1.2.2.2.2
  have hta : ∀ z ∈ hALL, z.before _ s = true := fun z h => hts z (List.mem_cons_of_mem _ h)
  have lk21 : (Cond.fieldLink RX3 21 (TX3 1).1 (TX3 1).2.1 (TX3 1).2.2.1).before _ s = true := hta _ wdF_X3_21
  have hl : lv_has ls 6 [(0, .ref (q 0)), (1, .int a1), (2, .int a2), (3, .int a3)] := hl
  unfold f_X3_meaning at h
  refine lv_aload_n hx hb dX3_meaning_0 rfl (lv_at hl 0 rfl) ?_
  refine lv_iload_n hx hb dX3_meaning_1 rfl (lv_at hl 1 rfl) ?_
  refine lv_iload_n hx hb dX3_meaning_2 rfl (lv_at hl 2 rfl) ?_
  obtain ⟨r1, e2, h⟩ := h_bd_ok h
  refine h_callI cx hw (c_X3_sideFor l dC dI cI cZ q S a1 a2 r1 e2) (cwV 2 hts (hgA (hcV wdL_X3_123 wdI_X3_sideFor wdS_X3_sideFor wdN_RX3 wdC_X3_sideFor)) rfl rfl rfl pdX3_sideFor ⟨Nat.le_of_ble_eq_true rfl, Nat.le_of_ble_eq_true rfl⟩) 0 (wC_p0 q cI S) rfl rfl rfl hl.1 rfl (Nat.le_of_ble_eq_true rfl) dX3_meaning_3 ⟨Nat.zero_le _, Nat.zero_le _⟩ (fun H locs hw => ?_)
  refine lv_istore (lv' := [(4, .int r1), (0, .ref (q 0)), (1, .int a1), (2, .int a2), (3, .int a3)]) hx hb dX3_meaning_6 hl (by decide) rfl (fun ls hl => ?_)
  refine lv_iload hx hb dX3_meaning_8 (lv_at hl 0 rfl) ?_
  refine lv_iconst (v := (-1)) hx hb dX3_meaning_10 (by decide) ?_
  refine lv_icmp_ne (tgt := 16) hx hb dX3_meaning_11 (by decide) (fun c3 => ?_) (fun c3 => ?_)
  · have h := h_ifn c3 h
    refine lv_iload_n hx hb dX3_meaning_16 rfl (lv_at hl 4 rfl) ?_
    refine lv_if_lt (tgt := 26) hx hb dX3_meaning_17 (by decide) (fun c4 => ?_) (fun c4 => ?_)
    · have h := h_ifp c4 h
      refine lv_bipush (v := (-2)) hx hb dX3_meaning_26 (by decide) ?_
      exact h_iret cx hw hr hlk rfl (Option.some.inj h) rfl dX3_meaning_28
    · have h := h_ifn c4 h
      refine lv_iload_n hx hb dX3_meaning_20 rfl (lv_at hl 4 rfl) ?_
      refine lv_bipush (v := 99) hx hb dX3_meaning_21 (by decide) ?_
      refine lv_icmp_le (tgt := 29) hx hb dX3_meaning_23 (by decide) (fun c5 => ?_) (fun c5 => ?_)
      · have h := h_ifp c5 h
        refine lv_aload_n hx hb dX3_meaning_29 rfl (lv_at hl 1 rfl) ?_
        refine h_get (v := .ref (q 2)) cx hw 0 (wC_p0 q cI S) rfl hinX3 1 (by decide) lk21 rfl dX3_meaning_30 ?_
        refine lv_iload_n hx hb dX3_meaning_33 rfl (lv_at hl 2 rfl) ?_
        refine lv_iload hx hb dX3_meaning_34 (lv_at hl 0 rfl) ?_
        refine lv_iload_n hx hb dX3_meaning_36 rfl (lv_at hl 4 rfl) ?_
        obtain ⟨r6, e7, h⟩ := h_bd_ok h
        refine h_callI cx hw (c_X0_classMeant l dC dI cI cZ q S a1 r1 a3 r6 e7) (cwV 3 hts (hgA (hcV wdL_X3_144 wdI_X0_classMeant wdS_X0_classMeant wdN_RX0 wdC_X0_classMeant)) rfl rfl rfl pdX0_classMeant ⟨Nat.le_of_ble_eq_true rfl, Nat.le_of_ble_eq_true rfl⟩) 2 (wC_p2 q cI S) rfl rfl rfl hl.1 rfl (Nat.le_of_ble_eq_true rfl) dX3_meaning_37 ⟨Nat.zero_le _, Nat.zero_le _⟩ (fun H locs hw => ?_)
        refine lv_istore (lv' := [(5, .int r6), (4, .int r1), (0, .ref (q 0)), (1, .int a1), (2, .int a2), (3, .int a3)]) hx hb dX3_meaning_40 hl (by decide) rfl (fun ls hl => ?_)
        refine lv_iload hx hb dX3_meaning_42 (lv_at hl 0 rfl) ?_
        refine lv_iconst (v := (-1)) hx hb dX3_meaning_44 (by decide) ?_
        refine lv_icmp_ne (tgt := 53) hx hb dX3_meaning_45 (by decide) (fun c8 => ?_) (fun c8 => ?_)
        · have h := h_ifn c8 h
          refine lv_iload hx hb dX3_meaning_53 (lv_at hl 0 rfl) ?_
          exact h_iret cx hw hr hlk rfl (Option.some.inj h) rfl dX3_meaning_55
        · have h := h_ifp c8 h
          refine lv_bipush (v := (-9)) hx hb dX3_meaning_48 (by decide) ?_
          refine lv_goto (tgt := 55) hx hb dX3_meaning_50 (by decide) ?_
          exact h_iret cx hw hr hlk rfl (Option.some.inj h) rfl dX3_meaning_55
      · have h := h_ifn c5 h
        refine lv_bipush (v := (-2)) hx hb dX3_meaning_26 (by decide) ?_
        exact h_iret cx hw hr hlk rfl (Option.some.inj h) rfl dX3_meaning_28
  · have h := h_ifp c3 h
    refine lv_iconst (v := (-1)) hx hb dX3_meaning_14 (by decide) ?_
    exact h_iret cx hw hr hlk rfl (Option.some.inj h) rfl dX3_meaning_15
set_option maxHeartbeats 4000000 in
set_option maxRecDepth 100000 in
theorem c_X3_settles (l : Launch) (dC : Nat → ClassId) (dI : Nat → Nat → Nat) (cI cZ : ClassId) (q : Nat → Nat) (S : HSt) (r : Int32) (S9 : HSt) (h : f_X3_settles S = some (r, S9)) : MI l yX3_settles hsX3_settles rmX3_settles (dC, dI) cI cZ (wC q cI) S [.ref (q 0)] r S9 := by
  refine MI.ofW (cc := cX3_settles) (maxL := 1) (ret := (some .int)) (by decide +kernel) rfl (Nat.le_of_ble_eq_true rfl) ?_
  intro p e s m below meth c A cx hr hlk hw ls hl
  have hx := cx.1.1
  have hb := cx.1.2.1
  have hml := cx.1.2.2.1
  have hts := cx.1.2.2.2.2
  have hta : ∀ z ∈ hALL, z.before _ s = true := fun z h => hts z (List.mem_cons_of_mem _ h)
  have lk21 : (Cond.fieldLink RX3 21 (TX3 1).1 (TX3 1).2.1 (TX3 1).2.2.1).before _ s = true := hta _ wdF_X3_21
  have hl : lv_has ls 1 [(0, .ref (q 0))] := hl
  unfold f_X3_settles at h
  refine lv_aload_n hx hb dX3_settles_0 rfl (lv_at hl 0 rfl) ?_
  refine h_get (v := .ref (q 2)) cx hw 0 (wC_p0 q cI S) rfl hinX3 1 (by decide) lk21 rfl dX3_settles_1 ?_
  obtain ⟨r1, S3, e2, h⟩ := h_bi_ok h
  refine h_callI cx hw (c_X0_ticksTillStill l dC dI cI cZ q S r1 S3 e2) (cwV 0 hts (hgA (hcV wdL_X3_147 wdI_X0_ticksTillStill wdS_X0_ticksTillStill wdN_RX0 wdC_X0_ticksTillStill)) rfl rfl rfl pdX0_ticksTillStill ⟨Nat.le_of_ble_eq_true rfl, Nat.le_of_ble_eq_true rfl⟩) 2 (wC_p2 q cI S) rfl rfl rfl hl.1 rfl (Nat.le_of_ble_eq_true rfl) dX3_settles_4 ⟨Nat.zero_le _, Nat.zero_le _⟩ (fun H locs hw => ?_)
  exact h_iret cx hw hr hlk rfl (congrArg Prod.fst (Option.some.inj h)) (congrArg Prod.snd (Option.some.inj h)) dX3_settles_7
set_option maxHeartbeats 4000000 in
set_option maxRecDepth 100000 in
theorem c_X3_letter (l : Launch) (dC : Nat → ClassId) (dI : Nat → Nat → Nat) (cI cZ : ClassId) (q : Nat → Nat) (S : HSt) (a1 a2 : Int32) (r : Int32) (S9 : HSt) (h : f_X3_letter S a1 a2 = some (r, S9)) : MI l yX3_letter hsX3_letter rmX3_letter (dC, dI) cI cZ (wC q cI) S [.ref (q 0), .int a1, .int a2] r S9 := by
  refine MI.ofW (cc := cX3_letter) (maxL := 3) (ret := (some .int)) (by decide +kernel) rfl (Nat.le_of_ble_eq_true rfl) ?_
  intro p e s m below meth c A cx hr hlk hw ls hl
  have hx := cx.1.1
  have hb := cx.1.2.1
  have hml := cx.1.2.2.1
  have hts := cx.1.2.2.2.2
  have hta : ∀ z ∈ hALL, z.before _ s = true := fun z h => hts z (List.mem_cons_of_mem _ h)
  have lk30 : (Cond.fieldLink RX3 30 (TX3 2).1 (TX3 2).2.1 (TX3 2).2.2.1).before _ s = true := hta _ wdF_X3_30
  have hl : lv_has ls 3 [(0, .ref (q 0)), (1, .int a1), (2, .int a2)] := hl
  unfold f_X3_letter at h
  refine lv_iload_n hx hb dX3_letter_0 rfl (lv_at hl 1 rfl) ?_
  obtain ⟨r1, e2, h⟩ := h_bd_ok h
  refine h_callS cx.1 (c_X3_isBox l a1 r1 e2) (va_cwS 1 hts (hgA (hcS wdL_X3_37 wdT_X3_isBox wdN_RX3 wdC_X3_isBox)) rfl rfl rfl pdX3_isBox.2 ⟨Nat.le_of_ble_eq_true rfl, Nat.le_of_ble_eq_true rfl⟩) rfl hl.1 rfl (Nat.le_of_ble_eq_true rfl) dX3_letter_1 ⟨Nat.zero_le _, Nat.zero_le _⟩ ?_
  refine lv_if_eq (tgt := 14) hx hb dX3_letter_4 (by decide) (fun c3 => ?_) (fun c3 => ?_)
  · have h := h_ifp c3 h
    refine lv_iconst (v := (-1)) hx hb dX3_letter_14 (by decide) ?_
    exact h_iret cx hw hr hlk rfl (congrArg Prod.fst (Option.some.inj h)) (congrArg Prod.snd (Option.some.inj h)) dX3_letter_15
  · have h := h_ifn c3 h
    refine lv_iload_n hx hb dX3_letter_7 rfl (lv_at hl 2 rfl) ?_
    obtain ⟨r4, e5, h⟩ := h_bd_ok h
    refine h_callS cx.1 (c_X3_isClass l a2 r4 e5) (va_cwS 1 hts (hgA (hcS wdL_X3_89 wdT_X3_isClass wdN_RX3 wdC_X3_isClass)) rfl rfl rfl pdX3_isClass.2 ⟨Nat.le_of_ble_eq_true rfl, Nat.le_of_ble_eq_true rfl⟩) rfl hl.1 rfl (Nat.le_of_ble_eq_true rfl) dX3_letter_8 ⟨Nat.zero_le _, Nat.zero_le _⟩ ?_
    refine lv_if_ne (tgt := 16) hx hb dX3_letter_11 (by decide) (fun c6 => ?_) (fun c6 => ?_)
    · have h := h_ifn c6 h
      refine lv_aload_n hx hb dX3_letter_16 rfl (lv_at hl 0 rfl) ?_
      refine h_get (v := .ref (q 3)) cx hw 0 (wC_p0 q cI S) rfl hinX3 2 (by decide) lk30 rfl dX3_letter_17 ?_
      refine lv_iload_n hx hb dX3_letter_20 rfl (lv_at hl 1 rfl) ?_
      refine lv_iload_n hx hb dX3_letter_21 rfl (lv_at hl 2 rfl) ?_
      obtain ⟨r7, S9, e8, h⟩ := h_bi_ok h
      refine h_callI cx hw (c_X2_walkT l dC dI cI cZ q S a1 a2 r7 S9 e8) (cwV 2 hts (hgA (hcV wdL_X3_151 wdI_X2_walk wdS_X2_walk wdN_RX2 wdC_X2_walk)) rfl rfl rfl pdX2_walk ⟨Nat.le_of_ble_eq_true rfl, Nat.le_of_ble_eq_true rfl⟩) 3 (wC_p3 q cI S) rfl rfl rfl hl.1 rfl (Nat.le_of_ble_eq_true rfl) dX3_letter_22 ⟨Nat.zero_le _, Nat.zero_le _⟩ (fun H locs hw => ?_)
      exact h_iret cx hw hr hlk rfl (congrArg Prod.fst (Option.some.inj h)) (congrArg Prod.snd (Option.some.inj h)) dX3_letter_25
    · have h := h_ifp c6 h
      refine lv_iconst (v := (-1)) hx hb dX3_letter_14 (by decide) ?_
      exact h_iret cx hw hr hlk rfl (congrArg Prod.fst (Option.some.inj h)) (congrArg Prod.snd (Option.some.inj h)) dX3_letter_15
set_option maxHeartbeats 4000000 in
set_option maxRecDepth 100000 in
theorem c_X3_trace (l : Launch) (dC : Nat → ClassId) (dI : Nat → Nat → Nat) (cI cZ : ClassId) (q : Nat → Nat) (S : HSt) (a1 a2 : Int32) (r : Int32) (h : f_X3_trace S a1 a2 = some r) : MI l yX3_trace hsX3_trace rmX3_trace (dC, dI) cI cZ (wC q cI) S [.ref (q 0), .int a1, .int a2] r S := by
  refine MI.ofW (cc := cX3_trace) (maxL := 3) (ret := (some .int)) (by decide +kernel) rfl (Nat.le_of_ble_eq_true rfl) ?_
  intro p e s m below meth c A cx hr hlk hw ls hl
  have hx := cx.1.1
  have hb := cx.1.2.1
  have hml := cx.1.2.2.1
  have hts := cx.1.2.2.2.2
  have hta : ∀ z ∈ hALL, z.before _ s = true := fun z h => hts z (List.mem_cons_of_mem _ h)
  have lk154 : (Cond.fieldLink RX3 154 (TX2 2).1 (TX2 2).2.1 (TX2 2).2.2.1).before _ s = true := hta _ wdF_X3_154
  have lk157 : (Cond.fieldLink RX3 157 (TX2 3).1 (TX2 3).2.1 (TX2 3).2.2.1).before _ s = true := hta _ wdF_X3_157
  have lk160 : (Cond.fieldLink RX3 160 (TX2 4).1 (TX2 4).2.1 (TX2 4).2.2.1).before _ s = true := hta _ wdF_X3_160
  have lk30 : (Cond.fieldLink RX3 30 (TX3 2).1 (TX3 2).2.1 (TX3 2).2.2.1).before _ s = true := hta _ wdF_X3_30
  have hl : lv_has ls 3 [(0, .ref (q 0)), (1, .int a1), (2, .int a2)] := hl
  unfold f_X3_trace at h
  refine lv_iload_n hx hb dX3_trace_0 rfl (lv_at hl 1 rfl) ?_
  refine lv_if_lt (tgt := 19) hx hb dX3_trace_1 (by decide) (fun c1 => ?_) (fun c1 => ?_)
  · have h := h_ifp c1 h
    refine lv_bipush (v := (-2)) hx hb dX3_trace_19 (by decide) ?_
    exact h_iret cx hw hr hlk rfl (Option.some.inj h) rfl dX3_trace_21
  · have h := h_ifn c1 h
    refine lv_iload_n hx hb dX3_trace_4 rfl (lv_at hl 1 rfl) ?_
    refine lv_bipush (v := 14) hx hb dX3_trace_5 (by decide) ?_
    refine lv_icmp_gt (tgt := 19) hx hb dX3_trace_7 (by decide) (fun c2 => ?_) (fun c2 => ?_)
    · have h := h_ifp c2 h
      refine lv_bipush (v := (-2)) hx hb dX3_trace_19 (by decide) ?_
      exact h_iret cx hw hr hlk rfl (Option.some.inj h) rfl dX3_trace_21
    · have h := h_ifn c2 h
      refine lv_iload_n hx hb dX3_trace_10 rfl (lv_at hl 2 rfl) ?_
      refine lv_if_lt (tgt := 19) hx hb dX3_trace_11 (by decide) (fun c3 => ?_) (fun c3 => ?_)
      · have h := h_ifp c3 h
        refine lv_bipush (v := (-2)) hx hb dX3_trace_19 (by decide) ?_
        exact h_iret cx hw hr hlk rfl (Option.some.inj h) rfl dX3_trace_21
      · have h := h_ifn c3 h
        refine lv_iload_n hx hb dX3_trace_14 rfl (lv_at hl 2 rfl) ?_
        refine lv_iconst (v := 1) hx hb dX3_trace_15 (by decide) ?_
        refine lv_icmp_le (tgt := 22) hx hb dX3_trace_16 (by decide) (fun c4 => ?_) (fun c4 => ?_)
        · have h := h_ifp c4 h
          refine lv_iload_n hx hb dX3_trace_22 rfl (lv_at hl 1 rfl) ?_
          refine lv_aload_n hx hb dX3_trace_23 rfl (lv_at hl 0 rfl) ?_
          refine h_get (v := .ref (q 3)) cx hw 0 (wC_p0 q cI S) rfl hinX3 2 (by decide) lk30 rfl dX3_trace_24 ?_
          refine h_get (v := .int (S.1 4)) cx hw 3 (wC_p3 q cI S) rfl hinX2 2 (by decide) lk154 rfl dX3_trace_27 ?_
          refine lv_icmp_lt (tgt := 36) hx hb dX3_trace_30 (by decide) (fun c5 => ?_) (fun c5 => ?_)
          · have h := h_ifp c5 h
            refine lv_iload_n hx hb dX3_trace_36 rfl (lv_at hl 2 rfl) ?_
            refine lv_if_ne (tgt := 52) hx hb dX3_trace_37 (by decide) (fun c6 => ?_) (fun c6 => ?_)
            · have h := h_ifn c6 h
              refine lv_aload_n hx hb dX3_trace_52 rfl (lv_at hl 0 rfl) ?_
              refine h_get (v := .ref (q 3)) cx hw 0 (wC_p0 q cI S) rfl hinX3 2 (by decide) lk30 rfl dX3_trace_53 ?_
              refine h_get (v := .ref (q 20)) cx hw 3 (wC_p3 q cI S) rfl hinX2 4 (by decide) lk160 rfl dX3_trace_56 ?_
              refine lv_iload_n hx hb dX3_trace_59 rfl (lv_at hl 1 rfl) ?_
              obtain ⟨v7, e8, h⟩ := h_bd_ok h
              refine h_ald cx hw 20 (wC_p20 q cI S) e8 dX3_trace_60 ?_
              exact h_iret cx hw hr hlk rfl (Option.some.inj h) rfl dX3_trace_61
            · have h := h_ifp c6 h
              refine lv_aload_n hx hb dX3_trace_40 rfl (lv_at hl 0 rfl) ?_
              refine h_get (v := .ref (q 3)) cx hw 0 (wC_p0 q cI S) rfl hinX3 2 (by decide) lk30 rfl dX3_trace_41 ?_
              refine h_get (v := .ref (q 19)) cx hw 3 (wC_p3 q cI S) rfl hinX2 3 (by decide) lk157 rfl dX3_trace_44 ?_
              refine lv_iload_n hx hb dX3_trace_47 rfl (lv_at hl 1 rfl) ?_
              obtain ⟨v9, e10, h⟩ := h_bd_ok h
              refine h_ald cx hw 19 (wC_p19 q cI S) e10 dX3_trace_48 ?_
              refine lv_goto (tgt := 61) hx hb dX3_trace_49 (by decide) ?_
              exact h_iret cx hw hr hlk rfl (Option.some.inj h) rfl dX3_trace_61
          · have h := h_ifn c5 h
            refine lv_bipush (v := (-9)) hx hb dX3_trace_33 (by decide) ?_
            exact h_iret cx hw hr hlk rfl (Option.some.inj h) rfl dX3_trace_35
        · have h := h_ifn c4 h
          refine lv_bipush (v := (-2)) hx hb dX3_trace_19 (by decide) ?_
          exact h_iret cx hw hr hlk rfl (Option.some.inj h) rfl dX3_trace_21
set_option maxHeartbeats 4000000 in
set_option maxRecDepth 100000 in
theorem c_X3_isServed (l : Launch) (dC : Nat → ClassId) (dI : Nat → Nat → Nat) (cI cZ : ClassId) (q : Nat → Nat) (S : HSt) (a1 a2 a3 : Int32) (r : Int32) (S9 : HSt) (h : f_X3_isServed S a1 a2 a3 = some (r, S9)) : MI l yX3_isServed hsX3_isServed rmX3_isServed (dC, dI) cI cZ (wC q cI) S [.ref (q 0), .int a1, .int a2, .int a3] r S9 := by
  refine MI.ofW (cc := cX3_isServed) (maxL := 5) (ret := (some .boolean)) (by decide +kernel) rfl (Nat.le_of_ble_eq_true rfl) ?_
  intro p e s m below meth c A cx hr hlk hw ls hl
  have hx := cx.1.1
  have hb := cx.1.2.1
  have hml := cx.1.2.2.1
  have hts := cx.1.2.2.2.2
  have hta : ∀ z ∈ hALL, z.before _ s = true := fun z h => hts z (List.mem_cons_of_mem _ h)
  have lk34 : (Cond.fieldLink RX3 34 (TX3 3).1 (TX3 3).2.1 (TX3 3).2.2.1).before _ s = true := hta _ wdF_X3_34
  have hl : lv_has ls 5 [(0, .ref (q 0)), (1, .int a1), (2, .int a2), (3, .int a3)] := hl
  unfold f_X3_isServed at h
  have kk17 : ∀ (S : HSt) (x3 t0 : Int32), f_X3_isServed_17 S x3 t0 = some (r, S9) → ∀ (H : Heap) (locs : List Loc) (ls : Array Slot), HW (dC, dI) (wC q cI) S A s H locs → lv_has ls 5 [(0, .ref (q 0)), (3, .int x3)] → W p l e rmX3_isServed s m ([.ref (q 0), .int a1, .int a2, .int a3] : List Value).toArray below meth c H locs 0 0 (MQ below (QI (dC, dI) (wC q cI) r S9 A) ([.ref (q 0), .int a1, .int a2, .int a3] : List Value).toArray s 0 0 A) (F0 m 17 ls [.int t0]) := by
    intro S x3 t0 h H locs ls hw hl
    unfold f_X3_isServed_17 at h
    refine lv_istore (lv' := [(4, .int t0), (0, .ref (q 0)), (3, .int x3)]) hx hb dX3_isServed_17 hl (by decide) rfl (fun ls hl => ?_)
    refine lv_iload_n hx hb dX3_isServed_19 rfl (lv_at hl 2 rfl) ?_
    refine lv_if_ne (tgt := 26) hx hb dX3_isServed_20 (by decide) (fun c1 => ?_) (fun c1 => ?_)
    · have h := h_ifn c1 h
      refine lv_iload_n hx hb dX3_isServed_26 rfl (lv_at hl 2 rfl) ?_
      refine lv_iconst (v := 1) hx hb dX3_isServed_27 (by decide) ?_
      refine lv_icmp_ne (tgt := 42) hx hb dX3_isServed_28 (by decide) (fun c2 => ?_) (fun c2 => ?_)
      · have h := h_ifn c2 h
        refine lv_iload hx hb dX3_isServed_42 (lv_at hl 0 rfl) ?_
        refine lv_if_eq (tgt := 61) hx hb dX3_isServed_44 (by decide) (fun c3 => ?_) (fun c3 => ?_)
        · have h := h_ifp c3 h
          refine lv_iconst (v := 0) hx hb dX3_isServed_61 (by decide) ?_
          exact h_iret cx hw hr hlk rfl (congrArg Prod.fst (Option.some.inj h)) (congrArg Prod.snd (Option.some.inj h)) dX3_isServed_62
        · have h := h_ifn c3 h
          refine lv_aload_n hx hb dX3_isServed_47 rfl (lv_at hl 1 rfl) ?_
          refine h_get (v := .ref (q 4)) cx hw 0 (wC_p0 q cI S) rfl hinX3 3 (by decide) lk34 rfl dX3_isServed_48 ?_
          obtain ⟨r4, e5, h⟩ := h_bd_ok h
          refine h_callI cx hw (c_X2_labelledBetweenR l dC dI cI cZ q S r4 e5) (cwV 0 hts (hgA (hcV wdL_X3_183 wdI_X2_labelledBetween wdS_X2_labelledBetween wdN_RX2 wdC_X2_labelledBetween)) rfl rfl rfl pdX2_labelledBetween ⟨Nat.le_of_ble_eq_true rfl, Nat.le_of_ble_eq_true rfl⟩) 4 (wC_p4 q cI S) rfl rfl rfl hl.1 rfl (Nat.le_of_ble_eq_true rfl) dX3_isServed_51 ⟨Nat.zero_le _, Nat.zero_le _⟩ (fun H locs hw => ?_)
          refine lv_if_eq (tgt := 61) hx hb dX3_isServed_54 (by decide) (fun c6 => ?_) (fun c6 => ?_)
          · have h := h_ifp c6 h
            refine lv_iconst (v := 0) hx hb dX3_isServed_61 (by decide) ?_
            exact h_iret cx hw hr hlk rfl (congrArg Prod.fst (Option.some.inj h)) (congrArg Prod.snd (Option.some.inj h)) dX3_isServed_62
          · have h := h_ifn c6 h
            refine lv_iconst (v := 1) hx hb dX3_isServed_57 (by decide) ?_
            refine lv_goto (tgt := 62) hx hb dX3_isServed_58 (by decide) ?_
            exact h_iret cx hw hr hlk rfl (congrArg Prod.fst (Option.some.inj h)) (congrArg Prod.snd (Option.some.inj h)) dX3_isServed_62
      · have h := h_ifp c2 h
        refine lv_iload hx hb dX3_isServed_31 (lv_at hl 0 rfl) ?_
        refine lv_if_ne (tgt := 40) hx hb dX3_isServed_33 (by decide) (fun c7 => ?_) (fun c7 => ?_)
        · have h := h_ifn c7 h
          refine lv_iconst (v := 0) hx hb dX3_isServed_40 (by decide) ?_
          exact h_iret cx hw hr hlk rfl (congrArg Prod.fst (Option.some.inj h)) (congrArg Prod.snd (Option.some.inj h)) dX3_isServed_41
        · have h := h_ifp c7 h
          refine lv_iconst (v := 1) hx hb dX3_isServed_36 (by decide) ?_
          refine lv_goto (tgt := 41) hx hb dX3_isServed_37 (by decide) ?_
          exact h_iret cx hw hr hlk rfl (congrArg Prod.fst (Option.some.inj h)) (congrArg Prod.snd (Option.some.inj h)) dX3_isServed_41
    · have h := h_ifp c1 h
      refine lv_iload hx hb dX3_isServed_23 (lv_at hl 0 rfl) ?_
      obtain ⟨hb9, h⟩ := h_b_ok h
      exact h_iret cx hw hr hlk (h_nb hb9) (congrArg Prod.fst (Option.some.inj h)) (congrArg Prod.snd (Option.some.inj h)) dX3_isServed_25
  refine lv_aload_n hx hb dX3_isServed_0 rfl (lv_at hl 0 rfl) ?_
  refine h_get (v := .ref (q 4)) cx hw 0 (wC_p0 q cI S) rfl hinX3 3 (by decide) lk34 rfl dX3_isServed_1 ?_
  refine lv_iload_n hx hb dX3_isServed_4 rfl (lv_at hl 1 rfl) ?_
  refine lv_iload_n hx hb dX3_isServed_5 rfl (lv_at hl 2 rfl) ?_
  obtain ⟨r1, S3, e2, h⟩ := h_bi_ok h
  refine h_callI cx hw (c_X2_walkR l dC dI cI cZ q S a1 a2 r1 S3 e2) (cwV 2 hts (hgA (hcV wdL_X3_151 wdI_X2_walk wdS_X2_walk wdN_RX2 wdC_X2_walk)) rfl rfl rfl pdX2_walk ⟨Nat.le_of_ble_eq_true rfl, Nat.le_of_ble_eq_true rfl⟩) 4 (wC_p4 q cI S) rfl rfl rfl hl.1 rfl (Nat.le_of_ble_eq_true rfl) dX3_isServed_6 ⟨Nat.zero_le _, Nat.zero_le _⟩ (fun H locs hw => ?_)
  refine lv_if_ne (tgt := 16) hx hb dX3_isServed_9 (by decide) (fun c4 => ?_) (fun c4 => ?_)
  · have h := h_ifn c4 h
    refine lv_iconst (v := 0) hx hb dX3_isServed_16 (by decide) ?_
    exact kk17 _ _ _ h _ _ _ hw (lv_sub hl [0, 3] rfl)
  · have h := h_ifp c4 h
    refine lv_iconst (v := 1) hx hb dX3_isServed_12 (by decide) ?_
    refine lv_goto (tgt := 17) hx hb dX3_isServed_13 (by decide) ?_
    exact kk17 _ _ _ h _ _ _ hw (lv_sub hl [0, 3] rfl)
