set_option maxHeartbeats 4000000 in
set_option maxRecDepth 100000 in
theorem c_X4_nextOf (l : Launch) (dC : Nat → ClassId) (dI : Nat → Nat → Nat) (cI cZ : ClassId) (q : Nat → Nat) (S : HSt) (a1 a2 : Int32) (r : Int32) (S9 : HSt) (h : f_X4_nextOf S a1 a2 = some (r, S9)) : MI l yX4_nextOf hsX4_nextOf rmX4_nextOf (dC, dI) cI cZ (wM q cI cZ) S [.ref (q 0), .int a1, .int a2] r S9 := by
  refine MI.ofW (cc := cX4_nextOf) (maxL := 5) (ret := (some .int)) (by decide +kernel) rfl (Nat.le_of_ble_eq_true rfl) ?_
  intro p e s m below meth c A cx hr hlk hw ls hl
  have hx := cx.1.1
  have hb := cx.1.2.1
  have hml := cx.1.2.2.1
  have hts := cx.1.2.2.2.2
  have hta : ∀ z ∈ hALL, z.before _ s = true := fun z h => hts z (List.mem_cons_of_mem _ h)
  have lk16 : (Cond.fieldLink RX4 16 (TX4 3).1 (TX4 3).2.1 (TX4 3).2.2.1).before _ s = true := hta _ wdF_X4_16
  have lk19 : (Cond.fieldLink RX4 19 (TX4 4).1 (TX4 4).2.1 (TX4 4).2.2.1).before _ s = true := hta _ wdF_X4_19
  have lk26 : (Cond.fieldLink RX4 26 (TX4 6).1 (TX4 6).2.1 (TX4 6).2.2.1).before _ s = true := hta _ wdF_X4_26
  have hl : lv_has ls 5 [(0, .ref (q 0)), (1, .int a1), (2, .int a2)] := hl
  unfold f_X4_nextOf at h
  have kk7 : ∀ (n7 : Nat) (S : HSt) (x1 x3 : Int32), f_X4_nextOf_7 n7 S x1 x3 = some (r, S9) → ∀ (H : Heap) (locs : List Loc) (ls : Array Slot), HW (dC, dI) (wM q cI cZ) S A s H locs → lv_has ls 5 [(0, .ref (q 0)), (1, .int x1), (3, .int x3)] → W p l e rmX4_nextOf s m ([.ref (q 0), .int a1, .int a2] : List Value).toArray below meth c H locs 0 0 (MQ below (QI (dC, dI) (wM q cI cZ) r S9 A) ([.ref (q 0), .int a1, .int a2] : List Value).toArray s 0 0 A) (F0 m 7 ls []) := by
    intro n7
    induction n7 with
    | zero =>
      intro S x1 x3 h
      have h9 : (none : Option (Int32 × HSt)) = some (r, S9) := h
      cases h9
    | succ n7 ih7 =>
      intro S x1 x3 h H locs ls hw hl
      have h : f_X4_nextOf_7_s (f_X4_nextOf_7 n7) S x1 x3 = some (r, S9) := h
      unfold f_X4_nextOf_7_s at h
      have kk84 : ∀ (S : HSt) (x1 x3 : Int32), f_X4_nextOf_84 (f_X4_nextOf_7 n7) S x1 x3 = some (r, S9) → ∀ (H : Heap) (locs : List Loc) (ls : Array Slot), HW (dC, dI) (wM q cI cZ) S A s H locs → lv_has ls 5 [(0, .ref (q 0)), (1, .int x1), (3, .int x3)] → W p l e rmX4_nextOf s m ([.ref (q 0), .int a1, .int a2] : List Value).toArray below meth c H locs 0 0 (MQ below (QI (dC, dI) (wM q cI cZ) r S9 A) ([.ref (q 0), .int a1, .int a2] : List Value).toArray s 0 0 A) (F0 m 84 ls []) := by
        intro S x1 x3 h H locs ls hw hl
        unfold f_X4_nextOf_84 at h
        refine lv_iinc (v := x3 + 1) (lv' := [(3, .int (x3 + 1)), (0, .ref (q 0)), (1, .int x1)]) hx hb dX4_nextOf_84 hl (k := 2) rfl rfl (by decide) rfl (fun ls hl => ?_)
        refine lv_goto (tgt := 7) hx hb dX4_nextOf_87 (by decide) ?_
        exact ih7 _ _ _ h _ _ _ hw (lv_sub hl [1, 2, 0] rfl)
      refine lv_iload_n hx hb dX4_nextOf_7 rfl (lv_at hl 2 rfl) ?_
      refine lv_bipush (v := 7) hx hb dX4_nextOf_8 (by decide) ?_
      refine lv_icmp_ge (tgt := 90) hx hb dX4_nextOf_10 (by decide) (fun c1 => ?_) (fun c1 => ?_)
      · have h := h_ifp c1 h
        refine lv_bipush (v := (-9)) hx hb dX4_nextOf_90 (by decide) ?_
        exact h_iret cx hw hr hlk rfl (congrArg Prod.fst (Option.some.inj h)) (congrArg Prod.snd (Option.some.inj h)) dX4_nextOf_92
      · have h := h_ifn c1 h
        refine lv_aload_n hx hb dX4_nextOf_13 rfl (lv_at hl 0 rfl) ?_
        refine h_get (v := .ref (q 6)) cx hw 0 (wM_p0 q cI cZ S) rfl hinX4 6 (by decide) lk26 rfl dX4_nextOf_14 ?_
        refine lv_iload_n hx hb dX4_nextOf_17 rfl (lv_at hl 1 rfl) ?_
        obtain ⟨v2, e3, h⟩ := h_bd_ok h
        refine h_ald cx hw 6 (wM_p6 q cI cZ S) e3 dX4_nextOf_18 ?_
        refine lv_if_le (tgt := 90) hx hb dX4_nextOf_19 (by decide) (fun c4 => ?_) (fun c4 => ?_)
        · have h := h_ifp c4 h
          refine lv_bipush (v := (-9)) hx hb dX4_nextOf_90 (by decide) ?_
          exact h_iret cx hw hr hlk rfl (congrArg Prod.fst (Option.some.inj h)) (congrArg Prod.snd (Option.some.inj h)) dX4_nextOf_92
        · have h := h_ifn c4 h
          refine lv_aload_n hx hb dX4_nextOf_22 rfl (lv_at hl 0 rfl) ?_
          refine h_get (v := .ref (q 6)) cx hw 0 (wM_p0 q cI cZ S) rfl hinX4 6 (by decide) lk26 rfl dX4_nextOf_23 ?_
          refine lv_iload_n hx hb dX4_nextOf_26 rfl (lv_at hl 1 rfl) ?_
          obtain ⟨v5, e6, h⟩ := h_bd_ok h
          refine h_ald cx hw 6 (wM_p6 q cI cZ S) e6 dX4_nextOf_27 ?_
          refine lv_sipush (v := 1000) hx hb dX4_nextOf_28 (by decide) ?_
          refine lv_icmp_ge (tgt := 90) hx hb dX4_nextOf_31 (by decide) (fun c7 => ?_) (fun c7 => ?_)
          · have h := h_ifp c7 h
            refine lv_bipush (v := (-9)) hx hb dX4_nextOf_90 (by decide) ?_
            exact h_iret cx hw hr hlk rfl (congrArg Prod.fst (Option.some.inj h)) (congrArg Prod.snd (Option.some.inj h)) dX4_nextOf_92
          · have h := h_ifn c7 h
            refine lv_aload_n hx hb dX4_nextOf_34 rfl (lv_at hl 0 rfl) ?_
            refine lv_iload_n hx hb dX4_nextOf_35 rfl (lv_at hl 1 rfl) ?_
            refine lv_iload_n hx hb dX4_nextOf_36 rfl (lv_at hl 2 rfl) ?_
            obtain ⟨r8, e9, h⟩ := h_bd_ok h
            refine h_callI cx hw (c_X4_linkBetween l dC dI cI cZ q S x1 x3 r8 e9) (cwV 2 hts (hgA (hcV wdL_X4_92 wdI_X4_linkBetween wdS_X4_linkBetween wdN_RX4 wdC_X4_linkBetween)) rfl rfl rfl pdX4_linkBetween ⟨Nat.le_of_ble_eq_true rfl, Nat.le_of_ble_eq_true rfl⟩) 0 (wM_p0 q cI cZ S) rfl rfl rfl hl.1 rfl (Nat.le_of_ble_eq_true rfl) dX4_nextOf_37 ⟨Nat.zero_le _, Nat.zero_le _⟩ (fun H locs hw => ?_)
            refine lv_istore (lv' := [(4, .int r8), (0, .ref (q 0)), (1, .int x1), (3, .int x3)]) hx hb dX4_nextOf_40 hl (by decide) rfl (fun ls hl => ?_)
            refine lv_iload hx hb dX4_nextOf_42 (lv_at hl 0 rfl) ?_
            refine lv_bipush (v := (-9)) hx hb dX4_nextOf_44 (by decide) ?_
            refine lv_icmp_eq (tgt := 84) hx hb dX4_nextOf_46 (by decide) (fun c10 => ?_) (fun c10 => ?_)
            · have h := h_ifp c10 h
              exact kk84 _ _ _ h _ _ _ hw (lv_sub hl [1, 2, 3] rfl)
            · have h := h_ifn c10 h
              refine lv_aload_n hx hb dX4_nextOf_49 rfl (lv_at hl 1 rfl) ?_
              refine h_get (v := .ref (q 4)) cx hw 0 (wM_p0 q cI cZ S) rfl hinX4 4 (by decide) lk19 rfl dX4_nextOf_50 ?_
              refine lv_iload hx hb dX4_nextOf_53 (lv_at hl 0 rfl) ?_
              obtain ⟨v11, e12, h⟩ := h_bd_ok h
              refine h_aldz cx hw 4 (wM_p4 q cI cZ S) e12 dX4_nextOf_55 ?_
              refine lv_if_eq (tgt := 84) hx hb dX4_nextOf_56 (by decide) (fun c13 => ?_) (fun c13 => ?_)
              · have h := h_ifp c13 h
                exact kk84 _ _ _ h _ _ _ hw (lv_sub hl [1, 2, 3] rfl)
              · have h := h_ifn c13 h
                refine lv_aload_n hx hb dX4_nextOf_59 rfl (lv_at hl 1 rfl) ?_
                refine h_get (v := .ref (q 6)) cx hw 0 (wM_p0 q cI cZ S) rfl hinX4 6 (by decide) lk26 rfl dX4_nextOf_60 ?_
                refine lv_iload_n hx hb dX4_nextOf_63 rfl (lv_at hl 3 rfl) ?_
                obtain ⟨v14, e15, h⟩ := h_bd_ok h
                refine h_ald cx hw 6 (wM_p6 q cI cZ S) e15 dX4_nextOf_64 ?_
                refine lv_aload_n hx hb dX4_nextOf_65 rfl (lv_at hl 1 rfl) ?_
                refine h_get (v := .ref (q 3)) cx hw 0 (wM_p0 q cI cZ S) rfl hinX4 3 (by decide) lk16 rfl dX4_nextOf_66 ?_
                refine lv_iload hx hb dX4_nextOf_69 (lv_at hl 0 rfl) ?_
                obtain ⟨v16, e17, h⟩ := h_bd_ok h
                refine h_ald cx hw 3 (wM_p3 q cI cZ S) e17 dX4_nextOf_71 ?_
                refine lv_iadd hx hb dX4_nextOf_72 ?_
                refine lv_aload_n hx hb dX4_nextOf_73 rfl (lv_at hl 1 rfl) ?_
                refine h_get (v := .ref (q 6)) cx hw 0 (wM_p0 q cI cZ S) rfl hinX4 6 (by decide) lk26 rfl dX4_nextOf_74 ?_
                refine lv_iload_n hx hb dX4_nextOf_77 rfl (lv_at hl 2 rfl) ?_
                obtain ⟨v18, e19, h⟩ := h_bd_ok h
                refine h_ald cx hw 6 (wM_p6 q cI cZ S) e19 dX4_nextOf_78 ?_
                refine lv_icmp_ne (tgt := 84) hx hb dX4_nextOf_79 (by decide) (fun c20 => ?_) (fun c20 => ?_)
                · have h := h_ifn c20 h
                  exact kk84 _ _ _ h _ _ _ hw (lv_sub hl [1, 2, 3] rfl)
                · have h := h_ifp c20 h
                  refine lv_iload_n hx hb dX4_nextOf_82 rfl (lv_at hl 3 rfl) ?_
                  exact h_iret cx hw hr hlk rfl (congrArg Prod.fst (Option.some.inj h)) (congrArg Prod.snd (Option.some.inj h)) dX4_nextOf_83
  refine lv_aload_n hx hb dX4_nextOf_0 rfl (lv_at hl 0 rfl) ?_
  refine lv_iload_n hx hb dX4_nextOf_1 rfl (lv_at hl 2 rfl) ?_
  obtain ⟨S3, e2, h⟩ := h_bd_ok h
  refine h_callV cx hw (c_X4_findFar l dC dI cI cZ q S a2 S3 e2) (cwV 1 hts (hgA (hcV wdL_X4_102 wdI_X4_findFar wdS_X4_findFar wdN_RX4 wdC_X4_findFar)) rfl rfl rfl pdX4_findFar ⟨Nat.le_of_ble_eq_true rfl, Nat.le_of_ble_eq_true rfl⟩) 0 (wM_p0 q cI cZ S) rfl rfl rfl hl.1 rfl (Nat.le_of_ble_eq_true rfl) dX4_nextOf_2 ⟨Nat.zero_le _, Nat.zero_le _⟩ (fun H locs hw => ?_)
  refine lv_iconst (v := 0) hx hb dX4_nextOf_5 (by decide) ?_
  refine lv_istore_n (lv' := [(3, .int 0), (0, .ref (q 0)), (1, .int a1), (2, .int a2)]) hx hb dX4_nextOf_6 rfl hl (by decide) rfl (fun ls hl => ?_)
  exact kk7 h_fu _ _ _ h _ _ _ hw (lv_sub hl [1, 2, 0] rfl)
set_option maxHeartbeats 4000000 in
set_option maxRecDepth 100000 in
theorem c_X4_next (l : Launch) (dC : Nat → ClassId) (dI : Nat → Nat → Nat) (cI cZ : ClassId) (q : Nat → Nat) (S : HSt) (a1 a2 : Int32) (r : Int32) (S9 : HSt) (h : f_X4_next S a1 a2 = some (r, S9)) : MI l yX4_next hsX4_next rmX4_next (dC, dI) cI cZ (wM q cI cZ) S [.ref (q 0), .int a1, .int a2] r S9 := by
  refine MI.ofW (cc := cX4_next) (maxL := 3) (ret := (some .int)) (by decide +kernel) rfl (Nat.le_of_ble_eq_true rfl) ?_
  intro p e s m below meth c A cx hr hlk hw ls hl
  have hx := cx.1.1
  have hb := cx.1.2.1
  have hml := cx.1.2.2.1
  have hts := cx.1.2.2.2.2
  have hta : ∀ z ∈ hALL, z.before _ s = true := fun z h => hts z (List.mem_cons_of_mem _ h)
  have hl : lv_has ls 3 [(0, .ref (q 0)), (1, .int a1), (2, .int a2)] := hl
  unfold f_X4_next at h
  refine lv_iload_n hx hb dX4_next_0 rfl (lv_at hl 1 rfl) ?_
  obtain ⟨r1, e2, h⟩ := h_bd_ok h
  refine h_callS cx.1 (c_X4_isBox l a1 r1 e2) (va_cwS 1 hts (hgA (hcS wdL_X4_88 wdT_X4_isBox wdN_RX4 wdC_X4_isBox)) rfl rfl rfl pdX4_isBox.2 ⟨Nat.le_of_ble_eq_true rfl, Nat.le_of_ble_eq_true rfl⟩) rfl hl.1 rfl (Nat.le_of_ble_eq_true rfl) dX4_next_1 ⟨Nat.zero_le _, Nat.zero_le _⟩ ?_
  refine lv_if_eq (tgt := 23) hx hb dX4_next_4 (by decide) (fun c3 => ?_) (fun c3 => ?_)
  · have h := h_ifp c3 h
    refine lv_iconst (v := (-1)) hx hb dX4_next_23 (by decide) ?_
    exact h_iret cx hw hr hlk rfl (congrArg Prod.fst (Option.some.inj h)) (congrArg Prod.snd (Option.some.inj h)) dX4_next_24
  · have h := h_ifn c3 h
    refine lv_iload_n hx hb dX4_next_7 rfl (lv_at hl 2 rfl) ?_
    obtain ⟨r4, e5, h⟩ := h_bd_ok h
    refine h_callS cx.1 (c_X4_isClass l a2 r4 e5) (va_cwS 1 hts (hgA (hcS wdL_X4_99 wdT_X4_isClass wdN_RX4 wdC_X4_isClass)) rfl rfl rfl pdX4_isClass.2 ⟨Nat.le_of_ble_eq_true rfl, Nat.le_of_ble_eq_true rfl⟩) rfl hl.1 rfl (Nat.le_of_ble_eq_true rfl) dX4_next_8 ⟨Nat.zero_le _, Nat.zero_le _⟩ ?_
    refine lv_if_eq (tgt := 23) hx hb dX4_next_11 (by decide) (fun c6 => ?_) (fun c6 => ?_)
    · have h := h_ifp c6 h
      refine lv_iconst (v := (-1)) hx hb dX4_next_23 (by decide) ?_
      exact h_iret cx hw hr hlk rfl (congrArg Prod.fst (Option.some.inj h)) (congrArg Prod.snd (Option.some.inj h)) dX4_next_24
    · have h := h_ifn c6 h
      refine lv_aload_n hx hb dX4_next_14 rfl (lv_at hl 0 rfl) ?_
      refine lv_iload_n hx hb dX4_next_15 rfl (lv_at hl 1 rfl) ?_
      refine lv_iload_n hx hb dX4_next_16 rfl (lv_at hl 2 rfl) ?_
      obtain ⟨r7, S9, e8, h⟩ := h_bi_ok h
      refine h_callI cx hw (c_X4_nextOf l dC dI cI cZ q S a1 a2 r7 S9 e8) (cwV 2 hts (hgA (hcV wdL_X4_106 wdI_X4_nextOf wdS_X4_nextOf wdN_RX4 wdC_X4_nextOf)) rfl rfl rfl pdX4_nextOf ⟨Nat.le_of_ble_eq_true rfl, Nat.le_of_ble_eq_true rfl⟩) 0 (wM_p0 q cI cZ S) rfl rfl rfl hl.1 rfl (Nat.le_of_ble_eq_true rfl) dX4_next_17 ⟨Nat.zero_le _, Nat.zero_le _⟩ (fun H locs hw => ?_)
      refine lv_goto (tgt := 24) hx hb dX4_next_20 (by decide) ?_
      exact h_iret cx hw hr hlk rfl (congrArg Prod.fst (Option.some.inj h)) (congrArg Prod.snd (Option.some.inj h)) dX4_next_24
set_option maxHeartbeats 4000000 in
set_option maxRecDepth 100000 in
theorem c_X4_far (l : Launch) (dC : Nat → ClassId) (dI : Nat → Nat → Nat) (cI cZ : ClassId) (q : Nat → Nat) (S : HSt) (a1 a2 : Int32) (r : Int32) (S9 : HSt) (h : f_X4_far S a1 a2 = some (r, S9)) : MI l yX4_far hsX4_far rmX4_far (dC, dI) cI cZ (wM q cI cZ) S [.ref (q 0), .int a1, .int a2] r S9 := by
  refine MI.ofW (cc := cX4_far) (maxL := 3) (ret := (some .int)) (by decide +kernel) rfl (Nat.le_of_ble_eq_true rfl) ?_
  intro p e s m below meth c A cx hr hlk hw ls hl
  have hx := cx.1.1
  have hb := cx.1.2.1
  have hml := cx.1.2.2.1
  have hts := cx.1.2.2.2.2
  have hta : ∀ z ∈ hALL, z.before _ s = true := fun z h => hts z (List.mem_cons_of_mem _ h)
  have lk26 : (Cond.fieldLink RX4 26 (TX4 6).1 (TX4 6).2.1 (TX4 6).2.2.1).before _ s = true := hta _ wdF_X4_26
  have hl : lv_has ls 3 [(0, .ref (q 0)), (1, .int a1), (2, .int a2)] := hl
  unfold f_X4_far at h
  refine lv_iload_n hx hb dX4_far_0 rfl (lv_at hl 1 rfl) ?_
  obtain ⟨r1, e2, h⟩ := h_bd_ok h
  refine h_callS cx.1 (c_X4_isBox l a1 r1 e2) (va_cwS 1 hts (hgA (hcS wdL_X4_88 wdT_X4_isBox wdN_RX4 wdC_X4_isBox)) rfl rfl rfl pdX4_isBox.2 ⟨Nat.le_of_ble_eq_true rfl, Nat.le_of_ble_eq_true rfl⟩) rfl hl.1 rfl (Nat.le_of_ble_eq_true rfl) dX4_far_1 ⟨Nat.zero_le _, Nat.zero_le _⟩ ?_
  refine lv_if_eq (tgt := 14) hx hb dX4_far_4 (by decide) (fun c3 => ?_) (fun c3 => ?_)
  · have h := h_ifp c3 h
    refine lv_iconst (v := (-1)) hx hb dX4_far_14 (by decide) ?_
    exact h_iret cx hw hr hlk rfl (congrArg Prod.fst (Option.some.inj h)) (congrArg Prod.snd (Option.some.inj h)) dX4_far_15
  · have h := h_ifn c3 h
    refine lv_iload_n hx hb dX4_far_7 rfl (lv_at hl 2 rfl) ?_
    obtain ⟨r4, e5, h⟩ := h_bd_ok h
    refine h_callS cx.1 (c_X4_isClass l a2 r4 e5) (va_cwS 1 hts (hgA (hcS wdL_X4_99 wdT_X4_isClass wdN_RX4 wdC_X4_isClass)) rfl rfl rfl pdX4_isClass.2 ⟨Nat.le_of_ble_eq_true rfl, Nat.le_of_ble_eq_true rfl⟩) rfl hl.1 rfl (Nat.le_of_ble_eq_true rfl) dX4_far_8 ⟨Nat.zero_le _, Nat.zero_le _⟩ ?_
    refine lv_if_ne (tgt := 16) hx hb dX4_far_11 (by decide) (fun c6 => ?_) (fun c6 => ?_)
    · have h := h_ifn c6 h
      refine lv_aload_n hx hb dX4_far_16 rfl (lv_at hl 0 rfl) ?_
      refine lv_iload_n hx hb dX4_far_17 rfl (lv_at hl 2 rfl) ?_
      obtain ⟨S9, e8, h⟩ := h_bd_ok h
      refine h_callV cx hw (c_X4_findFar l dC dI cI cZ q S a2 S9 e8) (cwV 1 hts (hgA (hcV wdL_X4_102 wdI_X4_findFar wdS_X4_findFar wdN_RX4 wdC_X4_findFar)) rfl rfl rfl pdX4_findFar ⟨Nat.le_of_ble_eq_true rfl, Nat.le_of_ble_eq_true rfl⟩) 0 (wM_p0 q cI cZ S) rfl rfl rfl hl.1 rfl (Nat.le_of_ble_eq_true rfl) dX4_far_18 ⟨Nat.zero_le _, Nat.zero_le _⟩ (fun H locs hw => ?_)
      refine lv_aload_n hx hb dX4_far_21 rfl (lv_at hl 0 rfl) ?_
      refine h_get (v := .ref (q 6)) cx hw 0 (wM_p0 q cI cZ S9) rfl hinX4 6 (by decide) lk26 rfl dX4_far_22 ?_
      refine lv_iload_n hx hb dX4_far_25 rfl (lv_at hl 1 rfl) ?_
      obtain ⟨v10, e11, h⟩ := h_bd_ok h
      refine h_ald cx hw 6 (wM_p6 q cI cZ S9) e11 dX4_far_26 ?_
      refine lv_sipush (v := 1000) hx hb dX4_far_27 (by decide) ?_
      refine lv_icmp_ge (tgt := 42) hx hb dX4_far_30 (by decide) (fun c12 => ?_) (fun c12 => ?_)
      · have h := h_ifp c12 h
        refine lv_bipush (v := (-9)) hx hb dX4_far_42 (by decide) ?_
        exact h_iret cx hw hr hlk rfl (congrArg Prod.fst (Option.some.inj h)) (congrArg Prod.snd (Option.some.inj h)) dX4_far_44
      · have h := h_ifn c12 h
        refine lv_aload_n hx hb dX4_far_33 rfl (lv_at hl 0 rfl) ?_
        refine h_get (v := .ref (q 6)) cx hw 0 (wM_p0 q cI cZ S9) rfl hinX4 6 (by decide) lk26 rfl dX4_far_34 ?_
        refine lv_iload_n hx hb dX4_far_37 rfl (lv_at hl 1 rfl) ?_
        obtain ⟨v13, e14, h⟩ := h_bd_ok h
        refine h_ald cx hw 6 (wM_p6 q cI cZ S9) e14 dX4_far_38 ?_
        refine lv_goto (tgt := 44) hx hb dX4_far_39 (by decide) ?_
        exact h_iret cx hw hr hlk rfl (congrArg Prod.fst (Option.some.inj h)) (congrArg Prod.snd (Option.some.inj h)) dX4_far_44
    · have h := h_ifp c6 h
      refine lv_iconst (v := (-1)) hx hb dX4_far_14 (by decide) ?_
      exact h_iret cx hw hr hlk rfl (congrArg Prod.fst (Option.some.inj h)) (congrArg Prod.snd (Option.some.inj h)) dX4_far_15
set_option maxHeartbeats 4000000 in
set_option maxRecDepth 100000 in
theorem c_X4_at (l : Launch) (a0 a1 a2 : Int32) (r : Int32) (h : f_X4_at a0 a1 a2 = some r) : MS l yX4_at hsX4_at rmX4_at [.int a0, .int a1, .int a2] r := by
  refine MS.ofW (cc := cX4_at) (maxL := 3) (ret := (some .int)) (by decide +kernel) rfl (Nat.le_of_ble_eq_true rfl) ?_
  intro p e s m below meth c cf hr hlk ls hl
  have hx := cf.1
  have hb := cf.2.1
  have hml := cf.2.2.1
  have hts := cf.2.2.2.2
  have hta : ∀ z ∈ hALL, z.before _ s = true := fun z h => hts z (List.mem_cons_of_mem _ h)
  have hl : lv_has ls 3 [(0, .int a0), (1, .int a1), (2, .int a2)] := hl
  unfold f_X4_at at h
  refine lv_iconst (v := 4) hx hb dX4_at_0 (by decide) ?_
  refine lv_bipush (v := 12) hx hb dX4_at_1 (by decide) ?_
  refine lv_iload_n hx hb dX4_at_3 rfl (lv_at hl 0 rfl) ?_
  refine lv_imul hx hb dX4_at_4 ?_
  refine lv_iload_n hx hb dX4_at_5 rfl (lv_at hl 1 rfl) ?_
  refine lv_iadd hx hb dX4_at_6 ?_
  refine lv_imul hx hb dX4_at_7 ?_
  refine lv_iload_n hx hb dX4_at_8 rfl (lv_at hl 2 rfl) ?_
  refine lv_iadd hx hb dX4_at_9 ?_
  exact h_sret cf hr hlk rfl (Option.some.inj h) dX4_at_10
set_option maxHeartbeats 4000000 in
set_option maxRecDepth 100000 in
theorem c_X4_is (l : Launch) (dC : Nat → ClassId) (dI : Nat → Nat → Nat) (cI cZ : ClassId) (q : Nat → Nat) (S : HSt) (a1 a2 : Int32) (r : Int32) (h : f_X4_is S a1 a2 = some r) : MI l yX4_is hsX4_is rmX4_is (dC, dI) cI cZ (wM q cI cZ) S [.ref (q 0), .int a1, .int a2] r S := by
  refine MI.ofW (cc := cX4_is) (maxL := 3) (ret := (some .boolean)) (by decide +kernel) rfl (Nat.le_of_ble_eq_true rfl) ?_
  intro p e s m below meth c A cx hr hlk hw ls hl
  have hx := cx.1.1
  have hb := cx.1.2.1
  have hml := cx.1.2.2.1
  have hts := cx.1.2.2.2.2
  have hta : ∀ z ∈ hALL, z.before _ s = true := fun z h => hts z (List.mem_cons_of_mem _ h)
  have lk29 : (Cond.fieldLink RX4 29 (TX4 7).1 (TX4 7).2.1 (TX4 7).2.2.1).before _ s = true := hta _ wdF_X4_29
  have hl : lv_has ls 3 [(0, .ref (q 0)), (1, .int a1), (2, .int a2)] := hl
  unfold f_X4_is at h
  refine lv_aload_n hx hb dX4_is_0 rfl (lv_at hl 0 rfl) ?_
  refine h_get (v := .ref (q 7)) cx hw 0 (wM_p0 q cI cZ S) rfl hinX4 7 (by decide) lk29 rfl dX4_is_1 ?_
  refine lv_iconst (v := 4) hx hb dX4_is_4 (by decide) ?_
  refine lv_iload_n hx hb dX4_is_5 rfl (lv_at hl 1 rfl) ?_
  refine lv_imul hx hb dX4_is_6 ?_
  refine lv_iload_n hx hb dX4_is_7 rfl (lv_at hl 2 rfl) ?_
  refine lv_iadd hx hb dX4_is_8 ?_
  obtain ⟨v1, e2, h⟩ := h_bd_ok h
  refine h_ald cx hw 7 (wM_p7 q cI cZ S) e2 dX4_is_9 ?_
  refine lv_iconst (v := 1) hx hb dX4_is_10 (by decide) ?_
  refine lv_icmp_ne (tgt := 18) hx hb dX4_is_11 (by decide) (fun c3 => ?_) (fun c3 => ?_)
  · have h := h_ifn c3 h
    refine lv_iconst (v := 0) hx hb dX4_is_18 (by decide) ?_
    exact h_iret cx hw hr hlk rfl (Option.some.inj h) rfl dX4_is_19
  · have h := h_ifp c3 h
    refine lv_iconst (v := 1) hx hb dX4_is_14 (by decide) ?_
    refine lv_goto (tgt := 19) hx hb dX4_is_15 (by decide) ?_
    exact h_iret cx hw hr hlk rfl (Option.some.inj h) rfl dX4_is_19
set_option maxHeartbeats 4000000 in
set_option maxRecDepth 100000 in
theorem c_X4_mode (l : Launch) (dC : Nat → ClassId) (dI : Nat → Nat → Nat) (cI cZ : ClassId) (q : Nat → Nat) (S : HSt) (a1 a2 a3 : Int32) (r : Int32) (S9 : HSt) (h : f_X4_mode S a1 a2 a3 = some (r, S9)) : MI l yX4_mode hsX4_mode rmX4_mode (dC, dI) cI cZ (wM q cI cZ) S [.ref (q 0), .int a1, .int a2, .int a3] r S9 := by
  refine MI.ofW (cc := cX4_mode) (maxL := 6) (ret := (some .int)) (by decide +kernel) rfl (Nat.le_of_ble_eq_true rfl) ?_
  intro p e s m below meth c A cx hr hlk hw ls hl
  have hx := cx.1.1
  have hb := cx.1.2.1
  have hml := cx.1.2.2.1
  have hts := cx.1.2.2.2.2
  have hta : ∀ z ∈ hALL, z.before _ s = true := fun z h => hts z (List.mem_cons_of_mem _ h)
  have lk29 : (Cond.fieldLink RX4 29 (TX4 7).1 (TX4 7).2.1 (TX4 7).2.2.1).before _ s = true := hta _ wdF_X4_29
  have lk35 : (Cond.fieldLink RX4 35 (TX4 9).1 (TX4 9).2.1 (TX4 9).2.2.1).before _ s = true := hta _ wdF_X4_35
  have hl : lv_has ls 6 [(0, .ref (q 0)), (1, .int a1), (2, .int a2), (3, .int a3)] := hl
  unfold f_X4_mode at h
  have kk61 : ∀ (n61 : Nat) (S : HSt) (x1 x2 x3 x4 x5 : Int32), f_X4_mode_61 n61 S x1 x2 x3 x4 x5 = some (r, S9) → ∀ (H : Heap) (locs : List Loc) (ls : Array Slot), HW (dC, dI) (wM q cI cZ) S A s H locs → lv_has ls 6 [(0, .ref (q 0)), (1, .int x1), (2, .int x2), (3, .int x3), (4, .int x4), (5, .int x5)] → W p l e rmX4_mode s m ([.ref (q 0), .int a1, .int a2, .int a3] : List Value).toArray below meth c H locs 0 0 (MQ below (QI (dC, dI) (wM q cI cZ) r S9 A) ([.ref (q 0), .int a1, .int a2, .int a3] : List Value).toArray s 0 0 A) (F0 m 61 ls []) := by
    intro n61
    induction n61 with
    | zero =>
      intro S x1 x2 x3 x4 x5 h
      have h9 : (none : Option (Int32 × HSt)) = some (r, S9) := h
      cases h9
    | succ n61 ih61 =>
      intro S x1 x2 x3 x4 x5 h H locs ls hw hl
      have h : f_X4_mode_61_s (f_X4_mode_61 n61) S x1 x2 x3 x4 x5 = some (r, S9) := h
      unfold f_X4_mode_61_s at h
      refine lv_iload hx hb dX4_mode_61 (lv_at hl 5 rfl) ?_
      refine lv_iload_n hx hb dX4_mode_63 rfl (lv_at hl 1 rfl) ?_
      refine lv_iconst (v := 1) hx hb dX4_mode_64 (by decide) ?_
      refine lv_iadd hx hb dX4_mode_65 ?_
      refine lv_iconst (v := 0) hx hb dX4_mode_66 (by decide) ?_
      refine lv_iconst (v := 0) hx hb dX4_mode_67 (by decide) ?_
      obtain ⟨r1, e2, h⟩ := h_bd_ok h
      refine h_callS cx.1 (c_X4_at l (x1 + 1) 0 0 r1 e2) (va_cwS 3 hts (hgA (hcS wdL_X4_109 wdT_X4_at wdN_RX4 wdC_X4_at)) rfl rfl rfl pdX4_at.2 ⟨Nat.le_of_ble_eq_true rfl, Nat.le_of_ble_eq_true rfl⟩) rfl hl.1 rfl (Nat.le_of_ble_eq_true rfl) dX4_mode_68 ⟨Nat.zero_le _, Nat.zero_le _⟩ ?_
      refine lv_icmp_ge (tgt := 99) hx hb dX4_mode_71 (by decide) (fun c3 => ?_) (fun c3 => ?_)
      · have h := h_ifp c3 h
        refine lv_iload hx hb dX4_mode_99 (lv_at hl 4 rfl) ?_
        exact h_iret cx hw hr hlk rfl (congrArg Prod.fst (Option.some.inj h)) (congrArg Prod.snd (Option.some.inj h)) dX4_mode_101
      · have h := h_ifn c3 h
        refine lv_iload_n hx hb dX4_mode_74 rfl (lv_at hl 2 rfl) ?_
        refine lv_iconst (v := 2) hx hb dX4_mode_75 (by decide) ?_
        refine lv_icmp_ne (tgt := 99) hx hb dX4_mode_76 (by decide) (fun c4 => ?_) (fun c4 => ?_)
        · have h := h_ifn c4 h
          refine lv_iload hx hb dX4_mode_99 (lv_at hl 4 rfl) ?_
          exact h_iret cx hw hr hlk rfl (congrArg Prod.fst (Option.some.inj h)) (congrArg Prod.snd (Option.some.inj h)) dX4_mode_101
        · have h := h_ifp c4 h
          refine lv_iload hx hb dX4_mode_79 (lv_at hl 4 rfl) ?_
          refine lv_iload_n hx hb dX4_mode_81 rfl (lv_at hl 3 rfl) ?_
          refine lv_icmp_eq (tgt := 99) hx hb dX4_mode_82 (by decide) (fun c5 => ?_) (fun c5 => ?_)
          · have h := h_ifp c5 h
            refine lv_iload hx hb dX4_mode_99 (lv_at hl 4 rfl) ?_
            exact h_iret cx hw hr hlk rfl (congrArg Prod.fst (Option.some.inj h)) (congrArg Prod.snd (Option.some.inj h)) dX4_mode_101
          · have h := h_ifn c5 h
            refine lv_aload_n hx hb dX4_mode_85 rfl (lv_at hl 0 rfl) ?_
            refine h_get (v := .ref (q 9)) cx hw 0 (wM_p0 q cI cZ S) rfl hinX4 9 (by decide) lk35 rfl dX4_mode_86 ?_
            refine lv_iload hx hb dX4_mode_89 (lv_at hl 5 rfl) ?_
            refine lv_iconst (v := 0) hx hb dX4_mode_91 (by decide) ?_
            obtain ⟨S6, e7, h⟩ := h_bd_ok h
            refine h_ast cx hw 9 (wM_p9 q cI cZ S) (wM_s9 q cI cZ S) e7 dX4_mode_92 (fun H locs hw => ?_)
            refine lv_iinc (v := x5 + 1) (lv' := [(5, .int (x5 + 1)), (0, .ref (q 0)), (1, .int x1), (2, .int x2), (3, .int x3), (4, .int x4)]) hx hb dX4_mode_93 hl (k := 5) rfl rfl (by decide) rfl (fun ls hl => ?_)
            refine lv_goto (tgt := 61) hx hb dX4_mode_96 (by decide) ?_
            exact ih61 _ _ _ _ _ _ h _ _ _ hw (lv_sub hl [1, 2, 3, 4, 5, 0] rfl)
  refine lv_iload_n hx hb dX4_mode_0 rfl (lv_at hl 1 rfl) ?_
  obtain ⟨r1, e2, h⟩ := h_bd_ok h
  refine h_callS cx.1 (c_X4_isBox l a1 r1 e2) (va_cwS 1 hts (hgA (hcS wdL_X4_88 wdT_X4_isBox wdN_RX4 wdC_X4_isBox)) rfl rfl rfl pdX4_isBox.2 ⟨Nat.le_of_ble_eq_true rfl, Nat.le_of_ble_eq_true rfl⟩) rfl hl.1 rfl (Nat.le_of_ble_eq_true rfl) dX4_mode_1 ⟨Nat.zero_le _, Nat.zero_le _⟩ ?_
  refine lv_if_ne (tgt := 9) hx hb dX4_mode_4 (by decide) (fun c3 => ?_) (fun c3 => ?_)
  · have h := h_ifn c3 h
    refine lv_iload_n hx hb dX4_mode_9 rfl (lv_at hl 2 rfl) ?_
    refine lv_iconst (v := 0) hx hb dX4_mode_10 (by decide) ?_
    refine lv_iconst (v := 3) hx hb dX4_mode_11 (by decide) ?_
    obtain ⟨r4, e5, h⟩ := h_bd_ok h
    refine h_callS cx.1 (c_X4_within l a2 0 3 r4 e5) (va_cwS 3 hts (hgA (hcS wdL_X4_80 wdT_X4_within wdN_RX4 wdC_X4_within)) rfl rfl rfl pdX4_within.2 ⟨Nat.le_of_ble_eq_true rfl, Nat.le_of_ble_eq_true rfl⟩) rfl hl.1 rfl (Nat.le_of_ble_eq_true rfl) dX4_mode_12 ⟨Nat.zero_le _, Nat.zero_le _⟩ ?_
    refine lv_if_eq (tgt := 27) hx hb dX4_mode_15 (by decide) (fun c6 => ?_) (fun c6 => ?_)
    · have h := h_ifp c6 h
      refine lv_bipush (v := (-2)) hx hb dX4_mode_27 (by decide) ?_
      exact h_iret cx hw hr hlk rfl (congrArg Prod.fst (Option.some.inj h)) (congrArg Prod.snd (Option.some.inj h)) dX4_mode_29
    · have h := h_ifn c6 h
      refine lv_iload_n hx hb dX4_mode_18 rfl (lv_at hl 3 rfl) ?_
      refine lv_iconst (v := 0) hx hb dX4_mode_19 (by decide) ?_
      refine lv_iconst (v := 1) hx hb dX4_mode_20 (by decide) ?_
      obtain ⟨r7, e8, h⟩ := h_bd_ok h
      refine h_callS cx.1 (c_X4_within l a3 0 1 r7 e8) (va_cwS 3 hts (hgA (hcS wdL_X4_80 wdT_X4_within wdN_RX4 wdC_X4_within)) rfl rfl rfl pdX4_within.2 ⟨Nat.le_of_ble_eq_true rfl, Nat.le_of_ble_eq_true rfl⟩) rfl hl.1 rfl (Nat.le_of_ble_eq_true rfl) dX4_mode_21 ⟨Nat.zero_le _, Nat.zero_le _⟩ ?_
      refine lv_if_ne (tgt := 30) hx hb dX4_mode_24 (by decide) (fun c9 => ?_) (fun c9 => ?_)
      · have h := h_ifn c9 h
        refine lv_aload_n hx hb dX4_mode_30 rfl (lv_at hl 0 rfl) ?_
        refine h_get (v := .ref (q 7)) cx hw 0 (wM_p0 q cI cZ S) rfl hinX4 7 (by decide) lk29 rfl dX4_mode_31 ?_
        refine lv_iconst (v := 4) hx hb dX4_mode_34 (by decide) ?_
        refine lv_iload_n hx hb dX4_mode_35 rfl (lv_at hl 1 rfl) ?_
        refine lv_imul hx hb dX4_mode_36 ?_
        refine lv_iload_n hx hb dX4_mode_37 rfl (lv_at hl 2 rfl) ?_
        refine lv_iadd hx hb dX4_mode_38 ?_
        obtain ⟨v10, e11, h⟩ := h_bd_ok h
        refine h_ald cx hw 7 (wM_p7 q cI cZ S) e11 dX4_mode_39 ?_
        refine lv_istore (lv' := [(4, .int v10), (0, .ref (q 0)), (1, .int a1), (2, .int a2), (3, .int a3)]) hx hb dX4_mode_40 hl (by decide) rfl (fun ls hl => ?_)
        refine lv_aload_n hx hb dX4_mode_42 rfl (lv_at hl 1 rfl) ?_
        refine h_get (v := .ref (q 7)) cx hw 0 (wM_p0 q cI cZ S) rfl hinX4 7 (by decide) lk29 rfl dX4_mode_43 ?_
        refine lv_iconst (v := 4) hx hb dX4_mode_46 (by decide) ?_
        refine lv_iload_n hx hb dX4_mode_47 rfl (lv_at hl 2 rfl) ?_
        refine lv_imul hx hb dX4_mode_48 ?_
        refine lv_iload_n hx hb dX4_mode_49 rfl (lv_at hl 3 rfl) ?_
        refine lv_iadd hx hb dX4_mode_50 ?_
        refine lv_iload_n hx hb dX4_mode_51 rfl (lv_at hl 4 rfl) ?_
        obtain ⟨S12, e13, h⟩ := h_bd_ok h
        refine h_ast cx hw 7 (wM_p7 q cI cZ S) (wM_s7 q cI cZ S) e13 dX4_mode_52 (fun H locs hw => ?_)
        refine lv_iload_n hx hb dX4_mode_53 rfl (lv_at hl 2 rfl) ?_
        refine lv_iconst (v := 0) hx hb dX4_mode_54 (by decide) ?_
        refine lv_iconst (v := 0) hx hb dX4_mode_55 (by decide) ?_
        obtain ⟨r14, e15, h⟩ := h_bd_ok h
        refine h_callS cx.1 (c_X4_at l a1 0 0 r14 e15) (va_cwS 3 hts (hgA (hcS wdL_X4_109 wdT_X4_at wdN_RX4 wdC_X4_at)) rfl rfl rfl pdX4_at.2 ⟨Nat.le_of_ble_eq_true rfl, Nat.le_of_ble_eq_true rfl⟩) rfl hl.1 rfl (Nat.le_of_ble_eq_true rfl) dX4_mode_56 ⟨Nat.zero_le _, Nat.zero_le _⟩ ?_
        refine lv_istore (lv' := [(5, .int r14), (4, .int v10), (0, .ref (q 0)), (1, .int a1), (2, .int a2), (3, .int a3)]) hx hb dX4_mode_59 hl (by decide) rfl (fun ls hl => ?_)
        exact kk61 h_fu _ _ _ _ _ _ h _ _ _ hw (lv_sub hl [2, 3, 4, 5, 1, 0] rfl)
      · have h := h_ifp c9 h
        refine lv_bipush (v := (-2)) hx hb dX4_mode_27 (by decide) ?_
        exact h_iret cx hw hr hlk rfl (congrArg Prod.fst (Option.some.inj h)) (congrArg Prod.snd (Option.some.inj h)) dX4_mode_29
  · have h := h_ifp c3 h
    refine lv_iconst (v := (-1)) hx hb dX4_mode_7 (by decide) ?_
    exact h_iret cx hw hr hlk rfl (congrArg Prod.fst (Option.some.inj h)) (congrArg Prod.snd (Option.some.inj h)) dX4_mode_8
set_option maxHeartbeats 4000000 in
set_option maxRecDepth 100000 in
theorem c_X4_setting (l : Launch) (dC : Nat → ClassId) (dI : Nat → Nat → Nat) (cI cZ : ClassId) (q : Nat → Nat) (S : HSt) (a1 a2 : Int32) (r : Int32) (S9 : HSt) (h : f_X4_setting S a1 a2 = some (r, S9)) : MI l yX4_setting hsX4_setting rmX4_setting (dC, dI) cI cZ (wM q cI cZ) S [.ref (q 0), .int a1, .int a2] r S9 := by
  refine MI.ofW (cc := cX4_setting) (maxL := 5) (ret := (some .int)) (by decide +kernel) rfl (Nat.le_of_ble_eq_true rfl) ?_
  intro p e s m below meth c A cx hr hlk hw ls hl
  have hx := cx.1.1
  have hb := cx.1.2.1
  have hml := cx.1.2.2.1
  have hts := cx.1.2.2.2.2
  have hta : ∀ z ∈ hALL, z.before _ s = true := fun z h => hts z (List.mem_cons_of_mem _ h)
  have lk32 : (Cond.fieldLink RX4 32 (TX4 8).1 (TX4 8).2.1 (TX4 8).2.2.1).before _ s = true := hta _ wdF_X4_32
  have hl : lv_has ls 5 [(0, .ref (q 0)), (1, .int a1), (2, .int a2)] := hl
  unfold f_X4_setting at h
  have kk33 : ∀ (S : HSt) (x1 x2 t0 : Int32), f_X4_setting_33 S x1 x2 t0 = some (r, S9) → ∀ (H : Heap) (locs : List Loc) (ls : Array Slot), HW (dC, dI) (wM q cI cZ) S A s H locs → lv_has ls 5 [(0, .ref (q 0)), (1, .int x1), (2, .int x2)] → W p l e rmX4_setting s m ([.ref (q 0), .int a1, .int a2] : List Value).toArray below meth c H locs 0 0 (MQ below (QI (dC, dI) (wM q cI cZ) r S9 A) ([.ref (q 0), .int a1, .int a2] : List Value).toArray s 0 0 A) (F0 m 33 ls [.int t0]) := by
    intro S x1 x2 t0 h H locs ls hw hl
    unfold f_X4_setting_33 at h
    refine lv_istore_n (lv' := [(3, .int t0), (0, .ref (q 0)), (1, .int x1), (2, .int x2)]) hx hb dX4_setting_33 rfl hl (by decide) rfl (fun ls hl => ?_)
    refine lv_iload_n hx hb dX4_setting_34 rfl (lv_at hl 0 rfl) ?_
    refine lv_if_ne (tgt := 41) hx hb dX4_setting_35 (by decide) (fun c1 => ?_) (fun c1 => ?_)
    · have h := h_ifn c1 h
      refine lv_aload_n hx hb dX4_setting_41 rfl (lv_at hl 1 rfl) ?_
      refine h_get (v := .ref (q 8)) cx hw 0 (wM_p0 q cI cZ S) rfl hinX4 8 (by decide) lk32 rfl dX4_setting_42 ?_
      refine lv_iload_n hx hb dX4_setting_45 rfl (lv_at hl 2 rfl) ?_
      obtain ⟨v2, e3, h⟩ := h_bd_ok h
      refine h_ald cx hw 8 (wM_p8 q cI cZ S) e3 dX4_setting_46 ?_
      refine lv_istore (lv' := [(4, .int v2), (3, .int t0), (0, .ref (q 0)), (1, .int x1), (2, .int x2)]) hx hb dX4_setting_47 hl (by decide) rfl (fun ls hl => ?_)
      refine lv_aload_n hx hb dX4_setting_49 rfl (lv_at hl 2 rfl) ?_
      refine h_get (v := .ref (q 8)) cx hw 0 (wM_p0 q cI cZ S) rfl hinX4 8 (by decide) lk32 rfl dX4_setting_50 ?_
      refine lv_iload_n hx hb dX4_setting_53 rfl (lv_at hl 3 rfl) ?_
      refine lv_iload_n hx hb dX4_setting_54 rfl (lv_at hl 4 rfl) ?_
      obtain ⟨S4, e5, h⟩ := h_bd_ok h
      refine h_ast cx hw 8 (wM_p8 q cI cZ S) (wM_s8 q cI cZ S) e5 dX4_setting_55 (fun H locs hw => ?_)
      refine lv_iload hx hb dX4_setting_56 (lv_at hl 0 rfl) ?_
      exact h_iret cx hw hr hlk rfl (congrArg Prod.fst (Option.some.inj h)) (congrArg Prod.snd (Option.some.inj h)) dX4_setting_58
    · have h := h_ifp c1 h
      refine lv_bipush (v := (-2)) hx hb dX4_setting_38 (by decide) ?_
      exact h_iret cx hw hr hlk rfl (congrArg Prod.fst (Option.some.inj h)) (congrArg Prod.snd (Option.some.inj h)) dX4_setting_40
  have kk32 : ∀ (S : HSt) (x1 x2 : Int32), f_X4_setting_32 S x1 x2 = some (r, S9) → ∀ (H : Heap) (locs : List Loc) (ls : Array Slot), HW (dC, dI) (wM q cI cZ) S A s H locs → lv_has ls 5 [(0, .ref (q 0)), (1, .int x1), (2, .int x2)] → W p l e rmX4_setting s m ([.ref (q 0), .int a1, .int a2] : List Value).toArray below meth c H locs 0 0 (MQ below (QI (dC, dI) (wM q cI cZ) r S9 A) ([.ref (q 0), .int a1, .int a2] : List Value).toArray s 0 0 A) (F0 m 32 ls []) := by
    intro S x1 x2 h H locs ls hw hl
    unfold f_X4_setting_32 at h
    refine lv_iconst (v := 0) hx hb dX4_setting_32 (by decide) ?_
    exact kk33 _ _ _ _ h _ _ _ hw (lv_sub hl [0, 1, 2] rfl)
  refine lv_iload_n hx hb dX4_setting_0 rfl (lv_at hl 1 rfl) ?_
  refine lv_if_ne (tgt := 13) hx hb dX4_setting_1 (by decide) (fun c1 => ?_) (fun c1 => ?_)
  · have h := h_ifn c1 h
    refine lv_iload_n hx hb dX4_setting_13 rfl (lv_at hl 1 rfl) ?_
    refine lv_iconst (v := 1) hx hb dX4_setting_14 (by decide) ?_
    refine lv_icmp_ne (tgt := 32) hx hb dX4_setting_15 (by decide) (fun c2 => ?_) (fun c2 => ?_)
    · have h := h_ifn c2 h
      exact kk32 _ _ _ h _ _ _ hw (lv_sub hl [0, 1, 2] rfl)
    · have h := h_ifp c2 h
      refine lv_iload_n hx hb dX4_setting_18 rfl (lv_at hl 2 rfl) ?_
      refine lv_iconst (v := 1) hx hb dX4_setting_19 (by decide) ?_
      refine lv_bipush (v := 9) hx hb dX4_setting_20 (by decide) ?_
      obtain ⟨r3, e4, h⟩ := h_bd_ok h
      refine h_callS cx.1 (c_X4_within l a2 1 9 r3 e4) (va_cwS 3 hts (hgA (hcS wdL_X4_80 wdT_X4_within wdN_RX4 wdC_X4_within)) rfl rfl rfl pdX4_within.2 ⟨Nat.le_of_ble_eq_true rfl, Nat.le_of_ble_eq_true rfl⟩) rfl hl.1 rfl (Nat.le_of_ble_eq_true rfl) dX4_setting_22 ⟨Nat.zero_le _, Nat.zero_le _⟩ ?_
      refine lv_if_eq (tgt := 32) hx hb dX4_setting_25 (by decide) (fun c5 => ?_) (fun c5 => ?_)
      · have h := h_ifp c5 h
        exact kk32 _ _ _ h _ _ _ hw (lv_sub hl [0, 1, 2] rfl)
      · have h := h_ifn c5 h
        refine lv_iconst (v := 1) hx hb dX4_setting_28 (by decide) ?_
        refine lv_goto (tgt := 33) hx hb dX4_setting_29 (by decide) ?_
        exact kk33 _ _ _ _ h _ _ _ hw (lv_sub hl [0, 1, 2] rfl)
  · have h := h_ifp c1 h
    refine lv_iload_n hx hb dX4_setting_4 rfl (lv_at hl 2 rfl) ?_
    refine lv_iconst (v := 0) hx hb dX4_setting_5 (by decide) ?_
    refine lv_iconst (v := 1) hx hb dX4_setting_6 (by decide) ?_
    obtain ⟨r6, e7, h⟩ := h_bd_ok h
    refine h_callS cx.1 (c_X4_within l a2 0 1 r6 e7) (va_cwS 3 hts (hgA (hcS wdL_X4_80 wdT_X4_within wdN_RX4 wdC_X4_within)) rfl rfl rfl pdX4_within.2 ⟨Nat.le_of_ble_eq_true rfl, Nat.le_of_ble_eq_true rfl⟩) rfl hl.1 rfl (Nat.le_of_ble_eq_true rfl) dX4_setting_7 ⟨Nat.zero_le _, Nat.zero_le _⟩ ?_
    refine lv_goto (tgt := 33) hx hb dX4_setting_10 (by decide) ?_
    exact kk33 _ _ _ _ h _ _ _ hw (lv_sub hl [0, 1, 2] rfl)
set_option maxHeartbeats 4000000 in
set_option maxRecDepth 100000 in
theorem c_X4_usedAt (l : Launch) (dC : Nat → ClassId) (dI : Nat → Nat → Nat) (cI cZ : ClassId) (q : Nat → Nat) (S : HSt) (a1 a2 : Int32) (r : Int32) (S9 : HSt) (h : f_X4_usedAt S a1 a2 = some (r, S9)) : MI l yX4_usedAt hsX4_usedAt rmX4_usedAt (dC, dI) cI cZ (wM q cI cZ) S [.ref (q 0), .int a1, .int a2] r S9 := by
  refine MI.ofW (cc := cX4_usedAt) (maxL := 4) (ret := (some .int)) (by decide +kernel) rfl (Nat.le_of_ble_eq_true rfl) ?_
  intro p e s m below meth c A cx hr hlk hw ls hl
  have hx := cx.1.1
  have hb := cx.1.2.1
  have hml := cx.1.2.2.1
  have hts := cx.1.2.2.2.2
  have hta : ∀ z ∈ hALL, z.before _ s = true := fun z h => hts z (List.mem_cons_of_mem _ h)
  have hl : lv_has ls 4 [(0, .ref (q 0)), (1, .int a1), (2, .int a2)] := hl
  unfold f_X4_usedAt at h
  refine lv_aload_n hx hb dX4_usedAt_0 rfl (lv_at hl 0 rfl) ?_
  refine lv_iload_n hx hb dX4_usedAt_1 rfl (lv_at hl 1 rfl) ?_
  refine lv_iload_n hx hb dX4_usedAt_2 rfl (lv_at hl 2 rfl) ?_
  obtain ⟨r1, S3, e2, h⟩ := h_bi_ok h
  refine h_callI cx hw (c_X4_nextOf l dC dI cI cZ q S a1 a2 r1 S3 e2) (cwV 2 hts (hgA (hcV wdL_X4_106 wdI_X4_nextOf wdS_X4_nextOf wdN_RX4 wdC_X4_nextOf)) rfl rfl rfl pdX4_nextOf ⟨Nat.le_of_ble_eq_true rfl, Nat.le_of_ble_eq_true rfl⟩) 0 (wM_p0 q cI cZ S) rfl rfl rfl hl.1 rfl (Nat.le_of_ble_eq_true rfl) dX4_usedAt_3 ⟨Nat.zero_le _, Nat.zero_le _⟩ (fun H locs hw => ?_)
  refine lv_istore_n (lv' := [(3, .int r1), (0, .ref (q 0)), (1, .int a1), (2, .int a2)]) hx hb dX4_usedAt_6 rfl hl (by decide) rfl (fun ls hl => ?_)
  refine lv_iload_n hx hb dX4_usedAt_7 rfl (lv_at hl 0 rfl) ?_
  refine lv_bipush (v := (-9)) hx hb dX4_usedAt_8 (by decide) ?_
  refine lv_icmp_ne (tgt := 18) hx hb dX4_usedAt_10 (by decide) (fun c4 => ?_) (fun c4 => ?_)
  · have h := h_ifn c4 h
    refine lv_iload_n hx hb dX4_usedAt_18 rfl (lv_at hl 2 rfl) ?_
    refine lv_aload_n hx hb dX4_usedAt_19 rfl (lv_at hl 1 rfl) ?_
    refine lv_iload_n hx hb dX4_usedAt_20 rfl (lv_at hl 2 rfl) ?_
    refine lv_iload_n hx hb dX4_usedAt_21 rfl (lv_at hl 0 rfl) ?_
    obtain ⟨r5, e6, h⟩ := h_bd_ok h
    refine h_callI cx hw (c_X4_linkBetween l dC dI cI cZ q S3 a1 r1 r5 e6) (cwV 2 hts (hgA (hcV wdL_X4_92 wdI_X4_linkBetween wdS_X4_linkBetween wdN_RX4 wdC_X4_linkBetween)) rfl rfl rfl pdX4_linkBetween ⟨Nat.le_of_ble_eq_true rfl, Nat.le_of_ble_eq_true rfl⟩) 0 (wM_p0 q cI cZ S3) rfl rfl rfl hl.1 rfl (Nat.le_of_ble_eq_true rfl) dX4_usedAt_22 ⟨Nat.zero_le _, Nat.zero_le _⟩ (fun H locs hw => ?_)
    refine lv_iload_n hx hb dX4_usedAt_25 rfl (lv_at hl 3 rfl) ?_
    obtain ⟨r7, e8, h⟩ := h_bd_ok h
    refine h_callS cx.1 (c_X4_at l a1 r5 a2 r7 e8) (va_cwS 3 hts (hgA (hcS wdL_X4_109 wdT_X4_at wdN_RX4 wdC_X4_at)) rfl rfl rfl pdX4_at.2 ⟨Nat.le_of_ble_eq_true rfl, Nat.le_of_ble_eq_true rfl⟩) rfl hl.1 rfl (Nat.le_of_ble_eq_true rfl) dX4_usedAt_26 ⟨Nat.zero_le _, Nat.zero_le _⟩ ?_
    exact h_iret cx hw hr hlk rfl (congrArg Prod.fst (Option.some.inj h)) (congrArg Prod.snd (Option.some.inj h)) dX4_usedAt_29
  · have h := h_ifp c4 h
    refine lv_bipush (v := (-9)) hx hb dX4_usedAt_13 (by decide) ?_
    refine lv_goto (tgt := 29) hx hb dX4_usedAt_15 (by decide) ?_
    exact h_iret cx hw hr hlk rfl (congrArg Prod.fst (Option.some.inj h)) (congrArg Prod.snd (Option.some.inj h)) dX4_usedAt_29
set_option maxHeartbeats 4000000 in
set_option maxRecDepth 100000 in
theorem c_X4_countOf (l : Launch) (dC : Nat → ClassId) (dI : Nat → Nat → Nat) (cI cZ : ClassId) (q : Nat → Nat) (S : HSt) (a1 a2 : Int32) (r : Int32) (S9 : HSt) (h : f_X4_countOf S a1 a2 = some (r, S9)) : MI l yX4_countOf hsX4_countOf rmX4_countOf (dC, dI) cI cZ (wM q cI cZ) S [.ref (q 0), .int a1, .int a2] r S9 := by
  refine MI.ofW (cc := cX4_countOf) (maxL := 4) (ret := (some .int)) (by decide +kernel) rfl (Nat.le_of_ble_eq_true rfl) ?_
  intro p e s m below meth c A cx hr hlk hw ls hl
  have hx := cx.1.1
  have hb := cx.1.2.1
  have hml := cx.1.2.2.1
  have hts := cx.1.2.2.2.2
  have hta : ∀ z ∈ hALL, z.before _ s = true := fun z h => hts z (List.mem_cons_of_mem _ h)
  have lk23 : (Cond.fieldLink RX4 23 (TX4 5).1 (TX4 5).2.1 (TX4 5).2.2.1).before _ s = true := hta _ wdF_X4_23
  have lk32 : (Cond.fieldLink RX4 32 (TX4 8).1 (TX4 8).2.1 (TX4 8).2.2.1).before _ s = true := hta _ wdF_X4_32
  have lk41 : (Cond.fieldLink RX4 41 (TX4 11).1 (TX4 11).2.1 (TX4 11).2.2.1).before _ s = true := hta _ wdF_X4_41
  have lk44 : (Cond.fieldLink RX4 44 (TX4 12).1 (TX4 12).2.1 (TX4 12).2.2.1).before _ s = true := hta _ wdF_X4_44
  have hl : lv_has ls 4 [(0, .ref (q 0)), (1, .int a1), (2, .int a2)] := hl
  unfold f_X4_countOf at h
  refine lv_aload_n hx hb dX4_countOf_0 rfl (lv_at hl 0 rfl) ?_
  refine h_get (v := .ref (q 5)) cx hw 0 (wM_p0 q cI cZ S) rfl hinX4 5 (by decide) lk23 rfl dX4_countOf_1 ?_
  refine lv_iload_n hx hb dX4_countOf_4 rfl (lv_at hl 2 rfl) ?_
  obtain ⟨v1, e2, h⟩ := h_bd_ok h
  refine h_ald cx hw 5 (wM_p5 q cI cZ S) e2 dX4_countOf_5 ?_
  refine lv_iload_n hx hb dX4_countOf_6 rfl (lv_at hl 1 rfl) ?_
  refine lv_icmp_ne (tgt := 12) hx hb dX4_countOf_7 (by decide) (fun c3 => ?_) (fun c3 => ?_)
  · have h := h_ifn c3 h
    refine lv_aload_n hx hb dX4_countOf_12 rfl (lv_at hl 0 rfl) ?_
    refine lv_iload_n hx hb dX4_countOf_13 rfl (lv_at hl 1 rfl) ?_
    refine lv_iload_n hx hb dX4_countOf_14 rfl (lv_at hl 2 rfl) ?_
    obtain ⟨r4, S6, e5, h⟩ := h_bi_ok h
    refine h_callI cx hw (c_X4_usedAt l dC dI cI cZ q S a1 a2 r4 S6 e5) (cwV 2 hts (hgA (hcV wdL_X4_113 wdI_X4_usedAt wdS_X4_usedAt wdN_RX4 wdC_X4_usedAt)) rfl rfl rfl pdX4_usedAt ⟨Nat.le_of_ble_eq_true rfl, Nat.le_of_ble_eq_true rfl⟩) 0 (wM_p0 q cI cZ S) rfl rfl rfl hl.1 rfl (Nat.le_of_ble_eq_true rfl) dX4_countOf_15 ⟨Nat.zero_le _, Nat.zero_le _⟩ (fun H locs hw => ?_)
    refine lv_istore_n (lv' := [(3, .int r4), (0, .ref (q 0)), (1, .int a1), (2, .int a2)]) hx hb dX4_countOf_18 rfl hl (by decide) rfl (fun ls hl => ?_)
    refine lv_iload_n hx hb dX4_countOf_19 rfl (lv_at hl 0 rfl) ?_
    refine lv_bipush (v := (-9)) hx hb dX4_countOf_20 (by decide) ?_
    refine lv_icmp_ne (tgt := 28) hx hb dX4_countOf_22 (by decide) (fun c7 => ?_) (fun c7 => ?_)
    · have h := h_ifn c7 h
      refine lv_aload_n hx hb dX4_countOf_28 rfl (lv_at hl 1 rfl) ?_
      refine h_get (v := .ref (q 11)) cx hw 0 (wM_p0 q cI cZ S6) rfl hinX4 11 (by decide) lk41 rfl dX4_countOf_29 ?_
      refine lv_iload_n hx hb dX4_countOf_32 rfl (lv_at hl 0 rfl) ?_
      obtain ⟨v8, e9, h⟩ := h_bd_ok h
      refine h_ald cx hw 11 (wM_p11 q cI cZ S6) e9 dX4_countOf_33 ?_
      refine lv_if_ne (tgt := 54) hx hb dX4_countOf_34 (by decide) (fun c10 => ?_) (fun c10 => ?_)
      · have h := h_ifn c10 h
        refine lv_aload_n hx hb dX4_countOf_54 rfl (lv_at hl 1 rfl) ?_
        refine h_get (v := .ref (q 12)) cx hw 0 (wM_p0 q cI cZ S6) rfl hinX4 12 (by decide) lk44 rfl dX4_countOf_55 ?_
        refine lv_iload_n hx hb dX4_countOf_58 rfl (lv_at hl 0 rfl) ?_
        obtain ⟨v11, e12, h⟩ := h_bd_ok h
        refine h_ald cx hw 12 (wM_p12 q cI cZ S6) e12 dX4_countOf_59 ?_
        refine lv_iconst (v := 1) hx hb dX4_countOf_60 (by decide) ?_
        refine lv_iadd hx hb dX4_countOf_61 ?_
        refine lv_aload_n hx hb dX4_countOf_62 rfl (lv_at hl 1 rfl) ?_
        refine h_get (v := .ref (q 8)) cx hw 0 (wM_p0 q cI cZ S6) rfl hinX4 8 (by decide) lk32 rfl dX4_countOf_63 ?_
        refine lv_iconst (v := 1) hx hb dX4_countOf_66 (by decide) ?_
        obtain ⟨v13, e14, h⟩ := h_bd_ok h
        refine h_ald cx hw 8 (wM_p8 q cI cZ S6) e14 dX4_countOf_67 ?_
        refine lv_icmp_le (tgt := 76) hx hb dX4_countOf_68 (by decide) (fun c15 => ?_) (fun c15 => ?_)
        · have h := h_ifp c15 h
          refine lv_aload_n hx hb dX4_countOf_76 rfl (lv_at hl 1 rfl) ?_
          refine h_get (v := .ref (q 12)) cx hw 0 (wM_p0 q cI cZ S6) rfl hinX4 12 (by decide) lk44 rfl dX4_countOf_77 ?_
          refine lv_iload_n hx hb dX4_countOf_80 rfl (lv_at hl 0 rfl) ?_
          obtain ⟨v16, e17, h⟩ := h_bd_ok h
          refine h_ald cx hw 12 (wM_p12 q cI cZ S6) e17 dX4_countOf_81 ?_
          refine lv_iconst (v := 1) hx hb dX4_countOf_82 (by decide) ?_
          refine lv_iadd hx hb dX4_countOf_83 ?_
          exact h_iret cx hw hr hlk rfl (congrArg Prod.fst (Option.some.inj h)) (congrArg Prod.snd (Option.some.inj h)) dX4_countOf_84
        · have h := h_ifn c15 h
          refine lv_bipush (v := (-9)) hx hb dX4_countOf_71 (by decide) ?_
          refine lv_goto (tgt := 84) hx hb dX4_countOf_73 (by decide) ?_
          exact h_iret cx hw hr hlk rfl (congrArg Prod.fst (Option.some.inj h)) (congrArg Prod.snd (Option.some.inj h)) dX4_countOf_84
      · have h := h_ifp c10 h
        refine lv_aload_n hx hb dX4_countOf_37 rfl (lv_at hl 1 rfl) ?_
        refine h_get (v := .ref (q 8)) cx hw 0 (wM_p0 q cI cZ S6) rfl hinX4 8 (by decide) lk32 rfl dX4_countOf_38 ?_
        refine lv_iconst (v := 0) hx hb dX4_countOf_41 (by decide) ?_
        obtain ⟨v18, e19, h⟩ := h_bd_ok h
        refine h_ald cx hw 8 (wM_p8 q cI cZ S6) e19 dX4_countOf_42 ?_
        refine lv_iconst (v := 1) hx hb dX4_countOf_43 (by decide) ?_
        refine lv_icmp_ne (tgt := 52) hx hb dX4_countOf_44 (by decide) (fun c20 => ?_) (fun c20 => ?_)
        · have h := h_ifn c20 h
          refine lv_iconst (v := 1) hx hb dX4_countOf_52 (by decide) ?_
          exact h_iret cx hw hr hlk rfl (congrArg Prod.fst (Option.some.inj h)) (congrArg Prod.snd (Option.some.inj h)) dX4_countOf_53
        · have h := h_ifp c20 h
          refine lv_bipush (v := (-9)) hx hb dX4_countOf_47 (by decide) ?_
          refine lv_goto (tgt := 53) hx hb dX4_countOf_49 (by decide) ?_
          exact h_iret cx hw hr hlk rfl (congrArg Prod.fst (Option.some.inj h)) (congrArg Prod.snd (Option.some.inj h)) dX4_countOf_53
    · have h := h_ifp c7 h
      refine lv_bipush (v := (-9)) hx hb dX4_countOf_25 (by decide) ?_
      exact h_iret cx hw hr hlk rfl (congrArg Prod.fst (Option.some.inj h)) (congrArg Prod.snd (Option.some.inj h)) dX4_countOf_27
  · have h := h_ifp c3 h
    refine lv_iconst (v := 0) hx hb dX4_countOf_10 (by decide) ?_
    exact h_iret cx hw hr hlk rfl (congrArg Prod.fst (Option.some.inj h)) (congrArg Prod.snd (Option.some.inj h)) dX4_countOf_11
set_option maxHeartbeats 4000000 in
set_option maxRecDepth 100000 in
theorem c_X4_hands (l : Launch) (dC : Nat → ClassId) (dI : Nat → Nat → Nat) (cI cZ : ClassId) (q : Nat → Nat) (S : HSt) (a1 a2 a3 : Int32) (r : Int32) (h : f_X4_hands S a1 a2 a3 = some r) : MI l yX4_hands hsX4_hands rmX4_hands (dC, dI) cI cZ (wM q cI cZ) S [.ref (q 0), .int a1, .int a2, .int a3] r S := by
  refine MI.ofW (cc := cX4_hands) (maxL := 4) (ret := (some .boolean)) (by decide +kernel) rfl (Nat.le_of_ble_eq_true rfl) ?_
  intro p e s m below meth c A cx hr hlk hw ls hl
  have hx := cx.1.1
  have hb := cx.1.2.1
  have hml := cx.1.2.2.1
  have hts := cx.1.2.2.2.2
  have hta : ∀ z ∈ hALL, z.before _ s = true := fun z h => hts z (List.mem_cons_of_mem _ h)
  have lk19 : (Cond.fieldLink RX4 19 (TX4 4).1 (TX4 4).2.1 (TX4 4).2.2.1).before _ s = true := hta _ wdF_X4_19
  have lk59 : (Cond.fieldLink RX4 59 (TX4 18).1 (TX4 18).2.1 (TX4 18).2.2.1).before _ s = true := hta _ wdF_X4_59
  have lk62 : (Cond.fieldLink RX4 62 (TX4 19).1 (TX4 19).2.1 (TX4 19).2.2.1).before _ s = true := hta _ wdF_X4_62
  have hl : lv_has ls 4 [(0, .ref (q 0)), (1, .int a1), (2, .int a2), (3, .int a3)] := hl
  unfold f_X4_hands at h
  have kk63 : f_X4_hands_63 S = some r → ∀ (H : Heap) (locs : List Loc) (ls : Array Slot), HW (dC, dI) (wM q cI cZ) S A s H locs → lv_has ls 4 [] → W p l e rmX4_hands s m ([.ref (q 0), .int a1, .int a2, .int a3] : List Value).toArray below meth c H locs 0 0 (MQ below (QI (dC, dI) (wM q cI cZ) r S A) ([.ref (q 0), .int a1, .int a2, .int a3] : List Value).toArray s 0 0 A) (F0 m 63 ls []) := by
    intro  h H locs ls hw hl
    unfold f_X4_hands_63 at h
    refine lv_iconst (v := 1) hx hb dX4_hands_63 (by decide) ?_
    refine lv_goto (tgt := 68) hx hb dX4_hands_64 (by decide) ?_
    exact h_iret cx hw hr hlk rfl (Option.some.inj h) rfl dX4_hands_68
  refine lv_aload_n hx hb dX4_hands_0 rfl (lv_at hl 0 rfl) ?_
  refine lv_iload_n hx hb dX4_hands_1 rfl (lv_at hl 2 rfl) ?_
  refine lv_iload_n hx hb dX4_hands_2 rfl (lv_at hl 1 rfl) ?_
  obtain ⟨r1, e2, h⟩ := h_bd_ok h
  refine h_callI cx hw (c_X4_isAt l dC dI cI cZ q S a2 a1 r1 e2) (cwV 2 hts (hgA (hcV wdL_X4_116 wdI_X4_isAt wdS_X4_isAt wdN_RX4 wdC_X4_isAt)) rfl rfl rfl pdX4_isAt ⟨Nat.le_of_ble_eq_true rfl, Nat.le_of_ble_eq_true rfl⟩) 0 (wM_p0 q cI cZ S) rfl rfl rfl hl.1 rfl (Nat.le_of_ble_eq_true rfl) dX4_hands_3 ⟨Nat.zero_le _, Nat.zero_le _⟩ (fun H locs hw => ?_)
  refine lv_if_eq (tgt := 33) hx hb dX4_hands_6 (by decide) (fun c3 => ?_) (fun c3 => ?_)
  · have h := h_ifp c3 h
    refine lv_iconst (v := 0) hx hb dX4_hands_33 (by decide) ?_
    exact h_iret cx hw hr hlk rfl (Option.some.inj h) rfl dX4_hands_34
  · have h := h_ifn c3 h
    refine lv_aload_n hx hb dX4_hands_9 rfl (lv_at hl 0 rfl) ?_
    refine h_get (v := .ref (q 4)) cx hw 0 (wM_p0 q cI cZ S) rfl hinX4 4 (by decide) lk19 rfl dX4_hands_10 ?_
    refine lv_iload_n hx hb dX4_hands_13 rfl (lv_at hl 2 rfl) ?_
    obtain ⟨v4, e5, h⟩ := h_bd_ok h
    refine h_aldz cx hw 4 (wM_p4 q cI cZ S) e5 dX4_hands_14 ?_
    refine lv_if_eq (tgt := 33) hx hb dX4_hands_15 (by decide) (fun c6 => ?_) (fun c6 => ?_)
    · have h := h_ifp c6 h
      refine lv_iconst (v := 0) hx hb dX4_hands_33 (by decide) ?_
      exact h_iret cx hw hr hlk rfl (Option.some.inj h) rfl dX4_hands_34
    · have h := h_ifn c6 h
      refine lv_aload_n hx hb dX4_hands_18 rfl (lv_at hl 0 rfl) ?_
      refine h_get (v := .ref (q 18)) cx hw 0 (wM_p0 q cI cZ S) rfl hinX4 19 (by decide) lk62 rfl dX4_hands_19 ?_
      refine lv_iconst (v := 4) hx hb dX4_hands_22 (by decide) ?_
      refine lv_iload_n hx hb dX4_hands_23 rfl (lv_at hl 1 rfl) ?_
      refine lv_imul hx hb dX4_hands_24 ?_
      refine lv_iload_n hx hb dX4_hands_25 rfl (lv_at hl 3 rfl) ?_
      refine lv_iadd hx hb dX4_hands_26 ?_
      obtain ⟨v7, e8, h⟩ := h_bd_ok h
      refine h_ald cx hw 18 (wM_p18 q cI cZ S) e8 dX4_hands_27 ?_
      refine lv_bipush (v := (-9)) hx hb dX4_hands_28 (by decide) ?_
      refine lv_icmp_ne (tgt := 35) hx hb dX4_hands_30 (by decide) (fun c9 => ?_) (fun c9 => ?_)
      · have h := h_ifn c9 h
        refine lv_aload_n hx hb dX4_hands_35 rfl (lv_at hl 0 rfl) ?_
        refine lv_iload_n hx hb dX4_hands_36 rfl (lv_at hl 1 rfl) ?_
        refine lv_iconst (v := 0) hx hb dX4_hands_37 (by decide) ?_
        obtain ⟨r10, e11, h⟩ := h_bd_ok h
        refine h_callI cx hw (c_X4_is l dC dI cI cZ q S a1 0 r10 e11) (cwV 2 hts (hgA (hcV wdL_X4_120 wdI_X4_is wdS_X4_is wdN_RX4 wdC_X4_is)) rfl rfl rfl pdX4_is ⟨Nat.le_of_ble_eq_true rfl, Nat.le_of_ble_eq_true rfl⟩) 0 (wM_p0 q cI cZ S) rfl rfl rfl hl.1 rfl (Nat.le_of_ble_eq_true rfl) dX4_hands_38 ⟨Nat.zero_le _, Nat.zero_le _⟩ (fun H locs hw => ?_)
        refine lv_if_eq (tgt := 63) hx hb dX4_hands_41 (by decide) (fun c12 => ?_) (fun c12 => ?_)
        · have h := h_ifp c12 h
          exact kk63  h _ _ _ hw (lv_sub hl [] rfl)
        · have h := h_ifn c12 h
          refine lv_aload_n hx hb dX4_hands_44 rfl (lv_at hl 0 rfl) ?_
          refine h_get (v := .ref (q 17)) cx hw 0 (wM_p0 q cI cZ S) rfl hinX4 18 (by decide) lk59 rfl dX4_hands_45 ?_
          refine lv_iconst (v := 4) hx hb dX4_hands_48 (by decide) ?_
          refine lv_aload_n hx hb dX4_hands_49 rfl (lv_at hl 0 rfl) ?_
          refine lv_iload_n hx hb dX4_hands_50 rfl (lv_at hl 2 rfl) ?_
          refine lv_iload_n hx hb dX4_hands_51 rfl (lv_at hl 1 rfl) ?_
          obtain ⟨r13, e14, h⟩ := h_bd_ok h
          refine h_callI cx hw (c_X4_otherOf l dC dI cI cZ q S a2 a1 r13 e14) (cwV 2 hts (hgA (hcV wdL_X4_123 wdI_X4_otherOf wdS_X4_otherOf wdN_RX4 wdC_X4_otherOf)) rfl rfl rfl pdX4_otherOf ⟨Nat.le_of_ble_eq_true rfl, Nat.le_of_ble_eq_true rfl⟩) 0 (wM_p0 q cI cZ S) rfl rfl rfl hl.1 rfl (Nat.le_of_ble_eq_true rfl) dX4_hands_52 ⟨Nat.zero_le _, Nat.zero_le _⟩ (fun H locs hw => ?_)
          refine lv_imul hx hb dX4_hands_55 ?_
          refine lv_iload_n hx hb dX4_hands_56 rfl (lv_at hl 3 rfl) ?_
          refine lv_iadd hx hb dX4_hands_57 ?_
          obtain ⟨v15, e16, h⟩ := h_bd_ok h
          refine h_ald cx hw 17 (wM_p17 q cI cZ S) e16 dX4_hands_58 ?_
          refine lv_iload_n hx hb dX4_hands_59 rfl (lv_at hl 1 rfl) ?_
          refine lv_icmp_ne (tgt := 67) hx hb dX4_hands_60 (by decide) (fun c17 => ?_) (fun c17 => ?_)
          · have h := h_ifn c17 h
            refine lv_iconst (v := 0) hx hb dX4_hands_67 (by decide) ?_
            exact h_iret cx hw hr hlk rfl (Option.some.inj h) rfl dX4_hands_68
          · have h := h_ifp c17 h
            exact kk63  h _ _ _ hw (lv_sub hl [] rfl)
      · have h := h_ifp c9 h
        refine lv_iconst (v := 0) hx hb dX4_hands_33 (by decide) ?_
        exact h_iret cx hw hr hlk rfl (Option.some.inj h) rfl dX4_hands_34
set_option maxHeartbeats 4000000 in
set_option maxRecDepth 100000 in
theorem c_X4_labelWas (l : Launch) (dC : Nat → ClassId) (dI : Nat → Nat → Nat) (cI cZ : ClassId) (q : Nat → Nat) (S : HSt) (a1 a2 a3 : Int32) (r : Int32) (h : f_X4_labelWas S a1 a2 a3 = some r) : MI l yX4_labelWas hsX4_labelWas rmX4_labelWas (dC, dI) cI cZ (wM q cI cZ) S [.ref (q 0), .int a1, .int a2, .int a3] r S := by
  refine MI.ofW (cc := cX4_labelWas) (maxL := 6) (ret := (some .int)) (by decide +kernel) rfl (Nat.le_of_ble_eq_true rfl) ?_
  intro p e s m below meth c A cx hr hlk hw ls hl
  have hx := cx.1.1
  have hb := cx.1.2.1
  have hml := cx.1.2.2.1
  have hts := cx.1.2.2.2.2
  have hta : ∀ z ∈ hALL, z.before _ s = true := fun z h => hts z (List.mem_cons_of_mem _ h)
  have lk47 : (Cond.fieldLink RX4 47 (TX4 14).1 (TX4 14).2.1 (TX4 14).2.2.1).before _ s = true := hta _ wdF_X4_47
  have lk84 : (Cond.fieldLink RX4 84 (TX4 0).1 (TX4 0).2.1 (TX4 0).2.2.1).before _ s = true := hta _ wdF_X4_84
  have hl : lv_has ls 6 [(0, .ref (q 0)), (1, .int a1), (2, .int a2), (3, .int a3)] := hl
  unfold f_X4_labelWas at h
  have kk3 : ∀ (n3 : Nat) (x1 x2 x3 x4 : Int32), f_X4_labelWas_3 S n3 x1 x2 x3 x4 = some r → ∀ (H : Heap) (locs : List Loc) (ls : Array Slot), HW (dC, dI) (wM q cI cZ) S A s H locs → lv_has ls 6 [(0, .ref (q 0)), (1, .int x1), (2, .int x2), (3, .int x3), (4, .int x4)] → W p l e rmX4_labelWas s m ([.ref (q 0), .int a1, .int a2, .int a3] : List Value).toArray below meth c H locs 0 0 (MQ below (QI (dC, dI) (wM q cI cZ) r S A) ([.ref (q 0), .int a1, .int a2, .int a3] : List Value).toArray s 0 0 A) (F0 m 3 ls []) := by
    intro n3
    induction n3 with
    | zero =>
      intro x1 x2 x3 x4 h
      have h9 : (none : Option Int32) = some r := h
      cases h9
    | succ n3 ih3 =>
      intro x1 x2 x3 x4 h H locs ls hw hl
      have h : f_X4_labelWas_3_s S (f_X4_labelWas_3 S n3) x1 x2 x3 x4 = some r := h
      unfold f_X4_labelWas_3_s at h
      have kk48 : ∀ (x1 x2 x3 x4 : Int32), f_X4_labelWas_48 S (f_X4_labelWas_3 S n3) x1 x2 x3 x4 = some r → ∀ (H : Heap) (locs : List Loc) (ls : Array Slot), HW (dC, dI) (wM q cI cZ) S A s H locs → lv_has ls 6 [(0, .ref (q 0)), (1, .int x1), (2, .int x2), (3, .int x3), (4, .int x4)] → W p l e rmX4_labelWas s m ([.ref (q 0), .int a1, .int a2, .int a3] : List Value).toArray below meth c H locs 0 0 (MQ below (QI (dC, dI) (wM q cI cZ) r S A) ([.ref (q 0), .int a1, .int a2, .int a3] : List Value).toArray s 0 0 A) (F0 m 48 ls []) := by
        intro x1 x2 x3 x4 h H locs ls hw hl
        unfold f_X4_labelWas_48 at h
        refine lv_iinc (v := x4 + 1) (lv' := [(4, .int (x4 + 1)), (0, .ref (q 0)), (1, .int x1), (2, .int x2), (3, .int x3)]) hx hb dX4_labelWas_48 hl (k := 4) rfl rfl (by decide) rfl (fun ls hl => ?_)
        refine lv_goto (tgt := 3) hx hb dX4_labelWas_51 (by decide) ?_
        exact ih3 _ _ _ _ h _ _ _ hw (lv_sub hl [1, 2, 3, 4, 0] rfl)
      have kk38 : ∀ (x1 x2 x3 x4 x5 : Int32), f_X4_labelWas_38 S (f_X4_labelWas_3 S n3) x1 x2 x3 x4 x5 = some r → ∀ (H : Heap) (locs : List Loc) (ls : Array Slot), HW (dC, dI) (wM q cI cZ) S A s H locs → lv_has ls 6 [(0, .ref (q 0)), (1, .int x1), (2, .int x2), (3, .int x3), (4, .int x4), (5, .int x5)] → W p l e rmX4_labelWas s m ([.ref (q 0), .int a1, .int a2, .int a3] : List Value).toArray below meth c H locs 0 0 (MQ below (QI (dC, dI) (wM q cI cZ) r S A) ([.ref (q 0), .int a1, .int a2, .int a3] : List Value).toArray s 0 0 A) (F0 m 38 ls []) := by
        intro x1 x2 x3 x4 x5 h H locs ls hw hl
        unfold f_X4_labelWas_38 at h
        refine lv_iload hx hb dX4_labelWas_38 (lv_at hl 5 rfl) ?_
        refine lv_bipush (v := 16) hx hb dX4_labelWas_40 (by decide) ?_
        refine lv_icmp_lt (tgt := 48) hx hb dX4_labelWas_42 (by decide) (fun c1 => ?_) (fun c1 => ?_)
        · have h := h_ifp c1 h
          exact kk48 _ _ _ _ h _ _ _ hw (lv_sub hl [0, 1, 2, 3, 4] rfl)
        · have h := h_ifn c1 h
          refine lv_iload hx hb dX4_labelWas_45 (lv_at hl 5 rfl) ?_
          exact h_iret cx hw hr hlk rfl (Option.some.inj h) rfl dX4_labelWas_47
      refine lv_iload hx hb dX4_labelWas_3 (lv_at hl 4 rfl) ?_
      refine lv_aload_n hx hb dX4_labelWas_5 rfl (lv_at hl 0 rfl) ?_
      refine h_get (v := .int (S.1 0)) cx hw 0 (wM_p0 q cI cZ S) rfl hinX4 0 (by decide) lk84 rfl dX4_labelWas_6 ?_
      refine lv_icmp_ge (tgt := 54) hx hb dX4_labelWas_9 (by decide) (fun c1 => ?_) (fun c1 => ?_)
      · have h := h_ifp c1 h
        refine lv_iconst (v := 0) hx hb dX4_labelWas_54 (by decide) ?_
        exact h_iret cx hw hr hlk rfl (Option.some.inj h) rfl dX4_labelWas_55
      · have h := h_ifn c1 h
        refine lv_aload_n hx hb dX4_labelWas_12 rfl (lv_at hl 0 rfl) ?_
        refine h_get (v := .ref (q 13)) cx hw 0 (wM_p0 q cI cZ S) rfl hinX4 14 (by decide) lk47 rfl dX4_labelWas_13 ?_
        refine lv_iload_n hx hb dX4_labelWas_16 rfl (lv_at hl 1 rfl) ?_
        refine lv_iload hx hb dX4_labelWas_17 (lv_at hl 4 rfl) ?_
        refine lv_iload_n hx hb dX4_labelWas_19 rfl (lv_at hl 3 rfl) ?_
        obtain ⟨r2, e3, h⟩ := h_bd_ok h
        refine h_callS cx.1 (c_X4_at l x1 x4 x3 r2 e3) (va_cwS 3 hts (hgA (hcS wdL_X4_109 wdT_X4_at wdN_RX4 wdC_X4_at)) rfl rfl rfl pdX4_at.2 ⟨Nat.le_of_ble_eq_true rfl, Nat.le_of_ble_eq_true rfl⟩) rfl hl.1 rfl (Nat.le_of_ble_eq_true rfl) dX4_labelWas_20 ⟨Nat.zero_le _, Nat.zero_le _⟩ ?_
        obtain ⟨v4, e5, h⟩ := h_bd_ok h
        refine h_ald cx hw 13 (wM_p13 q cI cZ S) e5 dX4_labelWas_23 ?_
        refine lv_istore (lv' := [(5, .int v4), (0, .ref (q 0)), (1, .int x1), (2, .int x2), (3, .int x3), (4, .int x4)]) hx hb dX4_labelWas_24 hl (by decide) rfl (fun ls hl => ?_)
        refine lv_iload_n hx hb dX4_labelWas_26 rfl (lv_at hl 3 rfl) ?_
        refine lv_bipush (v := (-9)) hx hb dX4_labelWas_27 (by decide) ?_
        refine lv_icmp_eq (tgt := 38) hx hb dX4_labelWas_29 (by decide) (fun c6 => ?_) (fun c6 => ?_)
        · have h := h_ifp c6 h
          exact kk38 _ _ _ _ _ h _ _ _ hw (lv_sub hl [1, 2, 3, 4, 5, 0] rfl)
        · have h := h_ifn c6 h
          refine lv_iload_n hx hb dX4_labelWas_32 rfl (lv_at hl 3 rfl) ?_
          refine lv_iload hx hb dX4_labelWas_33 (lv_at hl 5 rfl) ?_
          refine lv_icmp_ne (tgt := 48) hx hb dX4_labelWas_35 (by decide) (fun c7 => ?_) (fun c7 => ?_)
          · have h := h_ifn c7 h
            exact kk48 _ _ _ _ h _ _ _ hw (lv_sub hl [1, 2, 3, 4, 5] rfl)
          · have h := h_ifp c7 h
            exact kk38 _ _ _ _ _ h _ _ _ hw (lv_sub hl [1, 2, 3, 4, 5, 0] rfl)
  refine lv_iconst (v := 0) hx hb dX4_labelWas_0 (by decide) ?_
  refine lv_istore (lv' := [(4, .int 0), (0, .ref (q 0)), (1, .int a1), (2, .int a2), (3, .int a3)]) hx hb dX4_labelWas_1 hl (by decide) rfl (fun ls hl => ?_)
  exact kk3 h_fu _ _ _ _ h _ _ _ hw (lv_sub hl [1, 2, 3, 4, 0] rfl)
set_option maxHeartbeats 4000000 in
set_option maxRecDepth 100000 in
theorem c_X4_isInRow (l : Launch) (dC : Nat → ClassId) (dI : Nat → Nat → Nat) (cI cZ : ClassId) (q : Nat → Nat) (S : HSt) (a1 a2 a3 : Int32) (r : Int32) (h : f_X4_isInRow S a1 a2 a3 = some r) : MI l yX4_isInRow hsX4_isInRow rmX4_isInRow (dC, dI) cI cZ (wM q cI cZ) S [.ref (q 0), .int a1, .int a2, .int a3] r S := by
  refine MI.ofW (cc := cX4_isInRow) (maxL := 6) (ret := (some .boolean)) (by decide +kernel) rfl (Nat.le_of_ble_eq_true rfl) ?_
  intro p e s m below meth c A cx hr hlk hw ls hl
  have hx := cx.1.1
  have hb := cx.1.2.1
  have hml := cx.1.2.2.1
  have hts := cx.1.2.2.2.2
  have hta : ∀ z ∈ hALL, z.before _ s = true := fun z h => hts z (List.mem_cons_of_mem _ h)
  have lk35 : (Cond.fieldLink RX4 35 (TX4 9).1 (TX4 9).2.1 (TX4 9).2.2.1).before _ s = true := hta _ wdF_X4_35
  have lk84 : (Cond.fieldLink RX4 84 (TX4 0).1 (TX4 0).2.1 (TX4 0).2.2.1).before _ s = true := hta _ wdF_X4_84
  have hl : lv_has ls 6 [(0, .ref (q 0)), (1, .int a1), (2, .int a2), (3, .int a3)] := hl
  unfold f_X4_isInRow at h
  have kk3 : ∀ (n3 : Nat) (x1 x2 x3 x4 : Int32), f_X4_isInRow_3 S n3 x1 x2 x3 x4 = some r → ∀ (H : Heap) (locs : List Loc) (ls : Array Slot), HW (dC, dI) (wM q cI cZ) S A s H locs → lv_has ls 6 [(0, .ref (q 0)), (1, .int x1), (2, .int x2), (3, .int x3), (4, .int x4)] → W p l e rmX4_isInRow s m ([.ref (q 0), .int a1, .int a2, .int a3] : List Value).toArray below meth c H locs 0 0 (MQ below (QI (dC, dI) (wM q cI cZ) r S A) ([.ref (q 0), .int a1, .int a2, .int a3] : List Value).toArray s 0 0 A) (F0 m 3 ls []) := by
    intro n3
    induction n3 with
    | zero =>
      intro x1 x2 x3 x4 h
      have h9 : (none : Option Int32) = some r := h
      cases h9
    | succ n3 ih3 =>
      intro x1 x2 x3 x4 h H locs ls hw hl
      have h : f_X4_isInRow_3_s S (f_X4_isInRow_3 S n3) x1 x2 x3 x4 = some r := h
      unfold f_X4_isInRow_3_s at h
      have kk15 : ∀ (n15 : Nat) (x1 x2 x3 x4 x5 : Int32), f_X4_isInRow_15 S (f_X4_isInRow_3 S n3) n15 x1 x2 x3 x4 x5 = some r → ∀ (H : Heap) (locs : List Loc) (ls : Array Slot), HW (dC, dI) (wM q cI cZ) S A s H locs → lv_has ls 6 [(0, .ref (q 0)), (1, .int x1), (2, .int x2), (3, .int x3), (4, .int x4), (5, .int x5)] → W p l e rmX4_isInRow s m ([.ref (q 0), .int a1, .int a2, .int a3] : List Value).toArray below meth c H locs 0 0 (MQ below (QI (dC, dI) (wM q cI cZ) r S A) ([.ref (q 0), .int a1, .int a2, .int a3] : List Value).toArray s 0 0 A) (F0 m 15 ls []) := by
        intro n15
        induction n15 with
        | zero =>
          intro x1 x2 x3 x4 x5 h
          have h9 : (none : Option Int32) = some r := h
          cases h9
        | succ n15 ih15 =>
          intro x1 x2 x3 x4 x5 h H locs ls hw hl
          have h : f_X4_isInRow_15_s S (f_X4_isInRow_3 S n3) (f_X4_isInRow_15 S (f_X4_isInRow_3 S n3) n15) x1 x2 x3 x4 x5 = some r := h
          unfold f_X4_isInRow_15_s at h
          have kk52 : ∀ (x1 x2 x3 x4 x5 : Int32), f_X4_isInRow_52 S (f_X4_isInRow_15 S (f_X4_isInRow_3 S n3) n15) x1 x2 x3 x4 x5 = some r → ∀ (H : Heap) (locs : List Loc) (ls : Array Slot), HW (dC, dI) (wM q cI cZ) S A s H locs → lv_has ls 6 [(0, .ref (q 0)), (1, .int x1), (2, .int x2), (3, .int x3), (4, .int x4), (5, .int x5)] → W p l e rmX4_isInRow s m ([.ref (q 0), .int a1, .int a2, .int a3] : List Value).toArray below meth c H locs 0 0 (MQ below (QI (dC, dI) (wM q cI cZ) r S A) ([.ref (q 0), .int a1, .int a2, .int a3] : List Value).toArray s 0 0 A) (F0 m 52 ls []) := by
            intro x1 x2 x3 x4 x5 h H locs ls hw hl
            unfold f_X4_isInRow_52 at h
            refine lv_iinc (v := x5 + 1) (lv' := [(5, .int (x5 + 1)), (0, .ref (q 0)), (1, .int x1), (2, .int x2), (3, .int x3), (4, .int x4)]) hx hb dX4_isInRow_52 hl (k := 5) rfl rfl (by decide) rfl (fun ls hl => ?_)
            refine lv_goto (tgt := 15) hx hb dX4_isInRow_55 (by decide) ?_
            exact ih15 _ _ _ _ _ h _ _ _ hw (lv_sub hl [1, 2, 3, 4, 5, 0] rfl)
          have kk33 : ∀ (x1 x2 x3 x4 x5 : Int32), f_X4_isInRow_33 S (f_X4_isInRow_15 S (f_X4_isInRow_3 S n3) n15) x1 x2 x3 x4 x5 = some r → ∀ (H : Heap) (locs : List Loc) (ls : Array Slot), HW (dC, dI) (wM q cI cZ) S A s H locs → lv_has ls 6 [(0, .ref (q 0)), (1, .int x1), (2, .int x2), (3, .int x3), (4, .int x4), (5, .int x5)] → W p l e rmX4_isInRow s m ([.ref (q 0), .int a1, .int a2, .int a3] : List Value).toArray below meth c H locs 0 0 (MQ below (QI (dC, dI) (wM q cI cZ) r S A) ([.ref (q 0), .int a1, .int a2, .int a3] : List Value).toArray s 0 0 A) (F0 m 33 ls []) := by
            intro x1 x2 x3 x4 x5 h H locs ls hw hl
            unfold f_X4_isInRow_33 at h
            refine lv_aload_n hx hb dX4_isInRow_33 rfl (lv_at hl 0 rfl) ?_
            refine h_get (v := .ref (q 9)) cx hw 0 (wM_p0 q cI cZ S) rfl hinX4 9 (by decide) lk35 rfl dX4_isInRow_34 ?_
            refine lv_iload_n hx hb dX4_isInRow_37 rfl (lv_at hl 1 rfl) ?_
            refine lv_iload hx hb dX4_isInRow_38 (lv_at hl 4 rfl) ?_
            refine lv_iload hx hb dX4_isInRow_40 (lv_at hl 5 rfl) ?_
            obtain ⟨r1, e2, h⟩ := h_bd_ok h
            refine h_callS cx.1 (c_X4_at l x1 x4 x5 r1 e2) (va_cwS 3 hts (hgA (hcS wdL_X4_109 wdT_X4_at wdN_RX4 wdC_X4_at)) rfl rfl rfl pdX4_at.2 ⟨Nat.le_of_ble_eq_true rfl, Nat.le_of_ble_eq_true rfl⟩) rfl hl.1 rfl (Nat.le_of_ble_eq_true rfl) dX4_isInRow_42 ⟨Nat.zero_le _, Nat.zero_le _⟩ ?_
            obtain ⟨v3, e4, h⟩ := h_bd_ok h
            refine h_ald cx hw 9 (wM_p9 q cI cZ S) e4 dX4_isInRow_45 ?_
            refine lv_iload_n hx hb dX4_isInRow_46 rfl (lv_at hl 3 rfl) ?_
            refine lv_icmp_ne (tgt := 52) hx hb dX4_isInRow_47 (by decide) (fun c5 => ?_) (fun c5 => ?_)
            · have h := h_ifn c5 h
              exact kk52 _ _ _ _ _ h _ _ _ hw (lv_sub hl [0, 1, 2, 3, 4, 5] rfl)
            · have h := h_ifp c5 h
              refine lv_iconst (v := 1) hx hb dX4_isInRow_50 (by decide) ?_
              exact h_iret cx hw hr hlk rfl (Option.some.inj h) rfl dX4_isInRow_51
          refine lv_iload hx hb dX4_isInRow_15 (lv_at hl 5 rfl) ?_
          refine lv_iconst (v := 4) hx hb dX4_isInRow_17 (by decide) ?_
          refine lv_icmp_ge (tgt := 58) hx hb dX4_isInRow_18 (by decide) (fun c1 => ?_) (fun c1 => ?_)
          · have h := h_ifp c1 h
            refine lv_iinc (v := x4 + 1) (lv' := [(4, .int (x4 + 1)), (0, .ref (q 0)), (1, .int x1), (2, .int x2), (3, .int x3), (5, .int x5)]) hx hb dX4_isInRow_58 hl (k := 4) rfl rfl (by decide) rfl (fun ls hl => ?_)
            refine lv_goto (tgt := 3) hx hb dX4_isInRow_61 (by decide) ?_
            exact ih3 _ _ _ _ h _ _ _ hw (lv_sub hl [1, 2, 3, 4, 0] rfl)
          · have h := h_ifn c1 h
            refine lv_iload_n hx hb dX4_isInRow_21 rfl (lv_at hl 2 rfl) ?_
            refine lv_bipush (v := (-9)) hx hb dX4_isInRow_22 (by decide) ?_
            refine lv_icmp_eq (tgt := 33) hx hb dX4_isInRow_24 (by decide) (fun c2 => ?_) (fun c2 => ?_)
            · have h := h_ifp c2 h
              exact kk33 _ _ _ _ _ h _ _ _ hw (lv_sub hl [0, 1, 2, 3, 4, 5] rfl)
            · have h := h_ifn c2 h
              refine lv_iload_n hx hb dX4_isInRow_27 rfl (lv_at hl 2 rfl) ?_
              refine lv_iload hx hb dX4_isInRow_28 (lv_at hl 4 rfl) ?_
              refine lv_icmp_ne (tgt := 52) hx hb dX4_isInRow_30 (by decide) (fun c3 => ?_) (fun c3 => ?_)
              · have h := h_ifn c3 h
                exact kk52 _ _ _ _ _ h _ _ _ hw (lv_sub hl [0, 1, 2, 3, 4, 5] rfl)
              · have h := h_ifp c3 h
                exact kk33 _ _ _ _ _ h _ _ _ hw (lv_sub hl [0, 1, 2, 3, 4, 5] rfl)
      refine lv_iload hx hb dX4_isInRow_3 (lv_at hl 4 rfl) ?_
      refine lv_aload_n hx hb dX4_isInRow_5 rfl (lv_at hl 0 rfl) ?_
      refine h_get (v := .int (S.1 0)) cx hw 0 (wM_p0 q cI cZ S) rfl hinX4 0 (by decide) lk84 rfl dX4_isInRow_6 ?_
      refine lv_icmp_ge (tgt := 64) hx hb dX4_isInRow_9 (by decide) (fun c1 => ?_) (fun c1 => ?_)
      · have h := h_ifp c1 h
        refine lv_iconst (v := 0) hx hb dX4_isInRow_64 (by decide) ?_
        exact h_iret cx hw hr hlk rfl (Option.some.inj h) rfl dX4_isInRow_65
      · have h := h_ifn c1 h
        refine lv_iconst (v := 0) hx hb dX4_isInRow_12 (by decide) ?_
        refine lv_istore (lv' := [(5, .int 0), (0, .ref (q 0)), (1, .int x1), (2, .int x2), (3, .int x3), (4, .int x4)]) hx hb dX4_isInRow_13 hl (by decide) rfl (fun ls hl => ?_)
        exact kk15 h_fu _ _ _ _ _ h _ _ _ hw (lv_sub hl [1, 2, 3, 4, 5, 0] rfl)
  refine lv_iconst (v := 0) hx hb dX4_isInRow_0 (by decide) ?_
  refine lv_istore (lv' := [(4, .int 0), (0, .ref (q 0)), (1, .int a1), (2, .int a2), (3, .int a3)]) hx hb dX4_isInRow_1 hl (by decide) rfl (fun ls hl => ?_)
  exact kk3 h_fu _ _ _ _ h _ _ _ hw (lv_sub hl [1, 2, 3, 4, 0] rfl)
set_option maxHeartbeats 4000000 in
set_option maxRecDepth 100000 in
theorem c_X4_isNew (l : Launch) (dC : Nat → ClassId) (dI : Nat → Nat → Nat) (cI cZ : ClassId) (q : Nat → Nat) (S : HSt) (a1 a2 a3 : Int32) (r : Int32) (h : f_X4_isNew S a1 a2 a3 = some r) : MI l yX4_isNew hsX4_isNew rmX4_isNew (dC, dI) cI cZ (wM q cI cZ) S [.ref (q 0), .int a1, .int a2, .int a3] r S := by
  refine MI.ofW (cc := cX4_isNew) (maxL := 4) (ret := (some .boolean)) (by decide +kernel) rfl (Nat.le_of_ble_eq_true rfl) ?_
  intro p e s m below meth c A cx hr hlk hw ls hl
  have hx := cx.1.1
  have hb := cx.1.2.1
  have hml := cx.1.2.2.1
  have hts := cx.1.2.2.2.2
  have hta : ∀ z ∈ hALL, z.before _ s = true := fun z h => hts z (List.mem_cons_of_mem _ h)
  have lk23 : (Cond.fieldLink RX4 23 (TX4 5).1 (TX4 5).2.1 (TX4 5).2.2.1).before _ s = true := hta _ wdF_X4_23
  have hl : lv_has ls 4 [(0, .ref (q 0)), (1, .int a1), (2, .int a2), (3, .int a3)] := hl
  unfold f_X4_isNew at h
  have kk19 : ∀ (x1 x2 x3 : Int32), f_X4_isNew_19 S x1 x2 x3 = some r → ∀ (H : Heap) (locs : List Loc) (ls : Array Slot), HW (dC, dI) (wM q cI cZ) S A s H locs → lv_has ls 4 [(0, .ref (q 0)), (1, .int x1), (2, .int x2), (3, .int x3)] → W p l e rmX4_isNew s m ([.ref (q 0), .int a1, .int a2, .int a3] : List Value).toArray below meth c H locs 0 0 (MQ below (QI (dC, dI) (wM q cI cZ) r S A) ([.ref (q 0), .int a1, .int a2, .int a3] : List Value).toArray s 0 0 A) (F0 m 19 ls []) := by
    intro x1 x2 x3 h H locs ls hw hl
    unfold f_X4_isNew_19 at h
    refine lv_aload_n hx hb dX4_isNew_19 rfl (lv_at hl 0 rfl) ?_
    refine lv_iload_n hx hb dX4_isNew_20 rfl (lv_at hl 1 rfl) ?_
    refine lv_iload_n hx hb dX4_isNew_21 rfl (lv_at hl 2 rfl) ?_
    refine lv_iload_n hx hb dX4_isNew_22 rfl (lv_at hl 3 rfl) ?_
    obtain ⟨r1, e2, h⟩ := h_bd_ok h
    refine h_callI cx hw (c_X4_labelWas l dC dI cI cZ q S x1 x2 x3 r1 e2) (cwV 3 hts (hgA (hcV wdL_X4_126 wdI_X4_labelWas wdS_X4_labelWas wdN_RX4 wdC_X4_labelWas)) rfl rfl rfl pdX4_labelWas ⟨Nat.le_of_ble_eq_true rfl, Nat.le_of_ble_eq_true rfl⟩) 0 (wM_p0 q cI cZ S) rfl rfl rfl hl.1 rfl (Nat.le_of_ble_eq_true rfl) dX4_isNew_23 ⟨Nat.zero_le _, Nat.zero_le _⟩ (fun H locs hw => ?_)
    refine lv_if_ne (tgt := 33) hx hb dX4_isNew_26 (by decide) (fun c3 => ?_) (fun c3 => ?_)
    · have h := h_ifn c3 h
      refine lv_iconst (v := 0) hx hb dX4_isNew_33 (by decide) ?_
      exact h_iret cx hw hr hlk rfl (Option.some.inj h) rfl dX4_isNew_34
    · have h := h_ifp c3 h
      refine lv_iconst (v := 1) hx hb dX4_isNew_29 (by decide) ?_
      refine lv_goto (tgt := 34) hx hb dX4_isNew_30 (by decide) ?_
      exact h_iret cx hw hr hlk rfl (Option.some.inj h) rfl dX4_isNew_34
  refine lv_aload_n hx hb dX4_isNew_0 rfl (lv_at hl 0 rfl) ?_
  refine h_get (v := .ref (q 5)) cx hw 0 (wM_p0 q cI cZ S) rfl hinX4 5 (by decide) lk23 rfl dX4_isNew_1 ?_
  refine lv_iload_n hx hb dX4_isNew_4 rfl (lv_at hl 3 rfl) ?_
  obtain ⟨v1, e2, h⟩ := h_bd_ok h
  refine h_ald cx hw 5 (wM_p5 q cI cZ S) e2 dX4_isNew_5 ?_
  refine lv_iload_n hx hb dX4_isNew_6 rfl (lv_at hl 1 rfl) ?_
  refine lv_icmp_ne (tgt := 19) hx hb dX4_isNew_7 (by decide) (fun c3 => ?_) (fun c3 => ?_)
  · have h := h_ifn c3 h
    exact kk19 _ _ _ h _ _ _ hw (lv_sub hl [0, 1, 2, 3] rfl)
  · have h := h_ifp c3 h
    refine lv_aload_n hx hb dX4_isNew_10 rfl (lv_at hl 0 rfl) ?_
    refine lv_iload_n hx hb dX4_isNew_11 rfl (lv_at hl 1 rfl) ?_
    refine lv_iconst (v := 3) hx hb dX4_isNew_12 (by decide) ?_
    obtain ⟨r4, e5, h⟩ := h_bd_ok h
    refine h_callI cx hw (c_X4_is l dC dI cI cZ q S a1 3 r4 e5) (cwV 2 hts (hgA (hcV wdL_X4_120 wdI_X4_is wdS_X4_is wdN_RX4 wdC_X4_is)) rfl rfl rfl pdX4_is ⟨Nat.le_of_ble_eq_true rfl, Nat.le_of_ble_eq_true rfl⟩) 0 (wM_p0 q cI cZ S) rfl rfl rfl hl.1 rfl (Nat.le_of_ble_eq_true rfl) dX4_isNew_13 ⟨Nat.zero_le _, Nat.zero_le _⟩ (fun H locs hw => ?_)
    refine lv_if_ne (tgt := 33) hx hb dX4_isNew_16 (by decide) (fun c6 => ?_) (fun c6 => ?_)
    · have h := h_ifn c6 h
      refine lv_iconst (v := 0) hx hb dX4_isNew_33 (by decide) ?_
      exact h_iret cx hw hr hlk rfl (Option.some.inj h) rfl dX4_isNew_34
    · have h := h_ifp c6 h
      exact kk19 _ _ _ h _ _ _ hw (lv_sub hl [0, 1, 2, 3] rfl)
set_option maxHeartbeats 4000000 in
set_option maxRecDepth 100000 in
theorem c_X4_labels (l : Launch) (dC : Nat → ClassId) (dI : Nat → Nat → Nat) (cI cZ : ClassId) (q : Nat → Nat) (S : HSt) (a1 a2 a3 a4 : Int32) (S9 : HSt) (h : f_X4_labels S a1 a2 a3 a4 = some S9) : MV l yX4_labels hsX4_labels rmX4_labels (dC, dI) cI cZ (wM q cI cZ) S [.ref (q 0), .int a1, .int a2, .int a3, .int a4] S9 := by
  refine MV.ofW (cc := cX4_labels) (maxL := 6) (ret := none) (by decide +kernel) rfl (Nat.le_of_ble_eq_true rfl) ?_
  intro p e s m below meth c A cx hr hlk hw ls hl
  have hx := cx.1.1
  have hb := cx.1.2.1
  have hml := cx.1.2.2.1
  have hts := cx.1.2.2.2.2
  have hta : ∀ z ∈ hALL, z.before _ s = true := fun z h => hts z (List.mem_cons_of_mem _ h)
  have lk35 : (Cond.fieldLink RX4 35 (TX4 9).1 (TX4 9).2.1 (TX4 9).2.2.1).before _ s = true := hta _ wdF_X4_35
  have lk38 : (Cond.fieldLink RX4 38 (TX4 10).1 (TX4 10).2.1 (TX4 10).2.2.1).before _ s = true := hta _ wdF_X4_38
  have lk62 : (Cond.fieldLink RX4 62 (TX4 19).1 (TX4 19).2.1 (TX4 19).2.2.1).before _ s = true := hta _ wdF_X4_62
  have lk84 : (Cond.fieldLink RX4 84 (TX4 0).1 (TX4 0).2.1 (TX4 0).2.2.1).before _ s = true := hta _ wdF_X4_84
  have hl : lv_has ls 6 [(0, .ref (q 0)), (1, .int a1), (2, .int a2), (3, .int a3), (4, .int a4)] := hl
  unfold f_X4_labels at h
  have kk3 : ∀ (n3 : Nat) (S : HSt) (x1 x2 x3 x4 x5 : Int32), f_X4_labels_3 n3 S x1 x2 x3 x4 x5 = some S9 → ∀ (H : Heap) (locs : List Loc) (ls : Array Slot), HW (dC, dI) (wM q cI cZ) S A s H locs → lv_has ls 6 [(0, .ref (q 0)), (1, .int x1), (2, .int x2), (3, .int x3), (4, .int x4), (5, .int x5)] → W p l e rmX4_labels s m ([.ref (q 0), .int a1, .int a2, .int a3, .int a4] : List Value).toArray below meth c H locs 0 0 (MQ below (QV (dC, dI) (wM q cI cZ) S9 A) ([.ref (q 0), .int a1, .int a2, .int a3, .int a4] : List Value).toArray s 0 0 A) (F0 m 3 ls []) := by
    intro n3
    induction n3 with
    | zero =>
      intro S x1 x2 x3 x4 x5 h
      have h9 : (none : Option HSt) = some S9 := h
      cases h9
    | succ n3 ih3 =>
      intro S x1 x2 x3 x4 x5 h H locs ls hw hl
      have h : f_X4_labels_3_s (f_X4_labels_3 n3) S x1 x2 x3 x4 x5 = some S9 := h
      unfold f_X4_labels_3_s at h
      have kk71 : ∀ (S : HSt) (x1 x2 x3 x4 x5 : Int32), f_X4_labels_71 (f_X4_labels_3 n3) S x1 x2 x3 x4 x5 = some S9 → ∀ (H : Heap) (locs : List Loc) (ls : Array Slot), HW (dC, dI) (wM q cI cZ) S A s H locs → lv_has ls 6 [(0, .ref (q 0)), (1, .int x1), (2, .int x2), (3, .int x3), (4, .int x4), (5, .int x5)] → W p l e rmX4_labels s m ([.ref (q 0), .int a1, .int a2, .int a3, .int a4] : List Value).toArray below meth c H locs 0 0 (MQ below (QV (dC, dI) (wM q cI cZ) S9 A) ([.ref (q 0), .int a1, .int a2, .int a3, .int a4] : List Value).toArray s 0 0 A) (F0 m 71 ls []) := by
        intro S x1 x2 x3 x4 x5 h H locs ls hw hl
        unfold f_X4_labels_71 at h
        refine lv_iinc (v := x5 + 1) (lv' := [(5, .int (x5 + 1)), (0, .ref (q 0)), (1, .int x1), (2, .int x2), (3, .int x3), (4, .int x4)]) hx hb dX4_labels_71 hl (k := 5) rfl rfl (by decide) rfl (fun ls hl => ?_)
        refine lv_goto (tgt := 3) hx hb dX4_labels_74 (by decide) ?_
        exact ih3 _ _ _ _ _ _ h _ _ _ hw (lv_sub hl [1, 2, 3, 4, 5, 0] rfl)
      have kk24 : ∀ (S : HSt) (x1 x2 x3 x4 x5 : Int32), f_X4_labels_24 (f_X4_labels_3 n3) S x1 x2 x3 x4 x5 = some S9 → ∀ (H : Heap) (locs : List Loc) (ls : Array Slot), HW (dC, dI) (wM q cI cZ) S A s H locs → lv_has ls 6 [(0, .ref (q 0)), (1, .int x1), (2, .int x2), (3, .int x3), (4, .int x4), (5, .int x5)] → W p l e rmX4_labels s m ([.ref (q 0), .int a1, .int a2, .int a3, .int a4] : List Value).toArray below meth c H locs 0 0 (MQ below (QV (dC, dI) (wM q cI cZ) S9 A) ([.ref (q 0), .int a1, .int a2, .int a3, .int a4] : List Value).toArray s 0 0 A) (F0 m 24 ls []) := by
        intro S x1 x2 x3 x4 x5 h H locs ls hw hl
        unfold f_X4_labels_24 at h
        refine lv_aload_n hx hb dX4_labels_24 rfl (lv_at hl 0 rfl) ?_
        refine lv_iload_n hx hb dX4_labels_25 rfl (lv_at hl 1 rfl) ?_
        refine lv_iload hx hb dX4_labels_26 (lv_at hl 5 rfl) ?_
        refine lv_iload_n hx hb dX4_labels_28 rfl (lv_at hl 3 rfl) ?_
        obtain ⟨r1, e2, h⟩ := h_bd_ok h
        refine h_callI cx hw (c_X4_hands l dC dI cI cZ q S x1 x5 x3 r1 e2) (cwV 3 hts (hgA (hcV wdL_X4_129 wdI_X4_hands wdS_X4_hands wdN_RX4 wdC_X4_hands)) rfl rfl rfl pdX4_hands ⟨Nat.le_of_ble_eq_true rfl, Nat.le_of_ble_eq_true rfl⟩) 0 (wM_p0 q cI cZ S) rfl rfl rfl hl.1 rfl (Nat.le_of_ble_eq_true rfl) dX4_labels_29 ⟨Nat.zero_le _, Nat.zero_le _⟩ (fun H locs hw => ?_)
        refine lv_if_eq (tgt := 71) hx hb dX4_labels_32 (by decide) (fun c3 => ?_) (fun c3 => ?_)
        · have h := h_ifp c3 h
          exact kk71 _ _ _ _ _ _ h _ _ _ hw (lv_sub hl [0, 1, 2, 3, 4, 5] rfl)
        · have h := h_ifn c3 h
          refine lv_aload_n hx hb dX4_labels_35 rfl (lv_at hl 0 rfl) ?_
          refine h_get (v := .ref (q 9)) cx hw 0 (wM_p0 q cI cZ S) rfl hinX4 9 (by decide) lk35 rfl dX4_labels_36 ?_
          refine lv_iload_n hx hb dX4_labels_39 rfl (lv_at hl 1 rfl) ?_
          refine lv_iload hx hb dX4_labels_40 (lv_at hl 5 rfl) ?_
          refine lv_iload_n hx hb dX4_labels_42 rfl (lv_at hl 3 rfl) ?_
          obtain ⟨r4, e5, h⟩ := h_bd_ok h
          refine h_callS cx.1 (c_X4_at l x1 x5 x3 r4 e5) (va_cwS 3 hts (hgA (hcS wdL_X4_109 wdT_X4_at wdN_RX4 wdC_X4_at)) rfl rfl rfl pdX4_at.2 ⟨Nat.le_of_ble_eq_true rfl, Nat.le_of_ble_eq_true rfl⟩) rfl hl.1 rfl (Nat.le_of_ble_eq_true rfl) dX4_labels_43 ⟨Nat.zero_le _, Nat.zero_le _⟩ ?_
          refine lv_iload hx hb dX4_labels_46 (lv_at hl 4 rfl) ?_
          obtain ⟨S6, e7, h⟩ := h_bd_ok h
          refine h_ast cx hw 9 (wM_p9 q cI cZ S) (wM_s9 q cI cZ S) e7 dX4_labels_48 (fun H locs hw => ?_)
          refine lv_aload_n hx hb dX4_labels_49 rfl (lv_at hl 0 rfl) ?_
          refine h_get (v := .ref (q 10)) cx hw 0 (wM_p0 q cI cZ S6) rfl hinX4 10 (by decide) lk38 rfl dX4_labels_50 ?_
          refine lv_iload_n hx hb dX4_labels_53 rfl (lv_at hl 1 rfl) ?_
          refine lv_iload hx hb dX4_labels_54 (lv_at hl 5 rfl) ?_
          refine lv_iload_n hx hb dX4_labels_56 rfl (lv_at hl 3 rfl) ?_
          obtain ⟨r8, e9, h⟩ := h_bd_ok h
          refine h_callS cx.1 (c_X4_at l x1 x5 x3 r8 e9) (va_cwS 3 hts (hgA (hcS wdL_X4_109 wdT_X4_at wdN_RX4 wdC_X4_at)) rfl rfl rfl pdX4_at.2 ⟨Nat.le_of_ble_eq_true rfl, Nat.le_of_ble_eq_true rfl⟩) rfl hl.1 rfl (Nat.le_of_ble_eq_true rfl) dX4_labels_57 ⟨Nat.zero_le _, Nat.zero_le _⟩ ?_
          refine lv_aload_n hx hb dX4_labels_60 rfl (lv_at hl 0 rfl) ?_
          refine h_get (v := .ref (q 18)) cx hw 0 (wM_p0 q cI cZ S6) rfl hinX4 19 (by decide) lk62 rfl dX4_labels_61 ?_
          refine lv_iconst (v := 4) hx hb dX4_labels_64 (by decide) ?_
          refine lv_iload_n hx hb dX4_labels_65 rfl (lv_at hl 1 rfl) ?_
          refine lv_imul hx hb dX4_labels_66 ?_
          refine lv_iload_n hx hb dX4_labels_67 rfl (lv_at hl 3 rfl) ?_
          refine lv_iadd hx hb dX4_labels_68 ?_
          obtain ⟨v10, e11, h⟩ := h_bd_ok h
          refine h_ald cx hw 18 (wM_p18 q cI cZ S6) e11 dX4_labels_69 ?_
          obtain ⟨S12, e13, h⟩ := h_bd_ok h
          refine h_ast cx hw 10 (wM_p10 q cI cZ S6) (wM_s10 q cI cZ S6) e13 dX4_labels_70 (fun H locs hw => ?_)
          exact kk71 _ _ _ _ _ _ h _ _ _ hw (lv_sub hl [0, 1, 2, 3, 4, 5] rfl)
      refine lv_iload hx hb dX4_labels_3 (lv_at hl 5 rfl) ?_
      refine lv_aload_n hx hb dX4_labels_5 rfl (lv_at hl 0 rfl) ?_
      refine h_get (v := .int (S.1 0)) cx hw 0 (wM_p0 q cI cZ S) rfl hinX4 0 (by decide) lk84 rfl dX4_labels_6 ?_
      refine lv_icmp_ge (tgt := 77) hx hb dX4_labels_9 (by decide) (fun c1 => ?_) (fun c1 => ?_)
      · have h := h_ifp c1 h
        exact h_vret cx hw hr hlk (Option.some.inj h) dX4_labels_77
      · have h := h_ifn c1 h
        refine lv_iload_n hx hb dX4_labels_12 rfl (lv_at hl 2 rfl) ?_
        refine lv_bipush (v := (-9)) hx hb dX4_labels_13 (by decide) ?_
        refine lv_icmp_eq (tgt := 24) hx hb dX4_labels_15 (by decide) (fun c2 => ?_) (fun c2 => ?_)
        · have h := h_ifp c2 h
          exact kk24 _ _ _ _ _ _ h _ _ _ hw (lv_sub hl [0, 1, 2, 3, 4, 5] rfl)
        · have h := h_ifn c2 h
          refine lv_iload_n hx hb dX4_labels_18 rfl (lv_at hl 2 rfl) ?_
          refine lv_iload hx hb dX4_labels_19 (lv_at hl 5 rfl) ?_
          refine lv_icmp_ne (tgt := 71) hx hb dX4_labels_21 (by decide) (fun c3 => ?_) (fun c3 => ?_)
          · have h := h_ifn c3 h
            exact kk71 _ _ _ _ _ _ h _ _ _ hw (lv_sub hl [0, 1, 2, 3, 4, 5] rfl)
          · have h := h_ifp c3 h
            exact kk24 _ _ _ _ _ _ h _ _ _ hw (lv_sub hl [0, 1, 2, 3, 4, 5] rfl)
  refine lv_iconst (v := 0) hx hb dX4_labels_0 (by decide) ?_
  refine lv_istore (lv' := [(5, .int 0), (0, .ref (q 0)), (1, .int a1), (2, .int a2), (3, .int a3), (4, .int a4)]) hx hb dX4_labels_1 hl (by decide) rfl (fun ls hl => ?_)
  exact kk3 h_fu _ _ _ _ _ _ h _ _ _ hw (lv_sub hl [1, 2, 3, 4, 5, 0] rfl)
set_option maxHeartbeats 4000000 in
set_option maxRecDepth 100000 in
theorem c_X4_handsInRow (l : Launch) (dC : Nat → ClassId) (dI : Nat → Nat → Nat) (cI cZ : ClassId) (q : Nat → Nat) (S : HSt) (a1 a2 a3 : Int32) (r : Int32) (h : f_X4_handsInRow S a1 a2 a3 = some r) : MI l yX4_handsInRow hsX4_handsInRow rmX4_handsInRow (dC, dI) cI cZ (wM q cI cZ) S [.ref (q 0), .int a1, .int a2, .int a3] r S := by
  refine MI.ofW (cc := cX4_handsInRow) (maxL := 5) (ret := (some .boolean)) (by decide +kernel) rfl (Nat.le_of_ble_eq_true rfl) ?_
  intro p e s m below meth c A cx hr hlk hw ls hl
  have hx := cx.1.1
  have hb := cx.1.2.1
  have hml := cx.1.2.2.1
  have hts := cx.1.2.2.2.2
  have hta : ∀ z ∈ hALL, z.before _ s = true := fun z h => hts z (List.mem_cons_of_mem _ h)
  have lk84 : (Cond.fieldLink RX4 84 (TX4 0).1 (TX4 0).2.1 (TX4 0).2.2.1).before _ s = true := hta _ wdF_X4_84
  have hl : lv_has ls 5 [(0, .ref (q 0)), (1, .int a1), (2, .int a2), (3, .int a3)] := hl
  unfold f_X4_handsInRow at h
  have kk3 : ∀ (n3 : Nat) (x1 x2 x3 x4 : Int32), f_X4_handsInRow_3 S n3 x1 x2 x3 x4 = some r → ∀ (H : Heap) (locs : List Loc) (ls : Array Slot), HW (dC, dI) (wM q cI cZ) S A s H locs → lv_has ls 5 [(0, .ref (q 0)), (1, .int x1), (2, .int x2), (3, .int x3), (4, .int x4)] → W p l e rmX4_handsInRow s m ([.ref (q 0), .int a1, .int a2, .int a3] : List Value).toArray below meth c H locs 0 0 (MQ below (QI (dC, dI) (wM q cI cZ) r S A) ([.ref (q 0), .int a1, .int a2, .int a3] : List Value).toArray s 0 0 A) (F0 m 3 ls []) := by
    intro n3
    induction n3 with
    | zero =>
      intro x1 x2 x3 x4 h
      have h9 : (none : Option Int32) = some r := h
      cases h9
    | succ n3 ih3 =>
      intro x1 x2 x3 x4 h H locs ls hw hl
      have h : f_X4_handsInRow_3_s S (f_X4_handsInRow_3 S n3) x1 x2 x3 x4 = some r := h
      unfold f_X4_handsInRow_3_s at h
      have kk37 : ∀ (x1 x2 x3 x4 : Int32), f_X4_handsInRow_37 S (f_X4_handsInRow_3 S n3) x1 x2 x3 x4 = some r → ∀ (H : Heap) (locs : List Loc) (ls : Array Slot), HW (dC, dI) (wM q cI cZ) S A s H locs → lv_has ls 5 [(0, .ref (q 0)), (1, .int x1), (2, .int x2), (3, .int x3), (4, .int x4)] → W p l e rmX4_handsInRow s m ([.ref (q 0), .int a1, .int a2, .int a3] : List Value).toArray below meth c H locs 0 0 (MQ below (QI (dC, dI) (wM q cI cZ) r S A) ([.ref (q 0), .int a1, .int a2, .int a3] : List Value).toArray s 0 0 A) (F0 m 37 ls []) := by
        intro x1 x2 x3 x4 h H locs ls hw hl
        unfold f_X4_handsInRow_37 at h
        refine lv_iinc (v := x4 + 1) (lv' := [(4, .int (x4 + 1)), (0, .ref (q 0)), (1, .int x1), (2, .int x2), (3, .int x3)]) hx hb dX4_handsInRow_37 hl (k := 4) rfl rfl (by decide) rfl (fun ls hl => ?_)
        refine lv_goto (tgt := 3) hx hb dX4_handsInRow_40 (by decide) ?_
        exact ih3 _ _ _ _ h _ _ _ hw (lv_sub hl [1, 2, 3, 4, 0] rfl)
      have kk24 : ∀ (x1 x2 x3 x4 : Int32), f_X4_handsInRow_24 S (f_X4_handsInRow_3 S n3) x1 x2 x3 x4 = some r → ∀ (H : Heap) (locs : List Loc) (ls : Array Slot), HW (dC, dI) (wM q cI cZ) S A s H locs → lv_has ls 5 [(0, .ref (q 0)), (1, .int x1), (2, .int x2), (3, .int x3), (4, .int x4)] → W p l e rmX4_handsInRow s m ([.ref (q 0), .int a1, .int a2, .int a3] : List Value).toArray below meth c H locs 0 0 (MQ below (QI (dC, dI) (wM q cI cZ) r S A) ([.ref (q 0), .int a1, .int a2, .int a3] : List Value).toArray s 0 0 A) (F0 m 24 ls []) := by
        intro x1 x2 x3 x4 h H locs ls hw hl
        unfold f_X4_handsInRow_24 at h
        refine lv_aload_n hx hb dX4_handsInRow_24 rfl (lv_at hl 0 rfl) ?_
        refine lv_iload_n hx hb dX4_handsInRow_25 rfl (lv_at hl 1 rfl) ?_
        refine lv_iload hx hb dX4_handsInRow_26 (lv_at hl 4 rfl) ?_
        refine lv_iload_n hx hb dX4_handsInRow_28 rfl (lv_at hl 3 rfl) ?_
        obtain ⟨r1, e2, h⟩ := h_bd_ok h
        refine h_callI cx hw (c_X4_hands l dC dI cI cZ q S x1 x4 x3 r1 e2) (cwV 3 hts (hgA (hcV wdL_X4_129 wdI_X4_hands wdS_X4_hands wdN_RX4 wdC_X4_hands)) rfl rfl rfl pdX4_hands ⟨Nat.le_of_ble_eq_true rfl, Nat.le_of_ble_eq_true rfl⟩) 0 (wM_p0 q cI cZ S) rfl rfl rfl hl.1 rfl (Nat.le_of_ble_eq_true rfl) dX4_handsInRow_29 ⟨Nat.zero_le _, Nat.zero_le _⟩ (fun H locs hw => ?_)
        refine lv_if_eq (tgt := 37) hx hb dX4_handsInRow_32 (by decide) (fun c3 => ?_) (fun c3 => ?_)
        · have h := h_ifp c3 h
          exact kk37 _ _ _ _ h _ _ _ hw (lv_sub hl [0, 1, 2, 3, 4] rfl)
        · have h := h_ifn c3 h
          refine lv_iconst (v := 1) hx hb dX4_handsInRow_35 (by decide) ?_
          exact h_iret cx hw hr hlk rfl (Option.some.inj h) rfl dX4_handsInRow_36
      refine lv_iload hx hb dX4_handsInRow_3 (lv_at hl 4 rfl) ?_
      refine lv_aload_n hx hb dX4_handsInRow_5 rfl (lv_at hl 0 rfl) ?_
      refine h_get (v := .int (S.1 0)) cx hw 0 (wM_p0 q cI cZ S) rfl hinX4 0 (by decide) lk84 rfl dX4_handsInRow_6 ?_
      refine lv_icmp_ge (tgt := 43) hx hb dX4_handsInRow_9 (by decide) (fun c1 => ?_) (fun c1 => ?_)
      · have h := h_ifp c1 h
        refine lv_iconst (v := 0) hx hb dX4_handsInRow_43 (by decide) ?_
        exact h_iret cx hw hr hlk rfl (Option.some.inj h) rfl dX4_handsInRow_44
      · have h := h_ifn c1 h
        refine lv_iload_n hx hb dX4_handsInRow_12 rfl (lv_at hl 2 rfl) ?_
        refine lv_bipush (v := (-9)) hx hb dX4_handsInRow_13 (by decide) ?_
        refine lv_icmp_eq (tgt := 24) hx hb dX4_handsInRow_15 (by decide) (fun c2 => ?_) (fun c2 => ?_)
        · have h := h_ifp c2 h
          exact kk24 _ _ _ _ h _ _ _ hw (lv_sub hl [0, 1, 2, 3, 4] rfl)
        · have h := h_ifn c2 h
          refine lv_iload_n hx hb dX4_handsInRow_18 rfl (lv_at hl 2 rfl) ?_
          refine lv_iload hx hb dX4_handsInRow_19 (lv_at hl 4 rfl) ?_
          refine lv_icmp_ne (tgt := 37) hx hb dX4_handsInRow_21 (by decide) (fun c3 => ?_) (fun c3 => ?_)
          · have h := h_ifn c3 h
            exact kk37 _ _ _ _ h _ _ _ hw (lv_sub hl [0, 1, 2, 3, 4] rfl)
          · have h := h_ifp c3 h
            exact kk24 _ _ _ _ h _ _ _ hw (lv_sub hl [0, 1, 2, 3, 4] rfl)
  refine lv_iconst (v := 0) hx hb dX4_handsInRow_0 (by decide) ?_
  refine lv_istore (lv' := [(4, .int 0), (0, .ref (q 0)), (1, .int a1), (2, .int a2), (3, .int a3)]) hx hb dX4_handsInRow_1 hl (by decide) rfl (fun ls hl => ?_)
  exact kk3 h_fu _ _ _ _ h _ _ _ hw (lv_sub hl [1, 2, 3, 4, 0] rfl)
set_option maxHeartbeats 4000000 in
set_option maxRecDepth 100000 in
theorem c_X4_handsRow (l : Launch) (dC : Nat → ClassId) (dI : Nat → Nat → Nat) (cI cZ : ClassId) (q : Nat → Nat) (S : HSt) (a1 a2 : Int32) (S9 : HSt) (h : f_X4_handsRow S a1 a2 = some S9) : MV l yX4_handsRow hsX4_handsRow rmX4_handsRow (dC, dI) cI cZ (wM q cI cZ) S [.ref (q 0), .int a1, .int a2] S9 := by
  refine MV.ofW (cc := cX4_handsRow) (maxL := 5) (ret := none) (by decide +kernel) rfl (Nat.le_of_ble_eq_true rfl) ?_
  intro p e s m below meth c A cx hr hlk hw ls hl
  have hx := cx.1.1
  have hb := cx.1.2.1
  have hml := cx.1.2.2.1
  have hts := cx.1.2.2.2.2
  have hta : ∀ z ∈ hALL, z.before _ s = true := fun z h => hts z (List.mem_cons_of_mem _ h)
  have lk23 : (Cond.fieldLink RX4 23 (TX4 5).1 (TX4 5).2.1 (TX4 5).2.2.1).before _ s = true := hta _ wdF_X4_23
  have hl : lv_has ls 5 [(0, .ref (q 0)), (1, .int a1), (2, .int a2)] := hl
  unfold f_X4_handsRow at h
  have kk2 : ∀ (n2 : Nat) (S : HSt) (x1 x2 x3 : Int32), f_X4_handsRow_2 n2 S x1 x2 x3 = some S9 → ∀ (H : Heap) (locs : List Loc) (ls : Array Slot), HW (dC, dI) (wM q cI cZ) S A s H locs → lv_has ls 5 [(0, .ref (q 0)), (1, .int x1), (2, .int x2), (3, .int x3)] → W p l e rmX4_handsRow s m ([.ref (q 0), .int a1, .int a2] : List Value).toArray below meth c H locs 0 0 (MQ below (QV (dC, dI) (wM q cI cZ) S9 A) ([.ref (q 0), .int a1, .int a2] : List Value).toArray s 0 0 A) (F0 m 2 ls []) := by
    intro n2
    induction n2 with
    | zero =>
      intro S x1 x2 x3 h
      have h9 : (none : Option HSt) = some S9 := h
      cases h9
    | succ n2 ih2 =>
      intro S x1 x2 x3 h H locs ls hw hl
      have h : f_X4_handsRow_2_s (f_X4_handsRow_2 n2) S x1 x2 x3 = some S9 := h
      unfold f_X4_handsRow_2_s at h
      have kk62 : ∀ (n62 : Nat) (S : HSt) (x1 x2 x3 : Int32), f_X4_handsRow_62 n62 S x1 x2 x3 = some S9 → ∀ (H : Heap) (locs : List Loc) (ls : Array Slot), HW (dC, dI) (wM q cI cZ) S A s H locs → lv_has ls 5 [(0, .ref (q 0)), (1, .int x1), (2, .int x2), (3, .int x3)] → W p l e rmX4_handsRow s m ([.ref (q 0), .int a1, .int a2] : List Value).toArray below meth c H locs 0 0 (MQ below (QV (dC, dI) (wM q cI cZ) S9 A) ([.ref (q 0), .int a1, .int a2] : List Value).toArray s 0 0 A) (F0 m 62 ls []) := by
        intro n62
        induction n62 with
        | zero =>
          intro S x1 x2 x3 h
          have h9 : (none : Option HSt) = some S9 := h
          cases h9
        | succ n62 ih62 =>
          intro S x1 x2 x3 h H locs ls hw hl
          have h : f_X4_handsRow_62_s (f_X4_handsRow_62 n62) S x1 x2 x3 = some S9 := h
          unfold f_X4_handsRow_62_s at h
          have kk117 : ∀ (S : HSt) (x1 x2 x3 : Int32), f_X4_handsRow_117 (f_X4_handsRow_62 n62) S x1 x2 x3 = some S9 → ∀ (H : Heap) (locs : List Loc) (ls : Array Slot), HW (dC, dI) (wM q cI cZ) S A s H locs → lv_has ls 5 [(0, .ref (q 0)), (1, .int x1), (2, .int x2), (3, .int x3)] → W p l e rmX4_handsRow s m ([.ref (q 0), .int a1, .int a2] : List Value).toArray below meth c H locs 0 0 (MQ below (QV (dC, dI) (wM q cI cZ) S9 A) ([.ref (q 0), .int a1, .int a2] : List Value).toArray s 0 0 A) (F0 m 117 ls []) := by
            intro S x1 x2 x3 h H locs ls hw hl
            unfold f_X4_handsRow_117 at h
            refine lv_iinc (v := x3 + 1) (lv' := [(3, .int (x3 + 1)), (0, .ref (q 0)), (1, .int x1), (2, .int x2)]) hx hb dX4_handsRow_117 hl (k := 3) rfl rfl (by decide) rfl (fun ls hl => ?_)
            refine lv_goto (tgt := 62) hx hb dX4_handsRow_120 (by decide) ?_
            exact ih62 _ _ _ _ h _ _ _ hw (lv_sub hl [1, 2, 3, 0] rfl)
          have kk91 : ∀ (n91 : Nat) (S : HSt) (x1 x2 x3 x4 : Int32), f_X4_handsRow_91 (f_X4_handsRow_62 n62) n91 S x1 x2 x3 x4 = some S9 → ∀ (H : Heap) (locs : List Loc) (ls : Array Slot), HW (dC, dI) (wM q cI cZ) S A s H locs → lv_has ls 5 [(0, .ref (q 0)), (1, .int x1), (2, .int x2), (3, .int x3), (4, .int x4)] → W p l e rmX4_handsRow s m ([.ref (q 0), .int a1, .int a2] : List Value).toArray below meth c H locs 0 0 (MQ below (QV (dC, dI) (wM q cI cZ) S9 A) ([.ref (q 0), .int a1, .int a2] : List Value).toArray s 0 0 A) (F0 m 91 ls []) := by
            intro n91
            induction n91 with
            | zero =>
              intro S x1 x2 x3 x4 h
              have h9 : (none : Option HSt) = some S9 := h
              cases h9
            | succ n91 ih91 =>
              intro S x1 x2 x3 x4 h H locs ls hw hl
              have h : f_X4_handsRow_91_s (f_X4_handsRow_62 n62) (f_X4_handsRow_91 (f_X4_handsRow_62 n62) n91) S x1 x2 x3 x4 = some S9 := h
              unfold f_X4_handsRow_91_s at h
              refine lv_aload_n hx hb dX4_handsRow_91 rfl (lv_at hl 0 rfl) ?_
              refine lv_iload_n hx hb dX4_handsRow_92 rfl (lv_at hl 1 rfl) ?_
              refine lv_iload_n hx hb dX4_handsRow_93 rfl (lv_at hl 2 rfl) ?_
              refine lv_iload hx hb dX4_handsRow_94 (lv_at hl 4 rfl) ?_
              obtain ⟨r1, e2, h⟩ := h_bd_ok h
              refine h_callI cx hw (c_X4_isInRow l dC dI cI cZ q S x1 x2 x4 r1 e2) (cwV 3 hts (hgA (hcV wdL_X4_142 wdI_X4_isInRow wdS_X4_isInRow wdN_RX4 wdC_X4_isInRow)) rfl rfl rfl pdX4_isInRow ⟨Nat.le_of_ble_eq_true rfl, Nat.le_of_ble_eq_true rfl⟩) 0 (wM_p0 q cI cZ S) rfl rfl rfl hl.1 rfl (Nat.le_of_ble_eq_true rfl) dX4_handsRow_96 ⟨Nat.zero_le _, Nat.zero_le _⟩ (fun H locs hw => ?_)
              refine lv_if_eq (tgt := 108) hx hb dX4_handsRow_99 (by decide) (fun c3 => ?_) (fun c3 => ?_)
              · have h := h_ifp c3 h
                refine lv_aload_n hx hb dX4_handsRow_108 rfl (lv_at hl 0 rfl) ?_
                refine lv_iload_n hx hb dX4_handsRow_109 rfl (lv_at hl 1 rfl) ?_
                refine lv_iload_n hx hb dX4_handsRow_110 rfl (lv_at hl 2 rfl) ?_
                refine lv_iload_n hx hb dX4_handsRow_111 rfl (lv_at hl 3 rfl) ?_
                refine lv_iload hx hb dX4_handsRow_112 (lv_at hl 4 rfl) ?_
                obtain ⟨S6, e5, h⟩ := h_bd_ok h
                refine h_callV cx hw (c_X4_labels l dC dI cI cZ q S x1 x2 x3 x4 S6 e5) (cwV 4 hts (hgA (hcV wdL_X4_135 wdI_X4_labels wdS_X4_labels wdN_RX4 wdC_X4_labels)) rfl rfl rfl pdX4_labels ⟨Nat.le_of_ble_eq_true rfl, Nat.le_of_ble_eq_true rfl⟩) 0 (wM_p0 q cI cZ S) rfl rfl rfl hl.1 rfl (Nat.le_of_ble_eq_true rfl) dX4_handsRow_114 ⟨Nat.zero_le _, Nat.zero_le _⟩ (fun H locs hw => ?_)
                exact kk117 _ _ _ _ h _ _ _ hw (lv_sub hl [0, 1, 2, 3] rfl)
              · have h := h_ifn c3 h
                refine lv_iinc (v := x4 + 1) (lv' := [(4, .int (x4 + 1)), (0, .ref (q 0)), (1, .int x1), (2, .int x2), (3, .int x3)]) hx hb dX4_handsRow_102 hl (k := 4) rfl rfl (by decide) rfl (fun ls hl => ?_)
                refine lv_goto (tgt := 91) hx hb dX4_handsRow_105 (by decide) ?_
                exact ih91 _ _ _ _ _ h _ _ _ hw (lv_sub hl [1, 2, 3, 4, 0] rfl)
          refine lv_iload_n hx hb dX4_handsRow_62 rfl (lv_at hl 3 rfl) ?_
          refine lv_iconst (v := 4) hx hb dX4_handsRow_63 (by decide) ?_
          refine lv_icmp_ge (tgt := 123) hx hb dX4_handsRow_64 (by decide) (fun c1 => ?_) (fun c1 => ?_)
          · have h := h_ifp c1 h
            exact h_vret cx hw hr hlk (Option.some.inj h) dX4_handsRow_123
          · have h := h_ifn c1 h
            refine lv_aload_n hx hb dX4_handsRow_67 rfl (lv_at hl 0 rfl) ?_
            refine lv_iload_n hx hb dX4_handsRow_68 rfl (lv_at hl 1 rfl) ?_
            refine lv_iload_n hx hb dX4_handsRow_69 rfl (lv_at hl 2 rfl) ?_
            refine lv_iload_n hx hb dX4_handsRow_70 rfl (lv_at hl 3 rfl) ?_
            obtain ⟨r2, e3, h⟩ := h_bd_ok h
            refine h_callI cx hw (c_X4_isNew l dC dI cI cZ q S x1 x2 x3 r2 e3) (cwV 3 hts (hgA (hcV wdL_X4_132 wdI_X4_isNew wdS_X4_isNew wdN_RX4 wdC_X4_isNew)) rfl rfl rfl pdX4_isNew ⟨Nat.le_of_ble_eq_true rfl, Nat.le_of_ble_eq_true rfl⟩) 0 (wM_p0 q cI cZ S) rfl rfl rfl hl.1 rfl (Nat.le_of_ble_eq_true rfl) dX4_handsRow_71 ⟨Nat.zero_le _, Nat.zero_le _⟩ (fun H locs hw => ?_)
            refine lv_if_eq (tgt := 117) hx hb dX4_handsRow_74 (by decide) (fun c4 => ?_) (fun c4 => ?_)
            · have h := h_ifp c4 h
              exact kk117 _ _ _ _ h _ _ _ hw (lv_sub hl [0, 1, 2, 3] rfl)
            · have h := h_ifn c4 h
              refine lv_aload_n hx hb dX4_handsRow_77 rfl (lv_at hl 0 rfl) ?_
              refine lv_iload_n hx hb dX4_handsRow_78 rfl (lv_at hl 1 rfl) ?_
              refine lv_iload_n hx hb dX4_handsRow_79 rfl (lv_at hl 2 rfl) ?_
              refine lv_iload_n hx hb dX4_handsRow_80 rfl (lv_at hl 3 rfl) ?_
              obtain ⟨r5, e6, h⟩ := h_bd_ok h
              refine h_callI cx hw (c_X4_handsInRow l dC dI cI cZ q S x1 x2 x3 r5 e6) (cwV 3 hts (hgA (hcV wdL_X4_139 wdI_X4_handsInRow wdS_X4_handsInRow wdN_RX4 wdC_X4_handsInRow)) rfl rfl rfl pdX4_handsInRow ⟨Nat.le_of_ble_eq_true rfl, Nat.le_of_ble_eq_true rfl⟩) 0 (wM_p0 q cI cZ S) rfl rfl rfl hl.1 rfl (Nat.le_of_ble_eq_true rfl) dX4_handsRow_81 ⟨Nat.zero_le _, Nat.zero_le _⟩ (fun H locs hw => ?_)
              refine lv_if_eq (tgt := 117) hx hb dX4_handsRow_84 (by decide) (fun c7 => ?_) (fun c7 => ?_)
              · have h := h_ifp c7 h
                exact kk117 _ _ _ _ h _ _ _ hw (lv_sub hl [0, 1, 2, 3] rfl)
              · have h := h_ifn c7 h
                refine lv_bipush (v := 16) hx hb dX4_handsRow_87 (by decide) ?_
                refine lv_istore (lv' := [(4, .int 16), (0, .ref (q 0)), (1, .int x1), (2, .int x2), (3, .int x3)]) hx hb dX4_handsRow_89 hl (by decide) rfl (fun ls hl => ?_)
                exact kk91 h_fu _ _ _ _ _ h _ _ _ hw (lv_sub hl [1, 2, 3, 4, 0] rfl)
      have kk54 : ∀ (S : HSt) (x1 x2 x3 : Int32), f_X4_handsRow_54 (f_X4_handsRow_2 n2) S x1 x2 x3 = some S9 → ∀ (H : Heap) (locs : List Loc) (ls : Array Slot), HW (dC, dI) (wM q cI cZ) S A s H locs → lv_has ls 5 [(0, .ref (q 0)), (1, .int x1), (2, .int x2), (3, .int x3)] → W p l e rmX4_handsRow s m ([.ref (q 0), .int a1, .int a2] : List Value).toArray below meth c H locs 0 0 (MQ below (QV (dC, dI) (wM q cI cZ) S9 A) ([.ref (q 0), .int a1, .int a2] : List Value).toArray s 0 0 A) (F0 m 54 ls []) := by
        intro S x1 x2 x3 h H locs ls hw hl
        unfold f_X4_handsRow_54 at h
        refine lv_iinc (v := x3 + 1) (lv' := [(3, .int (x3 + 1)), (0, .ref (q 0)), (1, .int x1), (2, .int x2)]) hx hb dX4_handsRow_54 hl (k := 3) rfl rfl (by decide) rfl (fun ls hl => ?_)
        refine lv_goto (tgt := 2) hx hb dX4_handsRow_57 (by decide) ?_
        exact ih2 _ _ _ _ h _ _ _ hw (lv_sub hl [1, 2, 3, 0] rfl)
      have kk51 : ∀ (S : HSt) (x1 x2 x3 t0 t1 t2 t3 : Int32), f_X4_handsRow_51 (f_X4_handsRow_2 n2) S x1 x2 x3 t0 t1 t2 t3 = some S9 → ∀ (H : Heap) (locs : List Loc) (ls : Array Slot), HW (dC, dI) (wM q cI cZ) S A s H locs → lv_has ls 5 [(0, .ref (q 0)), (1, .int x1), (2, .int x2), (3, .int x3)] → W p l e rmX4_handsRow s m ([.ref (q 0), .int a1, .int a2] : List Value).toArray below meth c H locs 0 0 (MQ below (QV (dC, dI) (wM q cI cZ) S9 A) ([.ref (q 0), .int a1, .int a2] : List Value).toArray s 0 0 A) (F0 m 51 ls [.int t0, .int t1, .int t2, .int t3, .ref (q 0)]) := by
        intro S x1 x2 x3 t0 t1 t2 t3 h H locs ls hw hl
        unfold f_X4_handsRow_51 at h
        obtain ⟨S3, e2, h⟩ := h_bd_ok h
        refine h_callV cx hw (c_X4_labels l dC dI cI cZ q S t3 t2 t1 t0 S3 e2) (cwV 4 hts (hgA (hcV wdL_X4_135 wdI_X4_labels wdS_X4_labels wdN_RX4 wdC_X4_labels)) rfl rfl rfl pdX4_labels ⟨Nat.le_of_ble_eq_true rfl, Nat.le_of_ble_eq_true rfl⟩) 0 (wM_p0 q cI cZ S) rfl rfl rfl hl.1 rfl (Nat.le_of_ble_eq_true rfl) dX4_handsRow_51 ⟨Nat.zero_le _, Nat.zero_le _⟩ (fun H locs hw => ?_)
        exact kk54 _ _ _ _ h _ _ _ hw (lv_sub hl [0, 1, 2, 3] rfl)
      have kk44 : ∀ (S : HSt) (x1 x2 x3 t0 t1 t2 : Int32), f_X4_handsRow_44 (f_X4_handsRow_2 n2) S x1 x2 x3 t0 t1 t2 = some S9 → ∀ (H : Heap) (locs : List Loc) (ls : Array Slot), HW (dC, dI) (wM q cI cZ) S A s H locs → lv_has ls 5 [(0, .ref (q 0)), (1, .int x1), (2, .int x2), (3, .int x3)] → W p l e rmX4_handsRow s m ([.ref (q 0), .int a1, .int a2] : List Value).toArray below meth c H locs 0 0 (MQ below (QV (dC, dI) (wM q cI cZ) S9 A) ([.ref (q 0), .int a1, .int a2] : List Value).toArray s 0 0 A) (F0 m 44 ls [.int t0, .int t1, .int t2, .ref (q 0)]) := by
        intro S x1 x2 x3 t0 t1 t2 h H locs ls hw hl
        unfold f_X4_handsRow_44 at h
        refine lv_aload_n hx hb dX4_handsRow_44 rfl (lv_at hl 0 rfl) ?_
        refine lv_iload_n hx hb dX4_handsRow_45 rfl (lv_at hl 1 rfl) ?_
        refine lv_iload_n hx hb dX4_handsRow_46 rfl (lv_at hl 2 rfl) ?_
        refine lv_iload_n hx hb dX4_handsRow_47 rfl (lv_at hl 3 rfl) ?_
        obtain ⟨r1, e2, h⟩ := h_bd_ok h
        refine h_callI cx hw (c_X4_labelWas l dC dI cI cZ q S x1 x2 x3 r1 e2) (cwV 3 hts (hgA (hcV wdL_X4_126 wdI_X4_labelWas wdS_X4_labelWas wdN_RX4 wdC_X4_labelWas)) rfl rfl rfl pdX4_labelWas ⟨Nat.le_of_ble_eq_true rfl, Nat.le_of_ble_eq_true rfl⟩) 0 (wM_p0 q cI cZ S) rfl rfl rfl hl.1 rfl (Nat.le_of_ble_eq_true rfl) dX4_handsRow_48 ⟨Nat.zero_le _, Nat.zero_le _⟩ (fun H locs hw => ?_)
        exact kk51 _ _ _ _ _ _ _ _ h _ _ _ hw (lv_sub hl [0, 1, 2, 3] rfl)
      refine lv_iload_n hx hb dX4_handsRow_2 rfl (lv_at hl 3 rfl) ?_
      refine lv_iconst (v := 4) hx hb dX4_handsRow_3 (by decide) ?_
      refine lv_icmp_ge (tgt := 60) hx hb dX4_handsRow_4 (by decide) (fun c1 => ?_) (fun c1 => ?_)
      · have h := h_ifp c1 h
        refine lv_iconst (v := 0) hx hb dX4_handsRow_60 (by decide) ?_
        refine lv_istore_n (lv' := [(3, .int 0), (0, .ref (q 0)), (1, .int x1), (2, .int x2)]) hx hb dX4_handsRow_61 rfl hl (by decide) rfl (fun ls hl => ?_)
        exact kk62 h_fu _ _ _ _ h _ _ _ hw (lv_sub hl [1, 2, 3, 0] rfl)
      · have h := h_ifn c1 h
        refine lv_aload_n hx hb dX4_handsRow_7 rfl (lv_at hl 0 rfl) ?_
        refine lv_iload_n hx hb dX4_handsRow_8 rfl (lv_at hl 1 rfl) ?_
        refine lv_iload_n hx hb dX4_handsRow_9 rfl (lv_at hl 2 rfl) ?_
        refine lv_iload_n hx hb dX4_handsRow_10 rfl (lv_at hl 3 rfl) ?_
        obtain ⟨r2, e3, h⟩ := h_bd_ok h
        refine h_callI cx hw (c_X4_isNew l dC dI cI cZ q S x1 x2 x3 r2 e3) (cwV 3 hts (hgA (hcV wdL_X4_132 wdI_X4_isNew wdS_X4_isNew wdN_RX4 wdC_X4_isNew)) rfl rfl rfl pdX4_isNew ⟨Nat.le_of_ble_eq_true rfl, Nat.le_of_ble_eq_true rfl⟩) 0 (wM_p0 q cI cZ S) rfl rfl rfl hl.1 rfl (Nat.le_of_ble_eq_true rfl) dX4_handsRow_11 ⟨Nat.zero_le _, Nat.zero_le _⟩ (fun H locs hw => ?_)
        refine lv_if_ne (tgt := 54) hx hb dX4_handsRow_14 (by decide) (fun c4 => ?_) (fun c4 => ?_)
        · have h := h_ifn c4 h
          exact kk54 _ _ _ _ h _ _ _ hw (lv_sub hl [0, 1, 2, 3] rfl)
        · have h := h_ifp c4 h
          refine lv_aload_n hx hb dX4_handsRow_17 rfl (lv_at hl 0 rfl) ?_
          refine lv_iload_n hx hb dX4_handsRow_18 rfl (lv_at hl 1 rfl) ?_
          refine lv_iload_n hx hb dX4_handsRow_19 rfl (lv_at hl 2 rfl) ?_
          refine lv_iload_n hx hb dX4_handsRow_20 rfl (lv_at hl 3 rfl) ?_
          refine lv_aload_n hx hb dX4_handsRow_21 rfl (lv_at hl 0 rfl) ?_
          refine h_get (v := .ref (q 5)) cx hw 0 (wM_p0 q cI cZ S) rfl hinX4 5 (by decide) lk23 rfl dX4_handsRow_22 ?_
          refine lv_iload_n hx hb dX4_handsRow_25 rfl (lv_at hl 3 rfl) ?_
          obtain ⟨v5, e6, h⟩ := h_bd_ok h
          refine h_ald cx hw 5 (wM_p5 q cI cZ S) e6 dX4_handsRow_26 ?_
          refine lv_iload_n hx hb dX4_handsRow_27 rfl (lv_at hl 1 rfl) ?_
          refine lv_icmp_ne (tgt := 44) hx hb dX4_handsRow_28 (by decide) (fun c7 => ?_) (fun c7 => ?_)
          · have h := h_ifn c7 h
            exact kk44 _ _ _ _ _ _ _ h _ _ _ hw (lv_sub hl [0, 1, 2, 3] rfl)
          · have h := h_ifp c7 h
            refine lv_aload_n hx hb dX4_handsRow_31 rfl (lv_at hl 0 rfl) ?_
            refine lv_iload_n hx hb dX4_handsRow_32 rfl (lv_at hl 1 rfl) ?_
            refine lv_iconst (v := 3) hx hb dX4_handsRow_33 (by decide) ?_
            obtain ⟨r8, e9, h⟩ := h_bd_ok h
            refine h_callI cx hw (c_X4_is l dC dI cI cZ q S x1 3 r8 e9) (cwV 2 hts (hgA (hcV wdL_X4_120 wdI_X4_is wdS_X4_is wdN_RX4 wdC_X4_is)) rfl rfl rfl pdX4_is ⟨Nat.le_of_ble_eq_true rfl, Nat.le_of_ble_eq_true rfl⟩) 0 (wM_p0 q cI cZ S) rfl rfl rfl hl.1 rfl (Nat.le_of_ble_eq_true rfl) dX4_handsRow_34 ⟨Nat.zero_le _, Nat.zero_le _⟩ (fun H locs hw => ?_)
            refine lv_if_eq (tgt := 44) hx hb dX4_handsRow_37 (by decide) (fun c10 => ?_) (fun c10 => ?_)
            · have h := h_ifp c10 h
              exact kk44 _ _ _ _ _ _ _ h _ _ _ hw (lv_sub hl [0, 1, 2, 3] rfl)
            · have h := h_ifn c10 h
              refine lv_iconst (v := 3) hx hb dX4_handsRow_40 (by decide) ?_
              refine lv_goto (tgt := 51) hx hb dX4_handsRow_41 (by decide) ?_
              exact kk51 _ _ _ _ _ _ _ _ h _ _ _ hw (lv_sub hl [0, 1, 2, 3] rfl)
  refine lv_iconst (v := 0) hx hb dX4_handsRow_0 (by decide) ?_
  refine lv_istore_n (lv' := [(3, .int 0), (0, .ref (q 0)), (1, .int a1), (2, .int a2)]) hx hb dX4_handsRow_1 rfl hl (by decide) rfl (fun ls hl => ?_)
  exact kk2 h_fu _ _ _ _ h _ _ _ hw (lv_sub hl [1, 2, 3, 0] rfl)
