set_option maxHeartbeats 4000000 in
set_option maxRecDepth 100000 in
theorem c_X3_served (l : Launch) (dC : Nat → ClassId) (dI : Nat → Nat → Nat) (cI cZ : ClassId) (q : Nat → Nat) (S : HSt) (a1 a2 : Int32) (r : Int32) (S9 : HSt) (h : f_X3_served S a1 a2 = some (r, S9)) : MI l yX3_served hsX3_served rmX3_served (dC, dI) cI cZ (wC q cI) S [.ref (q 0), .int a1, .int a2] r S9 := by
  refine MI.ofW (cc := cX3_served) (maxL := 5) (ret := (some .int)) (by decide +kernel) rfl (Nat.le_of_ble_eq_true rfl) ?_
  intro p e s m below meth c A cx hr hlk hw ls hl
  have hx := cx.1.1
  have hb := cx.1.2.1
  have hml := cx.1.2.2.1
  have hts := cx.1.2.2.2.2
  have hta : ∀ z ∈ hALL, z.before _ s = true := fun z h => hts z (List.mem_cons_of_mem _ h)
  have hl : lv_has ls 5 [(0, .ref (q 0)), (1, .int a1), (2, .int a2)] := hl
  unfold f_X3_served at h
  have kk26 : ∀ (n26 : Nat) (S : HSt) (x1 x2 x3 x4 : Int32), f_X3_served_26 n26 S x1 x2 x3 x4 = some (r, S9) → ∀ (H : Heap) (locs : List Loc) (ls : Array Slot), HW (dC, dI) (wC q cI) S A s H locs → lv_has ls 5 [(0, .ref (q 0)), (1, .int x1), (2, .int x2), (3, .int x3), (4, .int x4)] → W p l e rmX3_served s m ([.ref (q 0), .int a1, .int a2] : List Value).toArray below meth c H locs 0 0 (MQ below (QI (dC, dI) (wC q cI) r S9 A) ([.ref (q 0), .int a1, .int a2] : List Value).toArray s 0 0 A) (F0 m 26 ls []) := by
    intro n26
    induction n26 with
    | zero =>
      intro S x1 x2 x3 x4 h
      have h9 : (none : Option (Int32 × HSt)) = some (r, S9) := h
      cases h9
    | succ n26 ih26 =>
      intro S x1 x2 x3 x4 h H locs ls hw hl
      have h : f_X3_served_26_s (f_X3_served_26 n26) S x1 x2 x3 x4 = some (r, S9) := h
      unfold f_X3_served_26_s at h
      have kk51 : ∀ (S : HSt) (x1 x2 x3 x4 : Int32), f_X3_served_51 (f_X3_served_26 n26) S x1 x2 x3 x4 = some (r, S9) → ∀ (H : Heap) (locs : List Loc) (ls : Array Slot), HW (dC, dI) (wC q cI) S A s H locs → lv_has ls 5 [(0, .ref (q 0)), (1, .int x1), (2, .int x2), (3, .int x3), (4, .int x4)] → W p l e rmX3_served s m ([.ref (q 0), .int a1, .int a2] : List Value).toArray below meth c H locs 0 0 (MQ below (QI (dC, dI) (wC q cI) r S9 A) ([.ref (q 0), .int a1, .int a2] : List Value).toArray s 0 0 A) (F0 m 51 ls []) := by
        intro S x1 x2 x3 x4 h H locs ls hw hl
        unfold f_X3_served_51 at h
        refine lv_iinc (v := x4 + 1) (lv' := [(4, .int (x4 + 1)), (0, .ref (q 0)), (1, .int x1), (2, .int x2), (3, .int x3)]) hx hb dX3_served_51 hl (k := 4) rfl rfl (by decide) rfl (fun ls hl => ?_)
        refine lv_goto (tgt := 26) hx hb dX3_served_54 (by decide) ?_
        exact ih26 _ _ _ _ _ h _ _ _ hw (lv_sub hl [1, 2, 3, 4, 0] rfl)
      refine lv_iload hx hb dX3_served_26 (lv_at hl 4 rfl) ?_
      refine lv_bipush (v := 7) hx hb dX3_served_28 (by decide) ?_
      refine lv_icmp_ge (tgt := 57) hx hb dX3_served_30 (by decide) (fun c1 => ?_) (fun c1 => ?_)
      · have h := h_ifp c1 h
        refine lv_iload_n hx hb dX3_served_57 rfl (lv_at hl 3 rfl) ?_
        exact h_iret cx hw hr hlk rfl (congrArg Prod.fst (Option.some.inj h)) (congrArg Prod.snd (Option.some.inj h)) dX3_served_58
      · have h := h_ifn c1 h
        refine lv_aload_n hx hb dX3_served_33 rfl (lv_at hl 0 rfl) ?_
        refine lv_iload hx hb dX3_served_34 (lv_at hl 4 rfl) ?_
        refine lv_iload_n hx hb dX3_served_36 rfl (lv_at hl 1 rfl) ?_
        refine lv_iload_n hx hb dX3_served_37 rfl (lv_at hl 2 rfl) ?_
        obtain ⟨r2, S4, e3, h⟩ := h_bi_ok h
        refine h_callI cx hw (c_X3_isServed l dC dI cI cZ q S x4 x1 x2 r2 S4 e3) (cwV 3 hts (hgA (hcV wdL_X3_163 wdI_X3_isServed wdS_X3_isServed wdN_RX3 wdC_X3_isServed)) rfl rfl rfl pdX3_isServed ⟨Nat.le_of_ble_eq_true rfl, Nat.le_of_ble_eq_true rfl⟩) 0 (wC_p0 q cI S) rfl rfl rfl hl.1 rfl (Nat.le_of_ble_eq_true rfl) dX3_served_38 ⟨Nat.zero_le _, Nat.zero_le _⟩ (fun H locs hw => ?_)
        refine lv_if_eq (tgt := 51) hx hb dX3_served_41 (by decide) (fun c5 => ?_) (fun c5 => ?_)
        · have h := h_ifp c5 h
          exact kk51 _ _ _ _ _ h _ _ _ hw (lv_sub hl [0, 1, 2, 3, 4] rfl)
        · have h := h_ifn c5 h
          refine lv_iload_n hx hb dX3_served_44 rfl (lv_at hl 3 rfl) ?_
          refine lv_iconst (v := 1) hx hb dX3_served_45 (by decide) ?_
          refine lv_iload hx hb dX3_served_46 (lv_at hl 4 rfl) ?_
          refine lv_ishl hx hb dX3_served_48 ?_
          refine lv_ior hx hb dX3_served_49 ?_
          refine lv_istore_n (lv' := [(3, .int (x3 ||| (1 <<< (x4 &&& 31)))), (0, .ref (q 0)), (1, .int x1), (2, .int x2), (4, .int x4)]) hx hb dX3_served_50 rfl hl (by decide) rfl (fun ls hl => ?_)
          exact kk51 _ _ _ _ _ h _ _ _ hw (lv_sub hl [1, 2, 3, 0, 4] rfl)
  refine lv_iload_n hx hb dX3_served_0 rfl (lv_at hl 1 rfl) ?_
  obtain ⟨r1, e2, h⟩ := h_bd_ok h
  refine h_callS cx.1 (c_X3_isClass l a1 r1 e2) (va_cwS 1 hts (hgA (hcS wdL_X3_89 wdT_X3_isClass wdN_RX3 wdC_X3_isClass)) rfl rfl rfl pdX3_isClass.2 ⟨Nat.le_of_ble_eq_true rfl, Nat.le_of_ble_eq_true rfl⟩) rfl hl.1 rfl (Nat.le_of_ble_eq_true rfl) dX3_served_1 ⟨Nat.zero_le _, Nat.zero_le _⟩ ?_
  refine lv_if_ne (tgt := 9) hx hb dX3_served_4 (by decide) (fun c3 => ?_) (fun c3 => ?_)
  · have h := h_ifn c3 h
    refine lv_iload_n hx hb dX3_served_9 rfl (lv_at hl 2 rfl) ?_
    refine lv_if_lt (tgt := 18) hx hb dX3_served_10 (by decide) (fun c4 => ?_) (fun c4 => ?_)
    · have h := h_ifp c4 h
      refine lv_bipush (v := (-2)) hx hb dX3_served_18 (by decide) ?_
      exact h_iret cx hw hr hlk rfl (congrArg Prod.fst (Option.some.inj h)) (congrArg Prod.snd (Option.some.inj h)) dX3_served_20
    · have h := h_ifn c4 h
      refine lv_iload_n hx hb dX3_served_13 rfl (lv_at hl 2 rfl) ?_
      refine lv_iconst (v := 2) hx hb dX3_served_14 (by decide) ?_
      refine lv_icmp_le (tgt := 21) hx hb dX3_served_15 (by decide) (fun c5 => ?_) (fun c5 => ?_)
      · have h := h_ifp c5 h
        refine lv_iconst (v := 0) hx hb dX3_served_21 (by decide) ?_
        refine lv_istore_n (lv' := [(3, .int 0), (0, .ref (q 0)), (1, .int a1), (2, .int a2)]) hx hb dX3_served_22 rfl hl (by decide) rfl (fun ls hl => ?_)
        refine lv_iconst (v := 0) hx hb dX3_served_23 (by decide) ?_
        refine lv_istore (lv' := [(4, .int 0), (3, .int 0), (0, .ref (q 0)), (1, .int a1), (2, .int a2)]) hx hb dX3_served_24 hl (by decide) rfl (fun ls hl => ?_)
        exact kk26 h_fu _ _ _ _ _ h _ _ _ hw (lv_sub hl [2, 3, 4, 1, 0] rfl)
      · have h := h_ifn c5 h
        refine lv_bipush (v := (-2)) hx hb dX3_served_18 (by decide) ?_
        exact h_iret cx hw hr hlk rfl (congrArg Prod.fst (Option.some.inj h)) (congrArg Prod.snd (Option.some.inj h)) dX3_served_20
  · have h := h_ifp c3 h
    refine lv_iconst (v := (-1)) hx hb dX3_served_7 (by decide) ?_
    exact h_iret cx hw hr hlk rfl (congrArg Prod.fst (Option.some.inj h)) (congrArg Prod.snd (Option.some.inj h)) dX3_served_8
set_option maxHeartbeats 4000000 in
set_option maxRecDepth 100000 in
theorem c_X3_merged (l : Launch) (dC : Nat → ClassId) (dI : Nat → Nat → Nat) (cI cZ : ClassId) (q : Nat → Nat) (S : HSt) (a1 a2 : Int32) (r : Int32) (h : f_X3_merged S a1 a2 = some r) : MI l yX3_merged hsX3_merged rmX3_merged (dC, dI) cI cZ (wC q cI) S [.ref (q 0), .int a1, .int a2] r S := by
  refine MI.ofW (cc := cX3_merged) (maxL := 5) (ret := (some .int)) (by decide +kernel) rfl (Nat.le_of_ble_eq_true rfl) ?_
  intro p e s m below meth c A cx hr hlk hw ls hl
  have hx := cx.1.1
  have hb := cx.1.2.1
  have hml := cx.1.2.2.1
  have hts := cx.1.2.2.2.2
  have hta : ∀ z ∈ hALL, z.before _ s = true := fun z h => hts z (List.mem_cons_of_mem _ h)
  have lk12 : (Cond.fieldLink RX3 12 (TX3 0).1 (TX3 0).2.1 (TX3 0).2.2.1).before _ s = true := hta _ wdF_X3_12
  have lk21 : (Cond.fieldLink RX3 21 (TX3 1).1 (TX3 1).2.1 (TX3 1).2.2.1).before _ s = true := hta _ wdF_X3_21
  have hl : lv_has ls 5 [(0, .ref (q 0)), (1, .int a1), (2, .int a2)] := hl
  unfold f_X3_merged at h
  have kk21 : ∀ (n21 : Nat) (x1 x2 x3 x4 : Int32), f_X3_merged_21 S n21 x1 x2 x3 x4 = some r → ∀ (H : Heap) (locs : List Loc) (ls : Array Slot), HW (dC, dI) (wC q cI) S A s H locs → lv_has ls 5 [(0, .ref (q 0)), (1, .int x1), (2, .int x2), (3, .int x3), (4, .int x4)] → W p l e rmX3_merged s m ([.ref (q 0), .int a1, .int a2] : List Value).toArray below meth c H locs 0 0 (MQ below (QI (dC, dI) (wC q cI) r S A) ([.ref (q 0), .int a1, .int a2] : List Value).toArray s 0 0 A) (F0 m 21 ls []) := by
    intro n21
    induction n21 with
    | zero =>
      intro x1 x2 x3 x4 h
      have h9 : (none : Option Int32) = some r := h
      cases h9
    | succ n21 ih21 =>
      intro x1 x2 x3 x4 h H locs ls hw hl
      have h : f_X3_merged_21_s S (f_X3_merged_21 S n21) x1 x2 x3 x4 = some r := h
      unfold f_X3_merged_21_s at h
      have kk62 : ∀ (x1 x2 x3 x4 : Int32), f_X3_merged_62 S (f_X3_merged_21 S n21) x1 x2 x3 x4 = some r → ∀ (H : Heap) (locs : List Loc) (ls : Array Slot), HW (dC, dI) (wC q cI) S A s H locs → lv_has ls 5 [(0, .ref (q 0)), (1, .int x1), (2, .int x2), (3, .int x3), (4, .int x4)] → W p l e rmX3_merged s m ([.ref (q 0), .int a1, .int a2] : List Value).toArray below meth c H locs 0 0 (MQ below (QI (dC, dI) (wC q cI) r S A) ([.ref (q 0), .int a1, .int a2] : List Value).toArray s 0 0 A) (F0 m 62 ls []) := by
        intro x1 x2 x3 x4 h H locs ls hw hl
        unfold f_X3_merged_62 at h
        refine lv_iinc (v := x4 + 1) (lv' := [(4, .int (x4 + 1)), (0, .ref (q 0)), (1, .int x1), (2, .int x2), (3, .int x3)]) hx hb dX3_merged_62 hl (k := 4) rfl rfl (by decide) rfl (fun ls hl => ?_)
        refine lv_goto (tgt := 21) hx hb dX3_merged_65 (by decide) ?_
        exact ih21 _ _ _ _ h _ _ _ hw (lv_sub hl [1, 2, 3, 4, 0] rfl)
      refine lv_iload hx hb dX3_merged_21 (lv_at hl 4 rfl) ?_
      refine lv_bipush (v := 7) hx hb dX3_merged_23 (by decide) ?_
      refine lv_icmp_ge (tgt := 68) hx hb dX3_merged_25 (by decide) (fun c1 => ?_) (fun c1 => ?_)
      · have h := h_ifp c1 h
        refine lv_iload_n hx hb dX3_merged_68 rfl (lv_at hl 3 rfl) ?_
        exact h_iret cx hw hr hlk rfl (Option.some.inj h) rfl dX3_merged_69
      · have h := h_ifn c1 h
        refine lv_aload_n hx hb dX3_merged_28 rfl (lv_at hl 0 rfl) ?_
        refine h_get (v := .ref (q 1)) cx hw 0 (wC_p0 q cI S) rfl hinX3 0 (by decide) lk12 rfl dX3_merged_29 ?_
        refine lv_iload hx hb dX3_merged_32 (lv_at hl 4 rfl) ?_
        refine lv_iload_n hx hb dX3_merged_34 rfl (lv_at hl 2 rfl) ?_
        obtain ⟨r2, e3, h⟩ := h_bd_ok h
        refine h_callI cx hw (c_X1_nextBox l dC dI cI cZ q S x4 x2 r2 e3) (cwV 2 hts (hgA (hcV wdL_X3_101 wdI_X1_nextBox wdS_X1_nextBox wdN_RX1 wdC_X1_nextBox)) rfl rfl rfl pdX1_nextBox ⟨Nat.le_of_ble_eq_true rfl, Nat.le_of_ble_eq_true rfl⟩) 1 (wC_p1 q cI S) rfl rfl rfl hl.1 rfl (Nat.le_of_ble_eq_true rfl) dX3_merged_35 ⟨Nat.zero_le _, Nat.zero_le _⟩ (fun H locs hw => ?_)
        refine lv_iload_n hx hb dX3_merged_38 rfl (lv_at hl 1 rfl) ?_
        refine lv_icmp_ne (tgt := 62) hx hb dX3_merged_39 (by decide) (fun c4 => ?_) (fun c4 => ?_)
        · have h := h_ifn c4 h
          exact kk62 _ _ _ _ h _ _ _ hw (lv_sub hl [0, 1, 2, 3, 4] rfl)
        · have h := h_ifp c4 h
          refine lv_aload_n hx hb dX3_merged_42 rfl (lv_at hl 0 rfl) ?_
          refine h_get (v := .ref (q 2)) cx hw 0 (wC_p0 q cI S) rfl hinX3 1 (by decide) lk21 rfl dX3_merged_43 ?_
          refine lv_iload hx hb dX3_merged_46 (lv_at hl 4 rfl) ?_
          refine lv_iload_n hx hb dX3_merged_48 rfl (lv_at hl 2 rfl) ?_
          obtain ⟨r5, e6, h⟩ := h_bd_ok h
          refine h_callI cx hw (c_X0_slipUsed l dC dI cI cZ q S x4 x2 r5 e6) (cwV 2 hts (hgA (hcV wdL_X3_138 wdI_X0_slipUsed wdS_X0_slipUsed wdN_RX0 wdC_X0_slipUsed)) rfl rfl rfl pdX0_slipUsed ⟨Nat.le_of_ble_eq_true rfl, Nat.le_of_ble_eq_true rfl⟩) 2 (wC_p2 q cI S) rfl rfl rfl hl.1 rfl (Nat.le_of_ble_eq_true rfl) dX3_merged_49 ⟨Nat.zero_le _, Nat.zero_le _⟩ (fun H locs hw => ?_)
          refine lv_if_eq (tgt := 62) hx hb dX3_merged_52 (by decide) (fun c7 => ?_) (fun c7 => ?_)
          · have h := h_ifp c7 h
            exact kk62 _ _ _ _ h _ _ _ hw (lv_sub hl [0, 1, 2, 3, 4] rfl)
          · have h := h_ifn c7 h
            refine lv_iload_n hx hb dX3_merged_55 rfl (lv_at hl 3 rfl) ?_
            refine lv_iconst (v := 1) hx hb dX3_merged_56 (by decide) ?_
            refine lv_iload hx hb dX3_merged_57 (lv_at hl 4 rfl) ?_
            refine lv_ishl hx hb dX3_merged_59 ?_
            refine lv_ior hx hb dX3_merged_60 ?_
            refine lv_istore_n (lv' := [(3, .int (x3 ||| (1 <<< (x4 &&& 31)))), (0, .ref (q 0)), (1, .int x1), (2, .int x2), (4, .int x4)]) hx hb dX3_merged_61 rfl hl (by decide) rfl (fun ls hl => ?_)
            exact kk62 _ _ _ _ h _ _ _ hw (lv_sub hl [1, 2, 3, 0, 4] rfl)
  refine lv_iload_n hx hb dX3_merged_0 rfl (lv_at hl 1 rfl) ?_
  obtain ⟨r1, e2, h⟩ := h_bd_ok h
  refine h_callS cx.1 (c_X3_isBox l a1 r1 e2) (va_cwS 1 hts (hgA (hcS wdL_X3_37 wdT_X3_isBox wdN_RX3 wdC_X3_isBox)) rfl rfl rfl pdX3_isBox.2 ⟨Nat.le_of_ble_eq_true rfl, Nat.le_of_ble_eq_true rfl⟩) rfl hl.1 rfl (Nat.le_of_ble_eq_true rfl) dX3_merged_1 ⟨Nat.zero_le _, Nat.zero_le _⟩ ?_
  refine lv_if_eq (tgt := 14) hx hb dX3_merged_4 (by decide) (fun c3 => ?_) (fun c3 => ?_)
  · have h := h_ifp c3 h
    refine lv_iconst (v := (-1)) hx hb dX3_merged_14 (by decide) ?_
    exact h_iret cx hw hr hlk rfl (Option.some.inj h) rfl dX3_merged_15
  · have h := h_ifn c3 h
    refine lv_iload_n hx hb dX3_merged_7 rfl (lv_at hl 2 rfl) ?_
    obtain ⟨r4, e5, h⟩ := h_bd_ok h
    refine h_callS cx.1 (c_X3_isClass l a2 r4 e5) (va_cwS 1 hts (hgA (hcS wdL_X3_89 wdT_X3_isClass wdN_RX3 wdC_X3_isClass)) rfl rfl rfl pdX3_isClass.2 ⟨Nat.le_of_ble_eq_true rfl, Nat.le_of_ble_eq_true rfl⟩) rfl hl.1 rfl (Nat.le_of_ble_eq_true rfl) dX3_merged_8 ⟨Nat.zero_le _, Nat.zero_le _⟩ ?_
    refine lv_if_ne (tgt := 16) hx hb dX3_merged_11 (by decide) (fun c6 => ?_) (fun c6 => ?_)
    · have h := h_ifn c6 h
      refine lv_iconst (v := 0) hx hb dX3_merged_16 (by decide) ?_
      refine lv_istore_n (lv' := [(3, .int 0), (0, .ref (q 0)), (1, .int a1), (2, .int a2)]) hx hb dX3_merged_17 rfl hl (by decide) rfl (fun ls hl => ?_)
      refine lv_iconst (v := 0) hx hb dX3_merged_18 (by decide) ?_
      refine lv_istore (lv' := [(4, .int 0), (3, .int 0), (0, .ref (q 0)), (1, .int a1), (2, .int a2)]) hx hb dX3_merged_19 hl (by decide) rfl (fun ls hl => ?_)
      exact kk21 h_fu _ _ _ _ h _ _ _ hw (lv_sub hl [2, 3, 4, 1, 0] rfl)
    · have h := h_ifp c6 h
      refine lv_iconst (v := (-1)) hx hb dX3_merged_14 (by decide) ?_
      exact h_iret cx hw hr hlk rfl (Option.some.inj h) rfl dX3_merged_15
set_option maxHeartbeats 4000000 in
set_option maxRecDepth 100000 in
theorem c_X3_countSlipsH (l : Launch) (dC : Nat → ClassId) (dI : Nat → Nat → Nat) (cI cZ : ClassId) (q : Nat → Nat) (S : HSt) (r : Int32) (h : f_X3_countSlipsH S = some r) : MI l yX3_countSlips hsX3_countSlips rmX3_countSlips (dC, dI) cI cZ (wC q cI) S [.ref (q 11)] r S := by
  refine MI.ofW (cc := cX3_countSlips) (maxL := 3) (ret := (some .int)) (by decide +kernel) rfl (Nat.le_of_ble_eq_true rfl) ?_
  intro p e s m below meth c A cx hr hlk hw ls hl
  have hx := cx.1.1
  have hb := cx.1.2.1
  have hml := cx.1.2.2.1
  have hts := cx.1.2.2.2.2
  have hta : ∀ z ∈ hALL, z.before _ s = true := fun z h => hts z (List.mem_cons_of_mem _ h)
  have hl : lv_has ls 3 [(0, .ref (q 11))] := hl
  unfold f_X3_countSlipsH at h
  have kk4 : ∀ (n4 : Nat) (x1 x2 : Int32), f_X3_countSlipsH_4 S n4 x1 x2 = some r → ∀ (H : Heap) (locs : List Loc) (ls : Array Slot), HW (dC, dI) (wC q cI) S A s H locs → lv_has ls 3 [(0, .ref (q 11)), (1, .int x1), (2, .int x2)] → W p l e rmX3_countSlips s m ([.ref (q 11)] : List Value).toArray below meth c H locs 0 0 (MQ below (QI (dC, dI) (wC q cI) r S A) ([.ref (q 11)] : List Value).toArray s 0 0 A) (F0 m 4 ls []) := by
    intro n4
    induction n4 with
    | zero =>
      intro x1 x2 h
      have h9 : (none : Option Int32) = some r := h
      cases h9
    | succ n4 ih4 =>
      intro x1 x2 h H locs ls hw hl
      have h : f_X3_countSlipsH_4_s S (f_X3_countSlipsH_4 S n4) x1 x2 = some r := h
      unfold f_X3_countSlipsH_4_s at h
      have kk19 : ∀ (x1 x2 : Int32), f_X3_countSlipsH_19 S (f_X3_countSlipsH_4 S n4) x1 x2 = some r → ∀ (H : Heap) (locs : List Loc) (ls : Array Slot), HW (dC, dI) (wC q cI) S A s H locs → lv_has ls 3 [(0, .ref (q 11)), (1, .int x1), (2, .int x2)] → W p l e rmX3_countSlips s m ([.ref (q 11)] : List Value).toArray below meth c H locs 0 0 (MQ below (QI (dC, dI) (wC q cI) r S A) ([.ref (q 11)] : List Value).toArray s 0 0 A) (F0 m 19 ls []) := by
        intro x1 x2 h H locs ls hw hl
        unfold f_X3_countSlipsH_19 at h
        refine lv_iinc (v := x2 + 1) (lv' := [(2, .int (x2 + 1)), (0, .ref (q 11)), (1, .int x1)]) hx hb dX3_countSlips_19 hl (k := 2) rfl rfl (by decide) rfl (fun ls hl => ?_)
        refine lv_goto (tgt := 4) hx hb dX3_countSlips_22 (by decide) ?_
        exact ih4 _ _ h _ _ _ hw (lv_sub hl [1, 2, 0] rfl)
      refine lv_iload_n hx hb dX3_countSlips_4 rfl (lv_at hl 2 rfl) ?_
      refine lv_aload_n hx hb dX3_countSlips_5 rfl (lv_at hl 0 rfl) ?_
      refine h_len (v := 96) cx hw 11 (wC_p11 q cI S) rfl dX3_countSlips_6 ?_
      refine lv_icmp_ge (tgt := 25) hx hb dX3_countSlips_7 (by decide) (fun c1 => ?_) (fun c1 => ?_)
      · have h := h_ifp c1 h
        refine lv_iload_n hx hb dX3_countSlips_25 rfl (lv_at hl 1 rfl) ?_
        exact h_iret cx hw hr hlk rfl (Option.some.inj h) rfl dX3_countSlips_26
      · have h := h_ifn c1 h
        refine lv_aload_n hx hb dX3_countSlips_10 rfl (lv_at hl 0 rfl) ?_
        refine lv_iload_n hx hb dX3_countSlips_11 rfl (lv_at hl 2 rfl) ?_
        obtain ⟨v2, e3, h⟩ := h_bd_ok h
        refine h_ald cx hw 11 (wC_p11 q cI S) e3 dX3_countSlips_12 ?_
        refine lv_if_eq (tgt := 19) hx hb dX3_countSlips_13 (by decide) (fun c4 => ?_) (fun c4 => ?_)
        · have h := h_ifp c4 h
          exact kk19 _ _ h _ _ _ hw (lv_sub hl [0, 1, 2] rfl)
        · have h := h_ifn c4 h
          refine lv_iinc (v := x1 + 1) (lv' := [(1, .int (x1 + 1)), (0, .ref (q 11)), (2, .int x2)]) hx hb dX3_countSlips_16 hl (k := 1) rfl rfl (by decide) rfl (fun ls hl => ?_)
          exact kk19 _ _ h _ _ _ hw (lv_sub hl [1, 0, 2] rfl)
  refine lv_iconst (v := 0) hx hb dX3_countSlips_0 (by decide) ?_
  refine lv_istore_n (lv' := [(1, .int 0), (0, .ref (q 11))]) hx hb dX3_countSlips_1 rfl hl (by decide) rfl (fun ls hl => ?_)
  refine lv_iconst (v := 0) hx hb dX3_countSlips_2 (by decide) ?_
  refine lv_istore_n (lv' := [(2, .int 0), (1, .int 0), (0, .ref (q 11))]) hx hb dX3_countSlips_3 rfl hl (by decide) rfl (fun ls hl => ?_)
  exact kk4 h_fu _ _ h _ _ _ hw (lv_sub hl [2, 1, 0] rfl)
set_option maxHeartbeats 4000000 in
set_option maxRecDepth 100000 in
theorem c_X3_countSlipsK (l : Launch) (dC : Nat → ClassId) (dI : Nat → Nat → Nat) (cI cZ : ClassId) (q : Nat → Nat) (S : HSt) (r : Int32) (h : f_X3_countSlipsK S = some r) : MI l yX3_countSlips hsX3_countSlips rmX3_countSlips (dC, dI) cI cZ (wC q cI) S [.ref (q 12)] r S := by
  refine MI.ofW (cc := cX3_countSlips) (maxL := 3) (ret := (some .int)) (by decide +kernel) rfl (Nat.le_of_ble_eq_true rfl) ?_
  intro p e s m below meth c A cx hr hlk hw ls hl
  have hx := cx.1.1
  have hb := cx.1.2.1
  have hml := cx.1.2.2.1
  have hts := cx.1.2.2.2.2
  have hta : ∀ z ∈ hALL, z.before _ s = true := fun z h => hts z (List.mem_cons_of_mem _ h)
  have hl : lv_has ls 3 [(0, .ref (q 12))] := hl
  unfold f_X3_countSlipsK at h
  have kk4 : ∀ (n4 : Nat) (x1 x2 : Int32), f_X3_countSlipsK_4 S n4 x1 x2 = some r → ∀ (H : Heap) (locs : List Loc) (ls : Array Slot), HW (dC, dI) (wC q cI) S A s H locs → lv_has ls 3 [(0, .ref (q 12)), (1, .int x1), (2, .int x2)] → W p l e rmX3_countSlips s m ([.ref (q 12)] : List Value).toArray below meth c H locs 0 0 (MQ below (QI (dC, dI) (wC q cI) r S A) ([.ref (q 12)] : List Value).toArray s 0 0 A) (F0 m 4 ls []) := by
    intro n4
    induction n4 with
    | zero =>
      intro x1 x2 h
      have h9 : (none : Option Int32) = some r := h
      cases h9
    | succ n4 ih4 =>
      intro x1 x2 h H locs ls hw hl
      have h : f_X3_countSlipsK_4_s S (f_X3_countSlipsK_4 S n4) x1 x2 = some r := h
      unfold f_X3_countSlipsK_4_s at h
      have kk19 : ∀ (x1 x2 : Int32), f_X3_countSlipsK_19 S (f_X3_countSlipsK_4 S n4) x1 x2 = some r → ∀ (H : Heap) (locs : List Loc) (ls : Array Slot), HW (dC, dI) (wC q cI) S A s H locs → lv_has ls 3 [(0, .ref (q 12)), (1, .int x1), (2, .int x2)] → W p l e rmX3_countSlips s m ([.ref (q 12)] : List Value).toArray below meth c H locs 0 0 (MQ below (QI (dC, dI) (wC q cI) r S A) ([.ref (q 12)] : List Value).toArray s 0 0 A) (F0 m 19 ls []) := by
        intro x1 x2 h H locs ls hw hl
        unfold f_X3_countSlipsK_19 at h
        refine lv_iinc (v := x2 + 1) (lv' := [(2, .int (x2 + 1)), (0, .ref (q 12)), (1, .int x1)]) hx hb dX3_countSlips_19 hl (k := 2) rfl rfl (by decide) rfl (fun ls hl => ?_)
        refine lv_goto (tgt := 4) hx hb dX3_countSlips_22 (by decide) ?_
        exact ih4 _ _ h _ _ _ hw (lv_sub hl [1, 2, 0] rfl)
      refine lv_iload_n hx hb dX3_countSlips_4 rfl (lv_at hl 2 rfl) ?_
      refine lv_aload_n hx hb dX3_countSlips_5 rfl (lv_at hl 0 rfl) ?_
      refine h_len (v := 96) cx hw 12 (wC_p12 q cI S) rfl dX3_countSlips_6 ?_
      refine lv_icmp_ge (tgt := 25) hx hb dX3_countSlips_7 (by decide) (fun c1 => ?_) (fun c1 => ?_)
      · have h := h_ifp c1 h
        refine lv_iload_n hx hb dX3_countSlips_25 rfl (lv_at hl 1 rfl) ?_
        exact h_iret cx hw hr hlk rfl (Option.some.inj h) rfl dX3_countSlips_26
      · have h := h_ifn c1 h
        refine lv_aload_n hx hb dX3_countSlips_10 rfl (lv_at hl 0 rfl) ?_
        refine lv_iload_n hx hb dX3_countSlips_11 rfl (lv_at hl 2 rfl) ?_
        obtain ⟨v2, e3, h⟩ := h_bd_ok h
        refine h_ald cx hw 12 (wC_p12 q cI S) e3 dX3_countSlips_12 ?_
        refine lv_if_eq (tgt := 19) hx hb dX3_countSlips_13 (by decide) (fun c4 => ?_) (fun c4 => ?_)
        · have h := h_ifp c4 h
          exact kk19 _ _ h _ _ _ hw (lv_sub hl [0, 1, 2] rfl)
        · have h := h_ifn c4 h
          refine lv_iinc (v := x1 + 1) (lv' := [(1, .int (x1 + 1)), (0, .ref (q 12)), (2, .int x2)]) hx hb dX3_countSlips_16 hl (k := 1) rfl rfl (by decide) rfl (fun ls hl => ?_)
          exact kk19 _ _ h _ _ _ hw (lv_sub hl [1, 0, 2] rfl)
  refine lv_iconst (v := 0) hx hb dX3_countSlips_0 (by decide) ?_
  refine lv_istore_n (lv' := [(1, .int 0), (0, .ref (q 12))]) hx hb dX3_countSlips_1 rfl hl (by decide) rfl (fun ls hl => ?_)
  refine lv_iconst (v := 0) hx hb dX3_countSlips_2 (by decide) ?_
  refine lv_istore_n (lv' := [(2, .int 0), (1, .int 0), (0, .ref (q 12))]) hx hb dX3_countSlips_3 rfl hl (by decide) rfl (fun ls hl => ?_)
  exact kk4 h_fu _ _ h _ _ _ hw (lv_sub hl [2, 1, 0] rfl)
set_option maxHeartbeats 4000000 in
set_option maxRecDepth 100000 in
theorem c_X3_many (l : Launch) (dC : Nat → ClassId) (dI : Nat → Nat → Nat) (cI cZ : ClassId) (q : Nat → Nat) (S : HSt) (a1 : Int32) (r : Int32) (h : f_X3_many S a1 = some r) : MI l yX3_many hsX3_many rmX3_many (dC, dI) cI cZ (wC q cI) S [.ref (q 0), .int a1] r S := by
  refine MI.ofW (cc := cX3_many) (maxL := 2) (ret := (some .int)) (by decide +kernel) rfl (Nat.le_of_ble_eq_true rfl) ?_
  intro p e s m below meth c A cx hr hlk hw ls hl
  have hx := cx.1.1
  have hb := cx.1.2.1
  have hml := cx.1.2.2.1
  have hts := cx.1.2.2.2.2
  have hta : ∀ z ∈ hALL, z.before _ s = true := fun z h => hts z (List.mem_cons_of_mem _ h)
  have lk12 : (Cond.fieldLink RX3 12 (TX3 0).1 (TX3 0).2.1 (TX3 0).2.2.1).before _ s = true := hta _ wdF_X3_12
  have lk126 : (Cond.fieldLink RX3 126 (TX0 4).1 (TX0 4).2.1 (TX0 4).2.2.1).before _ s = true := hta _ wdF_X3_126
  have lk135 : (Cond.fieldLink RX3 135 (TX0 5).1 (TX0 5).2.1 (TX0 5).2.2.1).before _ s = true := hta _ wdF_X3_135
  have lk177 : (Cond.fieldLink RX3 177 (TX0 3).1 (TX0 3).2.1 (TX0 3).2.2.1).before _ s = true := hta _ wdF_X3_177
  have lk21 : (Cond.fieldLink RX3 21 (TX3 1).1 (TX3 1).2.1 (TX3 1).2.2.1).before _ s = true := hta _ wdF_X3_21
  have lk48 : (Cond.fieldLink RX3 48 (TX1 0).1 (TX1 0).2.1 (TX1 0).2.2.1).before _ s = true := hta _ wdF_X3_48
  have hl : lv_has ls 2 [(0, .ref (q 0)), (1, .int a1)] := hl
  unfold f_X3_many at h
  refine lv_iload_n hx hb dX3_many_0 rfl (lv_at hl 1 rfl) ?_
  by_cases c1 : a1 = 0
  · have h := h_ifp c1 h
    refine lv_tableIn (off := 43) (tgt := 44) hx hb dX3_many_1 (by rw [c1]; decide) (by rw [c1]; decide) (by rw [c1]; rfl) (by decide) ?_
    refine lv_aload_n hx hb dX3_many_44 rfl (lv_at hl 0 rfl) ?_
    refine h_get (v := .ref (q 1)) cx hw 0 (wC_p0 q cI S) rfl hinX3 0 (by decide) lk12 rfl dX3_many_45 ?_
    refine h_get (v := .int (S.1 0)) cx hw 1 (wC_p1 q cI S) rfl hinX1 0 (by decide) lk48 rfl dX3_many_48 ?_
    exact h_iret cx hw hr hlk rfl (Option.some.inj h) rfl dX3_many_51
  · have h := h_ifn c1 h
    by_cases c2 : a1 = 1
    · have h := h_ifp c2 h
      refine lv_tableIn (off := 51) (tgt := 52) hx hb dX3_many_1 (by rw [c2]; decide) (by rw [c2]; decide) (by rw [c2]; rfl) (by decide) ?_
      refine lv_aload_n hx hb dX3_many_52 rfl (lv_at hl 0 rfl) ?_
      refine h_get (v := .ref (q 1)) cx hw 0 (wC_p0 q cI S) rfl hinX3 0 (by decide) lk12 rfl dX3_many_53 ?_
      obtain ⟨r3, e4, h⟩ := h_bd_ok h
      refine h_callI cx hw (c_X1_linksUp l dC dI cI cZ q S r3 e4) (cwV 0 hts (hgA (hcV wdL_X3_167 wdI_X1_linksUp wdS_X1_linksUp wdN_RX1 wdC_X1_linksUp)) rfl rfl rfl pdX1_linksUp ⟨Nat.le_of_ble_eq_true rfl, Nat.le_of_ble_eq_true rfl⟩) 1 (wC_p1 q cI S) rfl rfl rfl hl.1 rfl (Nat.le_of_ble_eq_true rfl) dX3_many_56 ⟨Nat.zero_le _, Nat.zero_le _⟩ (fun H locs hw => ?_)
      exact h_iret cx hw hr hlk rfl (Option.some.inj h) rfl dX3_many_59
    · have h := h_ifn c2 h
      by_cases c5 : a1 = 2
      · have h := h_ifp c5 h
        refine lv_tableIn (off := 59) (tgt := 60) hx hb dX3_many_1 (by rw [c5]; decide) (by rw [c5]; decide) (by rw [c5]; rfl) (by decide) ?_
        refine lv_aload_n hx hb dX3_many_60 rfl (lv_at hl 0 rfl) ?_
        refine h_get (v := .ref (q 2)) cx hw 0 (wC_p0 q cI S) rfl hinX3 1 (by decide) lk21 rfl dX3_many_61 ?_
        refine h_get (v := .ref (q 11)) cx hw 2 (wC_p2 q cI S) rfl hinX0 4 (by decide) lk126 rfl dX3_many_64 ?_
        obtain ⟨r6, e7, h⟩ := h_bd_ok h
        refine h_callSI cx hw (c_X3_countSlipsH l dC dI cI cZ q S r6 e7) (va_cwS 1 hts (hgA (hcS wdL_X3_170 wdT_X3_countSlips wdN_RX3 wdC_X3_countSlips)) rfl rfl rfl pdX3_countSlips.2 ⟨Nat.le_of_ble_eq_true rfl, Nat.le_of_ble_eq_true rfl⟩) rfl hl.1 rfl (Nat.le_of_ble_eq_true rfl) dX3_many_67 ⟨Nat.zero_le _, Nat.zero_le _⟩ (fun H locs hw => ?_)
        exact h_iret cx hw hr hlk rfl (Option.some.inj h) rfl dX3_many_70
      · have h := h_ifn c5 h
        by_cases c8 : a1 = 3
        · have h := h_ifp c8 h
          refine lv_tableIn (off := 70) (tgt := 71) hx hb dX3_many_1 (by rw [c8]; decide) (by rw [c8]; decide) (by rw [c8]; rfl) (by decide) ?_
          refine lv_aload_n hx hb dX3_many_71 rfl (lv_at hl 0 rfl) ?_
          refine h_get (v := .ref (q 2)) cx hw 0 (wC_p0 q cI S) rfl hinX3 1 (by decide) lk21 rfl dX3_many_72 ?_
          refine h_get (v := .ref (q 12)) cx hw 2 (wC_p2 q cI S) rfl hinX0 5 (by decide) lk135 rfl dX3_many_75 ?_
          obtain ⟨r9, e10, h⟩ := h_bd_ok h
          refine h_callSI cx hw (c_X3_countSlipsK l dC dI cI cZ q S r9 e10) (va_cwS 1 hts (hgA (hcS wdL_X3_170 wdT_X3_countSlips wdN_RX3 wdC_X3_countSlips)) rfl rfl rfl pdX3_countSlips.2 ⟨Nat.le_of_ble_eq_true rfl, Nat.le_of_ble_eq_true rfl⟩) rfl hl.1 rfl (Nat.le_of_ble_eq_true rfl) dX3_many_78 ⟨Nat.zero_le _, Nat.zero_le _⟩ (fun H locs hw => ?_)
          exact h_iret cx hw hr hlk rfl (Option.some.inj h) rfl dX3_many_81
        · have h := h_ifn c8 h
          by_cases c11 : a1 = 4
          · have h := h_ifp c11 h
            refine lv_tableIn (off := 81) (tgt := 82) hx hb dX3_many_1 (by rw [c11]; decide) (by rw [c11]; decide) (by rw [c11]; rfl) (by decide) ?_
            refine lv_aload_n hx hb dX3_many_82 rfl (lv_at hl 0 rfl) ?_
            refine h_get (v := .ref (q 1)) cx hw 0 (wC_p0 q cI S) rfl hinX3 0 (by decide) lk12 rfl dX3_many_83 ?_
            obtain ⟨r12, e13, h⟩ := h_bd_ok h
            refine h_callI cx hw (c_X1_classesWithEnd l dC dI cI cZ q S r12 e13) (cwV 0 hts (hgA (hcV wdL_X3_174 wdI_X1_classesWithEnd wdS_X1_classesWithEnd wdN_RX1 wdC_X1_classesWithEnd)) rfl rfl rfl pdX1_classesWithEnd ⟨Nat.le_of_ble_eq_true rfl, Nat.le_of_ble_eq_true rfl⟩) 1 (wC_p1 q cI S) rfl rfl rfl hl.1 rfl (Nat.le_of_ble_eq_true rfl) dX3_many_86 ⟨Nat.zero_le _, Nat.zero_le _⟩ (fun H locs hw => ?_)
            exact h_iret cx hw hr hlk rfl (Option.some.inj h) rfl dX3_many_89
          · have h := h_ifn c11 h
            by_cases c14 : a1 = 5
            · have h := h_ifp c14 h
              refine lv_tableIn (off := 89) (tgt := 90) hx hb dX3_many_1 (by rw [c14]; decide) (by rw [c14]; decide) (by rw [c14]; rfl) (by decide) ?_
              refine lv_aload_n hx hb dX3_many_90 rfl (lv_at hl 0 rfl) ?_
              refine h_get (v := .ref (q 2)) cx hw 0 (wC_p0 q cI S) rfl hinX3 1 (by decide) lk21 rfl dX3_many_91 ?_
              refine h_get (v := .int (S.1 3)) cx hw 2 (wC_p2 q cI S) rfl hinX0 3 (by decide) lk177 rfl dX3_many_94 ?_
              exact h_iret cx hw hr hlk rfl (Option.some.inj h) rfl dX3_many_97
            · have h := h_ifn c14 h
              by_cases c15 : a1 = 6
              · have h := h_ifp c15 h
                refine lv_tableIn (off := 97) (tgt := 98) hx hb dX3_many_1 (by rw [c15]; decide) (by rw [c15]; decide) (by rw [c15]; rfl) (by decide) ?_
                refine lv_aload_n hx hb dX3_many_98 rfl (lv_at hl 0 rfl) ?_
                refine h_get (v := .ref (q 2)) cx hw 0 (wC_p0 q cI S) rfl hinX3 1 (by decide) lk21 rfl dX3_many_99 ?_
                obtain ⟨r16, e17, h⟩ := h_bd_ok h
                refine h_callI cx hw (c_X0_greatestLabel l dC dI cI cZ q S r16 e17) (cwV 0 hts (hgA (hcV wdL_X3_180 wdI_X0_greatestLabel wdS_X0_greatestLabel wdN_RX0 wdC_X0_greatestLabel)) rfl rfl rfl pdX0_greatestLabel ⟨Nat.le_of_ble_eq_true rfl, Nat.le_of_ble_eq_true rfl⟩) 2 (wC_p2 q cI S) rfl rfl rfl hl.1 rfl (Nat.le_of_ble_eq_true rfl) dX3_many_102 ⟨Nat.zero_le _, Nat.zero_le _⟩ (fun H locs hw => ?_)
                exact h_iret cx hw hr hlk rfl (Option.some.inj h) rfl dX3_many_105
              · have h := h_ifn c15 h
                refine lv_tableOut (tgt := 106) hx hb dX3_many_1 (h_tout7 c1 c2 c5 c8 c11 c14 c15) (by decide) ?_
                refine lv_bipush (v := (-2)) hx hb dX3_many_106 (by decide) ?_
                exact h_iret cx hw hr hlk rfl (Option.some.inj h) rfl dX3_many_108
set_option maxHeartbeats 4000000 in
set_option maxRecDepth 100000 in
theorem c_X4_within (l : Launch) (a0 a1 a2 : Int32) (r : Int32) (h : f_X4_within a0 a1 a2 = some r) : MS l yX4_within hsX4_within rmX4_within [.int a0, .int a1, .int a2] r := by
  refine MS.ofW (cc := cX4_within) (maxL := 3) (ret := (some .boolean)) (by decide +kernel) rfl (Nat.le_of_ble_eq_true rfl) ?_
  intro p e s m below meth c cf hr hlk ls hl
  have hx := cf.1
  have hb := cf.2.1
  have hml := cf.2.2.1
  have hts := cf.2.2.2.2
  have hta : ∀ z ∈ hALL, z.before _ s = true := fun z h => hts z (List.mem_cons_of_mem _ h)
  have hl : lv_has ls 3 [(0, .int a0), (1, .int a1), (2, .int a2)] := hl
  unfold f_X4_within at h
  refine lv_iload_n hx hb dX4_within_0 rfl (lv_at hl 0 rfl) ?_
  refine lv_iload_n hx hb dX4_within_1 rfl (lv_at hl 1 rfl) ?_
  refine lv_icmp_lt (tgt := 14) hx hb dX4_within_2 (by decide) (fun c1 => ?_) (fun c1 => ?_)
  · have h := h_ifp c1 h
    refine lv_iconst (v := 0) hx hb dX4_within_14 (by decide) ?_
    exact h_sret cf hr hlk rfl (Option.some.inj h) dX4_within_15
  · have h := h_ifn c1 h
    refine lv_iload_n hx hb dX4_within_5 rfl (lv_at hl 0 rfl) ?_
    refine lv_iload_n hx hb dX4_within_6 rfl (lv_at hl 2 rfl) ?_
    refine lv_icmp_gt (tgt := 14) hx hb dX4_within_7 (by decide) (fun c2 => ?_) (fun c2 => ?_)
    · have h := h_ifp c2 h
      refine lv_iconst (v := 0) hx hb dX4_within_14 (by decide) ?_
      exact h_sret cf hr hlk rfl (Option.some.inj h) dX4_within_15
    · have h := h_ifn c2 h
      refine lv_iconst (v := 1) hx hb dX4_within_10 (by decide) ?_
      refine lv_goto (tgt := 15) hx hb dX4_within_11 (by decide) ?_
      exact h_sret cf hr hlk rfl (Option.some.inj h) dX4_within_15
set_option maxHeartbeats 4000000 in
set_option maxRecDepth 100000 in
theorem c_X4_isBox (l : Launch) (a0 : Int32) (r : Int32) (h : f_X4_isBox a0 = some r) : MS l yX4_isBox hsX4_isBox rmX4_isBox [.int a0] r := by
  refine MS.ofW (cc := cX4_isBox) (maxL := 1) (ret := (some .boolean)) (by decide +kernel) rfl (Nat.le_of_ble_eq_true rfl) ?_
  intro p e s m below meth c cf hr hlk ls hl
  have hx := cf.1
  have hb := cf.2.1
  have hml := cf.2.2.1
  have hts := cf.2.2.2.2
  have hta : ∀ z ∈ hALL, z.before _ s = true := fun z h => hts z (List.mem_cons_of_mem _ h)
  have hl : lv_has ls 1 [(0, .int a0)] := hl
  unfold f_X4_isBox at h
  refine lv_iload_n hx hb dX4_isBox_0 rfl (lv_at hl 0 rfl) ?_
  refine lv_iconst (v := 0) hx hb dX4_isBox_1 (by decide) ?_
  refine lv_bipush (v := 6) hx hb dX4_isBox_2 (by decide) ?_
  obtain ⟨r1, e2, h⟩ := h_bd_ok h
  refine h_callS cf (c_X4_within l a0 0 6 r1 e2) (va_cwS 3 hts (hgA (hcS wdL_X4_80 wdT_X4_within wdN_RX4 wdC_X4_within)) rfl rfl rfl pdX4_within.2 ⟨Nat.le_of_ble_eq_true rfl, Nat.le_of_ble_eq_true rfl⟩) rfl hl.1 rfl (Nat.le_of_ble_eq_true rfl) dX4_isBox_4 ⟨Nat.zero_le _, Nat.zero_le _⟩ ?_
  obtain ⟨hb9, h⟩ := h_b_ok h
  exact h_sret cf hr hlk (h_nb hb9) (Option.some.inj h) dX4_isBox_7
set_option maxHeartbeats 4000000 in
set_option maxRecDepth 100000 in
theorem c_X4_isClass (l : Launch) (a0 : Int32) (r : Int32) (h : f_X4_isClass a0 = some r) : MS l yX4_isClass hsX4_isClass rmX4_isClass [.int a0] r := by
  refine MS.ofW (cc := cX4_isClass) (maxL := 1) (ret := (some .boolean)) (by decide +kernel) rfl (Nat.le_of_ble_eq_true rfl) ?_
  intro p e s m below meth c cf hr hlk ls hl
  have hx := cf.1
  have hb := cf.2.1
  have hml := cf.2.2.1
  have hts := cf.2.2.2.2
  have hta : ∀ z ∈ hALL, z.before _ s = true := fun z h => hts z (List.mem_cons_of_mem _ h)
  have hl : lv_has ls 1 [(0, .int a0)] := hl
  unfold f_X4_isClass at h
  refine lv_iload_n hx hb dX4_isClass_0 rfl (lv_at hl 0 rfl) ?_
  refine lv_iconst (v := 0) hx hb dX4_isClass_1 (by decide) ?_
  refine lv_iconst (v := 3) hx hb dX4_isClass_2 (by decide) ?_
  obtain ⟨r1, e2, h⟩ := h_bd_ok h
  refine h_callS cf (c_X4_within l a0 0 3 r1 e2) (va_cwS 3 hts (hgA (hcS wdL_X4_80 wdT_X4_within wdN_RX4 wdC_X4_within)) rfl rfl rfl pdX4_within.2 ⟨Nat.le_of_ble_eq_true rfl, Nat.le_of_ble_eq_true rfl⟩) rfl hl.1 rfl (Nat.le_of_ble_eq_true rfl) dX4_isClass_3 ⟨Nat.zero_le _, Nat.zero_le _⟩ ?_
  obtain ⟨hb9, h⟩ := h_b_ok h
  exact h_sret cf hr hlk (h_nb hb9) (Option.some.inj h) dX4_isClass_6
set_option maxHeartbeats 4000000 in
set_option maxRecDepth 100000 in
theorem c_X4_isLink (l : Launch) (dC : Nat → ClassId) (dI : Nat → Nat → Nat) (cI cZ : ClassId) (q : Nat → Nat) (S : HSt) (a1 : Int32) (r : Int32) (h : f_X4_isLink S a1 = some r) : MI l yX4_isLink hsX4_isLink rmX4_isLink (dC, dI) cI cZ (wM q cI cZ) S [.ref (q 0), .int a1] r S := by
  refine MI.ofW (cc := cX4_isLink) (maxL := 2) (ret := (some .boolean)) (by decide +kernel) rfl (Nat.le_of_ble_eq_true rfl) ?_
  intro p e s m below meth c A cx hr hlk hw ls hl
  have hx := cx.1.1
  have hb := cx.1.2.1
  have hml := cx.1.2.2.1
  have hts := cx.1.2.2.2.2
  have hta : ∀ z ∈ hALL, z.before _ s = true := fun z h => hts z (List.mem_cons_of_mem _ h)
  have lk84 : (Cond.fieldLink RX4 84 (TX4 0).1 (TX4 0).2.1 (TX4 0).2.2.1).before _ s = true := hta _ wdF_X4_84
  have hl : lv_has ls 2 [(0, .ref (q 0)), (1, .int a1)] := hl
  unfold f_X4_isLink at h
  refine lv_iload_n hx hb dX4_isLink_0 rfl (lv_at hl 1 rfl) ?_
  refine lv_iconst (v := 0) hx hb dX4_isLink_1 (by decide) ?_
  refine lv_aload_n hx hb dX4_isLink_2 rfl (lv_at hl 0 rfl) ?_
  refine h_get (v := .int (S.1 0)) cx hw 0 (wM_p0 q cI cZ S) rfl hinX4 0 (by decide) lk84 rfl dX4_isLink_3 ?_
  refine lv_iconst (v := 1) hx hb dX4_isLink_6 (by decide) ?_
  refine lv_isub hx hb dX4_isLink_7 ?_
  obtain ⟨r1, e2, h⟩ := h_bd_ok h
  refine h_callS cx.1 (c_X4_within l a1 0 ((S.1 0) - 1) r1 e2) (va_cwS 3 hts (hgA (hcS wdL_X4_80 wdT_X4_within wdN_RX4 wdC_X4_within)) rfl rfl rfl pdX4_within.2 ⟨Nat.le_of_ble_eq_true rfl, Nat.le_of_ble_eq_true rfl⟩) rfl hl.1 rfl (Nat.le_of_ble_eq_true rfl) dX4_isLink_8 ⟨Nat.zero_le _, Nat.zero_le _⟩ ?_
  obtain ⟨hb9, h⟩ := h_b_ok h
  exact h_iret cx hw hr hlk (h_nb hb9) (Option.some.inj h) rfl dX4_isLink_11
set_option maxHeartbeats 4000000 in
set_option maxRecDepth 100000 in
theorem c_X4_linkBetween (l : Launch) (dC : Nat → ClassId) (dI : Nat → Nat → Nat) (cI cZ : ClassId) (q : Nat → Nat) (S : HSt) (a1 a2 : Int32) (r : Int32) (h : f_X4_linkBetween S a1 a2 = some r) : MI l yX4_linkBetween hsX4_linkBetween rmX4_linkBetween (dC, dI) cI cZ (wM q cI cZ) S [.ref (q 0), .int a1, .int a2] r S := by
  refine MI.ofW (cc := cX4_linkBetween) (maxL := 4) (ret := (some .int)) (by decide +kernel) rfl (Nat.le_of_ble_eq_true rfl) ?_
  intro p e s m below meth c A cx hr hlk hw ls hl
  have hx := cx.1.1
  have hb := cx.1.2.1
  have hml := cx.1.2.2.1
  have hts := cx.1.2.2.2.2
  have hta : ∀ z ∈ hALL, z.before _ s = true := fun z h => hts z (List.mem_cons_of_mem _ h)
  have lk13 : (Cond.fieldLink RX4 13 (TX4 2).1 (TX4 2).2.1 (TX4 2).2.2.1).before _ s = true := hta _ wdF_X4_13
  have lk7 : (Cond.fieldLink RX4 7 (TX4 1).1 (TX4 1).2.1 (TX4 1).2.2.1).before _ s = true := hta _ wdF_X4_7
  have lk84 : (Cond.fieldLink RX4 84 (TX4 0).1 (TX4 0).2.1 (TX4 0).2.2.1).before _ s = true := hta _ wdF_X4_84
  have hl : lv_has ls 4 [(0, .ref (q 0)), (1, .int a1), (2, .int a2)] := hl
  unfold f_X4_linkBetween at h
  have kk2 : ∀ (n2 : Nat) (x1 x2 x3 : Int32), f_X4_linkBetween_2 S n2 x1 x2 x3 = some r → ∀ (H : Heap) (locs : List Loc) (ls : Array Slot), HW (dC, dI) (wM q cI cZ) S A s H locs → lv_has ls 4 [(0, .ref (q 0)), (1, .int x1), (2, .int x2), (3, .int x3)] → W p l e rmX4_linkBetween s m ([.ref (q 0), .int a1, .int a2] : List Value).toArray below meth c H locs 0 0 (MQ below (QI (dC, dI) (wM q cI cZ) r S A) ([.ref (q 0), .int a1, .int a2] : List Value).toArray s 0 0 A) (F0 m 2 ls []) := by
    intro n2
    induction n2 with
    | zero =>
      intro x1 x2 x3 h
      have h9 : (none : Option Int32) = some r := h
      cases h9
    | succ n2 ih2 =>
      intro x1 x2 x3 h H locs ls hw hl
      have h : f_X4_linkBetween_2_s S (f_X4_linkBetween_2 S n2) x1 x2 x3 = some r := h
      unfold f_X4_linkBetween_2_s at h
      have kk30 : ∀ (x1 x2 x3 : Int32), f_X4_linkBetween_30 S (f_X4_linkBetween_2 S n2) x1 x2 x3 = some r → ∀ (H : Heap) (locs : List Loc) (ls : Array Slot), HW (dC, dI) (wM q cI cZ) S A s H locs → lv_has ls 4 [(0, .ref (q 0)), (1, .int x1), (2, .int x2), (3, .int x3)] → W p l e rmX4_linkBetween s m ([.ref (q 0), .int a1, .int a2] : List Value).toArray below meth c H locs 0 0 (MQ below (QI (dC, dI) (wM q cI cZ) r S A) ([.ref (q 0), .int a1, .int a2] : List Value).toArray s 0 0 A) (F0 m 30 ls []) := by
        intro x1 x2 x3 h H locs ls hw hl
        unfold f_X4_linkBetween_30 at h
        have kk52 : ∀ (x1 x2 x3 : Int32), f_X4_linkBetween_52 S (f_X4_linkBetween_2 S n2) x1 x2 x3 = some r → ∀ (H : Heap) (locs : List Loc) (ls : Array Slot), HW (dC, dI) (wM q cI cZ) S A s H locs → lv_has ls 4 [(0, .ref (q 0)), (1, .int x1), (2, .int x2), (3, .int x3)] → W p l e rmX4_linkBetween s m ([.ref (q 0), .int a1, .int a2] : List Value).toArray below meth c H locs 0 0 (MQ below (QI (dC, dI) (wM q cI cZ) r S A) ([.ref (q 0), .int a1, .int a2] : List Value).toArray s 0 0 A) (F0 m 52 ls []) := by
          intro x1 x2 x3 h H locs ls hw hl
          unfold f_X4_linkBetween_52 at h
          refine lv_iinc (v := x3 + 1) (lv' := [(3, .int (x3 + 1)), (0, .ref (q 0)), (1, .int x1), (2, .int x2)]) hx hb dX4_linkBetween_52 hl (k := 3) rfl rfl (by decide) rfl (fun ls hl => ?_)
          refine lv_goto (tgt := 2) hx hb dX4_linkBetween_55 (by decide) ?_
          exact ih2 _ _ _ h _ _ _ hw (lv_sub hl [1, 2, 3, 0] rfl)
        refine lv_aload_n hx hb dX4_linkBetween_30 rfl (lv_at hl 0 rfl) ?_
        refine h_get (v := .ref (q 1)) cx hw 0 (wM_p0 q cI cZ S) rfl hinX4 1 (by decide) lk7 rfl dX4_linkBetween_31 ?_
        refine lv_iload_n hx hb dX4_linkBetween_34 rfl (lv_at hl 3 rfl) ?_
        obtain ⟨v1, e2, h⟩ := h_bd_ok h
        refine h_ald cx hw 1 (wM_p1 q cI cZ S) e2 dX4_linkBetween_35 ?_
        refine lv_iload_n hx hb dX4_linkBetween_36 rfl (lv_at hl 2 rfl) ?_
        refine lv_icmp_ne (tgt := 52) hx hb dX4_linkBetween_37 (by decide) (fun c3 => ?_) (fun c3 => ?_)
        · have h := h_ifn c3 h
          exact kk52 _ _ _ h _ _ _ hw (lv_sub hl [0, 1, 2, 3] rfl)
        · have h := h_ifp c3 h
          refine lv_aload_n hx hb dX4_linkBetween_40 rfl (lv_at hl 0 rfl) ?_
          refine h_get (v := .ref (q 2)) cx hw 0 (wM_p0 q cI cZ S) rfl hinX4 2 (by decide) lk13 rfl dX4_linkBetween_41 ?_
          refine lv_iload_n hx hb dX4_linkBetween_44 rfl (lv_at hl 3 rfl) ?_
          obtain ⟨v4, e5, h⟩ := h_bd_ok h
          refine h_ald cx hw 2 (wM_p2 q cI cZ S) e5 dX4_linkBetween_45 ?_
          refine lv_iload_n hx hb dX4_linkBetween_46 rfl (lv_at hl 1 rfl) ?_
          refine lv_icmp_ne (tgt := 52) hx hb dX4_linkBetween_47 (by decide) (fun c6 => ?_) (fun c6 => ?_)
          · have h := h_ifn c6 h
            exact kk52 _ _ _ h _ _ _ hw (lv_sub hl [0, 1, 2, 3] rfl)
          · have h := h_ifp c6 h
            refine lv_iload_n hx hb dX4_linkBetween_50 rfl (lv_at hl 3 rfl) ?_
            exact h_iret cx hw hr hlk rfl (Option.some.inj h) rfl dX4_linkBetween_51
      refine lv_iload_n hx hb dX4_linkBetween_2 rfl (lv_at hl 3 rfl) ?_
      refine lv_aload_n hx hb dX4_linkBetween_3 rfl (lv_at hl 0 rfl) ?_
      refine h_get (v := .int (S.1 0)) cx hw 0 (wM_p0 q cI cZ S) rfl hinX4 0 (by decide) lk84 rfl dX4_linkBetween_4 ?_
      refine lv_icmp_ge (tgt := 58) hx hb dX4_linkBetween_7 (by decide) (fun c1 => ?_) (fun c1 => ?_)
      · have h := h_ifp c1 h
        refine lv_bipush (v := (-9)) hx hb dX4_linkBetween_58 (by decide) ?_
        exact h_iret cx hw hr hlk rfl (Option.some.inj h) rfl dX4_linkBetween_60
      · have h := h_ifn c1 h
        refine lv_aload_n hx hb dX4_linkBetween_10 rfl (lv_at hl 0 rfl) ?_
        refine h_get (v := .ref (q 1)) cx hw 0 (wM_p0 q cI cZ S) rfl hinX4 1 (by decide) lk7 rfl dX4_linkBetween_11 ?_
        refine lv_iload_n hx hb dX4_linkBetween_14 rfl (lv_at hl 3 rfl) ?_
        obtain ⟨v2, e3, h⟩ := h_bd_ok h
        refine h_ald cx hw 1 (wM_p1 q cI cZ S) e3 dX4_linkBetween_15 ?_
        refine lv_iload_n hx hb dX4_linkBetween_16 rfl (lv_at hl 1 rfl) ?_
        refine lv_icmp_ne (tgt := 30) hx hb dX4_linkBetween_17 (by decide) (fun c4 => ?_) (fun c4 => ?_)
        · have h := h_ifn c4 h
          exact kk30 _ _ _ h _ _ _ hw (lv_sub hl [0, 1, 2, 3] rfl)
        · have h := h_ifp c4 h
          refine lv_aload_n hx hb dX4_linkBetween_20 rfl (lv_at hl 0 rfl) ?_
          refine h_get (v := .ref (q 2)) cx hw 0 (wM_p0 q cI cZ S) rfl hinX4 2 (by decide) lk13 rfl dX4_linkBetween_21 ?_
          refine lv_iload_n hx hb dX4_linkBetween_24 rfl (lv_at hl 3 rfl) ?_
          obtain ⟨v5, e6, h⟩ := h_bd_ok h
          refine h_ald cx hw 2 (wM_p2 q cI cZ S) e6 dX4_linkBetween_25 ?_
          refine lv_iload_n hx hb dX4_linkBetween_26 rfl (lv_at hl 2 rfl) ?_
          refine lv_icmp_eq (tgt := 50) hx hb dX4_linkBetween_27 (by decide) (fun c7 => ?_) (fun c7 => ?_)
          · have h := h_ifp c7 h
            refine lv_iload_n hx hb dX4_linkBetween_50 rfl (lv_at hl 3 rfl) ?_
            exact h_iret cx hw hr hlk rfl (Option.some.inj h) rfl dX4_linkBetween_51
          · have h := h_ifn c7 h
            exact kk30 _ _ _ h _ _ _ hw (lv_sub hl [0, 1, 2, 3] rfl)
  refine lv_iconst (v := 0) hx hb dX4_linkBetween_0 (by decide) ?_
  refine lv_istore_n (lv' := [(3, .int 0), (0, .ref (q 0)), (1, .int a1), (2, .int a2)]) hx hb dX4_linkBetween_1 rfl hl (by decide) rfl (fun ls hl => ?_)
  exact kk2 h_fu _ _ _ h _ _ _ hw (lv_sub hl [1, 2, 3, 0] rfl)
set_option maxHeartbeats 4000000 in
set_option maxRecDepth 100000 in
theorem c_X4_isAt (l : Launch) (dC : Nat → ClassId) (dI : Nat → Nat → Nat) (cI cZ : ClassId) (q : Nat → Nat) (S : HSt) (a1 a2 : Int32) (r : Int32) (h : f_X4_isAt S a1 a2 = some r) : MI l yX4_isAt hsX4_isAt rmX4_isAt (dC, dI) cI cZ (wM q cI cZ) S [.ref (q 0), .int a1, .int a2] r S := by
  refine MI.ofW (cc := cX4_isAt) (maxL := 3) (ret := (some .boolean)) (by decide +kernel) rfl (Nat.le_of_ble_eq_true rfl) ?_
  intro p e s m below meth c A cx hr hlk hw ls hl
  have hx := cx.1.1
  have hb := cx.1.2.1
  have hml := cx.1.2.2.1
  have hts := cx.1.2.2.2.2
  have hta : ∀ z ∈ hALL, z.before _ s = true := fun z h => hts z (List.mem_cons_of_mem _ h)
  have lk13 : (Cond.fieldLink RX4 13 (TX4 2).1 (TX4 2).2.1 (TX4 2).2.2.1).before _ s = true := hta _ wdF_X4_13
  have lk7 : (Cond.fieldLink RX4 7 (TX4 1).1 (TX4 1).2.1 (TX4 1).2.2.1).before _ s = true := hta _ wdF_X4_7
  have hl : lv_has ls 3 [(0, .ref (q 0)), (1, .int a1), (2, .int a2)] := hl
  unfold f_X4_isAt at h
  have kk20 : f_X4_isAt_20 S = some r → ∀ (H : Heap) (locs : List Loc) (ls : Array Slot), HW (dC, dI) (wM q cI cZ) S A s H locs → lv_has ls 3 [] → W p l e rmX4_isAt s m ([.ref (q 0), .int a1, .int a2] : List Value).toArray below meth c H locs 0 0 (MQ below (QI (dC, dI) (wM q cI cZ) r S A) ([.ref (q 0), .int a1, .int a2] : List Value).toArray s 0 0 A) (F0 m 20 ls []) := by
    intro  h H locs ls hw hl
    unfold f_X4_isAt_20 at h
    refine lv_iconst (v := 1) hx hb dX4_isAt_20 (by decide) ?_
    refine lv_goto (tgt := 25) hx hb dX4_isAt_21 (by decide) ?_
    exact h_iret cx hw hr hlk rfl (Option.some.inj h) rfl dX4_isAt_25
  refine lv_aload_n hx hb dX4_isAt_0 rfl (lv_at hl 0 rfl) ?_
  refine h_get (v := .ref (q 1)) cx hw 0 (wM_p0 q cI cZ S) rfl hinX4 1 (by decide) lk7 rfl dX4_isAt_1 ?_
  refine lv_iload_n hx hb dX4_isAt_4 rfl (lv_at hl 1 rfl) ?_
  obtain ⟨v1, e2, h⟩ := h_bd_ok h
  refine h_ald cx hw 1 (wM_p1 q cI cZ S) e2 dX4_isAt_5 ?_
  refine lv_iload_n hx hb dX4_isAt_6 rfl (lv_at hl 2 rfl) ?_
  refine lv_icmp_eq (tgt := 20) hx hb dX4_isAt_7 (by decide) (fun c3 => ?_) (fun c3 => ?_)
  · have h := h_ifp c3 h
    exact kk20  h _ _ _ hw (lv_sub hl [] rfl)
  · have h := h_ifn c3 h
    refine lv_aload_n hx hb dX4_isAt_10 rfl (lv_at hl 0 rfl) ?_
    refine h_get (v := .ref (q 2)) cx hw 0 (wM_p0 q cI cZ S) rfl hinX4 2 (by decide) lk13 rfl dX4_isAt_11 ?_
    refine lv_iload_n hx hb dX4_isAt_14 rfl (lv_at hl 1 rfl) ?_
    obtain ⟨v4, e5, h⟩ := h_bd_ok h
    refine h_ald cx hw 2 (wM_p2 q cI cZ S) e5 dX4_isAt_15 ?_
    refine lv_iload_n hx hb dX4_isAt_16 rfl (lv_at hl 2 rfl) ?_
    refine lv_icmp_ne (tgt := 24) hx hb dX4_isAt_17 (by decide) (fun c6 => ?_) (fun c6 => ?_)
    · have h := h_ifn c6 h
      refine lv_iconst (v := 0) hx hb dX4_isAt_24 (by decide) ?_
      exact h_iret cx hw hr hlk rfl (Option.some.inj h) rfl dX4_isAt_25
    · have h := h_ifp c6 h
      exact kk20  h _ _ _ hw (lv_sub hl [] rfl)
set_option maxHeartbeats 4000000 in
set_option maxRecDepth 100000 in
theorem c_X4_otherOf (l : Launch) (dC : Nat → ClassId) (dI : Nat → Nat → Nat) (cI cZ : ClassId) (q : Nat → Nat) (S : HSt) (a1 a2 : Int32) (r : Int32) (h : f_X4_otherOf S a1 a2 = some r) : MI l yX4_otherOf hsX4_otherOf rmX4_otherOf (dC, dI) cI cZ (wM q cI cZ) S [.ref (q 0), .int a1, .int a2] r S := by
  refine MI.ofW (cc := cX4_otherOf) (maxL := 3) (ret := (some .int)) (by decide +kernel) rfl (Nat.le_of_ble_eq_true rfl) ?_
  intro p e s m below meth c A cx hr hlk hw ls hl
  have hx := cx.1.1
  have hb := cx.1.2.1
  have hml := cx.1.2.2.1
  have hts := cx.1.2.2.2.2
  have hta : ∀ z ∈ hALL, z.before _ s = true := fun z h => hts z (List.mem_cons_of_mem _ h)
  have lk13 : (Cond.fieldLink RX4 13 (TX4 2).1 (TX4 2).2.1 (TX4 2).2.2.1).before _ s = true := hta _ wdF_X4_13
  have lk7 : (Cond.fieldLink RX4 7 (TX4 1).1 (TX4 1).2.1 (TX4 1).2.2.1).before _ s = true := hta _ wdF_X4_7
  have hl : lv_has ls 3 [(0, .ref (q 0)), (1, .int a1), (2, .int a2)] := hl
  unfold f_X4_otherOf at h
  refine lv_aload_n hx hb dX4_otherOf_0 rfl (lv_at hl 0 rfl) ?_
  refine h_get (v := .ref (q 1)) cx hw 0 (wM_p0 q cI cZ S) rfl hinX4 1 (by decide) lk7 rfl dX4_otherOf_1 ?_
  refine lv_iload_n hx hb dX4_otherOf_4 rfl (lv_at hl 1 rfl) ?_
  obtain ⟨v1, e2, h⟩ := h_bd_ok h
  refine h_ald cx hw 1 (wM_p1 q cI cZ S) e2 dX4_otherOf_5 ?_
  refine lv_iload_n hx hb dX4_otherOf_6 rfl (lv_at hl 2 rfl) ?_
  refine lv_icmp_ne (tgt := 19) hx hb dX4_otherOf_7 (by decide) (fun c3 => ?_) (fun c3 => ?_)
  · have h := h_ifn c3 h
    refine lv_aload_n hx hb dX4_otherOf_19 rfl (lv_at hl 0 rfl) ?_
    refine h_get (v := .ref (q 1)) cx hw 0 (wM_p0 q cI cZ S) rfl hinX4 1 (by decide) lk7 rfl dX4_otherOf_20 ?_
    refine lv_iload_n hx hb dX4_otherOf_23 rfl (lv_at hl 1 rfl) ?_
    obtain ⟨v4, e5, h⟩ := h_bd_ok h
    refine h_ald cx hw 1 (wM_p1 q cI cZ S) e5 dX4_otherOf_24 ?_
    exact h_iret cx hw hr hlk rfl (Option.some.inj h) rfl dX4_otherOf_25
  · have h := h_ifp c3 h
    refine lv_aload_n hx hb dX4_otherOf_10 rfl (lv_at hl 0 rfl) ?_
    refine h_get (v := .ref (q 2)) cx hw 0 (wM_p0 q cI cZ S) rfl hinX4 2 (by decide) lk13 rfl dX4_otherOf_11 ?_
    refine lv_iload_n hx hb dX4_otherOf_14 rfl (lv_at hl 1 rfl) ?_
    obtain ⟨v6, e7, h⟩ := h_bd_ok h
    refine h_ald cx hw 2 (wM_p2 q cI cZ S) e7 dX4_otherOf_15 ?_
    refine lv_goto (tgt := 25) hx hb dX4_otherOf_16 (by decide) ?_
    exact h_iret cx hw hr hlk rfl (Option.some.inj h) rfl dX4_otherOf_25
set_option maxHeartbeats 4000000 in
set_option maxRecDepth 100000 in
theorem c_X4_link (l : Launch) (dC : Nat → ClassId) (dI : Nat → Nat → Nat) (cI cZ : ClassId) (q : Nat → Nat) (S : HSt) (a1 a2 a3 : Int32) (r : Int32) (S9 : HSt) (h : f_X4_link S a1 a2 a3 = some (r, S9)) : MI l yX4_link hsX4_link rmX4_link (dC, dI) cI cZ (wM q cI cZ) S [.ref (q 0), .int a1, .int a2, .int a3] r S9 := by
  refine MI.ofW (cc := cX4_link) (maxL := 4) (ret := (some .int)) (by decide +kernel) rfl (Nat.le_of_ble_eq_true rfl) ?_
  intro p e s m below meth c A cx hr hlk hw ls hl
  have hx := cx.1.1
  have hb := cx.1.2.1
  have hml := cx.1.2.2.1
  have hts := cx.1.2.2.2.2
  have hta : ∀ z ∈ hALL, z.before _ s = true := fun z h => hts z (List.mem_cons_of_mem _ h)
  have lk13 : (Cond.fieldLink RX4 13 (TX4 2).1 (TX4 2).2.1 (TX4 2).2.2.1).before _ s = true := hta _ wdF_X4_13
  have lk16 : (Cond.fieldLink RX4 16 (TX4 3).1 (TX4 3).2.1 (TX4 3).2.2.1).before _ s = true := hta _ wdF_X4_16
  have lk19 : (Cond.fieldLink RX4 19 (TX4 4).1 (TX4 4).2.1 (TX4 4).2.2.1).before _ s = true := hta _ wdF_X4_19
  have lk7 : (Cond.fieldLink RX4 7 (TX4 1).1 (TX4 1).2.1 (TX4 1).2.2.1).before _ s = true := hta _ wdF_X4_7
  have lk84 : (Cond.fieldLink RX4 84 (TX4 0).1 (TX4 0).2.1 (TX4 0).2.2.1).before _ s = true := hta _ wdF_X4_84
  have hl : lv_has ls 4 [(0, .ref (q 0)), (1, .int a1), (2, .int a2), (3, .int a3)] := hl
  unfold f_X4_link at h
  have kk78 : ∀ (S : HSt) (x1 x2 x3 t0 t1 : Int32), f_X4_link_78 S x1 x2 x3 t0 t1 = some (r, S9) → ∀ (H : Heap) (locs : List Loc) (ls : Array Slot), HW (dC, dI) (wM q cI cZ) S A s H locs → lv_has ls 4 [(0, .ref (q 0)), (1, .int x1), (2, .int x2), (3, .int x3)] → W p l e rmX4_link s m ([.ref (q 0), .int a1, .int a2, .int a3] : List Value).toArray below meth c H locs 0 0 (MQ below (QI (dC, dI) (wM q cI cZ) r S9 A) ([.ref (q 0), .int a1, .int a2, .int a3] : List Value).toArray s 0 0 A) (F0 m 78 ls [.int t0, .int t1, .ref (q 1)]) := by
    intro S x1 x2 x3 t0 t1 h H locs ls hw hl
    unfold f_X4_link_78 at h
    have kk97 : ∀ (S : HSt) (x3 t0 t1 : Int32), f_X4_link_97 S x3 t0 t1 = some (r, S9) → ∀ (H : Heap) (locs : List Loc) (ls : Array Slot), HW (dC, dI) (wM q cI cZ) S A s H locs → lv_has ls 4 [(0, .ref (q 0)), (3, .int x3)] → W p l e rmX4_link s m ([.ref (q 0), .int a1, .int a2, .int a3] : List Value).toArray below meth c H locs 0 0 (MQ below (QI (dC, dI) (wM q cI cZ) r S9 A) ([.ref (q 0), .int a1, .int a2, .int a3] : List Value).toArray s 0 0 A) (F0 m 97 ls [.int t0, .int t1, .ref (q 2)]) := by
      intro S x3 t0 t1 h H locs ls hw hl
      unfold f_X4_link_97 at h
      obtain ⟨S1, e2, h⟩ := h_bd_ok h
      refine h_ast cx hw 2 (wM_p2 q cI cZ S) (wM_s2 q cI cZ S) e2 dX4_link_97 (fun H locs hw => ?_)
      refine lv_aload_n hx hb dX4_link_98 rfl (lv_at hl 0 rfl) ?_
      refine h_get (v := .ref (q 3)) cx hw 0 (wM_p0 q cI cZ S1) rfl hinX4 3 (by decide) lk16 rfl dX4_link_99 ?_
      refine lv_aload_n hx hb dX4_link_102 rfl (lv_at hl 0 rfl) ?_
      refine h_get (v := .int (S1.1 0)) cx hw 0 (wM_p0 q cI cZ S1) rfl hinX4 0 (by decide) lk84 rfl dX4_link_103 ?_
      refine lv_iload_n hx hb dX4_link_106 rfl (lv_at hl 1 rfl) ?_
      obtain ⟨S3, e4, h⟩ := h_bd_ok h
      refine h_ast cx hw 3 (wM_p3 q cI cZ S1) (wM_s3 q cI cZ S1) e4 dX4_link_107 (fun H locs hw => ?_)
      refine lv_aload_n hx hb dX4_link_108 rfl (lv_at hl 0 rfl) ?_
      refine h_get (v := .ref (q 4)) cx hw 0 (wM_p0 q cI cZ S3) rfl hinX4 4 (by decide) lk19 rfl dX4_link_109 ?_
      refine lv_aload_n hx hb dX4_link_112 rfl (lv_at hl 0 rfl) ?_
      refine h_get (v := .int (S3.1 0)) cx hw 0 (wM_p0 q cI cZ S3) rfl hinX4 0 (by decide) lk84 rfl dX4_link_113 ?_
      refine lv_iconst (v := 1) hx hb dX4_link_116 (by decide) ?_
      obtain ⟨S5, e6, h⟩ := h_bd_ok h
      refine h_astz cx hw 4 (wM_p4 q cI cZ S3) (wM_s4 q cI cZ S3) e6 dX4_link_117 (fun H locs hw => ?_)
      refine lv_aload_n hx hb dX4_link_118 rfl (lv_at hl 0 rfl) ?_
      refine lv_dup hx hb dX4_link_119 rfl ?_
      refine h_get (v := .int (S5.1 0)) cx hw 0 (wM_p0 q cI cZ S5) rfl hinX4 0 (by decide) lk84 rfl dX4_link_120 ?_
      refine lv_iconst (v := 1) hx hb dX4_link_123 (by decide) ?_
      refine lv_iadd hx hb dX4_link_124 ?_
      obtain ⟨S7, e8, h⟩ := h_bd_ok h
      refine h_puti (x := (S5.1 0) + 1) cx hw 0 (wM_p0 q cI cZ S5) rfl hinX4 tyX4 tyX4_ok nmX4 0 (by decide) lk84 rfl (by decide +kernel) (Nat.le_of_ble_eq_true rfl) 0 (wM_i0 q cI cZ S5 ((S5.1 0) + 1)) e8 dX4_link_125 (fun H locs hw => ?_)
      refine lv_aload_n hx hb dX4_link_128 rfl (lv_at hl 0 rfl) ?_
      refine h_get (v := .int (S7.1 0)) cx hw 0 (wM_p0 q cI cZ S7) rfl hinX4 0 (by decide) lk84 rfl dX4_link_129 ?_
      refine lv_iconst (v := 1) hx hb dX4_link_132 (by decide) ?_
      refine lv_isub hx hb dX4_link_133 ?_
      exact h_iret cx hw hr hlk rfl (congrArg Prod.fst (Option.some.inj h)) (congrArg Prod.snd (Option.some.inj h)) dX4_link_134
    obtain ⟨S1, e2, h⟩ := h_bd_ok h
    refine h_ast cx hw 1 (wM_p1 q cI cZ S) (wM_s1 q cI cZ S) e2 dX4_link_78 (fun H locs hw => ?_)
    refine lv_aload_n hx hb dX4_link_79 rfl (lv_at hl 0 rfl) ?_
    refine h_get (v := .ref (q 2)) cx hw 0 (wM_p0 q cI cZ S1) rfl hinX4 2 (by decide) lk13 rfl dX4_link_80 ?_
    refine lv_aload_n hx hb dX4_link_83 rfl (lv_at hl 0 rfl) ?_
    refine h_get (v := .int (S1.1 0)) cx hw 0 (wM_p0 q cI cZ S1) rfl hinX4 0 (by decide) lk84 rfl dX4_link_84 ?_
    refine lv_iload_n hx hb dX4_link_87 rfl (lv_at hl 1 rfl) ?_
    refine lv_iload_n hx hb dX4_link_88 rfl (lv_at hl 2 rfl) ?_
    refine lv_icmp_ge (tgt := 96) hx hb dX4_link_89 (by decide) (fun c3 => ?_) (fun c3 => ?_)
    · have h := h_ifp c3 h
      refine lv_iload_n hx hb dX4_link_96 rfl (lv_at hl 1 rfl) ?_
      exact kk97 _ _ _ _ h _ _ _ hw (lv_sub hl [0, 3] rfl)
    · have h := h_ifn c3 h
      refine lv_iload_n hx hb dX4_link_92 rfl (lv_at hl 2 rfl) ?_
      refine lv_goto (tgt := 97) hx hb dX4_link_93 (by decide) ?_
      exact kk97 _ _ _ _ h _ _ _ hw (lv_sub hl [0, 3] rfl)
  refine lv_iload_n hx hb dX4_link_0 rfl (lv_at hl 1 rfl) ?_
  obtain ⟨r1, e2, h⟩ := h_bd_ok h
  refine h_callS cx.1 (c_X4_isBox l a1 r1 e2) (va_cwS 1 hts (hgA (hcS wdL_X4_88 wdT_X4_isBox wdN_RX4 wdC_X4_isBox)) rfl rfl rfl pdX4_isBox.2 ⟨Nat.le_of_ble_eq_true rfl, Nat.le_of_ble_eq_true rfl⟩) rfl hl.1 rfl (Nat.le_of_ble_eq_true rfl) dX4_link_1 ⟨Nat.zero_le _, Nat.zero_le _⟩ ?_
  refine lv_if_eq (tgt := 14) hx hb dX4_link_4 (by decide) (fun c3 => ?_) (fun c3 => ?_)
  · have h := h_ifp c3 h
    refine lv_iconst (v := (-1)) hx hb dX4_link_14 (by decide) ?_
    exact h_iret cx hw hr hlk rfl (congrArg Prod.fst (Option.some.inj h)) (congrArg Prod.snd (Option.some.inj h)) dX4_link_15
  · have h := h_ifn c3 h
    refine lv_iload_n hx hb dX4_link_7 rfl (lv_at hl 2 rfl) ?_
    obtain ⟨r4, e5, h⟩ := h_bd_ok h
    refine h_callS cx.1 (c_X4_isBox l a2 r4 e5) (va_cwS 1 hts (hgA (hcS wdL_X4_88 wdT_X4_isBox wdN_RX4 wdC_X4_isBox)) rfl rfl rfl pdX4_isBox.2 ⟨Nat.le_of_ble_eq_true rfl, Nat.le_of_ble_eq_true rfl⟩) rfl hl.1 rfl (Nat.le_of_ble_eq_true rfl) dX4_link_8 ⟨Nat.zero_le _, Nat.zero_le _⟩ ?_
    refine lv_if_ne (tgt := 16) hx hb dX4_link_11 (by decide) (fun c6 => ?_) (fun c6 => ?_)
    · have h := h_ifn c6 h
      refine lv_iload_n hx hb dX4_link_16 rfl (lv_at hl 3 rfl) ?_
      refine lv_iconst (v := 1) hx hb dX4_link_17 (by decide) ?_
      refine lv_bipush (v := 9) hx hb dX4_link_18 (by decide) ?_
      obtain ⟨r7, e8, h⟩ := h_bd_ok h
      refine h_callS cx.1 (c_X4_within l a3 1 9 r7 e8) (va_cwS 3 hts (hgA (hcS wdL_X4_80 wdT_X4_within wdN_RX4 wdC_X4_within)) rfl rfl rfl pdX4_within.2 ⟨Nat.le_of_ble_eq_true rfl, Nat.le_of_ble_eq_true rfl⟩) rfl hl.1 rfl (Nat.le_of_ble_eq_true rfl) dX4_link_20 ⟨Nat.zero_le _, Nat.zero_le _⟩ ?_
      refine lv_if_ne (tgt := 29) hx hb dX4_link_23 (by decide) (fun c9 => ?_) (fun c9 => ?_)
      · have h := h_ifn c9 h
        refine lv_iload_n hx hb dX4_link_29 rfl (lv_at hl 1 rfl) ?_
        refine lv_iload_n hx hb dX4_link_30 rfl (lv_at hl 2 rfl) ?_
        refine lv_icmp_eq (tgt := 45) hx hb dX4_link_31 (by decide) (fun c10 => ?_) (fun c10 => ?_)
        · have h := h_ifp c10 h
          refine lv_bipush (v := (-3)) hx hb dX4_link_45 (by decide) ?_
          exact h_iret cx hw hr hlk rfl (congrArg Prod.fst (Option.some.inj h)) (congrArg Prod.snd (Option.some.inj h)) dX4_link_47
        · have h := h_ifn c10 h
          refine lv_aload_n hx hb dX4_link_34 rfl (lv_at hl 0 rfl) ?_
          refine lv_iload_n hx hb dX4_link_35 rfl (lv_at hl 1 rfl) ?_
          refine lv_iload_n hx hb dX4_link_36 rfl (lv_at hl 2 rfl) ?_
          obtain ⟨r11, e12, h⟩ := h_bd_ok h
          refine h_callI cx hw (c_X4_linkBetween l dC dI cI cZ q S a1 a2 r11 e12) (cwV 2 hts (hgA (hcV wdL_X4_92 wdI_X4_linkBetween wdS_X4_linkBetween wdN_RX4 wdC_X4_linkBetween)) rfl rfl rfl pdX4_linkBetween ⟨Nat.le_of_ble_eq_true rfl, Nat.le_of_ble_eq_true rfl⟩) 0 (wM_p0 q cI cZ S) rfl rfl rfl hl.1 rfl (Nat.le_of_ble_eq_true rfl) dX4_link_37 ⟨Nat.zero_le _, Nat.zero_le _⟩ (fun H locs hw => ?_)
          refine lv_bipush (v := (-9)) hx hb dX4_link_40 (by decide) ?_
          refine lv_icmp_eq (tgt := 48) hx hb dX4_link_42 (by decide) (fun c13 => ?_) (fun c13 => ?_)
          · have h := h_ifp c13 h
            refine lv_aload_n hx hb dX4_link_48 rfl (lv_at hl 0 rfl) ?_
            refine h_get (v := .int (S.1 0)) cx hw 0 (wM_p0 q cI cZ S) rfl hinX4 0 (by decide) lk84 rfl dX4_link_49 ?_
            refine lv_bipush (v := 12) hx hb dX4_link_52 (by decide) ?_
            refine lv_icmp_ne (tgt := 60) hx hb dX4_link_54 (by decide) (fun c14 => ?_) (fun c14 => ?_)
            · have h := h_ifn c14 h
              refine lv_aload_n hx hb dX4_link_60 rfl (lv_at hl 0 rfl) ?_
              refine h_get (v := .ref (q 1)) cx hw 0 (wM_p0 q cI cZ S) rfl hinX4 1 (by decide) lk7 rfl dX4_link_61 ?_
              refine lv_aload_n hx hb dX4_link_64 rfl (lv_at hl 0 rfl) ?_
              refine h_get (v := .int (S.1 0)) cx hw 0 (wM_p0 q cI cZ S) rfl hinX4 0 (by decide) lk84 rfl dX4_link_65 ?_
              refine lv_iload_n hx hb dX4_link_68 rfl (lv_at hl 1 rfl) ?_
              refine lv_iload_n hx hb dX4_link_69 rfl (lv_at hl 2 rfl) ?_
              refine lv_icmp_ge (tgt := 77) hx hb dX4_link_70 (by decide) (fun c15 => ?_) (fun c15 => ?_)
              · have h := h_ifp c15 h
                refine lv_iload_n hx hb dX4_link_77 rfl (lv_at hl 2 rfl) ?_
                exact kk78 _ _ _ _ _ _ h _ _ _ hw (lv_sub hl [0, 1, 2, 3] rfl)
              · have h := h_ifn c15 h
                refine lv_iload_n hx hb dX4_link_73 rfl (lv_at hl 1 rfl) ?_
                refine lv_goto (tgt := 78) hx hb dX4_link_74 (by decide) ?_
                exact kk78 _ _ _ _ _ _ h _ _ _ hw (lv_sub hl [0, 1, 2, 3] rfl)
            · have h := h_ifp c14 h
              refine lv_bipush (v := (-4)) hx hb dX4_link_57 (by decide) ?_
              exact h_iret cx hw hr hlk rfl (congrArg Prod.fst (Option.some.inj h)) (congrArg Prod.snd (Option.some.inj h)) dX4_link_59
          · have h := h_ifn c13 h
            refine lv_bipush (v := (-3)) hx hb dX4_link_45 (by decide) ?_
            exact h_iret cx hw hr hlk rfl (congrArg Prod.fst (Option.some.inj h)) (congrArg Prod.snd (Option.some.inj h)) dX4_link_47
      · have h := h_ifp c9 h
        refine lv_bipush (v := (-2)) hx hb dX4_link_26 (by decide) ?_
        exact h_iret cx hw hr hlk rfl (congrArg Prod.fst (Option.some.inj h)) (congrArg Prod.snd (Option.some.inj h)) dX4_link_28
    · have h := h_ifp c6 h
      refine lv_iconst (v := (-1)) hx hb dX4_link_14 (by decide) ?_
      exact h_iret cx hw hr hlk rfl (congrArg Prod.fst (Option.some.inj h)) (congrArg Prod.snd (Option.some.inj h)) dX4_link_15
set_option maxHeartbeats 4000000 in
set_option maxRecDepth 100000 in
theorem c_X4_cost (l : Launch) (dC : Nat → ClassId) (dI : Nat → Nat → Nat) (cI cZ : ClassId) (q : Nat → Nat) (S : HSt) (a1 a2 : Int32) (r : Int32) (S9 : HSt) (h : f_X4_cost S a1 a2 = some (r, S9)) : MI l yX4_cost hsX4_cost rmX4_cost (dC, dI) cI cZ (wM q cI cZ) S [.ref (q 0), .int a1, .int a2] r S9 := by
  refine MI.ofW (cc := cX4_cost) (maxL := 4) (ret := (some .int)) (by decide +kernel) rfl (Nat.le_of_ble_eq_true rfl) ?_
  intro p e s m below meth c A cx hr hlk hw ls hl
  have hx := cx.1.1
  have hb := cx.1.2.1
  have hml := cx.1.2.2.1
  have hts := cx.1.2.2.2.2
  have hta : ∀ z ∈ hALL, z.before _ s = true := fun z h => hts z (List.mem_cons_of_mem _ h)
  have lk16 : (Cond.fieldLink RX4 16 (TX4 3).1 (TX4 3).2.1 (TX4 3).2.2.1).before _ s = true := hta _ wdF_X4_16
  have hl : lv_has ls 4 [(0, .ref (q 0)), (1, .int a1), (2, .int a2)] := hl
  unfold f_X4_cost at h
  refine lv_aload_n hx hb dX4_cost_0 rfl (lv_at hl 0 rfl) ?_
  refine lv_iload_n hx hb dX4_cost_1 rfl (lv_at hl 1 rfl) ?_
  obtain ⟨r1, e2, h⟩ := h_bd_ok h
  refine h_callI cx hw (c_X4_isLink l dC dI cI cZ q S a1 r1 e2) (cwV 1 hts (hgA (hcV wdL_X4_96 wdI_X4_isLink wdS_X4_isLink wdN_RX4 wdC_X4_isLink)) rfl rfl rfl pdX4_isLink ⟨Nat.le_of_ble_eq_true rfl, Nat.le_of_ble_eq_true rfl⟩) 0 (wM_p0 q cI cZ S) rfl rfl rfl hl.1 rfl (Nat.le_of_ble_eq_true rfl) dX4_cost_2 ⟨Nat.zero_le _, Nat.zero_le _⟩ (fun H locs hw => ?_)
  refine lv_if_ne (tgt := 10) hx hb dX4_cost_5 (by decide) (fun c3 => ?_) (fun c3 => ?_)
  · have h := h_ifn c3 h
    refine lv_iload_n hx hb dX4_cost_10 rfl (lv_at hl 2 rfl) ?_
    refine lv_iconst (v := 1) hx hb dX4_cost_11 (by decide) ?_
    refine lv_bipush (v := 9) hx hb dX4_cost_12 (by decide) ?_
    obtain ⟨r4, e5, h⟩ := h_bd_ok h
    refine h_callS cx.1 (c_X4_within l a2 1 9 r4 e5) (va_cwS 3 hts (hgA (hcS wdL_X4_80 wdT_X4_within wdN_RX4 wdC_X4_within)) rfl rfl rfl pdX4_within.2 ⟨Nat.le_of_ble_eq_true rfl, Nat.le_of_ble_eq_true rfl⟩) rfl hl.1 rfl (Nat.le_of_ble_eq_true rfl) dX4_cost_14 ⟨Nat.zero_le _, Nat.zero_le _⟩ ?_
    refine lv_if_ne (tgt := 23) hx hb dX4_cost_17 (by decide) (fun c6 => ?_) (fun c6 => ?_)
    · have h := h_ifn c6 h
      refine lv_aload_n hx hb dX4_cost_23 rfl (lv_at hl 0 rfl) ?_
      refine h_get (v := .ref (q 3)) cx hw 0 (wM_p0 q cI cZ S) rfl hinX4 3 (by decide) lk16 rfl dX4_cost_24 ?_
      refine lv_iload_n hx hb dX4_cost_27 rfl (lv_at hl 1 rfl) ?_
      obtain ⟨v7, e8, h⟩ := h_bd_ok h
      refine h_ald cx hw 3 (wM_p3 q cI cZ S) e8 dX4_cost_28 ?_
      refine lv_istore_n (lv' := [(3, .int v7), (0, .ref (q 0)), (1, .int a1), (2, .int a2)]) hx hb dX4_cost_29 rfl hl (by decide) rfl (fun ls hl => ?_)
      refine lv_aload_n hx hb dX4_cost_30 rfl (lv_at hl 1 rfl) ?_
      refine h_get (v := .ref (q 3)) cx hw 0 (wM_p0 q cI cZ S) rfl hinX4 3 (by decide) lk16 rfl dX4_cost_31 ?_
      refine lv_iload_n hx hb dX4_cost_34 rfl (lv_at hl 2 rfl) ?_
      refine lv_iload_n hx hb dX4_cost_35 rfl (lv_at hl 3 rfl) ?_
      obtain ⟨S9, e10, h⟩ := h_bd_ok h
      refine h_ast cx hw 3 (wM_p3 q cI cZ S) (wM_s3 q cI cZ S) e10 dX4_cost_36 (fun H locs hw => ?_)
      refine lv_iload_n hx hb dX4_cost_37 rfl (lv_at hl 0 rfl) ?_
      exact h_iret cx hw hr hlk rfl (congrArg Prod.fst (Option.some.inj h)) (congrArg Prod.snd (Option.some.inj h)) dX4_cost_38
    · have h := h_ifp c6 h
      refine lv_bipush (v := (-2)) hx hb dX4_cost_20 (by decide) ?_
      exact h_iret cx hw hr hlk rfl (congrArg Prod.fst (Option.some.inj h)) (congrArg Prod.snd (Option.some.inj h)) dX4_cost_22
  · have h := h_ifp c3 h
    refine lv_iconst (v := (-1)) hx hb dX4_cost_8 (by decide) ?_
    exact h_iret cx hw hr hlk rfl (congrArg Prod.fst (Option.some.inj h)) (congrArg Prod.snd (Option.some.inj h)) dX4_cost_9
set_option maxHeartbeats 4000000 in
set_option maxRecDepth 100000 in
theorem c_X4_up (l : Launch) (dC : Nat → ClassId) (dI : Nat → Nat → Nat) (cI cZ : ClassId) (q : Nat → Nat) (S : HSt) (a1 a2 : Int32) (r : Int32) (S9 : HSt) (h : f_X4_up S a1 a2 = some (r, S9)) : MI l yX4_up hsX4_up rmX4_up (dC, dI) cI cZ (wM q cI cZ) S [.ref (q 0), .int a1, .int a2] r S9 := by
  refine MI.ofW (cc := cX4_up) (maxL := 5) (ret := (some .int)) (by decide +kernel) rfl (Nat.le_of_ble_eq_true rfl) ?_
  intro p e s m below meth c A cx hr hlk hw ls hl
  have hx := cx.1.1
  have hb := cx.1.2.1
  have hml := cx.1.2.2.1
  have hts := cx.1.2.2.2.2
  have hta : ∀ z ∈ hALL, z.before _ s = true := fun z h => hts z (List.mem_cons_of_mem _ h)
  have lk19 : (Cond.fieldLink RX4 19 (TX4 4).1 (TX4 4).2.1 (TX4 4).2.2.1).before _ s = true := hta _ wdF_X4_19
  have lk35 : (Cond.fieldLink RX4 35 (TX4 9).1 (TX4 9).2.1 (TX4 9).2.2.1).before _ s = true := hta _ wdF_X4_35
  have lk41 : (Cond.fieldLink RX4 41 (TX4 11).1 (TX4 11).2.1 (TX4 11).2.2.1).before _ s = true := hta _ wdF_X4_41
  have hl : lv_has ls 5 [(0, .ref (q 0)), (1, .int a1), (2, .int a2)] := hl
  unfold f_X4_up at h
  have kk36 : ∀ (S : HSt) (x1 x2 t0 : Int32), f_X4_up_36 S x1 x2 t0 = some (r, S9) → ∀ (H : Heap) (locs : List Loc) (ls : Array Slot), HW (dC, dI) (wM q cI cZ) S A s H locs → lv_has ls 5 [(0, .ref (q 0)), (1, .int x1), (2, .int x2)] → W p l e rmX4_up s m ([.ref (q 0), .int a1, .int a2] : List Value).toArray below meth c H locs 0 0 (MQ below (QI (dC, dI) (wM q cI cZ) r S9 A) ([.ref (q 0), .int a1, .int a2] : List Value).toArray s 0 0 A) (F0 m 36 ls [.int t0]) := by
    intro S x1 x2 t0 h H locs ls hw hl
    unfold f_X4_up_36 at h
    have kk52 : ∀ (S : HSt) (x1 x2 x3 t0 t1 : Int32), f_X4_up_52 S x1 x2 x3 t0 t1 = some (r, S9) → ∀ (H : Heap) (locs : List Loc) (ls : Array Slot), HW (dC, dI) (wM q cI cZ) S A s H locs → lv_has ls 5 [(0, .ref (q 0)), (1, .int x1), (2, .int x2), (3, .int x3)] → W p l e rmX4_up s m ([.ref (q 0), .int a1, .int a2] : List Value).toArray below meth c H locs 0 0 (MQ below (QI (dC, dI) (wM q cI cZ) r S9 A) ([.ref (q 0), .int a1, .int a2] : List Value).toArray s 0 0 A) (F0 m 52 ls [.int t0, .int t1, .ref (q 4)]) := by
      intro S x1 x2 x3 t0 t1 h H locs ls hw hl
      unfold f_X4_up_52 at h
      have kk56 : ∀ (n56 : Nat) (S : HSt) (x1 x2 x3 x4 : Int32), f_X4_up_56 n56 S x1 x2 x3 x4 = some (r, S9) → ∀ (H : Heap) (locs : List Loc) (ls : Array Slot), HW (dC, dI) (wM q cI cZ) S A s H locs → lv_has ls 5 [(0, .ref (q 0)), (1, .int x1), (2, .int x2), (3, .int x3), (4, .int x4)] → W p l e rmX4_up s m ([.ref (q 0), .int a1, .int a2] : List Value).toArray below meth c H locs 0 0 (MQ below (QI (dC, dI) (wM q cI cZ) r S9 A) ([.ref (q 0), .int a1, .int a2] : List Value).toArray s 0 0 A) (F0 m 56 ls []) := by
        intro n56
        induction n56 with
        | zero =>
          intro S x1 x2 x3 x4 h
          have h9 : (none : Option (Int32 × HSt)) = some (r, S9) := h
          cases h9
        | succ n56 ih56 =>
          intro S x1 x2 x3 x4 h H locs ls hw hl
          have h : f_X4_up_56_s (f_X4_up_56 n56) S x1 x2 x3 x4 = some (r, S9) := h
          unfold f_X4_up_56_s at h
          have kk95 : ∀ (S : HSt) (x1 x2 x3 x4 : Int32), f_X4_up_95 (f_X4_up_56 n56) S x1 x2 x3 x4 = some (r, S9) → ∀ (H : Heap) (locs : List Loc) (ls : Array Slot), HW (dC, dI) (wM q cI cZ) S A s H locs → lv_has ls 5 [(0, .ref (q 0)), (1, .int x1), (2, .int x2), (3, .int x3), (4, .int x4)] → W p l e rmX4_up s m ([.ref (q 0), .int a1, .int a2] : List Value).toArray below meth c H locs 0 0 (MQ below (QI (dC, dI) (wM q cI cZ) r S9 A) ([.ref (q 0), .int a1, .int a2] : List Value).toArray s 0 0 A) (F0 m 95 ls []) := by
            intro S x1 x2 x3 x4 h H locs ls hw hl
            unfold f_X4_up_95 at h
            refine lv_iinc (v := x4 + 1) (lv' := [(4, .int (x4 + 1)), (0, .ref (q 0)), (1, .int x1), (2, .int x2), (3, .int x3)]) hx hb dX4_up_95 hl (k := 4) rfl rfl (by decide) rfl (fun ls hl => ?_)
            refine lv_goto (tgt := 56) hx hb dX4_up_98 (by decide) ?_
            exact ih56 _ _ _ _ _ h _ _ _ hw (lv_sub hl [1, 2, 3, 4, 0] rfl)
          refine lv_iload hx hb dX4_up_56 (lv_at hl 4 rfl) ?_
          refine lv_sipush (v := 336) hx hb dX4_up_58 (by decide) ?_
          refine lv_icmp_ge (tgt := 101) hx hb dX4_up_61 (by decide) (fun c1 => ?_) (fun c1 => ?_)
          · have h := h_ifp c1 h
            refine lv_iload_n hx hb dX4_up_101 rfl (lv_at hl 3 rfl) ?_
            exact h_iret cx hw hr hlk rfl (congrArg Prod.fst (Option.some.inj h)) (congrArg Prod.snd (Option.some.inj h)) dX4_up_102
          · have h := h_ifn c1 h
            refine lv_iload_n hx hb dX4_up_64 rfl (lv_at hl 2 rfl) ?_
            refine lv_if_ne (tgt := 101) hx hb dX4_up_65 (by decide) (fun c2 => ?_) (fun c2 => ?_)
            · have h := h_ifn c2 h
              refine lv_iload_n hx hb dX4_up_101 rfl (lv_at hl 3 rfl) ?_
              exact h_iret cx hw hr hlk rfl (congrArg Prod.fst (Option.some.inj h)) (congrArg Prod.snd (Option.some.inj h)) dX4_up_102
            · have h := h_ifp c2 h
              refine lv_iload hx hb dX4_up_68 (lv_at hl 4 rfl) ?_
              refine lv_iconst (v := 4) hx hb dX4_up_70 (by decide) ?_
              refine lv_idiv hx hb dX4_up_71 (by decide) ?_
              refine lv_bipush (v := 12) hx hb dX4_up_72 (by decide) ?_
              refine lv_irem hx hb dX4_up_74 (by decide) ?_
              refine lv_iload_n hx hb dX4_up_75 rfl (lv_at hl 1 rfl) ?_
              refine lv_icmp_ne (tgt := 95) hx hb dX4_up_76 (by decide) (fun c3 => ?_) (fun c3 => ?_)
              · have h := h_ifn c3 h
                exact kk95 _ _ _ _ _ h _ _ _ hw (lv_sub hl [0, 1, 2, 3, 4] rfl)
              · have h := h_ifp c3 h
                refine lv_aload_n hx hb dX4_up_79 rfl (lv_at hl 0 rfl) ?_
                refine h_get (v := .ref (q 9)) cx hw 0 (wM_p0 q cI cZ S) rfl hinX4 9 (by decide) lk35 rfl dX4_up_80 ?_
                refine lv_iload hx hb dX4_up_83 (lv_at hl 4 rfl) ?_
                refine lv_iconst (v := 0) hx hb dX4_up_85 (by decide) ?_
                obtain ⟨S4, e5, h⟩ := h_bd_ok h
                refine h_ast cx hw 9 (wM_p9 q cI cZ S) (wM_s9 q cI cZ S) e5 dX4_up_86 (fun H locs hw => ?_)
                refine lv_aload_n hx hb dX4_up_87 rfl (lv_at hl 0 rfl) ?_
                refine h_get (v := .ref (q 11)) cx hw 0 (wM_p0 q cI cZ S4) rfl hinX4 11 (by decide) lk41 rfl dX4_up_88 ?_
                refine lv_iload hx hb dX4_up_91 (lv_at hl 4 rfl) ?_
                refine lv_iconst (v := 0) hx hb dX4_up_93 (by decide) ?_
                obtain ⟨S6, e7, h⟩ := h_bd_ok h
                refine h_ast cx hw 11 (wM_p11 q cI cZ S4) (wM_s11 q cI cZ S4) e7 dX4_up_94 (fun H locs hw => ?_)
                exact kk95 _ _ _ _ _ h _ _ _ hw (lv_sub hl [0, 1, 2, 3, 4] rfl)
      obtain ⟨S1, e2, h⟩ := h_bd_ok h
      refine h_astz cx hw 4 (wM_p4 q cI cZ S) (wM_s4 q cI cZ S) e2 dX4_up_52 (fun H locs hw => ?_)
      refine lv_iconst (v := 0) hx hb dX4_up_53 (by decide) ?_
      refine lv_istore (lv' := [(4, .int 0), (0, .ref (q 0)), (1, .int x1), (2, .int x2), (3, .int x3)]) hx hb dX4_up_54 hl (by decide) rfl (fun ls hl => ?_)
      exact kk56 h_fu _ _ _ _ _ h _ _ _ hw (lv_sub hl [1, 2, 3, 4, 0] rfl)
    refine lv_istore_n (lv' := [(3, .int t0), (0, .ref (q 0)), (1, .int x1), (2, .int x2)]) hx hb dX4_up_36 rfl hl (by decide) rfl (fun ls hl => ?_)
    refine lv_aload_n hx hb dX4_up_37 rfl (lv_at hl 1 rfl) ?_
    refine h_get (v := .ref (q 4)) cx hw 0 (wM_p0 q cI cZ S) rfl hinX4 4 (by decide) lk19 rfl dX4_up_38 ?_
    refine lv_iload_n hx hb dX4_up_41 rfl (lv_at hl 2 rfl) ?_
    refine lv_iload_n hx hb dX4_up_42 rfl (lv_at hl 3 rfl) ?_
    refine lv_iconst (v := 1) hx hb dX4_up_43 (by decide) ?_
    refine lv_icmp_ne (tgt := 51) hx hb dX4_up_44 (by decide) (fun c1 => ?_) (fun c1 => ?_)
    · have h := h_ifn c1 h
      refine lv_iconst (v := 0) hx hb dX4_up_51 (by decide) ?_
      exact kk52 _ _ _ _ _ _ h _ _ _ hw (lv_sub hl [1, 2, 3, 0] rfl)
    · have h := h_ifp c1 h
      refine lv_iconst (v := 1) hx hb dX4_up_47 (by decide) ?_
      refine lv_goto (tgt := 52) hx hb dX4_up_48 (by decide) ?_
      exact kk52 _ _ _ _ _ _ h _ _ _ hw (lv_sub hl [1, 2, 3, 0] rfl)
  refine lv_aload_n hx hb dX4_up_0 rfl (lv_at hl 0 rfl) ?_
  refine lv_iload_n hx hb dX4_up_1 rfl (lv_at hl 1 rfl) ?_
  obtain ⟨r1, e2, h⟩ := h_bd_ok h
  refine h_callI cx hw (c_X4_isLink l dC dI cI cZ q S a1 r1 e2) (cwV 1 hts (hgA (hcV wdL_X4_96 wdI_X4_isLink wdS_X4_isLink wdN_RX4 wdC_X4_isLink)) rfl rfl rfl pdX4_isLink ⟨Nat.le_of_ble_eq_true rfl, Nat.le_of_ble_eq_true rfl⟩) 0 (wM_p0 q cI cZ S) rfl rfl rfl hl.1 rfl (Nat.le_of_ble_eq_true rfl) dX4_up_2 ⟨Nat.zero_le _, Nat.zero_le _⟩ (fun H locs hw => ?_)
  refine lv_if_ne (tgt := 10) hx hb dX4_up_5 (by decide) (fun c3 => ?_) (fun c3 => ?_)
  · have h := h_ifn c3 h
    refine lv_iload_n hx hb dX4_up_10 rfl (lv_at hl 2 rfl) ?_
    refine lv_iconst (v := 0) hx hb dX4_up_11 (by decide) ?_
    refine lv_iconst (v := 1) hx hb dX4_up_12 (by decide) ?_
    obtain ⟨r4, e5, h⟩ := h_bd_ok h
    refine h_callS cx.1 (c_X4_within l a2 0 1 r4 e5) (va_cwS 3 hts (hgA (hcS wdL_X4_80 wdT_X4_within wdN_RX4 wdC_X4_within)) rfl rfl rfl pdX4_within.2 ⟨Nat.le_of_ble_eq_true rfl, Nat.le_of_ble_eq_true rfl⟩) rfl hl.1 rfl (Nat.le_of_ble_eq_true rfl) dX4_up_13 ⟨Nat.zero_le _, Nat.zero_le _⟩ ?_
    refine lv_if_ne (tgt := 22) hx hb dX4_up_16 (by decide) (fun c6 => ?_) (fun c6 => ?_)
    · have h := h_ifn c6 h
      refine lv_aload_n hx hb dX4_up_22 rfl (lv_at hl 0 rfl) ?_
      refine h_get (v := .ref (q 4)) cx hw 0 (wM_p0 q cI cZ S) rfl hinX4 4 (by decide) lk19 rfl dX4_up_23 ?_
      refine lv_iload_n hx hb dX4_up_26 rfl (lv_at hl 1 rfl) ?_
      obtain ⟨v7, e8, h⟩ := h_bd_ok h
      refine h_aldz cx hw 4 (wM_p4 q cI cZ S) e8 dX4_up_27 ?_
      refine lv_if_eq (tgt := 35) hx hb dX4_up_28 (by decide) (fun c9 => ?_) (fun c9 => ?_)
      · have h := h_ifp c9 h
        refine lv_iconst (v := 0) hx hb dX4_up_35 (by decide) ?_
        exact kk36 _ _ _ _ h _ _ _ hw (lv_sub hl [0, 1, 2] rfl)
      · have h := h_ifn c9 h
        refine lv_iconst (v := 1) hx hb dX4_up_31 (by decide) ?_
        refine lv_goto (tgt := 36) hx hb dX4_up_32 (by decide) ?_
        exact kk36 _ _ _ _ h _ _ _ hw (lv_sub hl [0, 1, 2] rfl)
    · have h := h_ifp c6 h
      refine lv_bipush (v := (-2)) hx hb dX4_up_19 (by decide) ?_
      exact h_iret cx hw hr hlk rfl (congrArg Prod.fst (Option.some.inj h)) (congrArg Prod.snd (Option.some.inj h)) dX4_up_21
  · have h := h_ifp c3 h
    refine lv_iconst (v := (-1)) hx hb dX4_up_8 (by decide) ?_
    exact h_iret cx hw hr hlk rfl (congrArg Prod.fst (Option.some.inj h)) (congrArg Prod.snd (Option.some.inj h)) dX4_up_9
set_option maxHeartbeats 4000000 in
set_option maxRecDepth 100000 in
theorem c_X4_end (l : Launch) (dC : Nat → ClassId) (dI : Nat → Nat → Nat) (cI cZ : ClassId) (q : Nat → Nat) (S : HSt) (a1 a2 : Int32) (r : Int32) (S9 : HSt) (h : f_X4_end S a1 a2 = some (r, S9)) : MI l yX4_end hsX4_end rmX4_end (dC, dI) cI cZ (wM q cI cZ) S [.ref (q 0), .int a1, .int a2] r S9 := by
  refine MI.ofW (cc := cX4_end) (maxL := 4) (ret := (some .int)) (by decide +kernel) rfl (Nat.le_of_ble_eq_true rfl) ?_
  intro p e s m below meth c A cx hr hlk hw ls hl
  have hx := cx.1.1
  have hb := cx.1.2.1
  have hml := cx.1.2.2.1
  have hts := cx.1.2.2.2.2
  have hta : ∀ z ∈ hALL, z.before _ s = true := fun z h => hts z (List.mem_cons_of_mem _ h)
  have lk23 : (Cond.fieldLink RX4 23 (TX4 5).1 (TX4 5).2.1 (TX4 5).2.2.1).before _ s = true := hta _ wdF_X4_23
  have hl : lv_has ls 4 [(0, .ref (q 0)), (1, .int a1), (2, .int a2)] := hl
  unfold f_X4_end at h
  have kk25 : ∀ (S : HSt) (x1 x2 : Int32), f_X4_end_25 S x1 x2 = some (r, S9) → ∀ (H : Heap) (locs : List Loc) (ls : Array Slot), HW (dC, dI) (wM q cI cZ) S A s H locs → lv_has ls 4 [(0, .ref (q 0)), (1, .int x1), (2, .int x2)] → W p l e rmX4_end s m ([.ref (q 0), .int a1, .int a2] : List Value).toArray below meth c H locs 0 0 (MQ below (QI (dC, dI) (wM q cI cZ) r S9 A) ([.ref (q 0), .int a1, .int a2] : List Value).toArray s 0 0 A) (F0 m 25 ls []) := by
    intro S x1 x2 h H locs ls hw hl
    unfold f_X4_end_25 at h
    refine lv_aload_n hx hb dX4_end_25 rfl (lv_at hl 0 rfl) ?_
    refine h_get (v := .ref (q 5)) cx hw 0 (wM_p0 q cI cZ S) rfl hinX4 5 (by decide) lk23 rfl dX4_end_26 ?_
    refine lv_iload_n hx hb dX4_end_29 rfl (lv_at hl 1 rfl) ?_
    obtain ⟨v1, e2, h⟩ := h_bd_ok h
    refine h_ald cx hw 5 (wM_p5 q cI cZ S) e2 dX4_end_30 ?_
    refine lv_istore_n (lv' := [(3, .int v1), (0, .ref (q 0)), (1, .int x1), (2, .int x2)]) hx hb dX4_end_31 rfl hl (by decide) rfl (fun ls hl => ?_)
    refine lv_aload_n hx hb dX4_end_32 rfl (lv_at hl 1 rfl) ?_
    refine h_get (v := .ref (q 5)) cx hw 0 (wM_p0 q cI cZ S) rfl hinX4 5 (by decide) lk23 rfl dX4_end_33 ?_
    refine lv_iload_n hx hb dX4_end_36 rfl (lv_at hl 2 rfl) ?_
    refine lv_iload_n hx hb dX4_end_37 rfl (lv_at hl 3 rfl) ?_
    obtain ⟨S3, e4, h⟩ := h_bd_ok h
    refine h_ast cx hw 5 (wM_p5 q cI cZ S) (wM_s5 q cI cZ S) e4 dX4_end_38 (fun H locs hw => ?_)
    refine lv_iload_n hx hb dX4_end_39 rfl (lv_at hl 0 rfl) ?_
    exact h_iret cx hw hr hlk rfl (congrArg Prod.fst (Option.some.inj h)) (congrArg Prod.snd (Option.some.inj h)) dX4_end_40
  refine lv_iload_n hx hb dX4_end_0 rfl (lv_at hl 1 rfl) ?_
  obtain ⟨r1, e2, h⟩ := h_bd_ok h
  refine h_callS cx.1 (c_X4_isClass l a1 r1 e2) (va_cwS 1 hts (hgA (hcS wdL_X4_99 wdT_X4_isClass wdN_RX4 wdC_X4_isClass)) rfl rfl rfl pdX4_isClass.2 ⟨Nat.le_of_ble_eq_true rfl, Nat.le_of_ble_eq_true rfl⟩) rfl hl.1 rfl (Nat.le_of_ble_eq_true rfl) dX4_end_1 ⟨Nat.zero_le _, Nat.zero_le _⟩ ?_
  refine lv_if_ne (tgt := 9) hx hb dX4_end_4 (by decide) (fun c3 => ?_) (fun c3 => ?_)
  · have h := h_ifn c3 h
    refine lv_iload_n hx hb dX4_end_9 rfl (lv_at hl 2 rfl) ?_
    refine lv_bipush (v := (-9)) hx hb dX4_end_10 (by decide) ?_
    refine lv_icmp_eq (tgt := 25) hx hb dX4_end_12 (by decide) (fun c4 => ?_) (fun c4 => ?_)
    · have h := h_ifp c4 h
      exact kk25 _ _ _ h _ _ _ hw (lv_sub hl [0, 1, 2] rfl)
    · have h := h_ifn c4 h
      refine lv_iload_n hx hb dX4_end_15 rfl (lv_at hl 2 rfl) ?_
      obtain ⟨r5, e6, h⟩ := h_bd_ok h
      refine h_callS cx.1 (c_X4_isBox l a2 r5 e6) (va_cwS 1 hts (hgA (hcS wdL_X4_88 wdT_X4_isBox wdN_RX4 wdC_X4_isBox)) rfl rfl rfl pdX4_isBox.2 ⟨Nat.le_of_ble_eq_true rfl, Nat.le_of_ble_eq_true rfl⟩) rfl hl.1 rfl (Nat.le_of_ble_eq_true rfl) dX4_end_16 ⟨Nat.zero_le _, Nat.zero_le _⟩ ?_
      refine lv_if_ne (tgt := 25) hx hb dX4_end_19 (by decide) (fun c7 => ?_) (fun c7 => ?_)
      · have h := h_ifn c7 h
        exact kk25 _ _ _ h _ _ _ hw (lv_sub hl [0, 1, 2] rfl)
      · have h := h_ifp c7 h
        refine lv_bipush (v := (-2)) hx hb dX4_end_22 (by decide) ?_
        exact h_iret cx hw hr hlk rfl (congrArg Prod.fst (Option.some.inj h)) (congrArg Prod.snd (Option.some.inj h)) dX4_end_24
  · have h := h_ifp c3 h
    refine lv_iconst (v := (-1)) hx hb dX4_end_7 (by decide) ?_
    exact h_iret cx hw hr hlk rfl (congrArg Prod.fst (Option.some.inj h)) (congrArg Prod.snd (Option.some.inj h)) dX4_end_8
set_option maxHeartbeats 4000000 in
set_option maxRecDepth 100000 in
theorem c_X4_ofLink (l : Launch) (dC : Nat → ClassId) (dI : Nat → Nat → Nat) (cI cZ : ClassId) (q : Nat → Nat) (S : HSt) (a1 a2 : Int32) (r : Int32) (h : f_X4_ofLink S a1 a2 = some r) : MI l yX4_ofLink hsX4_ofLink rmX4_ofLink (dC, dI) cI cZ (wM q cI cZ) S [.ref (q 0), .int a1, .int a2] r S := by
  refine MI.ofW (cc := cX4_ofLink) (maxL := 3) (ret := (some .int)) (by decide +kernel) rfl (Nat.le_of_ble_eq_true rfl) ?_
  intro p e s m below meth c A cx hr hlk hw ls hl
  have hx := cx.1.1
  have hb := cx.1.2.1
  have hml := cx.1.2.2.1
  have hts := cx.1.2.2.2.2
  have hta : ∀ z ∈ hALL, z.before _ s = true := fun z h => hts z (List.mem_cons_of_mem _ h)
  have lk13 : (Cond.fieldLink RX4 13 (TX4 2).1 (TX4 2).2.1 (TX4 2).2.2.1).before _ s = true := hta _ wdF_X4_13
  have lk16 : (Cond.fieldLink RX4 16 (TX4 3).1 (TX4 3).2.1 (TX4 3).2.2.1).before _ s = true := hta _ wdF_X4_16
  have lk19 : (Cond.fieldLink RX4 19 (TX4 4).1 (TX4 4).2.1 (TX4 4).2.2.1).before _ s = true := hta _ wdF_X4_19
  have lk7 : (Cond.fieldLink RX4 7 (TX4 1).1 (TX4 1).2.1 (TX4 1).2.2.1).before _ s = true := hta _ wdF_X4_7
  have hl : lv_has ls 3 [(0, .ref (q 0)), (1, .int a1), (2, .int a2)] := hl
  unfold f_X4_ofLink at h
  refine lv_aload_n hx hb dX4_ofLink_0 rfl (lv_at hl 0 rfl) ?_
  refine lv_iload_n hx hb dX4_ofLink_1 rfl (lv_at hl 1 rfl) ?_
  obtain ⟨r1, e2, h⟩ := h_bd_ok h
  refine h_callI cx hw (c_X4_isLink l dC dI cI cZ q S a1 r1 e2) (cwV 1 hts (hgA (hcV wdL_X4_96 wdI_X4_isLink wdS_X4_isLink wdN_RX4 wdC_X4_isLink)) rfl rfl rfl pdX4_isLink ⟨Nat.le_of_ble_eq_true rfl, Nat.le_of_ble_eq_true rfl⟩) 0 (wM_p0 q cI cZ S) rfl rfl rfl hl.1 rfl (Nat.le_of_ble_eq_true rfl) dX4_ofLink_2 ⟨Nat.zero_le _, Nat.zero_le _⟩ (fun H locs hw => ?_)
  refine lv_if_ne (tgt := 10) hx hb dX4_ofLink_5 (by decide) (fun c3 => ?_) (fun c3 => ?_)
  · have h := h_ifn c3 h
    refine lv_iload_n hx hb dX4_ofLink_10 rfl (lv_at hl 2 rfl) ?_
    by_cases c4 : a2 = 0
    · have h := h_ifp c4 h
      refine lv_tableIn (off := 29) (tgt := 40) hx hb dX4_ofLink_11 (by rw [c4]; decide) (by rw [c4]; decide) (by rw [c4]; rfl) (by decide) ?_
      refine lv_aload_n hx hb dX4_ofLink_40 rfl (lv_at hl 0 rfl) ?_
      refine h_get (v := .ref (q 1)) cx hw 0 (wM_p0 q cI cZ S) rfl hinX4 1 (by decide) lk7 rfl dX4_ofLink_41 ?_
      refine lv_iload_n hx hb dX4_ofLink_44 rfl (lv_at hl 1 rfl) ?_
      obtain ⟨v5, e6, h⟩ := h_bd_ok h
      refine h_ald cx hw 1 (wM_p1 q cI cZ S) e6 dX4_ofLink_45 ?_
      exact h_iret cx hw hr hlk rfl (Option.some.inj h) rfl dX4_ofLink_46
    · have h := h_ifn c4 h
      by_cases c7 : a2 = 1
      · have h := h_ifp c7 h
        refine lv_tableIn (off := 36) (tgt := 47) hx hb dX4_ofLink_11 (by rw [c7]; decide) (by rw [c7]; decide) (by rw [c7]; rfl) (by decide) ?_
        refine lv_aload_n hx hb dX4_ofLink_47 rfl (lv_at hl 0 rfl) ?_
        refine h_get (v := .ref (q 2)) cx hw 0 (wM_p0 q cI cZ S) rfl hinX4 2 (by decide) lk13 rfl dX4_ofLink_48 ?_
        refine lv_iload_n hx hb dX4_ofLink_51 rfl (lv_at hl 1 rfl) ?_
        obtain ⟨v8, e9, h⟩ := h_bd_ok h
        refine h_ald cx hw 2 (wM_p2 q cI cZ S) e9 dX4_ofLink_52 ?_
        exact h_iret cx hw hr hlk rfl (Option.some.inj h) rfl dX4_ofLink_53
      · have h := h_ifn c7 h
        by_cases c10 : a2 = 2
        · have h := h_ifp c10 h
          refine lv_tableIn (off := 43) (tgt := 54) hx hb dX4_ofLink_11 (by rw [c10]; decide) (by rw [c10]; decide) (by rw [c10]; rfl) (by decide) ?_
          refine lv_aload_n hx hb dX4_ofLink_54 rfl (lv_at hl 0 rfl) ?_
          refine h_get (v := .ref (q 3)) cx hw 0 (wM_p0 q cI cZ S) rfl hinX4 3 (by decide) lk16 rfl dX4_ofLink_55 ?_
          refine lv_iload_n hx hb dX4_ofLink_58 rfl (lv_at hl 1 rfl) ?_
          obtain ⟨v11, e12, h⟩ := h_bd_ok h
          refine h_ald cx hw 3 (wM_p3 q cI cZ S) e12 dX4_ofLink_59 ?_
          exact h_iret cx hw hr hlk rfl (Option.some.inj h) rfl dX4_ofLink_60
        · have h := h_ifn c10 h
          by_cases c13 : a2 = 3
          · have h := h_ifp c13 h
            refine lv_tableIn (off := 50) (tgt := 61) hx hb dX4_ofLink_11 (by rw [c13]; decide) (by rw [c13]; decide) (by rw [c13]; rfl) (by decide) ?_
            refine lv_aload_n hx hb dX4_ofLink_61 rfl (lv_at hl 0 rfl) ?_
            refine h_get (v := .ref (q 4)) cx hw 0 (wM_p0 q cI cZ S) rfl hinX4 4 (by decide) lk19 rfl dX4_ofLink_62 ?_
            refine lv_iload_n hx hb dX4_ofLink_65 rfl (lv_at hl 1 rfl) ?_
            obtain ⟨v14, e15, h⟩ := h_bd_ok h
            refine h_aldz cx hw 4 (wM_p4 q cI cZ S) e15 dX4_ofLink_66 ?_
            refine lv_if_eq (tgt := 74) hx hb dX4_ofLink_67 (by decide) (fun c16 => ?_) (fun c16 => ?_)
            · have h := h_ifp c16 h
              refine lv_iconst (v := 0) hx hb dX4_ofLink_74 (by decide) ?_
              exact h_iret cx hw hr hlk rfl (Option.some.inj h) rfl dX4_ofLink_75
            · have h := h_ifn c16 h
              refine lv_iconst (v := 1) hx hb dX4_ofLink_70 (by decide) ?_
              refine lv_goto (tgt := 75) hx hb dX4_ofLink_71 (by decide) ?_
              exact h_iret cx hw hr hlk rfl (Option.some.inj h) rfl dX4_ofLink_75
          · have h := h_ifn c13 h
            refine lv_tableOut (tgt := 76) hx hb dX4_ofLink_11 (h_tout4 c4 c7 c10 c13) (by decide) ?_
            refine lv_bipush (v := (-2)) hx hb dX4_ofLink_76 (by decide) ?_
            exact h_iret cx hw hr hlk rfl (Option.some.inj h) rfl dX4_ofLink_78
  · have h := h_ifp c3 h
    refine lv_iconst (v := (-1)) hx hb dX4_ofLink_8 (by decide) ?_
    exact h_iret cx hw hr hlk rfl (Option.some.inj h) rfl dX4_ofLink_9
set_option maxHeartbeats 4000000 in
set_option maxRecDepth 100000 in
theorem c_X4_findFar (l : Launch) (dC : Nat → ClassId) (dI : Nat → Nat → Nat) (cI cZ : ClassId) (q : Nat → Nat) (S : HSt) (a1 : Int32) (S9 : HSt) (h : f_X4_findFar S a1 = some S9) : MV l yX4_findFar hsX4_findFar rmX4_findFar (dC, dI) cI cZ (wM q cI cZ) S [.ref (q 0), .int a1] S9 := by
  refine MV.ofW (cc := cX4_findFar) (maxL := 6) (ret := none) (by decide +kernel) rfl (Nat.le_of_ble_eq_true rfl) ?_
  intro p e s m below meth c A cx hr hlk hw ls hl
  have hx := cx.1.1
  have hb := cx.1.2.1
  have hml := cx.1.2.2.1
  have hts := cx.1.2.2.2.2
  have hta : ∀ z ∈ hALL, z.before _ s = true := fun z h => hts z (List.mem_cons_of_mem _ h)
  have lk13 : (Cond.fieldLink RX4 13 (TX4 2).1 (TX4 2).2.1 (TX4 2).2.2.1).before _ s = true := hta _ wdF_X4_13
  have lk16 : (Cond.fieldLink RX4 16 (TX4 3).1 (TX4 3).2.1 (TX4 3).2.2.1).before _ s = true := hta _ wdF_X4_16
  have lk19 : (Cond.fieldLink RX4 19 (TX4 4).1 (TX4 4).2.1 (TX4 4).2.2.1).before _ s = true := hta _ wdF_X4_19
  have lk23 : (Cond.fieldLink RX4 23 (TX4 5).1 (TX4 5).2.1 (TX4 5).2.2.1).before _ s = true := hta _ wdF_X4_23
  have lk26 : (Cond.fieldLink RX4 26 (TX4 6).1 (TX4 6).2.1 (TX4 6).2.2.1).before _ s = true := hta _ wdF_X4_26
  have lk7 : (Cond.fieldLink RX4 7 (TX4 1).1 (TX4 1).2.1 (TX4 1).2.2.1).before _ s = true := hta _ wdF_X4_7
  have lk84 : (Cond.fieldLink RX4 84 (TX4 0).1 (TX4 0).2.1 (TX4 0).2.2.1).before _ s = true := hta _ wdF_X4_84
  have hl : lv_has ls 6 [(0, .ref (q 0)), (1, .int a1)] := hl
  unfold f_X4_findFar at h
  have kk2 : ∀ (n2 : Nat) (S : HSt) (x1 x2 : Int32), f_X4_findFar_2 n2 S x1 x2 = some S9 → ∀ (H : Heap) (locs : List Loc) (ls : Array Slot), HW (dC, dI) (wM q cI cZ) S A s H locs → lv_has ls 6 [(0, .ref (q 0)), (1, .int x1), (2, .int x2)] → W p l e rmX4_findFar s m ([.ref (q 0), .int a1] : List Value).toArray below meth c H locs 0 0 (MQ below (QV (dC, dI) (wM q cI cZ) S9 A) ([.ref (q 0), .int a1] : List Value).toArray s 0 0 A) (F0 m 2 ls []) := by
    intro n2
    induction n2 with
    | zero =>
      intro S x1 x2 h
      have h9 : (none : Option HSt) = some S9 := h
      cases h9
    | succ n2 ih2 =>
      intro S x1 x2 h H locs ls hw hl
      have h : f_X4_findFar_2_s (f_X4_findFar_2 n2) S x1 x2 = some S9 := h
      unfold f_X4_findFar_2_s at h
      have kk39 : ∀ (n39 : Nat) (S : HSt) (x2 : Int32), f_X4_findFar_39 n39 S x2 = some S9 → ∀ (H : Heap) (locs : List Loc) (ls : Array Slot), HW (dC, dI) (wM q cI cZ) S A s H locs → lv_has ls 6 [(0, .ref (q 0)), (2, .int x2)] → W p l e rmX4_findFar s m ([.ref (q 0), .int a1] : List Value).toArray below meth c H locs 0 0 (MQ below (QV (dC, dI) (wM q cI cZ) S9 A) ([.ref (q 0), .int a1] : List Value).toArray s 0 0 A) (F0 m 39 ls []) := by
        intro n39
        induction n39 with
        | zero =>
          intro S x2 h
          have h9 : (none : Option HSt) = some S9 := h
          cases h9
        | succ n39 ih39 =>
          intro S x2 h H locs ls hw hl
          have h : f_X4_findFar_39_s (f_X4_findFar_39 n39) S x2 = some S9 := h
          unfold f_X4_findFar_39_s at h
          have kk47 : ∀ (n47 : Nat) (S : HSt) (x2 x3 : Int32), f_X4_findFar_47 (f_X4_findFar_39 n39) n47 S x2 x3 = some S9 → ∀ (H : Heap) (locs : List Loc) (ls : Array Slot), HW (dC, dI) (wM q cI cZ) S A s H locs → lv_has ls 6 [(0, .ref (q 0)), (2, .int x2), (3, .int x3)] → W p l e rmX4_findFar s m ([.ref (q 0), .int a1] : List Value).toArray below meth c H locs 0 0 (MQ below (QV (dC, dI) (wM q cI cZ) S9 A) ([.ref (q 0), .int a1] : List Value).toArray s 0 0 A) (F0 m 47 ls []) := by
            intro n47
            induction n47 with
            | zero =>
              intro S x2 x3 h
              have h9 : (none : Option HSt) = some S9 := h
              cases h9
            | succ n47 ih47 =>
              intro S x2 x3 h H locs ls hw hl
              have h : f_X4_findFar_47_s (f_X4_findFar_39 n39) (f_X4_findFar_47 (f_X4_findFar_39 n39) n47) S x2 x3 = some S9 := h
              unfold f_X4_findFar_47_s at h
              have kk127 : ∀ (S : HSt) (x2 x3 x4 x5 : Int32), f_X4_findFar_127 (f_X4_findFar_47 (f_X4_findFar_39 n39) n47) S x2 x3 x4 x5 = some S9 → ∀ (H : Heap) (locs : List Loc) (ls : Array Slot), HW (dC, dI) (wM q cI cZ) S A s H locs → lv_has ls 6 [(0, .ref (q 0)), (2, .int x2), (3, .int x3), (4, .int x4), (5, .int x5)] → W p l e rmX4_findFar s m ([.ref (q 0), .int a1] : List Value).toArray below meth c H locs 0 0 (MQ below (QV (dC, dI) (wM q cI cZ) S9 A) ([.ref (q 0), .int a1] : List Value).toArray s 0 0 A) (F0 m 127 ls []) := by
                intro S x2 x3 x4 x5 h H locs ls hw hl
                unfold f_X4_findFar_127 at h
                have kk183 : ∀ (S : HSt) (x2 x3 : Int32), f_X4_findFar_183 (f_X4_findFar_47 (f_X4_findFar_39 n39) n47) S x2 x3 = some S9 → ∀ (H : Heap) (locs : List Loc) (ls : Array Slot), HW (dC, dI) (wM q cI cZ) S A s H locs → lv_has ls 6 [(0, .ref (q 0)), (2, .int x2), (3, .int x3)] → W p l e rmX4_findFar s m ([.ref (q 0), .int a1] : List Value).toArray below meth c H locs 0 0 (MQ below (QV (dC, dI) (wM q cI cZ) S9 A) ([.ref (q 0), .int a1] : List Value).toArray s 0 0 A) (F0 m 183 ls []) := by
                  intro S x2 x3 h H locs ls hw hl
                  unfold f_X4_findFar_183 at h
                  refine lv_iinc (v := x3 + 1) (lv' := [(3, .int (x3 + 1)), (0, .ref (q 0)), (2, .int x2)]) hx hb dX4_findFar_183 hl (k := 2) rfl rfl (by decide) rfl (fun ls hl => ?_)
                  refine lv_goto (tgt := 47) hx hb dX4_findFar_186 (by decide) ?_
                  exact ih47 _ _ _ h _ _ _ hw (lv_sub hl [1, 2, 0] rfl)
                refine lv_aload_n hx hb dX4_findFar_127 rfl (lv_at hl 0 rfl) ?_
                refine h_get (v := .ref (q 4)) cx hw 0 (wM_p0 q cI cZ S) rfl hinX4 4 (by decide) lk19 rfl dX4_findFar_128 ?_
                refine lv_iload_n hx hb dX4_findFar_131 rfl (lv_at hl 2 rfl) ?_
                obtain ⟨v1, e2, h⟩ := h_bd_ok h
                refine h_aldz cx hw 4 (wM_p4 q cI cZ S) e2 dX4_findFar_132 ?_
                refine lv_if_eq (tgt := 183) hx hb dX4_findFar_133 (by decide) (fun c3 => ?_) (fun c3 => ?_)
                · have h := h_ifp c3 h
                  exact kk183 _ _ _ h _ _ _ hw (lv_sub hl [0, 1, 2] rfl)
                · have h := h_ifn c3 h
                  refine lv_aload_n hx hb dX4_findFar_136 rfl (lv_at hl 0 rfl) ?_
                  refine h_get (v := .ref (q 6)) cx hw 0 (wM_p0 q cI cZ S) rfl hinX4 6 (by decide) lk26 rfl dX4_findFar_137 ?_
                  refine lv_iload hx hb dX4_findFar_140 (lv_at hl 4 rfl) ?_
                  obtain ⟨v4, e5, h⟩ := h_bd_ok h
                  refine h_ald cx hw 6 (wM_p6 q cI cZ S) e5 dX4_findFar_142 ?_
                  refine lv_aload_n hx hb dX4_findFar_143 rfl (lv_at hl 0 rfl) ?_
                  refine h_get (v := .ref (q 3)) cx hw 0 (wM_p0 q cI cZ S) rfl hinX4 3 (by decide) lk16 rfl dX4_findFar_144 ?_
                  refine lv_iload_n hx hb dX4_findFar_147 rfl (lv_at hl 2 rfl) ?_
                  obtain ⟨v6, e7, h⟩ := h_bd_ok h
                  refine h_ald cx hw 3 (wM_p3 q cI cZ S) e7 dX4_findFar_148 ?_
                  refine lv_iadd hx hb dX4_findFar_149 ?_
                  refine lv_aload_n hx hb dX4_findFar_150 rfl (lv_at hl 0 rfl) ?_
                  refine h_get (v := .ref (q 6)) cx hw 0 (wM_p0 q cI cZ S) rfl hinX4 6 (by decide) lk26 rfl dX4_findFar_151 ?_
                  refine lv_iload hx hb dX4_findFar_154 (lv_at hl 3 rfl) ?_
                  obtain ⟨v8, e9, h⟩ := h_bd_ok h
                  refine h_ald cx hw 6 (wM_p6 q cI cZ S) e9 dX4_findFar_156 ?_
                  refine lv_icmp_ge (tgt := 183) hx hb dX4_findFar_157 (by decide) (fun c10 => ?_) (fun c10 => ?_)
                  · have h := h_ifp c10 h
                    exact kk183 _ _ _ h _ _ _ hw (lv_sub hl [0, 1, 2] rfl)
                  · have h := h_ifn c10 h
                    refine lv_aload_n hx hb dX4_findFar_160 rfl (lv_at hl 0 rfl) ?_
                    refine h_get (v := .ref (q 6)) cx hw 0 (wM_p0 q cI cZ S) rfl hinX4 6 (by decide) lk26 rfl dX4_findFar_161 ?_
                    refine lv_iload hx hb dX4_findFar_164 (lv_at hl 3 rfl) ?_
                    refine lv_aload_n hx hb dX4_findFar_166 rfl (lv_at hl 0 rfl) ?_
                    refine h_get (v := .ref (q 6)) cx hw 0 (wM_p0 q cI cZ S) rfl hinX4 6 (by decide) lk26 rfl dX4_findFar_167 ?_
                    refine lv_iload hx hb dX4_findFar_170 (lv_at hl 4 rfl) ?_
                    obtain ⟨v11, e12, h⟩ := h_bd_ok h
                    refine h_ald cx hw 6 (wM_p6 q cI cZ S) e12 dX4_findFar_172 ?_
                    refine lv_aload_n hx hb dX4_findFar_173 rfl (lv_at hl 0 rfl) ?_
                    refine h_get (v := .ref (q 3)) cx hw 0 (wM_p0 q cI cZ S) rfl hinX4 3 (by decide) lk16 rfl dX4_findFar_174 ?_
                    refine lv_iload_n hx hb dX4_findFar_177 rfl (lv_at hl 2 rfl) ?_
                    obtain ⟨v13, e14, h⟩ := h_bd_ok h
                    refine h_ald cx hw 3 (wM_p3 q cI cZ S) e14 dX4_findFar_178 ?_
                    refine lv_iadd hx hb dX4_findFar_179 ?_
                    obtain ⟨S15, e16, h⟩ := h_bd_ok h
                    refine h_ast cx hw 6 (wM_p6 q cI cZ S) (wM_s6 q cI cZ S) e16 dX4_findFar_180 (fun H locs hw => ?_)
                    refine lv_iconst (v := 1) hx hb dX4_findFar_181 (by decide) ?_
                    refine lv_istore_n (lv' := [(2, .int 1), (0, .ref (q 0)), (3, .int x3), (4, .int x4), (5, .int x5)]) hx hb dX4_findFar_182 rfl hl (by decide) rfl (fun ls hl => ?_)
                    exact kk183 _ _ _ h _ _ _ hw (lv_sub hl [1, 0, 2] rfl)
              refine lv_iload_n hx hb dX4_findFar_47 rfl (lv_at hl 2 rfl) ?_
              refine lv_aload_n hx hb dX4_findFar_48 rfl (lv_at hl 0 rfl) ?_
              refine h_get (v := .int (S.1 0)) cx hw 0 (wM_p0 q cI cZ S) rfl hinX4 0 (by decide) lk84 rfl dX4_findFar_49 ?_
              refine lv_icmp_ge (tgt := 189) hx hb dX4_findFar_52 (by decide) (fun c1 => ?_) (fun c1 => ?_)
              · have h := h_ifp c1 h
                refine lv_goto (tgt := 39) hx hb dX4_findFar_189 (by decide) ?_
                exact ih39 _ _ h _ _ _ hw (lv_sub hl [0, 1] rfl)
              · have h := h_ifn c1 h
                refine lv_aload_n hx hb dX4_findFar_55 rfl (lv_at hl 0 rfl) ?_
                refine h_get (v := .ref (q 1)) cx hw 0 (wM_p0 q cI cZ S) rfl hinX4 1 (by decide) lk7 rfl dX4_findFar_56 ?_
                refine lv_iload_n hx hb dX4_findFar_59 rfl (lv_at hl 2 rfl) ?_
                obtain ⟨v2, e3, h⟩ := h_bd_ok h
                refine h_ald cx hw 1 (wM_p1 q cI cZ S) e3 dX4_findFar_60 ?_
                refine lv_istore (lv' := [(4, .int v2), (0, .ref (q 0)), (2, .int x2), (3, .int x3)]) hx hb dX4_findFar_61 hl (by decide) rfl (fun ls hl => ?_)
                refine lv_aload_n hx hb dX4_findFar_63 rfl (lv_at hl 1 rfl) ?_
                refine h_get (v := .ref (q 2)) cx hw 0 (wM_p0 q cI cZ S) rfl hinX4 2 (by decide) lk13 rfl dX4_findFar_64 ?_
                refine lv_iload_n hx hb dX4_findFar_67 rfl (lv_at hl 3 rfl) ?_
                obtain ⟨v4, e5, h⟩ := h_bd_ok h
                refine h_ald cx hw 2 (wM_p2 q cI cZ S) e5 dX4_findFar_68 ?_
                refine lv_istore (lv' := [(5, .int v4), (4, .int v2), (0, .ref (q 0)), (2, .int x2), (3, .int x3)]) hx hb dX4_findFar_69 hl (by decide) rfl (fun ls hl => ?_)
                refine lv_aload_n hx hb dX4_findFar_71 rfl (lv_at hl 2 rfl) ?_
                refine h_get (v := .ref (q 4)) cx hw 0 (wM_p0 q cI cZ S) rfl hinX4 4 (by decide) lk19 rfl dX4_findFar_72 ?_
                refine lv_iload_n hx hb dX4_findFar_75 rfl (lv_at hl 4 rfl) ?_
                obtain ⟨v6, e7, h⟩ := h_bd_ok h
                refine h_aldz cx hw 4 (wM_p4 q cI cZ S) e7 dX4_findFar_76 ?_
                refine lv_if_eq (tgt := 127) hx hb dX4_findFar_77 (by decide) (fun c8 => ?_) (fun c8 => ?_)
                · have h := h_ifp c8 h
                  exact kk127 _ _ _ _ _ h _ _ _ hw (lv_sub hl [2, 3, 4, 1, 0] rfl)
                · have h := h_ifn c8 h
                  refine lv_aload_n hx hb dX4_findFar_80 rfl (lv_at hl 2 rfl) ?_
                  refine h_get (v := .ref (q 6)) cx hw 0 (wM_p0 q cI cZ S) rfl hinX4 6 (by decide) lk26 rfl dX4_findFar_81 ?_
                  refine lv_iload hx hb dX4_findFar_84 (lv_at hl 1 rfl) ?_
                  obtain ⟨v9, e10, h⟩ := h_bd_ok h
                  refine h_ald cx hw 6 (wM_p6 q cI cZ S) e10 dX4_findFar_86 ?_
                  refine lv_aload_n hx hb dX4_findFar_87 rfl (lv_at hl 2 rfl) ?_
                  refine h_get (v := .ref (q 3)) cx hw 0 (wM_p0 q cI cZ S) rfl hinX4 3 (by decide) lk16 rfl dX4_findFar_88 ?_
                  refine lv_iload_n hx hb dX4_findFar_91 rfl (lv_at hl 4 rfl) ?_
                  obtain ⟨v11, e12, h⟩ := h_bd_ok h
                  refine h_ald cx hw 3 (wM_p3 q cI cZ S) e12 dX4_findFar_92 ?_
                  refine lv_iadd hx hb dX4_findFar_93 ?_
                  refine lv_aload_n hx hb dX4_findFar_94 rfl (lv_at hl 2 rfl) ?_
                  refine h_get (v := .ref (q 6)) cx hw 0 (wM_p0 q cI cZ S) rfl hinX4 6 (by decide) lk26 rfl dX4_findFar_95 ?_
                  refine lv_iload hx hb dX4_findFar_98 (lv_at hl 0 rfl) ?_
                  obtain ⟨v13, e14, h⟩ := h_bd_ok h
                  refine h_ald cx hw 6 (wM_p6 q cI cZ S) e14 dX4_findFar_100 ?_
                  refine lv_icmp_ge (tgt := 127) hx hb dX4_findFar_101 (by decide) (fun c15 => ?_) (fun c15 => ?_)
                  · have h := h_ifp c15 h
                    exact kk127 _ _ _ _ _ h _ _ _ hw (lv_sub hl [2, 3, 4, 1, 0] rfl)
                  · have h := h_ifn c15 h
                    refine lv_aload_n hx hb dX4_findFar_104 rfl (lv_at hl 2 rfl) ?_
                    refine h_get (v := .ref (q 6)) cx hw 0 (wM_p0 q cI cZ S) rfl hinX4 6 (by decide) lk26 rfl dX4_findFar_105 ?_
                    refine lv_iload hx hb dX4_findFar_108 (lv_at hl 0 rfl) ?_
                    refine lv_aload_n hx hb dX4_findFar_110 rfl (lv_at hl 2 rfl) ?_
                    refine h_get (v := .ref (q 6)) cx hw 0 (wM_p0 q cI cZ S) rfl hinX4 6 (by decide) lk26 rfl dX4_findFar_111 ?_
                    refine lv_iload hx hb dX4_findFar_114 (lv_at hl 1 rfl) ?_
                    obtain ⟨v16, e17, h⟩ := h_bd_ok h
                    refine h_ald cx hw 6 (wM_p6 q cI cZ S) e17 dX4_findFar_116 ?_
                    refine lv_aload_n hx hb dX4_findFar_117 rfl (lv_at hl 2 rfl) ?_
                    refine h_get (v := .ref (q 3)) cx hw 0 (wM_p0 q cI cZ S) rfl hinX4 3 (by decide) lk16 rfl dX4_findFar_118 ?_
                    refine lv_iload_n hx hb dX4_findFar_121 rfl (lv_at hl 4 rfl) ?_
                    obtain ⟨v18, e19, h⟩ := h_bd_ok h
                    refine h_ald cx hw 3 (wM_p3 q cI cZ S) e19 dX4_findFar_122 ?_
                    refine lv_iadd hx hb dX4_findFar_123 ?_
                    obtain ⟨S20, e21, h⟩ := h_bd_ok h
                    refine h_ast cx hw 6 (wM_p6 q cI cZ S) (wM_s6 q cI cZ S) e21 dX4_findFar_124 (fun H locs hw => ?_)
                    refine lv_iconst (v := 1) hx hb dX4_findFar_125 (by decide) ?_
                    refine lv_istore_n (lv' := [(2, .int 1), (5, .int v4), (4, .int v2), (0, .ref (q 0)), (3, .int x3)]) hx hb dX4_findFar_126 rfl hl (by decide) rfl (fun ls hl => ?_)
                    exact kk127 _ _ _ _ _ h _ _ _ hw (lv_sub hl [3, 0, 4, 2, 1] rfl)
          refine lv_iload_n hx hb dX4_findFar_39 rfl (lv_at hl 1 rfl) ?_
          refine lv_if_eq (tgt := 192) hx hb dX4_findFar_40 (by decide) (fun c1 => ?_) (fun c1 => ?_)
          · have h := h_ifp c1 h
            exact h_vret cx hw hr hlk (Option.some.inj h) dX4_findFar_192
          · have h := h_ifn c1 h
            refine lv_iconst (v := 0) hx hb dX4_findFar_43 (by decide) ?_
            refine lv_istore_n (lv' := [(2, .int 0), (0, .ref (q 0))]) hx hb dX4_findFar_44 rfl hl (by decide) rfl (fun ls hl => ?_)
            refine lv_iconst (v := 0) hx hb dX4_findFar_45 (by decide) ?_
            refine lv_istore_n (lv' := [(3, .int 0), (2, .int 0), (0, .ref (q 0))]) hx hb dX4_findFar_46 rfl hl (by decide) rfl (fun ls hl => ?_)
            exact kk47 h_fu _ _ _ h _ _ _ hw (lv_sub hl [2, 1, 0] rfl)
      have kk30 : ∀ (S : HSt) (x1 x2 t0 t1 : Int32), f_X4_findFar_30 (f_X4_findFar_2 n2) S x1 x2 t0 t1 = some S9 → ∀ (H : Heap) (locs : List Loc) (ls : Array Slot), HW (dC, dI) (wM q cI cZ) S A s H locs → lv_has ls 6 [(0, .ref (q 0)), (1, .int x1), (2, .int x2)] → W p l e rmX4_findFar s m ([.ref (q 0), .int a1] : List Value).toArray below meth c H locs 0 0 (MQ below (QV (dC, dI) (wM q cI cZ) S9 A) ([.ref (q 0), .int a1] : List Value).toArray s 0 0 A) (F0 m 30 ls [.int t0, .int t1, .ref (q 6)]) := by
        intro S x1 x2 t0 t1 h H locs ls hw hl
        unfold f_X4_findFar_30 at h
        obtain ⟨S1, e2, h⟩ := h_bd_ok h
        refine h_ast cx hw 6 (wM_p6 q cI cZ S) (wM_s6 q cI cZ S) e2 dX4_findFar_30 (fun H locs hw => ?_)
        refine lv_iinc (v := x2 + 1) (lv' := [(2, .int (x2 + 1)), (0, .ref (q 0)), (1, .int x1)]) hx hb dX4_findFar_31 hl (k := 2) rfl rfl (by decide) rfl (fun ls hl => ?_)
        refine lv_goto (tgt := 2) hx hb dX4_findFar_34 (by decide) ?_
        exact ih2 _ _ _ h _ _ _ hw (lv_sub hl [1, 2, 0] rfl)
      refine lv_iload_n hx hb dX4_findFar_2 rfl (lv_at hl 2 rfl) ?_
      refine lv_bipush (v := 7) hx hb dX4_findFar_3 (by decide) ?_
      refine lv_icmp_ge (tgt := 37) hx hb dX4_findFar_5 (by decide) (fun c1 => ?_) (fun c1 => ?_)
      · have h := h_ifp c1 h
        refine lv_iconst (v := 1) hx hb dX4_findFar_37 (by decide) ?_
        refine lv_istore_n (lv' := [(2, .int 1), (0, .ref (q 0)), (1, .int x1)]) hx hb dX4_findFar_38 rfl hl (by decide) rfl (fun ls hl => ?_)
        exact kk39 h_fu _ _ h _ _ _ hw (lv_sub hl [1, 0] rfl)
      · have h := h_ifn c1 h
        refine lv_aload_n hx hb dX4_findFar_8 rfl (lv_at hl 0 rfl) ?_
        refine h_get (v := .ref (q 6)) cx hw 0 (wM_p0 q cI cZ S) rfl hinX4 6 (by decide) lk26 rfl dX4_findFar_9 ?_
        refine lv_iload_n hx hb dX4_findFar_12 rfl (lv_at hl 2 rfl) ?_
        refine lv_aload_n hx hb dX4_findFar_13 rfl (lv_at hl 0 rfl) ?_
        refine h_get (v := .ref (q 5)) cx hw 0 (wM_p0 q cI cZ S) rfl hinX4 5 (by decide) lk23 rfl dX4_findFar_14 ?_
        refine lv_iload_n hx hb dX4_findFar_17 rfl (lv_at hl 1 rfl) ?_
        obtain ⟨v2, e3, h⟩ := h_bd_ok h
        refine h_ald cx hw 5 (wM_p5 q cI cZ S) e3 dX4_findFar_18 ?_
        refine lv_iload_n hx hb dX4_findFar_19 rfl (lv_at hl 2 rfl) ?_
        refine lv_icmp_ne (tgt := 27) hx hb dX4_findFar_20 (by decide) (fun c4 => ?_) (fun c4 => ?_)
        · have h := h_ifn c4 h
          refine lv_sipush (v := 1000) hx hb dX4_findFar_27 (by decide) ?_
          exact kk30 _ _ _ _ _ h _ _ _ hw (lv_sub hl [0, 1, 2] rfl)
        · have h := h_ifp c4 h
          refine lv_iconst (v := 0) hx hb dX4_findFar_23 (by decide) ?_
          refine lv_goto (tgt := 30) hx hb dX4_findFar_24 (by decide) ?_
          exact kk30 _ _ _ _ _ h _ _ _ hw (lv_sub hl [0, 1, 2] rfl)
  refine lv_iconst (v := 0) hx hb dX4_findFar_0 (by decide) ?_
  refine lv_istore_n (lv' := [(2, .int 0), (0, .ref (q 0)), (1, .int a1)]) hx hb dX4_findFar_1 rfl hl (by decide) rfl (fun ls hl => ?_)
  exact kk2 h_fu _ _ _ h _ _ _ hw (lv_sub hl [1, 2, 0] rfl)
