set_option maxHeartbeats 4000000 in
set_option maxRecDepth 100000 in
theorem c_X1_leadsOn (l : Launch) (dC : Nat → ClassId) (dI : Nat → Nat → Nat) (cI cZ : ClassId) (q : Nat → Nat) (S : HSt) (a1 a2 : Int32) (r : Int32) (h : f_X1_leadsOn S a1 a2 = some r) : MI l yX1_leadsOn hsX1_leadsOn rmX1_leadsOn (dC, dI) cI cZ (wC q cI) S [.ref (q 1), .int a1, .int a2] r S := by
  refine MI.ofW (cc := cX1_leadsOn) (maxL := 4) (ret := (some .boolean)) (by decide +kernel) rfl (Nat.le_of_ble_eq_true rfl) ?_
  intro p e s m below meth c A cx hr hlk hw ls hl
  have hx := cx.1.1
  have hb := cx.1.2.1
  have hml := cx.1.2.2.1
  have hts := cx.1.2.2.2.2
  have hta : ∀ z ∈ hALL, z.before _ s = true := fun z h => hts z (List.mem_cons_of_mem _ h)
  have lk15 : (Cond.fieldLink RX1 15 (TX1 2).1 (TX1 2).2.1 (TX1 2).2.2.1).before _ s = true := hta _ wdF_X1_15
  have lk24 : (Cond.fieldLink RX1 24 (TX1 5).1 (TX1 5).2.1 (TX1 5).2.2.1).before _ s = true := hta _ wdF_X1_24
  have lk9 : (Cond.fieldLink RX1 9 (TX1 1).1 (TX1 1).2.1 (TX1 1).2.2.1).before _ s = true := hta _ wdF_X1_9
  have hiniX3 := hta _ wdN_RX3
  have hstX3_pair := hta _ wdT_X3_pair
  have hl : lv_has ls 4 [(0, .ref (q 1)), (1, .int a1), (2, .int a2)] := hl
  unfold f_X1_leadsOn at h
  refine lv_aload_n hx hb dX1_leadsOn_0 rfl (lv_at hl 0 rfl) ?_
  refine h_get (v := .ref (q 9)) cx hw 1 (wC_p1 q cI S) rfl hinX1 5 (by decide) lk24 rfl dX1_leadsOn_1 ?_
  refine lv_aload_n hx hb dX1_leadsOn_4 rfl (lv_at hl 0 rfl) ?_
  refine h_get (v := .ref (q 5)) cx hw 1 (wC_p1 q cI S) rfl hinX1 1 (by decide) lk9 rfl dX1_leadsOn_5 ?_
  refine lv_iload_n hx hb dX1_leadsOn_8 rfl (lv_at hl 1 rfl) ?_
  refine lv_iconst (v := 1) hx hb dX1_leadsOn_9 (by decide) ?_
  refine lv_ixor hx hb dX1_leadsOn_10 ?_
  obtain ⟨v1, e2, h⟩ := h_bd_ok h
  refine h_ald cx hw 5 (wC_p5 q cI S) e2 dX1_leadsOn_11 ?_
  refine lv_iload_n hx hb dX1_leadsOn_12 rfl (lv_at hl 2 rfl) ?_
  obtain ⟨r3, e4, h⟩ := h_bd_ok h
  refine h_callN cx.1 (c_X3_pair l v1 a2 r3 e4) ⟨va_cnB 2 hts (hgA (hcW wdC_X3_pair)) rfl rfl rfl cx.2.2.1.1 hiniX3 pdX3_pair.2 ⟨Nat.le_of_ble_eq_true rfl, Nat.le_of_ble_eq_true rfl⟩, hstX3_pair, trivial⟩ rfl hl.1 rfl (Nat.le_of_ble_eq_true rfl) dX1_leadsOn_13 ⟨Nat.zero_le _, Nat.zero_le _⟩ ?_
  obtain ⟨v5, e6, h⟩ := h_bd_ok h
  refine h_ald cx hw 9 (wC_p9 q cI S) e6 dX1_leadsOn_16 ?_
  refine lv_istore_n (lv' := [(3, .int v5), (0, .ref (q 1)), (1, .int a1), (2, .int a2)]) hx hb dX1_leadsOn_17 rfl hl (by decide) rfl (fun ls hl => ?_)
  refine lv_aload_n hx hb dX1_leadsOn_18 rfl (lv_at hl 1 rfl) ?_
  refine lv_iload_n hx hb dX1_leadsOn_19 rfl (lv_at hl 2 rfl) ?_
  obtain ⟨r7, e8, h⟩ := h_bd_ok h
  refine h_callI cx hw (c_X1_isUpSide l dC dI cI cZ q S a1 r7 e8) (cwV 1 hts (hgA (hcV wdL_X1_55 wdI_X1_isUpSide wdS_X1_isUpSide wdN_RX1 wdC_X1_isUpSide)) rfl rfl rfl pdX1_isUpSide ⟨Nat.le_of_ble_eq_true rfl, Nat.le_of_ble_eq_true rfl⟩) 1 (wC_p1 q cI S) rfl rfl rfl hl.1 rfl (Nat.le_of_ble_eq_true rfl) dX1_leadsOn_20 ⟨Nat.zero_le _, Nat.zero_le _⟩ (fun H locs hw => ?_)
  refine lv_if_eq (tgt := 64) hx hb dX1_leadsOn_23 (by decide) (fun c9 => ?_) (fun c9 => ?_)
  · have h := h_ifp c9 h
    refine lv_iconst (v := 0) hx hb dX1_leadsOn_64 (by decide) ?_
    exact h_iret cx hw hr hlk rfl (Option.some.inj h) rfl dX1_leadsOn_65
  · have h := h_ifn c9 h
    refine lv_iload_n hx hb dX1_leadsOn_26 rfl (lv_at hl 0 rfl) ?_
    refine lv_bipush (v := (-9)) hx hb dX1_leadsOn_27 (by decide) ?_
    refine lv_icmp_eq (tgt := 64) hx hb dX1_leadsOn_29 (by decide) (fun c10 => ?_) (fun c10 => ?_)
    · have h := h_ifp c10 h
      refine lv_iconst (v := 0) hx hb dX1_leadsOn_64 (by decide) ?_
      exact h_iret cx hw hr hlk rfl (Option.some.inj h) rfl dX1_leadsOn_65
    · have h := h_ifn c10 h
      refine lv_iload_n hx hb dX1_leadsOn_32 rfl (lv_at hl 0 rfl) ?_
      refine lv_aload_n hx hb dX1_leadsOn_33 rfl (lv_at hl 1 rfl) ?_
      refine h_get (v := .ref (q 6)) cx hw 1 (wC_p1 q cI S) rfl hinX1 2 (by decide) lk15 rfl dX1_leadsOn_34 ?_
      refine lv_iload_n hx hb dX1_leadsOn_37 rfl (lv_at hl 2 rfl) ?_
      refine lv_iconst (v := 1) hx hb dX1_leadsOn_38 (by decide) ?_
      refine lv_ishr hx hb dX1_leadsOn_39 ?_
      obtain ⟨v11, e12, h⟩ := h_bd_ok h
      refine h_ald cx hw 6 (wC_p6 q cI S) e12 dX1_leadsOn_40 ?_
      refine lv_iadd hx hb dX1_leadsOn_41 ?_
      refine lv_aload_n hx hb dX1_leadsOn_42 rfl (lv_at hl 1 rfl) ?_
      refine h_get (v := .ref (q 9)) cx hw 1 (wC_p1 q cI S) rfl hinX1 5 (by decide) lk24 rfl dX1_leadsOn_43 ?_
      refine lv_aload_n hx hb dX1_leadsOn_46 rfl (lv_at hl 1 rfl) ?_
      refine h_get (v := .ref (q 5)) cx hw 1 (wC_p1 q cI S) rfl hinX1 1 (by decide) lk9 rfl dX1_leadsOn_47 ?_
      refine lv_iload_n hx hb dX1_leadsOn_50 rfl (lv_at hl 2 rfl) ?_
      obtain ⟨v13, e14, h⟩ := h_bd_ok h
      refine h_ald cx hw 5 (wC_p5 q cI S) e14 dX1_leadsOn_51 ?_
      refine lv_iload_n hx hb dX1_leadsOn_52 rfl (lv_at hl 3 rfl) ?_
      obtain ⟨r15, e16, h⟩ := h_bd_ok h
      refine h_callN cx.1 (c_X3_pair l v13 a2 r15 e16) ⟨va_cnB 2 hts (hgA (hcW wdC_X3_pair)) rfl rfl rfl cx.2.2.1.1 hiniX3 pdX3_pair.2 ⟨Nat.le_of_ble_eq_true rfl, Nat.le_of_ble_eq_true rfl⟩, hstX3_pair, trivial⟩ rfl hl.1 rfl (Nat.le_of_ble_eq_true rfl) dX1_leadsOn_53 ⟨Nat.zero_le _, Nat.zero_le _⟩ ?_
      obtain ⟨v17, e18, h⟩ := h_bd_ok h
      refine h_ald cx hw 9 (wC_p9 q cI S) e18 dX1_leadsOn_56 ?_
      refine lv_icmp_ne (tgt := 64) hx hb dX1_leadsOn_57 (by decide) (fun c19 => ?_) (fun c19 => ?_)
      · have h := h_ifn c19 h
        refine lv_iconst (v := 0) hx hb dX1_leadsOn_64 (by decide) ?_
        exact h_iret cx hw hr hlk rfl (Option.some.inj h) rfl dX1_leadsOn_65
      · have h := h_ifp c19 h
        refine lv_iconst (v := 1) hx hb dX1_leadsOn_60 (by decide) ?_
        refine lv_goto (tgt := 65) hx hb dX1_leadsOn_61 (by decide) ?_
        exact h_iret cx hw hr hlk rfl (Option.some.inj h) rfl dX1_leadsOn_65
set_option maxHeartbeats 4000000 in
set_option maxRecDepth 100000 in
theorem c_X1_findNextSide (l : Launch) (dC : Nat → ClassId) (dI : Nat → Nat → Nat) (cI cZ : ClassId) (q : Nat → Nat) (S : HSt) (a1 a2 : Int32) (r : Int32) (h : f_X1_findNextSide S a1 a2 = some r) : MI l yX1_findNextSide hsX1_findNextSide rmX1_findNextSide (dC, dI) cI cZ (wC q cI) S [.ref (q 1), .int a1, .int a2] r S := by
  refine MI.ofW (cc := cX1_findNextSide) (maxL := 5) (ret := (some .int)) (by decide +kernel) rfl (Nat.le_of_ble_eq_true rfl) ?_
  intro p e s m below meth c A cx hr hlk hw ls hl
  have hx := cx.1.1
  have hb := cx.1.2.1
  have hml := cx.1.2.2.1
  have hts := cx.1.2.2.2.2
  have hta : ∀ z ∈ hALL, z.before _ s = true := fun z h => hts z (List.mem_cons_of_mem _ h)
  have lk21 : (Cond.fieldLink RX1 21 (TX1 4).1 (TX1 4).2.1 (TX1 4).2.2.1).before _ s = true := hta _ wdF_X1_21
  have lk24 : (Cond.fieldLink RX1 24 (TX1 5).1 (TX1 5).2.1 (TX1 5).2.2.1).before _ s = true := hta _ wdF_X1_24
  have lk30 : (Cond.fieldLink RX1 30 (TX1 0).1 (TX1 0).2.1 (TX1 0).2.2.1).before _ s = true := hta _ wdF_X1_30
  have lk9 : (Cond.fieldLink RX1 9 (TX1 1).1 (TX1 1).2.1 (TX1 1).2.2.1).before _ s = true := hta _ wdF_X1_9
  have hiniX3 := hta _ wdN_RX3
  have hstX3_pair := hta _ wdT_X3_pair
  have hl : lv_has ls 5 [(0, .ref (q 1)), (1, .int a1), (2, .int a2)] := hl
  unfold f_X1_findNextSide at h
  have kk32 : ∀ (n32 : Nat) (x1 x2 x3 x4 : Int32), f_X1_findNextSide_32 S n32 x1 x2 x3 x4 = some r → ∀ (H : Heap) (locs : List Loc) (ls : Array Slot), HW (dC, dI) (wC q cI) S A s H locs → lv_has ls 5 [(0, .ref (q 1)), (1, .int x1), (2, .int x2), (3, .int x3), (4, .int x4)] → W p l e rmX1_findNextSide s m ([.ref (q 1), .int a1, .int a2] : List Value).toArray below meth c H locs 0 0 (MQ below (QI (dC, dI) (wC q cI) r S A) ([.ref (q 1), .int a1, .int a2] : List Value).toArray s 0 0 A) (F0 m 32 ls []) := by
    intro n32
    induction n32 with
    | zero =>
      intro x1 x2 x3 x4 h
      have h9 : (none : Option Int32) = some r := h
      cases h9
    | succ n32 ih32 =>
      intro x1 x2 x3 x4 h H locs ls hw hl
      have h : f_X1_findNextSide_32_s S (f_X1_findNextSide_32 S n32) x1 x2 x3 x4 = some r := h
      unfold f_X1_findNextSide_32_s at h
      have kk92 : ∀ (x1 x2 x3 x4 : Int32), f_X1_findNextSide_92 S (f_X1_findNextSide_32 S n32) x1 x2 x3 x4 = some r → ∀ (H : Heap) (locs : List Loc) (ls : Array Slot), HW (dC, dI) (wC q cI) S A s H locs → lv_has ls 5 [(0, .ref (q 1)), (1, .int x1), (2, .int x2), (3, .int x3), (4, .int x4)] → W p l e rmX1_findNextSide s m ([.ref (q 1), .int a1, .int a2] : List Value).toArray below meth c H locs 0 0 (MQ below (QI (dC, dI) (wC q cI) r S A) ([.ref (q 1), .int a1, .int a2] : List Value).toArray s 0 0 A) (F0 m 92 ls []) := by
        intro x1 x2 x3 x4 h H locs ls hw hl
        unfold f_X1_findNextSide_92 at h
        refine lv_iinc (v := x4 + 1) (lv' := [(4, .int (x4 + 1)), (0, .ref (q 1)), (1, .int x1), (2, .int x2), (3, .int x3)]) hx hb dX1_findNextSide_92 hl (k := 4) rfl rfl (by decide) rfl (fun ls hl => ?_)
        refine lv_goto (tgt := 32) hx hb dX1_findNextSide_95 (by decide) ?_
        exact ih32 _ _ _ _ h _ _ _ hw (lv_sub hl [1, 2, 3, 4, 0] rfl)
      have kk89 : ∀ (x1 x2 x4 : Int32), f_X1_findNextSide_89 S (f_X1_findNextSide_32 S n32) x1 x2 x4 = some r → ∀ (H : Heap) (locs : List Loc) (ls : Array Slot), HW (dC, dI) (wC q cI) S A s H locs → lv_has ls 5 [(0, .ref (q 1)), (1, .int x1), (2, .int x2), (4, .int x4)] → W p l e rmX1_findNextSide s m ([.ref (q 1), .int a1, .int a2] : List Value).toArray below meth c H locs 0 0 (MQ below (QI (dC, dI) (wC q cI) r S A) ([.ref (q 1), .int a1, .int a2] : List Value).toArray s 0 0 A) (F0 m 89 ls []) := by
        intro x1 x2 x4 h H locs ls hw hl
        unfold f_X1_findNextSide_89 at h
        refine lv_iload hx hb dX1_findNextSide_89 (lv_at hl 3 rfl) ?_
        refine lv_istore_n (lv' := [(3, .int x4), (0, .ref (q 1)), (1, .int x1), (2, .int x2), (4, .int x4)]) hx hb dX1_findNextSide_91 rfl hl (by decide) rfl (fun ls hl => ?_)
        exact kk92 _ _ _ _ h _ _ _ hw (lv_sub hl [1, 2, 3, 0, 4] rfl)
      refine lv_iload hx hb dX1_findNextSide_32 (lv_at hl 4 rfl) ?_
      refine lv_iconst (v := 2) hx hb dX1_findNextSide_34 (by decide) ?_
      refine lv_aload_n hx hb dX1_findNextSide_35 rfl (lv_at hl 0 rfl) ?_
      refine h_get (v := .int (S.1 0)) cx hw 1 (wC_p1 q cI S) rfl hinX1 0 (by decide) lk30 rfl dX1_findNextSide_36 ?_
      refine lv_imul hx hb dX1_findNextSide_39 ?_
      refine lv_icmp_ge (tgt := 98) hx hb dX1_findNextSide_40 (by decide) (fun c1 => ?_) (fun c1 => ?_)
      · have h := h_ifp c1 h
        refine lv_iload_n hx hb dX1_findNextSide_98 rfl (lv_at hl 3 rfl) ?_
        exact h_iret cx hw hr hlk rfl (Option.some.inj h) rfl dX1_findNextSide_99
      · have h := h_ifn c1 h
        refine lv_aload_n hx hb dX1_findNextSide_43 rfl (lv_at hl 0 rfl) ?_
        refine h_get (v := .ref (q 5)) cx hw 1 (wC_p1 q cI S) rfl hinX1 1 (by decide) lk9 rfl dX1_findNextSide_44 ?_
        refine lv_iload hx hb dX1_findNextSide_47 (lv_at hl 4 rfl) ?_
        obtain ⟨v2, e3, h⟩ := h_bd_ok h
        refine h_ald cx hw 5 (wC_p5 q cI S) e3 dX1_findNextSide_49 ?_
        refine lv_iload_n hx hb dX1_findNextSide_50 rfl (lv_at hl 1 rfl) ?_
        refine lv_icmp_ne (tgt := 92) hx hb dX1_findNextSide_51 (by decide) (fun c4 => ?_) (fun c4 => ?_)
        · have h := h_ifn c4 h
          exact kk92 _ _ _ _ h _ _ _ hw (lv_sub hl [0, 1, 2, 3, 4] rfl)
        · have h := h_ifp c4 h
          refine lv_aload_n hx hb dX1_findNextSide_54 rfl (lv_at hl 0 rfl) ?_
          refine lv_iload hx hb dX1_findNextSide_55 (lv_at hl 4 rfl) ?_
          refine lv_iload_n hx hb dX1_findNextSide_57 rfl (lv_at hl 2 rfl) ?_
          obtain ⟨r5, e6, h⟩ := h_bd_ok h
          refine h_callI cx hw (c_X1_leadsOn l dC dI cI cZ q S x4 x2 r5 e6) (cwV 2 hts (hgA (hcV wdL_X1_58 wdI_X1_leadsOn wdS_X1_leadsOn wdN_RX1 wdC_X1_leadsOn)) rfl rfl rfl pdX1_leadsOn ⟨Nat.le_of_ble_eq_true rfl, Nat.le_of_ble_eq_true rfl⟩) 1 (wC_p1 q cI S) rfl rfl rfl hl.1 rfl (Nat.le_of_ble_eq_true rfl) dX1_findNextSide_58 ⟨Nat.zero_le _, Nat.zero_le _⟩ (fun H locs hw => ?_)
          refine lv_if_eq (tgt := 92) hx hb dX1_findNextSide_61 (by decide) (fun c7 => ?_) (fun c7 => ?_)
          · have h := h_ifp c7 h
            exact kk92 _ _ _ _ h _ _ _ hw (lv_sub hl [0, 1, 2, 3, 4] rfl)
          · have h := h_ifn c7 h
            refine lv_iload_n hx hb dX1_findNextSide_64 rfl (lv_at hl 3 rfl) ?_
            refine lv_iconst (v := (-1)) hx hb dX1_findNextSide_65 (by decide) ?_
            refine lv_icmp_eq (tgt := 89) hx hb dX1_findNextSide_66 (by decide) (fun c8 => ?_) (fun c8 => ?_)
            · have h := h_ifp c8 h
              exact kk89 _ _ _ h _ _ _ hw (lv_sub hl [0, 1, 2, 4] rfl)
            · have h := h_ifn c8 h
              refine lv_aload_n hx hb dX1_findNextSide_69 rfl (lv_at hl 0 rfl) ?_
              refine h_get (v := .ref (q 5)) cx hw 1 (wC_p1 q cI S) rfl hinX1 1 (by decide) lk9 rfl dX1_findNextSide_70 ?_
              refine lv_iload hx hb dX1_findNextSide_73 (lv_at hl 4 rfl) ?_
              refine lv_iconst (v := 1) hx hb dX1_findNextSide_75 (by decide) ?_
              refine lv_ixor hx hb dX1_findNextSide_76 ?_
              obtain ⟨v9, e10, h⟩ := h_bd_ok h
              refine h_ald cx hw 5 (wC_p5 q cI S) e10 dX1_findNextSide_77 ?_
              refine lv_aload_n hx hb dX1_findNextSide_78 rfl (lv_at hl 0 rfl) ?_
              refine h_get (v := .ref (q 5)) cx hw 1 (wC_p1 q cI S) rfl hinX1 1 (by decide) lk9 rfl dX1_findNextSide_79 ?_
              refine lv_iload_n hx hb dX1_findNextSide_82 rfl (lv_at hl 3 rfl) ?_
              refine lv_iconst (v := 1) hx hb dX1_findNextSide_83 (by decide) ?_
              refine lv_ixor hx hb dX1_findNextSide_84 ?_
              obtain ⟨v11, e12, h⟩ := h_bd_ok h
              refine h_ald cx hw 5 (wC_p5 q cI S) e12 dX1_findNextSide_85 ?_
              refine lv_icmp_ge (tgt := 92) hx hb dX1_findNextSide_86 (by decide) (fun c13 => ?_) (fun c13 => ?_)
              · have h := h_ifp c13 h
                exact kk92 _ _ _ _ h _ _ _ hw (lv_sub hl [0, 1, 2, 3, 4] rfl)
              · have h := h_ifn c13 h
                exact kk89 _ _ _ h _ _ _ hw (lv_sub hl [0, 1, 2, 4] rfl)
  refine lv_iload_n hx hb dX1_findNextSide_0 rfl (lv_at hl 1 rfl) ?_
  refine lv_aload_n hx hb dX1_findNextSide_1 rfl (lv_at hl 0 rfl) ?_
  refine h_get (v := .ref (q 8)) cx hw 1 (wC_p1 q cI S) rfl hinX1 4 (by decide) lk21 rfl dX1_findNextSide_2 ?_
  refine lv_iload_n hx hb dX1_findNextSide_5 rfl (lv_at hl 2 rfl) ?_
  obtain ⟨v1, e2, h⟩ := h_bd_ok h
  refine h_ald cx hw 8 (wC_p8 q cI S) e2 dX1_findNextSide_6 ?_
  refine lv_icmp_eq (tgt := 25) hx hb dX1_findNextSide_7 (by decide) (fun c3 => ?_) (fun c3 => ?_)
  · have h := h_ifp c3 h
    refine lv_iconst (v := (-1)) hx hb dX1_findNextSide_25 (by decide) ?_
    exact h_iret cx hw hr hlk rfl (Option.some.inj h) rfl dX1_findNextSide_26
  · have h := h_ifn c3 h
    refine lv_aload_n hx hb dX1_findNextSide_10 rfl (lv_at hl 0 rfl) ?_
    refine h_get (v := .ref (q 9)) cx hw 1 (wC_p1 q cI S) rfl hinX1 5 (by decide) lk24 rfl dX1_findNextSide_11 ?_
    refine lv_iload_n hx hb dX1_findNextSide_14 rfl (lv_at hl 1 rfl) ?_
    refine lv_iload_n hx hb dX1_findNextSide_15 rfl (lv_at hl 2 rfl) ?_
    obtain ⟨r4, e5, h⟩ := h_bd_ok h
    refine h_callN cx.1 (c_X3_pair l a1 a2 r4 e5) ⟨va_cnB 2 hts (hgA (hcW wdC_X3_pair)) rfl rfl rfl cx.2.2.1.1 hiniX3 pdX3_pair.2 ⟨Nat.le_of_ble_eq_true rfl, Nat.le_of_ble_eq_true rfl⟩, hstX3_pair, trivial⟩ rfl hl.1 rfl (Nat.le_of_ble_eq_true rfl) dX1_findNextSide_16 ⟨Nat.zero_le _, Nat.zero_le _⟩ ?_
    obtain ⟨v6, e7, h⟩ := h_bd_ok h
    refine h_ald cx hw 9 (wC_p9 q cI S) e7 dX1_findNextSide_19 ?_
    refine lv_bipush (v := (-9)) hx hb dX1_findNextSide_20 (by decide) ?_
    refine lv_icmp_ne (tgt := 27) hx hb dX1_findNextSide_22 (by decide) (fun c8 => ?_) (fun c8 => ?_)
    · have h := h_ifn c8 h
      refine lv_iconst (v := (-1)) hx hb dX1_findNextSide_27 (by decide) ?_
      refine lv_istore_n (lv' := [(3, .int (-1)), (0, .ref (q 1)), (1, .int a1), (2, .int a2)]) hx hb dX1_findNextSide_28 rfl hl (by decide) rfl (fun ls hl => ?_)
      refine lv_iconst (v := 0) hx hb dX1_findNextSide_29 (by decide) ?_
      refine lv_istore (lv' := [(4, .int 0), (3, .int (-1)), (0, .ref (q 1)), (1, .int a1), (2, .int a2)]) hx hb dX1_findNextSide_30 hl (by decide) rfl (fun ls hl => ?_)
      exact kk32 h_fu _ _ _ _ h _ _ _ hw (lv_sub hl [2, 3, 4, 1, 0] rfl)
    · have h := h_ifp c8 h
      refine lv_iconst (v := (-1)) hx hb dX1_findNextSide_25 (by decide) ?_
      exact h_iret cx hw hr hlk rfl (Option.some.inj h) rfl dX1_findNextSide_26
set_option maxHeartbeats 4000000 in
set_option maxRecDepth 100000 in
theorem c_X1_findWaysOf (l : Launch) (dC : Nat → ClassId) (dI : Nat → Nat → Nat) (cI cZ : ClassId) (q : Nat → Nat) (S : HSt) (a1 : Int32) (S9 : HSt) (h : f_X1_findWaysOf S a1 = some S9) : MV l yX1_findWaysOf hsX1_findWaysOf rmX1_findWaysOf (dC, dI) cI cZ (wC q cI) S [.ref (q 1), .int a1] S9 := by
  refine MV.ofW (cc := cX1_findWaysOf) (maxL := 4) (ret := none) (by decide +kernel) rfl (Nat.le_of_ble_eq_true rfl) ?_
  intro p e s m below meth c A cx hr hlk hw ls hl
  have hx := cx.1.1
  have hb := cx.1.2.1
  have hml := cx.1.2.2.1
  have hts := cx.1.2.2.2.2
  have hta : ∀ z ∈ hALL, z.before _ s = true := fun z h => hts z (List.mem_cons_of_mem _ h)
  have lk21 : (Cond.fieldLink RX1 21 (TX1 4).1 (TX1 4).2.1 (TX1 4).2.2.1).before _ s = true := hta _ wdF_X1_21
  have lk24 : (Cond.fieldLink RX1 24 (TX1 5).1 (TX1 5).2.1 (TX1 5).2.2.1).before _ s = true := hta _ wdF_X1_24
  have lk27 : (Cond.fieldLink RX1 27 (TX1 6).1 (TX1 6).2.1 (TX1 6).2.2.1).before _ s = true := hta _ wdF_X1_27
  have hiniX3 := hta _ wdN_RX3
  have hstX3_pair := hta _ wdT_X3_pair
  have hl : lv_has ls 4 [(0, .ref (q 1)), (1, .int a1)] := hl
  unfold f_X1_findWaysOf at h
  have kk2 : ∀ (n2 : Nat) (S : HSt) (x1 x2 : Int32), f_X1_findWaysOf_2 n2 S x1 x2 = some S9 → ∀ (H : Heap) (locs : List Loc) (ls : Array Slot), HW (dC, dI) (wC q cI) S A s H locs → lv_has ls 4 [(0, .ref (q 1)), (1, .int x1), (2, .int x2)] → W p l e rmX1_findWaysOf s m ([.ref (q 1), .int a1] : List Value).toArray below meth c H locs 0 0 (MQ below (QV (dC, dI) (wC q cI) S9 A) ([.ref (q 1), .int a1] : List Value).toArray s 0 0 A) (F0 m 2 ls []) := by
    intro n2
    induction n2 with
    | zero =>
      intro S x1 x2 h
      have h9 : (none : Option HSt) = some S9 := h
      cases h9
    | succ n2 ih2 =>
      intro S x1 x2 h H locs ls hw hl
      have h : f_X1_findWaysOf_2_s (f_X1_findWaysOf_2 n2) S x1 x2 = some S9 := h
      unfold f_X1_findWaysOf_2_s at h
      have kk56 : ∀ (S : HSt) (x1 t0 : Int32), f_X1_findWaysOf_56 S x1 t0 = some S9 → ∀ (H : Heap) (locs : List Loc) (ls : Array Slot), HW (dC, dI) (wC q cI) S A s H locs → lv_has ls 4 [(0, .ref (q 1)), (1, .int x1)] → W p l e rmX1_findWaysOf s m ([.ref (q 1), .int a1] : List Value).toArray below meth c H locs 0 0 (MQ below (QV (dC, dI) (wC q cI) S9 A) ([.ref (q 1), .int a1] : List Value).toArray s 0 0 A) (F0 m 56 ls [.int t0]) := by
        intro S x1 t0 h H locs ls hw hl
        unfold f_X1_findWaysOf_56 at h
        have kk59 : ∀ (n59 : Nat) (S : HSt) (x1 x2 x3 : Int32), f_X1_findWaysOf_59 n59 S x1 x2 x3 = some S9 → ∀ (H : Heap) (locs : List Loc) (ls : Array Slot), HW (dC, dI) (wC q cI) S A s H locs → lv_has ls 4 [(0, .ref (q 1)), (1, .int x1), (2, .int x2), (3, .int x3)] → W p l e rmX1_findWaysOf s m ([.ref (q 1), .int a1] : List Value).toArray below meth c H locs 0 0 (MQ below (QV (dC, dI) (wC q cI) S9 A) ([.ref (q 1), .int a1] : List Value).toArray s 0 0 A) (F0 m 59 ls []) := by
          intro n59
          induction n59 with
          | zero =>
            intro S x1 x2 x3 h
            have h9 : (none : Option HSt) = some S9 := h
            cases h9
          | succ n59 ih59 =>
            intro S x1 x2 x3 h H locs ls hw hl
            have h : f_X1_findWaysOf_59_s (f_X1_findWaysOf_59 n59) S x1 x2 x3 = some S9 := h
            unfold f_X1_findWaysOf_59_s at h
            have kk81 : ∀ (S : HSt) (x1 : Int32), f_X1_findWaysOf_81 S x1 = some S9 → ∀ (H : Heap) (locs : List Loc) (ls : Array Slot), HW (dC, dI) (wC q cI) S A s H locs → lv_has ls 4 [(0, .ref (q 1)), (1, .int x1)] → W p l e rmX1_findWaysOf s m ([.ref (q 1), .int a1] : List Value).toArray below meth c H locs 0 0 (MQ below (QV (dC, dI) (wC q cI) S9 A) ([.ref (q 1), .int a1] : List Value).toArray s 0 0 A) (F0 m 81 ls []) := by
              intro S x1 h H locs ls hw hl
              unfold f_X1_findWaysOf_81 at h
              have kk83 : ∀ (n83 : Nat) (S : HSt) (x1 x3 : Int32), f_X1_findWaysOf_83 n83 S x1 x3 = some S9 → ∀ (H : Heap) (locs : List Loc) (ls : Array Slot), HW (dC, dI) (wC q cI) S A s H locs → lv_has ls 4 [(0, .ref (q 1)), (1, .int x1), (3, .int x3)] → W p l e rmX1_findWaysOf s m ([.ref (q 1), .int a1] : List Value).toArray below meth c H locs 0 0 (MQ below (QV (dC, dI) (wC q cI) S9 A) ([.ref (q 1), .int a1] : List Value).toArray s 0 0 A) (F0 m 83 ls []) := by
                intro n83
                induction n83 with
                | zero =>
                  intro S x1 x3 h
                  have h9 : (none : Option HSt) = some S9 := h
                  cases h9
                | succ n83 ih83 =>
                  intro S x1 x3 h H locs ls hw hl
                  have h : f_X1_findWaysOf_83_s (f_X1_findWaysOf_83 n83) S x1 x3 = some S9 := h
                  unfold f_X1_findWaysOf_83_s at h
                  refine lv_iload_n hx hb dX1_findWaysOf_83 rfl (lv_at hl 2 rfl) ?_
                  refine lv_bipush (v := 7) hx hb dX1_findWaysOf_84 (by decide) ?_
                  refine lv_icmp_ge (tgt := 111) hx hb dX1_findWaysOf_86 (by decide) (fun c1 => ?_) (fun c1 => ?_)
                  · have h := h_ifp c1 h
                    exact h_vret cx hw hr hlk (Option.some.inj h) dX1_findWaysOf_111
                  · have h := h_ifn c1 h
                    refine lv_aload_n hx hb dX1_findWaysOf_89 rfl (lv_at hl 0 rfl) ?_
                    refine h_get (v := .ref (q 10)) cx hw 1 (wC_p1 q cI S) rfl hinX1 6 (by decide) lk27 rfl dX1_findWaysOf_90 ?_
                    refine lv_iload_n hx hb dX1_findWaysOf_93 rfl (lv_at hl 2 rfl) ?_
                    refine lv_iload_n hx hb dX1_findWaysOf_94 rfl (lv_at hl 1 rfl) ?_
                    obtain ⟨r2, e3, h⟩ := h_bd_ok h
                    refine h_callN cx.1 (c_X3_pair l x3 x1 r2 e3) ⟨va_cnB 2 hts (hgA (hcW wdC_X3_pair)) rfl rfl rfl cx.2.2.1.1 hiniX3 pdX3_pair.2 ⟨Nat.le_of_ble_eq_true rfl, Nat.le_of_ble_eq_true rfl⟩, hstX3_pair, trivial⟩ rfl hl.1 rfl (Nat.le_of_ble_eq_true rfl) dX1_findWaysOf_95 ⟨Nat.zero_le _, Nat.zero_le _⟩ ?_
                    refine lv_aload_n hx hb dX1_findWaysOf_98 rfl (lv_at hl 0 rfl) ?_
                    refine lv_iload_n hx hb dX1_findWaysOf_99 rfl (lv_at hl 2 rfl) ?_
                    refine lv_iload_n hx hb dX1_findWaysOf_100 rfl (lv_at hl 1 rfl) ?_
                    obtain ⟨r4, e5, h⟩ := h_bd_ok h
                    refine h_callI cx hw (c_X1_findNextSide l dC dI cI cZ q S x3 x1 r4 e5) (cwV 2 hts (hgA (hcV wdL_X1_52 wdI_X1_findNextSide wdS_X1_findNextSide wdN_RX1 wdC_X1_findNextSide)) rfl rfl rfl pdX1_findNextSide ⟨Nat.le_of_ble_eq_true rfl, Nat.le_of_ble_eq_true rfl⟩) 1 (wC_p1 q cI S) rfl rfl rfl hl.1 rfl (Nat.le_of_ble_eq_true rfl) dX1_findWaysOf_101 ⟨Nat.zero_le _, Nat.zero_le _⟩ (fun H locs hw => ?_)
                    obtain ⟨S6, e7, h⟩ := h_bd_ok h
                    refine h_ast cx hw 10 (wC_p10 q cI S) (wC_s10 q cI S) e7 dX1_findWaysOf_104 (fun H locs hw => ?_)
                    refine lv_iinc (v := x3 + 1) (lv' := [(3, .int (x3 + 1)), (0, .ref (q 1)), (1, .int x1)]) hx hb dX1_findWaysOf_105 hl (k := 2) rfl rfl (by decide) rfl (fun ls hl => ?_)
                    refine lv_goto (tgt := 83) hx hb dX1_findWaysOf_108 (by decide) ?_
                    exact ih83 _ _ _ h _ _ _ hw (lv_sub hl [1, 2, 0] rfl)
              refine lv_iconst (v := 0) hx hb dX1_findWaysOf_81 (by decide) ?_
              refine lv_istore_n (lv' := [(3, .int 0), (0, .ref (q 1)), (1, .int x1)]) hx hb dX1_findWaysOf_82 rfl hl (by decide) rfl (fun ls hl => ?_)
              exact kk83 h_fu _ _ _ h _ _ _ hw (lv_sub hl [1, 2, 0] rfl)
            refine lv_iload_n hx hb dX1_findWaysOf_59 rfl (lv_at hl 2 rfl) ?_
            refine lv_if_eq (tgt := 81) hx hb dX1_findWaysOf_60 (by decide) (fun c1 => ?_) (fun c1 => ?_)
            · have h := h_ifp c1 h
              exact kk81 _ _ h _ _ _ hw (lv_sub hl [0, 1] rfl)
            · have h := h_ifn c1 h
              refine lv_iload_n hx hb dX1_findWaysOf_63 rfl (lv_at hl 3 rfl) ?_
              refine lv_bipush (v := 7) hx hb dX1_findWaysOf_64 (by decide) ?_
              refine lv_icmp_ge (tgt := 81) hx hb dX1_findWaysOf_66 (by decide) (fun c2 => ?_) (fun c2 => ?_)
              · have h := h_ifp c2 h
                exact kk81 _ _ h _ _ _ hw (lv_sub hl [0, 1] rfl)
              · have h := h_ifn c2 h
                refine lv_aload_n hx hb dX1_findWaysOf_69 rfl (lv_at hl 0 rfl) ?_
                refine lv_iload_n hx hb dX1_findWaysOf_70 rfl (lv_at hl 1 rfl) ?_
                obtain ⟨r3, S5, e4, h⟩ := h_bi_ok h
                refine h_callI cx hw (c_X1_shorten l dC dI cI cZ q S x1 r3 S5 e4) (cwV 1 hts (hgA (hcV wdL_X1_48 wdI_X1_shorten wdS_X1_shorten wdN_RX1 wdC_X1_shorten)) rfl rfl rfl pdX1_shorten ⟨Nat.le_of_ble_eq_true rfl, Nat.le_of_ble_eq_true rfl⟩) 1 (wC_p1 q cI S) rfl rfl rfl hl.1 rfl (Nat.le_of_ble_eq_true rfl) dX1_findWaysOf_71 ⟨Nat.zero_le _, Nat.zero_le _⟩ (fun H locs hw => ?_)
                refine lv_istore_n (lv' := [(2, .int r3), (0, .ref (q 1)), (1, .int x1), (3, .int x3)]) hx hb dX1_findWaysOf_74 rfl hl (by decide) rfl (fun ls hl => ?_)
                refine lv_iinc (v := x3 + 1) (lv' := [(3, .int (x3 + 1)), (2, .int r3), (0, .ref (q 1)), (1, .int x1)]) hx hb dX1_findWaysOf_75 hl (k := 3) rfl rfl (by decide) rfl (fun ls hl => ?_)
                refine lv_goto (tgt := 59) hx hb dX1_findWaysOf_78 (by decide) ?_
                exact ih59 _ _ _ _ h _ _ _ hw (lv_sub hl [2, 3, 1, 0] rfl)
        refine lv_istore_n (lv' := [(2, .int t0), (0, .ref (q 1)), (1, .int x1)]) hx hb dX1_findWaysOf_56 rfl hl (by decide) rfl (fun ls hl => ?_)
        refine lv_iconst (v := 0) hx hb dX1_findWaysOf_57 (by decide) ?_
        refine lv_istore_n (lv' := [(3, .int 0), (2, .int t0), (0, .ref (q 1)), (1, .int x1)]) hx hb dX1_findWaysOf_58 rfl hl (by decide) rfl (fun ls hl => ?_)
        exact kk59 h_fu _ _ _ _ h _ _ _ hw (lv_sub hl [2, 3, 1, 0] rfl)
      have kk33 : ∀ (S : HSt) (x1 x2 t0 t1 : Int32), f_X1_findWaysOf_33 (f_X1_findWaysOf_2 n2) S x1 x2 t0 t1 = some S9 → ∀ (H : Heap) (locs : List Loc) (ls : Array Slot), HW (dC, dI) (wC q cI) S A s H locs → lv_has ls 4 [(0, .ref (q 1)), (1, .int x1), (2, .int x2)] → W p l e rmX1_findWaysOf s m ([.ref (q 1), .int a1] : List Value).toArray below meth c H locs 0 0 (MQ below (QV (dC, dI) (wC q cI) S9 A) ([.ref (q 1), .int a1] : List Value).toArray s 0 0 A) (F0 m 33 ls [.int t0, .int t1, .ref (q 9)]) := by
        intro S x1 x2 t0 t1 h H locs ls hw hl
        unfold f_X1_findWaysOf_33 at h
        obtain ⟨S1, e2, h⟩ := h_bd_ok h
        refine h_ast cx hw 9 (wC_p9 q cI S) (wC_s9 q cI S) e2 dX1_findWaysOf_33 (fun H locs hw => ?_)
        refine lv_iinc (v := x2 + 1) (lv' := [(2, .int (x2 + 1)), (0, .ref (q 1)), (1, .int x1)]) hx hb dX1_findWaysOf_34 hl (k := 2) rfl rfl (by decide) rfl (fun ls hl => ?_)
        refine lv_goto (tgt := 2) hx hb dX1_findWaysOf_37 (by decide) ?_
        exact ih2 _ _ _ h _ _ _ hw (lv_sub hl [1, 2, 0] rfl)
      refine lv_iload_n hx hb dX1_findWaysOf_2 rfl (lv_at hl 2 rfl) ?_
      refine lv_bipush (v := 7) hx hb dX1_findWaysOf_3 (by decide) ?_
      refine lv_icmp_ge (tgt := 40) hx hb dX1_findWaysOf_5 (by decide) (fun c1 => ?_) (fun c1 => ?_)
      · have h := h_ifp c1 h
        refine lv_aload_n hx hb dX1_findWaysOf_40 rfl (lv_at hl 0 rfl) ?_
        refine h_get (v := .ref (q 8)) cx hw 1 (wC_p1 q cI S) rfl hinX1 4 (by decide) lk21 rfl dX1_findWaysOf_41 ?_
        refine lv_iload_n hx hb dX1_findWaysOf_44 rfl (lv_at hl 1 rfl) ?_
        obtain ⟨v2, e3, h⟩ := h_bd_ok h
        refine h_ald cx hw 8 (wC_p8 q cI S) e3 dX1_findWaysOf_45 ?_
        refine lv_bipush (v := (-9)) hx hb dX1_findWaysOf_46 (by decide) ?_
        refine lv_icmp_eq (tgt := 55) hx hb dX1_findWaysOf_48 (by decide) (fun c4 => ?_) (fun c4 => ?_)
        · have h := h_ifp c4 h
          refine lv_iconst (v := 0) hx hb dX1_findWaysOf_55 (by decide) ?_
          exact kk56 _ _ _ h _ _ _ hw (lv_sub hl [0, 1] rfl)
        · have h := h_ifn c4 h
          refine lv_iconst (v := 1) hx hb dX1_findWaysOf_51 (by decide) ?_
          refine lv_goto (tgt := 56) hx hb dX1_findWaysOf_52 (by decide) ?_
          exact kk56 _ _ _ h _ _ _ hw (lv_sub hl [0, 1] rfl)
      · have h := h_ifn c1 h
        refine lv_aload_n hx hb dX1_findWaysOf_8 rfl (lv_at hl 0 rfl) ?_
        refine h_get (v := .ref (q 9)) cx hw 1 (wC_p1 q cI S) rfl hinX1 5 (by decide) lk24 rfl dX1_findWaysOf_9 ?_
        refine lv_iload_n hx hb dX1_findWaysOf_12 rfl (lv_at hl 2 rfl) ?_
        refine lv_iload_n hx hb dX1_findWaysOf_13 rfl (lv_at hl 1 rfl) ?_
        obtain ⟨r5, e6, h⟩ := h_bd_ok h
        refine h_callN cx.1 (c_X3_pair l x2 x1 r5 e6) ⟨va_cnB 2 hts (hgA (hcW wdC_X3_pair)) rfl rfl rfl cx.2.2.1.1 hiniX3 pdX3_pair.2 ⟨Nat.le_of_ble_eq_true rfl, Nat.le_of_ble_eq_true rfl⟩, hstX3_pair, trivial⟩ rfl hl.1 rfl (Nat.le_of_ble_eq_true rfl) dX1_findWaysOf_14 ⟨Nat.zero_le _, Nat.zero_le _⟩ ?_
        refine lv_iload_n hx hb dX1_findWaysOf_17 rfl (lv_at hl 2 rfl) ?_
        refine lv_aload_n hx hb dX1_findWaysOf_18 rfl (lv_at hl 0 rfl) ?_
        refine h_get (v := .ref (q 8)) cx hw 1 (wC_p1 q cI S) rfl hinX1 4 (by decide) lk21 rfl dX1_findWaysOf_19 ?_
        refine lv_iload_n hx hb dX1_findWaysOf_22 rfl (lv_at hl 1 rfl) ?_
        obtain ⟨v7, e8, h⟩ := h_bd_ok h
        refine h_ald cx hw 8 (wC_p8 q cI S) e8 dX1_findWaysOf_23 ?_
        refine lv_icmp_ne (tgt := 31) hx hb dX1_findWaysOf_24 (by decide) (fun c9 => ?_) (fun c9 => ?_)
        · have h := h_ifn c9 h
          refine lv_bipush (v := (-9)) hx hb dX1_findWaysOf_31 (by decide) ?_
          exact kk33 _ _ _ _ _ h _ _ _ hw (lv_sub hl [0, 1, 2] rfl)
        · have h := h_ifp c9 h
          refine lv_iconst (v := 0) hx hb dX1_findWaysOf_27 (by decide) ?_
          refine lv_goto (tgt := 33) hx hb dX1_findWaysOf_28 (by decide) ?_
          exact kk33 _ _ _ _ _ h _ _ _ hw (lv_sub hl [0, 1, 2] rfl)
  refine lv_iconst (v := 0) hx hb dX1_findWaysOf_0 (by decide) ?_
  refine lv_istore_n (lv' := [(2, .int 0), (0, .ref (q 1)), (1, .int a1)]) hx hb dX1_findWaysOf_1 rfl hl (by decide) rfl (fun ls hl => ?_)
  exact kk2 h_fu _ _ _ h _ _ _ hw (lv_sub hl [1, 2, 0] rfl)
set_option maxHeartbeats 4000000 in
set_option maxRecDepth 100000 in
theorem c_X1_findWays (l : Launch) (dC : Nat → ClassId) (dI : Nat → Nat → Nat) (cI cZ : ClassId) (q : Nat → Nat) (S : HSt) (S9 : HSt) (h : f_X1_findWays S = some S9) : MV l yX1_findWays hsX1_findWays rmX1_findWays (dC, dI) cI cZ (wC q cI) S [.ref (q 1)] S9 := by
  refine MV.ofW (cc := cX1_findWays) (maxL := 2) (ret := none) (by decide +kernel) rfl (Nat.le_of_ble_eq_true rfl) ?_
  intro p e s m below meth c A cx hr hlk hw ls hl
  have hx := cx.1.1
  have hb := cx.1.2.1
  have hml := cx.1.2.2.1
  have hts := cx.1.2.2.2.2
  have hta : ∀ z ∈ hALL, z.before _ s = true := fun z h => hts z (List.mem_cons_of_mem _ h)
  have hl : lv_has ls 2 [(0, .ref (q 1))] := hl
  unfold f_X1_findWays at h
  have kk2 : ∀ (n2 : Nat) (S : HSt) (x1 : Int32), f_X1_findWays_2 n2 S x1 = some S9 → ∀ (H : Heap) (locs : List Loc) (ls : Array Slot), HW (dC, dI) (wC q cI) S A s H locs → lv_has ls 2 [(0, .ref (q 1)), (1, .int x1)] → W p l e rmX1_findWays s m ([.ref (q 1)] : List Value).toArray below meth c H locs 0 0 (MQ below (QV (dC, dI) (wC q cI) S9 A) ([.ref (q 1)] : List Value).toArray s 0 0 A) (F0 m 2 ls []) := by
    intro n2
    induction n2 with
    | zero =>
      intro S x1 h
      have h9 : (none : Option HSt) = some S9 := h
      cases h9
    | succ n2 ih2 =>
      intro S x1 h H locs ls hw hl
      have h : f_X1_findWays_2_s (f_X1_findWays_2 n2) S x1 = some S9 := h
      unfold f_X1_findWays_2_s at h
      refine lv_iload_n hx hb dX1_findWays_2 rfl (lv_at hl 1 rfl) ?_
      refine lv_iconst (v := 4) hx hb dX1_findWays_3 (by decide) ?_
      refine lv_icmp_ge (tgt := 18) hx hb dX1_findWays_4 (by decide) (fun c1 => ?_) (fun c1 => ?_)
      · have h := h_ifp c1 h
        exact h_vret cx hw hr hlk (Option.some.inj h) dX1_findWays_18
      · have h := h_ifn c1 h
        refine lv_aload_n hx hb dX1_findWays_7 rfl (lv_at hl 0 rfl) ?_
        refine lv_iload_n hx hb dX1_findWays_8 rfl (lv_at hl 1 rfl) ?_
        obtain ⟨S4, e3, h⟩ := h_bd_ok h
        refine h_callV cx hw (c_X1_findWaysOf l dC dI cI cZ q S x1 S4 e3) (cwV 1 hts (hgA (hcV wdL_X1_41 wdI_X1_findWaysOf wdS_X1_findWaysOf wdN_RX1 wdC_X1_findWaysOf)) rfl rfl rfl pdX1_findWaysOf ⟨Nat.le_of_ble_eq_true rfl, Nat.le_of_ble_eq_true rfl⟩) 1 (wC_p1 q cI S) rfl rfl rfl hl.1 rfl (Nat.le_of_ble_eq_true rfl) dX1_findWays_9 ⟨Nat.zero_le _, Nat.zero_le _⟩ (fun H locs hw => ?_)
        refine lv_iinc (v := x1 + 1) (lv' := [(1, .int (x1 + 1)), (0, .ref (q 1))]) hx hb dX1_findWays_12 hl (k := 1) rfl rfl (by decide) rfl (fun ls hl => ?_)
        refine lv_goto (tgt := 2) hx hb dX1_findWays_15 (by decide) ?_
        exact ih2 _ _ h _ _ _ hw (lv_sub hl [1, 0] rfl)
  refine lv_iconst (v := 0) hx hb dX1_findWays_0 (by decide) ?_
  refine lv_istore_n (lv' := [(1, .int 0), (0, .ref (q 1))]) hx hb dX1_findWays_1 rfl hl (by decide) rfl (fun ls hl => ?_)
  exact kk2 h_fu _ _ h _ _ _ hw (lv_sub hl [1, 0] rfl)
set_option maxHeartbeats 4000000 in
set_option maxRecDepth 100000 in
theorem c_X1_addLink (l : Launch) (dC : Nat → ClassId) (dI : Nat → Nat → Nat) (cI cZ : ClassId) (q : Nat → Nat) (S : HSt) (a1 a2 a3 : Int32) (r : Int32) (S9 : HSt) (h : f_X1_addLink S a1 a2 a3 = some (r, S9)) : MI l yX1_addLink hsX1_addLink rmX1_addLink (dC, dI) cI cZ (wC q cI) S [.ref (q 1), .int a1, .int a2, .int a3] r S9 := by
  refine MI.ofW (cc := cX1_addLink) (maxL := 5) (ret := (some .int)) (by decide +kernel) rfl (Nat.le_of_ble_eq_true rfl) ?_
  intro p e s m below meth c A cx hr hlk hw ls hl
  have hx := cx.1.1
  have hb := cx.1.2.1
  have hml := cx.1.2.2.1
  have hts := cx.1.2.2.2.2
  have hta : ∀ z ∈ hALL, z.before _ s = true := fun z h => hts z (List.mem_cons_of_mem _ h)
  have lk15 : (Cond.fieldLink RX1 15 (TX1 2).1 (TX1 2).2.1 (TX1 2).2.2.1).before _ s = true := hta _ wdF_X1_15
  have lk18 : (Cond.fieldLink RX1 18 (TX1 3).1 (TX1 3).2.1 (TX1 3).2.2.1).before _ s = true := hta _ wdF_X1_18
  have lk30 : (Cond.fieldLink RX1 30 (TX1 0).1 (TX1 0).2.1 (TX1 0).2.2.1).before _ s = true := hta _ wdF_X1_30
  have lk9 : (Cond.fieldLink RX1 9 (TX1 1).1 (TX1 1).2.1 (TX1 1).2.2.1).before _ s = true := hta _ wdF_X1_9
  have hl : lv_has ls 5 [(0, .ref (q 1)), (1, .int a1), (2, .int a2), (3, .int a3)] := hl
  unfold f_X1_addLink at h
  refine lv_aload_n hx hb dX1_addLink_0 rfl (lv_at hl 0 rfl) ?_
  refine h_get (v := .int (S.1 0)) cx hw 1 (wC_p1 q cI S) rfl hinX1 0 (by decide) lk30 rfl dX1_addLink_1 ?_
  refine lv_istore (lv' := [(4, .int (S.1 0)), (0, .ref (q 1)), (1, .int a1), (2, .int a2), (3, .int a3)]) hx hb dX1_addLink_4 hl (by decide) rfl (fun ls hl => ?_)
  refine lv_aload_n hx hb dX1_addLink_6 rfl (lv_at hl 1 rfl) ?_
  refine lv_dup hx hb dX1_addLink_7 rfl ?_
  refine h_get (v := .int (S.1 0)) cx hw 1 (wC_p1 q cI S) rfl hinX1 0 (by decide) lk30 rfl dX1_addLink_8 ?_
  refine lv_iconst (v := 1) hx hb dX1_addLink_11 (by decide) ?_
  refine lv_iadd hx hb dX1_addLink_12 ?_
  obtain ⟨S1, e2, h⟩ := h_bd_ok h
  refine h_puti (x := (S.1 0) + 1) cx hw 1 (wC_p1 q cI S) rfl hinX1 tyX1 tyX1_ok nmX1 0 (by decide) lk30 rfl (by decide +kernel) (Nat.le_of_ble_eq_true rfl) 0 (wC_i0 q cI S ((S.1 0) + 1)) e2 dX1_addLink_13 (fun H locs hw => ?_)
  refine lv_aload_n hx hb dX1_addLink_16 rfl (lv_at hl 1 rfl) ?_
  refine h_get (v := .ref (q 5)) cx hw 1 (wC_p1 q cI S1) rfl hinX1 1 (by decide) lk9 rfl dX1_addLink_17 ?_
  refine lv_iconst (v := 2) hx hb dX1_addLink_20 (by decide) ?_
  refine lv_iload hx hb dX1_addLink_21 (lv_at hl 0 rfl) ?_
  refine lv_imul hx hb dX1_addLink_23 ?_
  refine lv_iload_n hx hb dX1_addLink_24 rfl (lv_at hl 2 rfl) ?_
  obtain ⟨S3, e4, h⟩ := h_bd_ok h
  refine h_ast cx hw 5 (wC_p5 q cI S1) (wC_s5 q cI S1) e4 dX1_addLink_25 (fun H locs hw => ?_)
  refine lv_aload_n hx hb dX1_addLink_26 rfl (lv_at hl 1 rfl) ?_
  refine h_get (v := .ref (q 5)) cx hw 1 (wC_p1 q cI S3) rfl hinX1 1 (by decide) lk9 rfl dX1_addLink_27 ?_
  refine lv_iconst (v := 2) hx hb dX1_addLink_30 (by decide) ?_
  refine lv_iload hx hb dX1_addLink_31 (lv_at hl 0 rfl) ?_
  refine lv_imul hx hb dX1_addLink_33 ?_
  refine lv_iconst (v := 1) hx hb dX1_addLink_34 (by decide) ?_
  refine lv_iadd hx hb dX1_addLink_35 ?_
  refine lv_iload_n hx hb dX1_addLink_36 rfl (lv_at hl 3 rfl) ?_
  obtain ⟨S5, e6, h⟩ := h_bd_ok h
  refine h_ast cx hw 5 (wC_p5 q cI S3) (wC_s5 q cI S3) e6 dX1_addLink_37 (fun H locs hw => ?_)
  refine lv_aload_n hx hb dX1_addLink_38 rfl (lv_at hl 1 rfl) ?_
  refine h_get (v := .ref (q 6)) cx hw 1 (wC_p1 q cI S5) rfl hinX1 2 (by decide) lk15 rfl dX1_addLink_39 ?_
  refine lv_iload hx hb dX1_addLink_42 (lv_at hl 0 rfl) ?_
  refine lv_iload_n hx hb dX1_addLink_44 rfl (lv_at hl 4 rfl) ?_
  obtain ⟨S7, e8, h⟩ := h_bd_ok h
  refine h_ast cx hw 6 (wC_p6 q cI S5) (wC_s6 q cI S5) e8 dX1_addLink_45 (fun H locs hw => ?_)
  refine lv_aload_n hx hb dX1_addLink_46 rfl (lv_at hl 1 rfl) ?_
  refine h_get (v := .ref (q 7)) cx hw 1 (wC_p1 q cI S7) rfl hinX1 3 (by decide) lk18 rfl dX1_addLink_47 ?_
  refine lv_iload hx hb dX1_addLink_50 (lv_at hl 0 rfl) ?_
  refine lv_iconst (v := 1) hx hb dX1_addLink_52 (by decide) ?_
  obtain ⟨S9, e10, h⟩ := h_bd_ok h
  refine h_ast cx hw 7 (wC_p7 q cI S7) (wC_s7 q cI S7) e10 dX1_addLink_53 (fun H locs hw => ?_)
  refine lv_aload_n hx hb dX1_addLink_54 rfl (lv_at hl 1 rfl) ?_
  obtain ⟨S13, e12, h⟩ := h_bd_ok h
  refine h_callV cx hw (c_X1_findWays l dC dI cI cZ q S9 S13 e12) (cwV 0 hts (hgA (hcV wdL_X1_38 wdI_X1_findWays wdS_X1_findWays wdN_RX1 wdC_X1_findWays)) rfl rfl rfl pdX1_findWays ⟨Nat.le_of_ble_eq_true rfl, Nat.le_of_ble_eq_true rfl⟩) 1 (wC_p1 q cI S9) rfl rfl rfl hl.1 rfl (Nat.le_of_ble_eq_true rfl) dX1_addLink_55 ⟨Nat.zero_le _, Nat.zero_le _⟩ (fun H locs hw => ?_)
  refine lv_iload hx hb dX1_addLink_58 (lv_at hl 0 rfl) ?_
  exact h_iret cx hw hr hlk rfl (congrArg Prod.fst (Option.some.inj h)) (congrArg Prod.snd (Option.some.inj h)) dX1_addLink_60
set_option maxHeartbeats 4000000 in
set_option maxRecDepth 100000 in
theorem c_X1_setCost (l : Launch) (dC : Nat → ClassId) (dI : Nat → Nat → Nat) (cI cZ : ClassId) (q : Nat → Nat) (S : HSt) (a1 a2 : Int32) (S9 : HSt) (h : f_X1_setCost S a1 a2 = some S9) : MV l yX1_setCost hsX1_setCost rmX1_setCost (dC, dI) cI cZ (wC q cI) S [.ref (q 1), .int a1, .int a2] S9 := by
  refine MV.ofW (cc := cX1_setCost) (maxL := 3) (ret := none) (by decide +kernel) rfl (Nat.le_of_ble_eq_true rfl) ?_
  intro p e s m below meth c A cx hr hlk hw ls hl
  have hx := cx.1.1
  have hb := cx.1.2.1
  have hml := cx.1.2.2.1
  have hts := cx.1.2.2.2.2
  have hta : ∀ z ∈ hALL, z.before _ s = true := fun z h => hts z (List.mem_cons_of_mem _ h)
  have lk15 : (Cond.fieldLink RX1 15 (TX1 2).1 (TX1 2).2.1 (TX1 2).2.2.1).before _ s = true := hta _ wdF_X1_15
  have hl : lv_has ls 3 [(0, .ref (q 1)), (1, .int a1), (2, .int a2)] := hl
  unfold f_X1_setCost at h
  refine lv_aload_n hx hb dX1_setCost_0 rfl (lv_at hl 0 rfl) ?_
  refine h_get (v := .ref (q 6)) cx hw 1 (wC_p1 q cI S) rfl hinX1 2 (by decide) lk15 rfl dX1_setCost_1 ?_
  refine lv_iload_n hx hb dX1_setCost_4 rfl (lv_at hl 1 rfl) ?_
  refine lv_iload_n hx hb dX1_setCost_5 rfl (lv_at hl 2 rfl) ?_
  obtain ⟨S1, e2, h⟩ := h_bd_ok h
  refine h_ast cx hw 6 (wC_p6 q cI S) (wC_s6 q cI S) e2 dX1_setCost_6 (fun H locs hw => ?_)
  refine lv_aload_n hx hb dX1_setCost_7 rfl (lv_at hl 0 rfl) ?_
  obtain ⟨S5, e4, h⟩ := h_bd_ok h
  refine h_callV cx hw (c_X1_findWays l dC dI cI cZ q S1 S5 e4) (cwV 0 hts (hgA (hcV wdL_X1_38 wdI_X1_findWays wdS_X1_findWays wdN_RX1 wdC_X1_findWays)) rfl rfl rfl pdX1_findWays ⟨Nat.le_of_ble_eq_true rfl, Nat.le_of_ble_eq_true rfl⟩) 1 (wC_p1 q cI S1) rfl rfl rfl hl.1 rfl (Nat.le_of_ble_eq_true rfl) dX1_setCost_8 ⟨Nat.zero_le _, Nat.zero_le _⟩ (fun H locs hw => ?_)
  exact h_vret cx hw hr hlk (Option.some.inj h) dX1_setCost_11
set_option maxHeartbeats 4000000 in
set_option maxRecDepth 100000 in
theorem c_X1_setUp (l : Launch) (dC : Nat → ClassId) (dI : Nat → Nat → Nat) (cI cZ : ClassId) (q : Nat → Nat) (S : HSt) (a1 a2 : Int32) (S9 : HSt) (h : f_X1_setUp S a1 a2 = some S9) : MV l yX1_setUp hsX1_setUp rmX1_setUp (dC, dI) cI cZ (wC q cI) S [.ref (q 1), .int a1, .int a2] S9 := by
  refine MV.ofW (cc := cX1_setUp) (maxL := 3) (ret := none) (by decide +kernel) rfl (Nat.le_of_ble_eq_true rfl) ?_
  intro p e s m below meth c A cx hr hlk hw ls hl
  have hx := cx.1.1
  have hb := cx.1.2.1
  have hml := cx.1.2.2.1
  have hts := cx.1.2.2.2.2
  have hta : ∀ z ∈ hALL, z.before _ s = true := fun z h => hts z (List.mem_cons_of_mem _ h)
  have lk18 : (Cond.fieldLink RX1 18 (TX1 3).1 (TX1 3).2.1 (TX1 3).2.2.1).before _ s = true := hta _ wdF_X1_18
  have hl : lv_has ls 3 [(0, .ref (q 1)), (1, .int a1), (2, .int a2)] := hl
  unfold f_X1_setUp at h
  refine lv_aload_n hx hb dX1_setUp_0 rfl (lv_at hl 0 rfl) ?_
  refine h_get (v := .ref (q 7)) cx hw 1 (wC_p1 q cI S) rfl hinX1 3 (by decide) lk18 rfl dX1_setUp_1 ?_
  refine lv_iload_n hx hb dX1_setUp_4 rfl (lv_at hl 1 rfl) ?_
  refine lv_iload_n hx hb dX1_setUp_5 rfl (lv_at hl 2 rfl) ?_
  obtain ⟨S1, e2, h⟩ := h_bd_ok h
  refine h_ast cx hw 7 (wC_p7 q cI S) (wC_s7 q cI S) e2 dX1_setUp_6 (fun H locs hw => ?_)
  refine lv_aload_n hx hb dX1_setUp_7 rfl (lv_at hl 0 rfl) ?_
  obtain ⟨S5, e4, h⟩ := h_bd_ok h
  refine h_callV cx hw (c_X1_findWays l dC dI cI cZ q S1 S5 e4) (cwV 0 hts (hgA (hcV wdL_X1_38 wdI_X1_findWays wdS_X1_findWays wdN_RX1 wdC_X1_findWays)) rfl rfl rfl pdX1_findWays ⟨Nat.le_of_ble_eq_true rfl, Nat.le_of_ble_eq_true rfl⟩) 1 (wC_p1 q cI S1) rfl rfl rfl hl.1 rfl (Nat.le_of_ble_eq_true rfl) dX1_setUp_8 ⟨Nat.zero_le _, Nat.zero_le _⟩ (fun H locs hw => ?_)
  exact h_vret cx hw hr hlk (Option.some.inj h) dX1_setUp_11
set_option maxHeartbeats 4000000 in
set_option maxRecDepth 100000 in
theorem c_X1_setEnd (l : Launch) (dC : Nat → ClassId) (dI : Nat → Nat → Nat) (cI cZ : ClassId) (q : Nat → Nat) (S : HSt) (a1 a2 : Int32) (S9 : HSt) (h : f_X1_setEnd S a1 a2 = some S9) : MV l yX1_setEnd hsX1_setEnd rmX1_setEnd (dC, dI) cI cZ (wC q cI) S [.ref (q 1), .int a1, .int a2] S9 := by
  refine MV.ofW (cc := cX1_setEnd) (maxL := 3) (ret := none) (by decide +kernel) rfl (Nat.le_of_ble_eq_true rfl) ?_
  intro p e s m below meth c A cx hr hlk hw ls hl
  have hx := cx.1.1
  have hb := cx.1.2.1
  have hml := cx.1.2.2.1
  have hts := cx.1.2.2.2.2
  have hta : ∀ z ∈ hALL, z.before _ s = true := fun z h => hts z (List.mem_cons_of_mem _ h)
  have lk21 : (Cond.fieldLink RX1 21 (TX1 4).1 (TX1 4).2.1 (TX1 4).2.2.1).before _ s = true := hta _ wdF_X1_21
  have hl : lv_has ls 3 [(0, .ref (q 1)), (1, .int a1), (2, .int a2)] := hl
  unfold f_X1_setEnd at h
  refine lv_aload_n hx hb dX1_setEnd_0 rfl (lv_at hl 0 rfl) ?_
  refine h_get (v := .ref (q 8)) cx hw 1 (wC_p1 q cI S) rfl hinX1 4 (by decide) lk21 rfl dX1_setEnd_1 ?_
  refine lv_iload_n hx hb dX1_setEnd_4 rfl (lv_at hl 1 rfl) ?_
  refine lv_iload_n hx hb dX1_setEnd_5 rfl (lv_at hl 2 rfl) ?_
  obtain ⟨S1, e2, h⟩ := h_bd_ok h
  refine h_ast cx hw 8 (wC_p8 q cI S) (wC_s8 q cI S) e2 dX1_setEnd_6 (fun H locs hw => ?_)
  refine lv_aload_n hx hb dX1_setEnd_7 rfl (lv_at hl 0 rfl) ?_
  refine lv_iload_n hx hb dX1_setEnd_8 rfl (lv_at hl 1 rfl) ?_
  obtain ⟨S5, e4, h⟩ := h_bd_ok h
  refine h_callV cx hw (c_X1_findWaysOf l dC dI cI cZ q S1 a1 S5 e4) (cwV 1 hts (hgA (hcV wdL_X1_41 wdI_X1_findWaysOf wdS_X1_findWaysOf wdN_RX1 wdC_X1_findWaysOf)) rfl rfl rfl pdX1_findWaysOf ⟨Nat.le_of_ble_eq_true rfl, Nat.le_of_ble_eq_true rfl⟩) 1 (wC_p1 q cI S1) rfl rfl rfl hl.1 rfl (Nat.le_of_ble_eq_true rfl) dX1_setEnd_9 ⟨Nat.zero_le _, Nat.zero_le _⟩ (fun H locs hw => ?_)
  exact h_vret cx hw hr hlk (Option.some.inj h) dX1_setEnd_12
set_option maxHeartbeats 4000000 in
set_option maxRecDepth 100000 in
theorem c_X1_nextBox (l : Launch) (dC : Nat → ClassId) (dI : Nat → Nat → Nat) (cI cZ : ClassId) (q : Nat → Nat) (S : HSt) (a1 a2 : Int32) (r : Int32) (h : f_X1_nextBox S a1 a2 = some r) : MI l yX1_nextBox hsX1_nextBox rmX1_nextBox (dC, dI) cI cZ (wC q cI) S [.ref (q 1), .int a1, .int a2] r S := by
  refine MI.ofW (cc := cX1_nextBox) (maxL := 4) (ret := (some .int)) (by decide +kernel) rfl (Nat.le_of_ble_eq_true rfl) ?_
  intro p e s m below meth c A cx hr hlk hw ls hl
  have hx := cx.1.1
  have hb := cx.1.2.1
  have hml := cx.1.2.2.1
  have hts := cx.1.2.2.2.2
  have hta : ∀ z ∈ hALL, z.before _ s = true := fun z h => hts z (List.mem_cons_of_mem _ h)
  have lk27 : (Cond.fieldLink RX1 27 (TX1 6).1 (TX1 6).2.1 (TX1 6).2.2.1).before _ s = true := hta _ wdF_X1_27
  have lk9 : (Cond.fieldLink RX1 9 (TX1 1).1 (TX1 1).2.1 (TX1 1).2.2.1).before _ s = true := hta _ wdF_X1_9
  have hiniX3 := hta _ wdN_RX3
  have hstX3_pair := hta _ wdT_X3_pair
  have hl : lv_has ls 4 [(0, .ref (q 1)), (1, .int a1), (2, .int a2)] := hl
  unfold f_X1_nextBox at h
  refine lv_aload_n hx hb dX1_nextBox_0 rfl (lv_at hl 0 rfl) ?_
  refine h_get (v := .ref (q 10)) cx hw 1 (wC_p1 q cI S) rfl hinX1 6 (by decide) lk27 rfl dX1_nextBox_1 ?_
  refine lv_iload_n hx hb dX1_nextBox_4 rfl (lv_at hl 1 rfl) ?_
  refine lv_iload_n hx hb dX1_nextBox_5 rfl (lv_at hl 2 rfl) ?_
  obtain ⟨r1, e2, h⟩ := h_bd_ok h
  refine h_callN cx.1 (c_X3_pair l a1 a2 r1 e2) ⟨va_cnB 2 hts (hgA (hcW wdC_X3_pair)) rfl rfl rfl cx.2.2.1.1 hiniX3 pdX3_pair.2 ⟨Nat.le_of_ble_eq_true rfl, Nat.le_of_ble_eq_true rfl⟩, hstX3_pair, trivial⟩ rfl hl.1 rfl (Nat.le_of_ble_eq_true rfl) dX1_nextBox_6 ⟨Nat.zero_le _, Nat.zero_le _⟩ ?_
  obtain ⟨v3, e4, h⟩ := h_bd_ok h
  refine h_ald cx hw 10 (wC_p10 q cI S) e4 dX1_nextBox_9 ?_
  refine lv_istore_n (lv' := [(3, .int v3), (0, .ref (q 1)), (1, .int a1), (2, .int a2)]) hx hb dX1_nextBox_10 rfl hl (by decide) rfl (fun ls hl => ?_)
  refine lv_iload_n hx hb dX1_nextBox_11 rfl (lv_at hl 0 rfl) ?_
  refine lv_iconst (v := (-1)) hx hb dX1_nextBox_12 (by decide) ?_
  refine lv_icmp_ne (tgt := 21) hx hb dX1_nextBox_13 (by decide) (fun c5 => ?_) (fun c5 => ?_)
  · have h := h_ifn c5 h
    refine lv_aload_n hx hb dX1_nextBox_21 rfl (lv_at hl 1 rfl) ?_
    refine h_get (v := .ref (q 5)) cx hw 1 (wC_p1 q cI S) rfl hinX1 1 (by decide) lk9 rfl dX1_nextBox_22 ?_
    refine lv_iload_n hx hb dX1_nextBox_25 rfl (lv_at hl 0 rfl) ?_
    refine lv_iconst (v := 1) hx hb dX1_nextBox_26 (by decide) ?_
    refine lv_ixor hx hb dX1_nextBox_27 ?_
    obtain ⟨v6, e7, h⟩ := h_bd_ok h
    refine h_ald cx hw 5 (wC_p5 q cI S) e7 dX1_nextBox_28 ?_
    exact h_iret cx hw hr hlk rfl (Option.some.inj h) rfl dX1_nextBox_29
  · have h := h_ifp c5 h
    refine lv_bipush (v := (-9)) hx hb dX1_nextBox_16 (by decide) ?_
    refine lv_goto (tgt := 29) hx hb dX1_nextBox_18 (by decide) ?_
    exact h_iret cx hw hr hlk rfl (Option.some.inj h) rfl dX1_nextBox_29
set_option maxHeartbeats 4000000 in
set_option maxRecDepth 100000 in
theorem c_X1_linksUp (l : Launch) (dC : Nat → ClassId) (dI : Nat → Nat → Nat) (cI cZ : ClassId) (q : Nat → Nat) (S : HSt) (r : Int32) (h : f_X1_linksUp S = some r) : MI l yX1_linksUp hsX1_linksUp rmX1_linksUp (dC, dI) cI cZ (wC q cI) S [.ref (q 1)] r S := by
  refine MI.ofW (cc := cX1_linksUp) (maxL := 3) (ret := (some .int)) (by decide +kernel) rfl (Nat.le_of_ble_eq_true rfl) ?_
  intro p e s m below meth c A cx hr hlk hw ls hl
  have hx := cx.1.1
  have hb := cx.1.2.1
  have hml := cx.1.2.2.1
  have hts := cx.1.2.2.2.2
  have hta : ∀ z ∈ hALL, z.before _ s = true := fun z h => hts z (List.mem_cons_of_mem _ h)
  have lk18 : (Cond.fieldLink RX1 18 (TX1 3).1 (TX1 3).2.1 (TX1 3).2.2.1).before _ s = true := hta _ wdF_X1_18
  have lk30 : (Cond.fieldLink RX1 30 (TX1 0).1 (TX1 0).2.1 (TX1 0).2.2.1).before _ s = true := hta _ wdF_X1_30
  have hl : lv_has ls 3 [(0, .ref (q 1))] := hl
  unfold f_X1_linksUp at h
  have kk4 : ∀ (n4 : Nat) (x1 x2 : Int32), f_X1_linksUp_4 S n4 x1 x2 = some r → ∀ (H : Heap) (locs : List Loc) (ls : Array Slot), HW (dC, dI) (wC q cI) S A s H locs → lv_has ls 3 [(0, .ref (q 1)), (1, .int x1), (2, .int x2)] → W p l e rmX1_linksUp s m ([.ref (q 1)] : List Value).toArray below meth c H locs 0 0 (MQ below (QI (dC, dI) (wC q cI) r S A) ([.ref (q 1)] : List Value).toArray s 0 0 A) (F0 m 4 ls []) := by
    intro n4
    induction n4 with
    | zero =>
      intro x1 x2 h
      have h9 : (none : Option Int32) = some r := h
      cases h9
    | succ n4 ih4 =>
      intro x1 x2 h H locs ls hw hl
      have h : f_X1_linksUp_4_s S (f_X1_linksUp_4 S n4) x1 x2 = some r := h
      unfold f_X1_linksUp_4_s at h
      refine lv_iload_n hx hb dX1_linksUp_4 rfl (lv_at hl 2 rfl) ?_
      refine lv_aload_n hx hb dX1_linksUp_5 rfl (lv_at hl 0 rfl) ?_
      refine h_get (v := .int (S.1 0)) cx hw 1 (wC_p1 q cI S) rfl hinX1 0 (by decide) lk30 rfl dX1_linksUp_6 ?_
      refine lv_icmp_ge (tgt := 27) hx hb dX1_linksUp_9 (by decide) (fun c1 => ?_) (fun c1 => ?_)
      · have h := h_ifp c1 h
        refine lv_iload_n hx hb dX1_linksUp_27 rfl (lv_at hl 1 rfl) ?_
        exact h_iret cx hw hr hlk rfl (Option.some.inj h) rfl dX1_linksUp_28
      · have h := h_ifn c1 h
        refine lv_iload_n hx hb dX1_linksUp_12 rfl (lv_at hl 1 rfl) ?_
        refine lv_aload_n hx hb dX1_linksUp_13 rfl (lv_at hl 0 rfl) ?_
        refine h_get (v := .ref (q 7)) cx hw 1 (wC_p1 q cI S) rfl hinX1 3 (by decide) lk18 rfl dX1_linksUp_14 ?_
        refine lv_iload_n hx hb dX1_linksUp_17 rfl (lv_at hl 2 rfl) ?_
        obtain ⟨v2, e3, h⟩ := h_bd_ok h
        refine h_ald cx hw 7 (wC_p7 q cI S) e3 dX1_linksUp_18 ?_
        refine lv_iadd hx hb dX1_linksUp_19 ?_
        refine lv_istore_n (lv' := [(1, .int (x1 + v2)), (0, .ref (q 1)), (2, .int x2)]) hx hb dX1_linksUp_20 rfl hl (by decide) rfl (fun ls hl => ?_)
        refine lv_iinc (v := x2 + 1) (lv' := [(2, .int (x2 + 1)), (1, .int (x1 + v2)), (0, .ref (q 1))]) hx hb dX1_linksUp_21 hl (k := 2) rfl rfl (by decide) rfl (fun ls hl => ?_)
        refine lv_goto (tgt := 4) hx hb dX1_linksUp_24 (by decide) ?_
        exact ih4 _ _ h _ _ _ hw (lv_sub hl [2, 1, 0] rfl)
  refine lv_iconst (v := 0) hx hb dX1_linksUp_0 (by decide) ?_
  refine lv_istore_n (lv' := [(1, .int 0), (0, .ref (q 1))]) hx hb dX1_linksUp_1 rfl hl (by decide) rfl (fun ls hl => ?_)
  refine lv_iconst (v := 0) hx hb dX1_linksUp_2 (by decide) ?_
  refine lv_istore_n (lv' := [(2, .int 0), (1, .int 0), (0, .ref (q 1))]) hx hb dX1_linksUp_3 rfl hl (by decide) rfl (fun ls hl => ?_)
  exact kk4 h_fu _ _ h _ _ _ hw (lv_sub hl [2, 1, 0] rfl)
set_option maxHeartbeats 4000000 in
set_option maxRecDepth 100000 in
theorem c_X1_classesWithEnd (l : Launch) (dC : Nat → ClassId) (dI : Nat → Nat → Nat) (cI cZ : ClassId) (q : Nat → Nat) (S : HSt) (r : Int32) (h : f_X1_classesWithEnd S = some r) : MI l yX1_classesWithEnd hsX1_classesWithEnd rmX1_classesWithEnd (dC, dI) cI cZ (wC q cI) S [.ref (q 1)] r S := by
  refine MI.ofW (cc := cX1_classesWithEnd) (maxL := 3) (ret := (some .int)) (by decide +kernel) rfl (Nat.le_of_ble_eq_true rfl) ?_
  intro p e s m below meth c A cx hr hlk hw ls hl
  have hx := cx.1.1
  have hb := cx.1.2.1
  have hml := cx.1.2.2.1
  have hts := cx.1.2.2.2.2
  have hta : ∀ z ∈ hALL, z.before _ s = true := fun z h => hts z (List.mem_cons_of_mem _ h)
  have lk21 : (Cond.fieldLink RX1 21 (TX1 4).1 (TX1 4).2.1 (TX1 4).2.2.1).before _ s = true := hta _ wdF_X1_21
  have hl : lv_has ls 3 [(0, .ref (q 1))] := hl
  unfold f_X1_classesWithEnd at h
  have kk4 : ∀ (n4 : Nat) (x1 x2 : Int32), f_X1_classesWithEnd_4 S n4 x1 x2 = some r → ∀ (H : Heap) (locs : List Loc) (ls : Array Slot), HW (dC, dI) (wC q cI) S A s H locs → lv_has ls 3 [(0, .ref (q 1)), (1, .int x1), (2, .int x2)] → W p l e rmX1_classesWithEnd s m ([.ref (q 1)] : List Value).toArray below meth c H locs 0 0 (MQ below (QI (dC, dI) (wC q cI) r S A) ([.ref (q 1)] : List Value).toArray s 0 0 A) (F0 m 4 ls []) := by
    intro n4
    induction n4 with
    | zero =>
      intro x1 x2 h
      have h9 : (none : Option Int32) = some r := h
      cases h9
    | succ n4 ih4 =>
      intro x1 x2 h H locs ls hw hl
      have h : f_X1_classesWithEnd_4_s S (f_X1_classesWithEnd_4 S n4) x1 x2 = some r := h
      unfold f_X1_classesWithEnd_4_s at h
      have kk23 : ∀ (x1 x2 : Int32), f_X1_classesWithEnd_23 S (f_X1_classesWithEnd_4 S n4) x1 x2 = some r → ∀ (H : Heap) (locs : List Loc) (ls : Array Slot), HW (dC, dI) (wC q cI) S A s H locs → lv_has ls 3 [(0, .ref (q 1)), (1, .int x1), (2, .int x2)] → W p l e rmX1_classesWithEnd s m ([.ref (q 1)] : List Value).toArray below meth c H locs 0 0 (MQ below (QI (dC, dI) (wC q cI) r S A) ([.ref (q 1)] : List Value).toArray s 0 0 A) (F0 m 23 ls []) := by
        intro x1 x2 h H locs ls hw hl
        unfold f_X1_classesWithEnd_23 at h
        refine lv_iinc (v := x2 + 1) (lv' := [(2, .int (x2 + 1)), (0, .ref (q 1)), (1, .int x1)]) hx hb dX1_classesWithEnd_23 hl (k := 2) rfl rfl (by decide) rfl (fun ls hl => ?_)
        refine lv_goto (tgt := 4) hx hb dX1_classesWithEnd_26 (by decide) ?_
        exact ih4 _ _ h _ _ _ hw (lv_sub hl [1, 2, 0] rfl)
      refine lv_iload_n hx hb dX1_classesWithEnd_4 rfl (lv_at hl 2 rfl) ?_
      refine lv_iconst (v := 4) hx hb dX1_classesWithEnd_5 (by decide) ?_
      refine lv_icmp_ge (tgt := 29) hx hb dX1_classesWithEnd_6 (by decide) (fun c1 => ?_) (fun c1 => ?_)
      · have h := h_ifp c1 h
        refine lv_iload_n hx hb dX1_classesWithEnd_29 rfl (lv_at hl 1 rfl) ?_
        exact h_iret cx hw hr hlk rfl (Option.some.inj h) rfl dX1_classesWithEnd_30
      · have h := h_ifn c1 h
        refine lv_aload_n hx hb dX1_classesWithEnd_9 rfl (lv_at hl 0 rfl) ?_
        refine h_get (v := .ref (q 8)) cx hw 1 (wC_p1 q cI S) rfl hinX1 4 (by decide) lk21 rfl dX1_classesWithEnd_10 ?_
        refine lv_iload_n hx hb dX1_classesWithEnd_13 rfl (lv_at hl 2 rfl) ?_
        obtain ⟨v2, e3, h⟩ := h_bd_ok h
        refine h_ald cx hw 8 (wC_p8 q cI S) e3 dX1_classesWithEnd_14 ?_
        refine lv_bipush (v := (-9)) hx hb dX1_classesWithEnd_15 (by decide) ?_
        refine lv_icmp_eq (tgt := 23) hx hb dX1_classesWithEnd_17 (by decide) (fun c4 => ?_) (fun c4 => ?_)
        · have h := h_ifp c4 h
          exact kk23 _ _ h _ _ _ hw (lv_sub hl [0, 1, 2] rfl)
        · have h := h_ifn c4 h
          refine lv_iinc (v := x1 + 1) (lv' := [(1, .int (x1 + 1)), (0, .ref (q 1)), (2, .int x2)]) hx hb dX1_classesWithEnd_20 hl (k := 1) rfl rfl (by decide) rfl (fun ls hl => ?_)
          exact kk23 _ _ h _ _ _ hw (lv_sub hl [1, 0, 2] rfl)
  refine lv_iconst (v := 0) hx hb dX1_classesWithEnd_0 (by decide) ?_
  refine lv_istore_n (lv' := [(1, .int 0), (0, .ref (q 1))]) hx hb dX1_classesWithEnd_1 rfl hl (by decide) rfl (fun ls hl => ?_)
  refine lv_iconst (v := 0) hx hb dX1_classesWithEnd_2 (by decide) ?_
  refine lv_istore_n (lv' := [(2, .int 0), (1, .int 0), (0, .ref (q 1))]) hx hb dX1_classesWithEnd_3 rfl hl (by decide) rfl (fun ls hl => ?_)
  exact kk4 h_fu _ _ h _ _ _ hw (lv_sub hl [2, 1, 0] rfl)
set_option maxHeartbeats 4000000 in
set_option maxRecDepth 100000 in
theorem c_X2_walkT (l : Launch) (dC : Nat → ClassId) (dI : Nat → Nat → Nat) (cI cZ : ClassId) (q : Nat → Nat) (S : HSt) (a1 a2 : Int32) (r : Int32) (S9 : HSt) (h : f_X2_walkT S a1 a2 = some (r, S9)) : MI l yX2_walk hsX2_walk rmX2_walk (dC, dI) cI cZ (wC q cI) S [.ref (q 3), .int a1, .int a2] r S9 := by
  refine MI.ofW (cc := cX2_walk) (maxL := 10) (ret := (some .int)) (by decide +kernel) rfl (Nat.le_of_ble_eq_true rfl) ?_
  intro p e s m below meth c A cx hr hlk hw ls hl
  have hx := cx.1.1
  have hb := cx.1.2.1
  have hml := cx.1.2.2.1
  have hts := cx.1.2.2.2.2
  have hta : ∀ z ∈ hALL, z.before _ s = true := fun z h => hts z (List.mem_cons_of_mem _ h)
  have lk15 : (Cond.fieldLink RX2 15 (TX2 4).1 (TX2 4).2.1 (TX2 4).2.2.1).before _ s = true := hta _ wdF_X2_15
  have lk18 : (Cond.fieldLink RX2 18 (TX2 0).1 (TX2 0).2.1 (TX2 0).2.2.1).before _ s = true := hta _ wdF_X2_18
  have lk22 : (Cond.fieldLink RX2 22 (TX2 1).1 (TX2 1).2.1 (TX2 1).2.2.1).before _ s = true := hta _ wdF_X2_22
  have lk26 : (Cond.fieldLink RX2 26 (TX2 2).1 (TX2 2).2.1 (TX2 2).2.2.1).before _ s = true := hta _ wdF_X2_26
  have lk36 : (Cond.fieldLink RX2 36 (TX1 4).1 (TX1 4).2.1 (TX1 4).2.2.1).before _ s = true := hta _ wdF_X2_36
  have lk41 : (Cond.fieldLink RX2 41 (TX1 6).1 (TX1 6).2.1 (TX1 6).2.2.1).before _ s = true := hta _ wdF_X2_41
  have lk55 : (Cond.fieldLink RX2 55 (TX1 1).1 (TX1 1).2.1 (TX1 1).2.2.1).before _ s = true := hta _ wdF_X2_55
  have lk9 : (Cond.fieldLink RX2 9 (TX2 3).1 (TX2 3).2.1 (TX2 3).2.2.1).before _ s = true := hta _ wdF_X2_9
  have hiniX3 := hta _ wdN_RX3
  have hstX3_labelOf := hta _ wdT_X3_labelOf
  have hstX3_pair := hta _ wdT_X3_pair
  have hl : lv_has ls 10 [(0, .ref (q 3)), (1, .int a1), (2, .int a2)] := hl
  unfold f_X2_walkT at h
  have kk11 : ∀ (n11 : Nat) (S : HSt) (x2 x3 x4 x5 x6 : Int32), f_X2_walkT_11 n11 S x2 x3 x4 x5 x6 = some (r, S9) → ∀ (H : Heap) (locs : List Loc) (ls : Array Slot), HW (dC, dI) (wC q cI) S A s H locs → lv_has ls 10 [(0, .ref (q 3)), (2, .int x2), (3, .int x3), (4, .int x4), (5, .int x5), (6, .int x6)] → W p l e rmX2_walk s m ([.ref (q 3), .int a1, .int a2] : List Value).toArray below meth c H locs 0 0 (MQ below (QI (dC, dI) (wC q cI) r S9 A) ([.ref (q 3), .int a1, .int a2] : List Value).toArray s 0 0 A) (F0 m 11 ls []) := by
    intro n11
    induction n11 with
    | zero =>
      intro S x2 x3 x4 x5 x6 h
      have h9 : (none : Option (Int32 × HSt)) = some (r, S9) := h
      cases h9
    | succ n11 ih11 =>
      intro S x2 x3 x4 x5 x6 h H locs ls hw hl
      have h : f_X2_walkT_11_s (f_X2_walkT_11 n11) S x2 x3 x4 x5 x6 = some (r, S9) := h
      unfold f_X2_walkT_11_s at h
      have kk64 : ∀ (S : HSt) (x2 x3 x4 x6 t0 : Int32), f_X2_walkT_64 (f_X2_walkT_11 n11) S x2 x3 x4 x6 t0 = some (r, S9) → ∀ (H : Heap) (locs : List Loc) (ls : Array Slot), HW (dC, dI) (wC q cI) S A s H locs → lv_has ls 10 [(0, .ref (q 3)), (2, .int x2), (3, .int x3), (4, .int x4), (6, .int x6)] → W p l e rmX2_walk s m ([.ref (q 3), .int a1, .int a2] : List Value).toArray below meth c H locs 0 0 (MQ below (QI (dC, dI) (wC q cI) r S9 A) ([.ref (q 3), .int a1, .int a2] : List Value).toArray s 0 0 A) (F0 m 64 ls [.int t0]) := by
        intro S x2 x3 x4 x6 t0 h H locs ls hw hl
        unfold f_X2_walkT_64 at h
        have kk138 : ∀ (S : HSt) (x2 x6 x8 x9 : Int32), f_X2_walkT_138 (f_X2_walkT_11 n11) S x2 x6 x8 x9 = some (r, S9) → ∀ (H : Heap) (locs : List Loc) (ls : Array Slot), HW (dC, dI) (wC q cI) S A s H locs → lv_has ls 10 [(0, .ref (q 3)), (2, .int x2), (6, .int x6), (8, .int x8), (9, .int x9)] → W p l e rmX2_walk s m ([.ref (q 3), .int a1, .int a2] : List Value).toArray below meth c H locs 0 0 (MQ below (QI (dC, dI) (wC q cI) r S9 A) ([.ref (q 3), .int a1, .int a2] : List Value).toArray s 0 0 A) (F0 m 138 ls []) := by
          intro S x2 x6 x8 x9 h H locs ls hw hl
          unfold f_X2_walkT_138 at h
          have kk156 : ∀ (S : HSt) (x2 x6 x8 t0 : Int32), f_X2_walkT_156 (f_X2_walkT_11 n11) S x2 x6 x8 t0 = some (r, S9) → ∀ (H : Heap) (locs : List Loc) (ls : Array Slot), HW (dC, dI) (wC q cI) S A s H locs → lv_has ls 10 [(0, .ref (q 3)), (2, .int x2), (6, .int x6), (8, .int x8)] → W p l e rmX2_walk s m ([.ref (q 3), .int a1, .int a2] : List Value).toArray below meth c H locs 0 0 (MQ below (QI (dC, dI) (wC q cI) r S9 A) ([.ref (q 3), .int a1, .int a2] : List Value).toArray s 0 0 A) (F0 m 156 ls [.int t0]) := by
            intro S x2 x6 x8 t0 h H locs ls hw hl
            unfold f_X2_walkT_156 at h
            refine lv_istore (lv' := [(4, .int t0), (0, .ref (q 3)), (2, .int x2), (6, .int x6), (8, .int x8)]) hx hb dX2_walk_156 hl (by decide) rfl (fun ls hl => ?_)
            refine lv_iload hx hb dX2_walk_158 (lv_at hl 4 rfl) ?_
            refine lv_iconst (v := 1) hx hb dX2_walk_160 (by decide) ?_
            refine lv_ixor hx hb dX2_walk_161 ?_
            refine lv_istore (lv' := [(5, .int (x8 ^^^ 1)), (4, .int t0), (0, .ref (q 3)), (2, .int x2), (6, .int x6), (8, .int x8)]) hx hb dX2_walk_162 hl (by decide) rfl (fun ls hl => ?_)
            refine lv_aload_n hx hb dX2_walk_164 rfl (lv_at hl 2 rfl) ?_
            refine h_get (v := .ref (q 1)) cx hw 3 (wC_p3 q cI S) rfl hinX2 0 (by decide) lk18 rfl dX2_walk_165 ?_
            refine h_get (v := .ref (q 5)) cx hw 1 (wC_p1 q cI S) rfl hinX1 1 (by decide) lk55 rfl dX2_walk_168 ?_
            refine lv_iload hx hb dX2_walk_171 (lv_at hl 0 rfl) ?_
            obtain ⟨v1, e2, h⟩ := h_bd_ok h
            refine h_ald cx hw 5 (wC_p5 q cI S) e2 dX2_walk_173 ?_
            refine lv_istore_n (lv' := [(3, .int v1), (5, .int (x8 ^^^ 1)), (4, .int t0), (0, .ref (q 3)), (2, .int x2), (6, .int x6), (8, .int x8)]) hx hb dX2_walk_174 rfl hl (by decide) rfl (fun ls hl => ?_)
            refine lv_iinc (v := x6 + 1) (lv' := [(6, .int (x6 + 1)), (3, .int v1), (5, .int (x8 ^^^ 1)), (4, .int t0), (0, .ref (q 3)), (2, .int x2), (8, .int x8)]) hx hb dX2_walk_175 hl (k := 5) rfl rfl (by decide) rfl (fun ls hl => ?_)
            refine lv_goto (tgt := 11) hx hb dX2_walk_178 (by decide) ?_
            exact ih11 _ _ _ _ _ _ h _ _ _ hw (lv_sub hl [4, 5, 1, 3, 2, 0] rfl)
          refine lv_iload hx hb dX2_walk_138 (lv_at hl 4 rfl) ?_
          obtain ⟨r1, e2, h⟩ := h_bd_ok h
          refine h_callN cx.1 (c_X3_labelOf l x9 r1 e2) ⟨va_cnB 1 hts (hgA (hcW wdC_X3_labelOf)) rfl rfl rfl cx.2.2.1.2.2.2.2.2.2.2 hiniX3 pdX3_labelOf.2 ⟨Nat.le_of_ble_eq_true rfl, Nat.le_of_ble_eq_true rfl⟩, hstX3_labelOf, trivial⟩ rfl hl.1 rfl (Nat.le_of_ble_eq_true rfl) dX2_walk_140 ⟨Nat.zero_le _, Nat.zero_le _⟩ ?_
          refine lv_iconst (v := 3) hx hb dX2_walk_143 (by decide) ?_
          refine lv_icmp_ne (tgt := 151) hx hb dX2_walk_144 (by decide) (fun c3 => ?_) (fun c3 => ?_)
          · have h := h_ifn c3 h
            refine lv_iload hx hb dX2_walk_151 (lv_at hl 4 rfl) ?_
            obtain ⟨r4, e5, h⟩ := h_bd_ok h
            refine h_callN cx.1 (c_X3_labelOf l x9 r4 e5) ⟨va_cnB 1 hts (hgA (hcW wdC_X3_labelOf)) rfl rfl rfl cx.2.2.1.2.2.2.2.2.2.2 hiniX3 pdX3_labelOf.2 ⟨Nat.le_of_ble_eq_true rfl, Nat.le_of_ble_eq_true rfl⟩, hstX3_labelOf, trivial⟩ rfl hl.1 rfl (Nat.le_of_ble_eq_true rfl) dX2_walk_153 ⟨Nat.zero_le _, Nat.zero_le _⟩ ?_
            exact kk156 _ _ _ _ _ h _ _ _ hw (lv_sub hl [0, 1, 2, 3] rfl)
          · have h := h_ifp c3 h
            refine lv_iconst (v := 0) hx hb dX2_walk_147 (by decide) ?_
            refine lv_goto (tgt := 156) hx hb dX2_walk_148 (by decide) ?_
            exact kk156 _ _ _ _ _ h _ _ _ hw (lv_sub hl [0, 1, 2, 3] rfl)
        refine lv_istore (lv' := [(7, .int t0), (0, .ref (q 3)), (2, .int x2), (3, .int x3), (4, .int x4), (6, .int x6)]) hx hb dX2_walk_64 hl (by decide) rfl (fun ls hl => ?_)
        refine lv_iload hx hb dX2_walk_66 (lv_at hl 0 rfl) ?_
        refine lv_iconst (v := (-1)) hx hb dX2_walk_68 (by decide) ?_
        refine lv_icmp_ne (tgt := 74) hx hb dX2_walk_69 (by decide) (fun c1 => ?_) (fun c1 => ?_)
        · have h := h_ifn c1 h
          refine lv_aload_n hx hb dX2_walk_74 rfl (lv_at hl 1 rfl) ?_
          refine h_get (v := .ref (q 1)) cx hw 3 (wC_p3 q cI S) rfl hinX2 0 (by decide) lk18 rfl dX2_walk_75 ?_
          refine h_get (v := .ref (q 8)) cx hw 1 (wC_p1 q cI S) rfl hinX1 4 (by decide) lk36 rfl dX2_walk_78 ?_
          refine lv_iload hx hb dX2_walk_81 (lv_at hl 0 rfl) ?_
          obtain ⟨v2, e3, h⟩ := h_bd_ok h
          refine h_ald cx hw 8 (wC_p8 q cI S) e3 dX2_walk_83 ?_
          refine lv_iload_n hx hb dX2_walk_84 rfl (lv_at hl 3 rfl) ?_
          refine lv_icmp_ne (tgt := 90) hx hb dX2_walk_85 (by decide) (fun c4 => ?_) (fun c4 => ?_)
          · have h := h_ifn c4 h
            refine lv_aload_n hx hb dX2_walk_90 rfl (lv_at hl 1 rfl) ?_
            refine h_get (v := .ref (q 1)) cx hw 3 (wC_p3 q cI S) rfl hinX2 0 (by decide) lk18 rfl dX2_walk_91 ?_
            refine h_get (v := .ref (q 10)) cx hw 1 (wC_p1 q cI S) rfl hinX1 6 (by decide) lk41 rfl dX2_walk_94 ?_
            refine lv_iload_n hx hb dX2_walk_97 rfl (lv_at hl 3 rfl) ?_
            refine lv_iload hx hb dX2_walk_98 (lv_at hl 0 rfl) ?_
            obtain ⟨r5, e6, h⟩ := h_bd_ok h
            refine h_callN cx.1 (c_X3_pair l x3 t0 r5 e6) ⟨va_cnB 2 hts (hgA (hcW wdC_X3_pair)) rfl rfl rfl cx.2.2.1.2.2.2.2.2.2.1 hiniX3 pdX3_pair.2 ⟨Nat.le_of_ble_eq_true rfl, Nat.le_of_ble_eq_true rfl⟩, hstX3_pair, trivial⟩ rfl hl.1 rfl (Nat.le_of_ble_eq_true rfl) dX2_walk_100 ⟨Nat.zero_le _, Nat.zero_le _⟩ ?_
            obtain ⟨v7, e8, h⟩ := h_bd_ok h
            refine h_ald cx hw 10 (wC_p10 q cI S) e8 dX2_walk_103 ?_
            refine lv_istore (lv' := [(8, .int v7), (7, .int t0), (0, .ref (q 3)), (2, .int x2), (3, .int x3), (4, .int x4), (6, .int x6)]) hx hb dX2_walk_104 hl (by decide) rfl (fun ls hl => ?_)
            refine lv_iload hx hb dX2_walk_106 (lv_at hl 0 rfl) ?_
            refine lv_iconst (v := (-1)) hx hb dX2_walk_108 (by decide) ?_
            refine lv_icmp_ne (tgt := 114) hx hb dX2_walk_109 (by decide) (fun c9 => ?_) (fun c9 => ?_)
            · have h := h_ifn c9 h
              refine lv_aload_n hx hb dX2_walk_114 rfl (lv_at hl 2 rfl) ?_
              refine h_get (v := .ref (q 2)) cx hw 3 (wC_p3 q cI S) rfl hinX2 1 (by decide) lk22 rfl dX2_walk_115 ?_
              refine lv_iload_n hx hb dX2_walk_118 rfl (lv_at hl 4 rfl) ?_
              refine lv_iload hx hb dX2_walk_119 (lv_at hl 1 rfl) ?_
              obtain ⟨r10, e11, h⟩ := h_bd_ok h
              refine h_callI cx hw (c_X0_slipUsed l dC dI cI cZ q S x3 t0 r10 e11) (cwV 2 hts (hgA (hcV wdL_X2_48 wdI_X0_slipUsed wdS_X0_slipUsed wdN_RX0 wdC_X0_slipUsed)) rfl rfl rfl pdX0_slipUsed ⟨Nat.le_of_ble_eq_true rfl, Nat.le_of_ble_eq_true rfl⟩) 2 (wC_p2 q cI S) rfl rfl rfl hl.1 rfl (Nat.le_of_ble_eq_true rfl) dX2_walk_121 ⟨Nat.zero_le _, Nat.zero_le _⟩ (fun H locs hw => ?_)
              refine lv_istore (lv' := [(9, .int r10), (8, .int v7), (7, .int t0), (0, .ref (q 3)), (2, .int x2), (3, .int x3), (4, .int x4), (6, .int x6)]) hx hb dX2_walk_124 hl (by decide) rfl (fun ls hl => ?_)
              refine lv_iload hx hb dX2_walk_126 (lv_at hl 0 rfl) ?_
              refine lv_if_ne (tgt := 138) hx hb dX2_walk_128 (by decide) (fun c12 => ?_) (fun c12 => ?_)
              · have h := h_ifn c12 h
                exact kk138 _ _ _ _ _ h _ _ _ hw (lv_sub hl [3, 4, 7, 1, 0] rfl)
              · have h := h_ifp c12 h
                refine lv_iload hx hb dX2_walk_131 (lv_at hl 6 rfl) ?_
                refine lv_if_eq (tgt := 138) hx hb dX2_walk_133 (by decide) (fun c13 => ?_) (fun c13 => ?_)
                · have h := h_ifp c13 h
                  exact kk138 _ _ _ _ _ h _ _ _ hw (lv_sub hl [3, 4, 7, 1, 0] rfl)
                · have h := h_ifn c13 h
                  refine lv_iconst (v := 3) hx hb dX2_walk_136 (by decide) ?_
                  exact h_iret cx hw hr hlk rfl (congrArg Prod.fst (Option.some.inj h)) (congrArg Prod.snd (Option.some.inj h)) dX2_walk_137
            · have h := h_ifp c9 h
              refine lv_iconst (v := 1) hx hb dX2_walk_112 (by decide) ?_
              exact h_iret cx hw hr hlk rfl (congrArg Prod.fst (Option.some.inj h)) (congrArg Prod.snd (Option.some.inj h)) dX2_walk_113
          · have h := h_ifp c4 h
            refine lv_iconst (v := 0) hx hb dX2_walk_88 (by decide) ?_
            exact h_iret cx hw hr hlk rfl (congrArg Prod.fst (Option.some.inj h)) (congrArg Prod.snd (Option.some.inj h)) dX2_walk_89
        · have h := h_ifp c1 h
          refine lv_iconst (v := 2) hx hb dX2_walk_72 (by decide) ?_
          exact h_iret cx hw hr hlk rfl (congrArg Prod.fst (Option.some.inj h)) (congrArg Prod.snd (Option.some.inj h)) dX2_walk_73
      refine lv_iload hx hb dX2_walk_11 (lv_at hl 5 rfl) ?_
      refine lv_bipush (v := 14) hx hb dX2_walk_13 (by decide) ?_
      refine lv_icmp_gt (tgt := 181) hx hb dX2_walk_15 (by decide) (fun c1 => ?_) (fun c1 => ?_)
      · have h := h_ifp c1 h
        refine lv_iconst (v := 4) hx hb dX2_walk_181 (by decide) ?_
        exact h_iret cx hw hr hlk rfl (congrArg Prod.fst (Option.some.inj h)) (congrArg Prod.snd (Option.some.inj h)) dX2_walk_182
      · have h := h_ifn c1 h
        refine lv_aload_n hx hb dX2_walk_18 rfl (lv_at hl 0 rfl) ?_
        refine h_get (v := .ref (q 19)) cx hw 3 (wC_p3 q cI S) rfl hinX2 3 (by decide) lk9 rfl dX2_walk_19 ?_
        refine lv_iload hx hb dX2_walk_22 (lv_at hl 5 rfl) ?_
        refine lv_iload_n hx hb dX2_walk_24 rfl (lv_at hl 2 rfl) ?_
        obtain ⟨S2, e3, h⟩ := h_bd_ok h
        refine h_ast cx hw 19 (wC_p19 q cI S) (wC_s19 q cI S) e3 dX2_walk_25 (fun H locs hw => ?_)
        refine lv_aload_n hx hb dX2_walk_26 rfl (lv_at hl 0 rfl) ?_
        refine h_get (v := .ref (q 20)) cx hw 3 (wC_p3 q cI S2) rfl hinX2 4 (by decide) lk15 rfl dX2_walk_27 ?_
        refine lv_iload hx hb dX2_walk_30 (lv_at hl 5 rfl) ?_
        refine lv_iload hx hb dX2_walk_32 (lv_at hl 3 rfl) ?_
        obtain ⟨S4, e5, h⟩ := h_bd_ok h
        refine h_ast cx hw 20 (wC_p20 q cI S2) (wC_s20 q cI S2) e5 dX2_walk_34 (fun H locs hw => ?_)
        refine lv_aload_n hx hb dX2_walk_35 rfl (lv_at hl 0 rfl) ?_
        refine lv_iload hx hb dX2_walk_36 (lv_at hl 5 rfl) ?_
        refine lv_iconst (v := 1) hx hb dX2_walk_38 (by decide) ?_
        refine lv_iadd hx hb dX2_walk_39 ?_
        obtain ⟨S6, e7, h⟩ := h_bd_ok h
        refine h_puti (x := x6 + 1) cx hw 3 (wC_p3 q cI S4) rfl hinX2 tyX2 tyX2_ok nmX2 2 (by decide) lk26 rfl (by decide +kernel) (Nat.le_of_ble_eq_true rfl) 4 (wC_i4 q cI S4 (x6 + 1)) e7 dX2_walk_40 (fun H locs hw => ?_)
        refine lv_iload hx hb dX2_walk_43 (lv_at hl 3 rfl) ?_
        refine lv_if_ne (tgt := 52) hx hb dX2_walk_45 (by decide) (fun c8 => ?_) (fun c8 => ?_)
        · have h := h_ifn c8 h
          refine lv_aload_n hx hb dX2_walk_52 rfl (lv_at hl 0 rfl) ?_
          refine h_get (v := .ref (q 2)) cx hw 3 (wC_p3 q cI S6) rfl hinX2 1 (by decide) lk22 rfl dX2_walk_53 ?_
          refine lv_iload_n hx hb dX2_walk_56 rfl (lv_at hl 2 rfl) ?_
          refine lv_iload hx hb dX2_walk_57 (lv_at hl 4 rfl) ?_
          refine lv_iload hx hb dX2_walk_59 (lv_at hl 3 rfl) ?_
          obtain ⟨r9, e10, h⟩ := h_bd_ok h
          refine h_callI cx hw (c_X0_classMeant l dC dI cI cZ q S6 x3 x5 x4 r9 e10) (cwV 3 hts (hgA (hcV wdL_X2_30 wdI_X0_classMeant wdS_X0_classMeant wdN_RX0 wdC_X0_classMeant)) rfl rfl rfl pdX0_classMeant ⟨Nat.le_of_ble_eq_true rfl, Nat.le_of_ble_eq_true rfl⟩) 2 (wC_p2 q cI S6) rfl rfl rfl hl.1 rfl (Nat.le_of_ble_eq_true rfl) dX2_walk_61 ⟨Nat.zero_le _, Nat.zero_le _⟩ (fun H locs hw => ?_)
          exact kk64 _ _ _ _ _ _ h _ _ _ hw (lv_sub hl [0, 1, 2, 3, 5] rfl)
        · have h := h_ifp c8 h
          refine lv_iload_n hx hb dX2_walk_48 rfl (lv_at hl 1 rfl) ?_
          refine lv_goto (tgt := 64) hx hb dX2_walk_49 (by decide) ?_
          exact kk64 _ _ _ _ _ _ h _ _ _ hw (lv_sub hl [0, 1, 2, 3, 5] rfl)
  refine lv_iload_n hx hb dX2_walk_0 rfl (lv_at hl 1 rfl) ?_
  refine lv_istore_n (lv' := [(3, .int a1), (0, .ref (q 3)), (1, .int a1), (2, .int a2)]) hx hb dX2_walk_1 rfl hl (by decide) rfl (fun ls hl => ?_)
  refine lv_iconst (v := 0) hx hb dX2_walk_2 (by decide) ?_
  refine lv_istore (lv' := [(4, .int 0), (3, .int a1), (0, .ref (q 3)), (1, .int a1), (2, .int a2)]) hx hb dX2_walk_3 hl (by decide) rfl (fun ls hl => ?_)
  refine lv_iconst (v := (-1)) hx hb dX2_walk_5 (by decide) ?_
  refine lv_istore (lv' := [(5, .int (-1)), (4, .int 0), (3, .int a1), (0, .ref (q 3)), (1, .int a1), (2, .int a2)]) hx hb dX2_walk_6 hl (by decide) rfl (fun ls hl => ?_)
  refine lv_iconst (v := 0) hx hb dX2_walk_8 (by decide) ?_
  refine lv_istore (lv' := [(6, .int 0), (5, .int (-1)), (4, .int 0), (3, .int a1), (0, .ref (q 3)), (1, .int a1), (2, .int a2)]) hx hb dX2_walk_9 hl (by decide) rfl (fun ls hl => ?_)
  exact kk11 h_fu _ _ _ _ _ _ h _ _ _ hw (lv_sub hl [4, 6, 3, 2, 1, 0] rfl)
set_option maxHeartbeats 4000000 in
set_option maxRecDepth 100000 in
theorem c_X2_walkR (l : Launch) (dC : Nat → ClassId) (dI : Nat → Nat → Nat) (cI cZ : ClassId) (q : Nat → Nat) (S : HSt) (a1 a2 : Int32) (r : Int32) (S9 : HSt) (h : f_X2_walkR S a1 a2 = some (r, S9)) : MI l yX2_walk hsX2_walk rmX2_walk (dC, dI) cI cZ (wC q cI) S [.ref (q 4), .int a1, .int a2] r S9 := by
  refine MI.ofW (cc := cX2_walk) (maxL := 10) (ret := (some .int)) (by decide +kernel) rfl (Nat.le_of_ble_eq_true rfl) ?_
  intro p e s m below meth c A cx hr hlk hw ls hl
  have hx := cx.1.1
  have hb := cx.1.2.1
  have hml := cx.1.2.2.1
  have hts := cx.1.2.2.2.2
  have hta : ∀ z ∈ hALL, z.before _ s = true := fun z h => hts z (List.mem_cons_of_mem _ h)
  have lk15 : (Cond.fieldLink RX2 15 (TX2 4).1 (TX2 4).2.1 (TX2 4).2.2.1).before _ s = true := hta _ wdF_X2_15
  have lk18 : (Cond.fieldLink RX2 18 (TX2 0).1 (TX2 0).2.1 (TX2 0).2.2.1).before _ s = true := hta _ wdF_X2_18
  have lk22 : (Cond.fieldLink RX2 22 (TX2 1).1 (TX2 1).2.1 (TX2 1).2.2.1).before _ s = true := hta _ wdF_X2_22
  have lk26 : (Cond.fieldLink RX2 26 (TX2 2).1 (TX2 2).2.1 (TX2 2).2.2.1).before _ s = true := hta _ wdF_X2_26
  have lk36 : (Cond.fieldLink RX2 36 (TX1 4).1 (TX1 4).2.1 (TX1 4).2.2.1).before _ s = true := hta _ wdF_X2_36
  have lk41 : (Cond.fieldLink RX2 41 (TX1 6).1 (TX1 6).2.1 (TX1 6).2.2.1).before _ s = true := hta _ wdF_X2_41
  have lk55 : (Cond.fieldLink RX2 55 (TX1 1).1 (TX1 1).2.1 (TX1 1).2.2.1).before _ s = true := hta _ wdF_X2_55
  have lk9 : (Cond.fieldLink RX2 9 (TX2 3).1 (TX2 3).2.1 (TX2 3).2.2.1).before _ s = true := hta _ wdF_X2_9
  have hiniX3 := hta _ wdN_RX3
  have hstX3_labelOf := hta _ wdT_X3_labelOf
  have hstX3_pair := hta _ wdT_X3_pair
  have hl : lv_has ls 10 [(0, .ref (q 4)), (1, .int a1), (2, .int a2)] := hl
  unfold f_X2_walkR at h
  have kk11 : ∀ (n11 : Nat) (S : HSt) (x2 x3 x4 x5 x6 : Int32), f_X2_walkR_11 n11 S x2 x3 x4 x5 x6 = some (r, S9) → ∀ (H : Heap) (locs : List Loc) (ls : Array Slot), HW (dC, dI) (wC q cI) S A s H locs → lv_has ls 10 [(0, .ref (q 4)), (2, .int x2), (3, .int x3), (4, .int x4), (5, .int x5), (6, .int x6)] → W p l e rmX2_walk s m ([.ref (q 4), .int a1, .int a2] : List Value).toArray below meth c H locs 0 0 (MQ below (QI (dC, dI) (wC q cI) r S9 A) ([.ref (q 4), .int a1, .int a2] : List Value).toArray s 0 0 A) (F0 m 11 ls []) := by
    intro n11
    induction n11 with
    | zero =>
      intro S x2 x3 x4 x5 x6 h
      have h9 : (none : Option (Int32 × HSt)) = some (r, S9) := h
      cases h9
    | succ n11 ih11 =>
      intro S x2 x3 x4 x5 x6 h H locs ls hw hl
      have h : f_X2_walkR_11_s (f_X2_walkR_11 n11) S x2 x3 x4 x5 x6 = some (r, S9) := h
      unfold f_X2_walkR_11_s at h
      have kk64 : ∀ (S : HSt) (x2 x3 x4 x6 t0 : Int32), f_X2_walkR_64 (f_X2_walkR_11 n11) S x2 x3 x4 x6 t0 = some (r, S9) → ∀ (H : Heap) (locs : List Loc) (ls : Array Slot), HW (dC, dI) (wC q cI) S A s H locs → lv_has ls 10 [(0, .ref (q 4)), (2, .int x2), (3, .int x3), (4, .int x4), (6, .int x6)] → W p l e rmX2_walk s m ([.ref (q 4), .int a1, .int a2] : List Value).toArray below meth c H locs 0 0 (MQ below (QI (dC, dI) (wC q cI) r S9 A) ([.ref (q 4), .int a1, .int a2] : List Value).toArray s 0 0 A) (F0 m 64 ls [.int t0]) := by
        intro S x2 x3 x4 x6 t0 h H locs ls hw hl
        unfold f_X2_walkR_64 at h
        have kk138 : ∀ (S : HSt) (x2 x6 x8 x9 : Int32), f_X2_walkR_138 (f_X2_walkR_11 n11) S x2 x6 x8 x9 = some (r, S9) → ∀ (H : Heap) (locs : List Loc) (ls : Array Slot), HW (dC, dI) (wC q cI) S A s H locs → lv_has ls 10 [(0, .ref (q 4)), (2, .int x2), (6, .int x6), (8, .int x8), (9, .int x9)] → W p l e rmX2_walk s m ([.ref (q 4), .int a1, .int a2] : List Value).toArray below meth c H locs 0 0 (MQ below (QI (dC, dI) (wC q cI) r S9 A) ([.ref (q 4), .int a1, .int a2] : List Value).toArray s 0 0 A) (F0 m 138 ls []) := by
          intro S x2 x6 x8 x9 h H locs ls hw hl
          unfold f_X2_walkR_138 at h
          have kk156 : ∀ (S : HSt) (x2 x6 x8 t0 : Int32), f_X2_walkR_156 (f_X2_walkR_11 n11) S x2 x6 x8 t0 = some (r, S9) → ∀ (H : Heap) (locs : List Loc) (ls : Array Slot), HW (dC, dI) (wC q cI) S A s H locs → lv_has ls 10 [(0, .ref (q 4)), (2, .int x2), (6, .int x6), (8, .int x8)] → W p l e rmX2_walk s m ([.ref (q 4), .int a1, .int a2] : List Value).toArray below meth c H locs 0 0 (MQ below (QI (dC, dI) (wC q cI) r S9 A) ([.ref (q 4), .int a1, .int a2] : List Value).toArray s 0 0 A) (F0 m 156 ls [.int t0]) := by
            intro S x2 x6 x8 t0 h H locs ls hw hl
            unfold f_X2_walkR_156 at h
            refine lv_istore (lv' := [(4, .int t0), (0, .ref (q 4)), (2, .int x2), (6, .int x6), (8, .int x8)]) hx hb dX2_walk_156 hl (by decide) rfl (fun ls hl => ?_)
            refine lv_iload hx hb dX2_walk_158 (lv_at hl 4 rfl) ?_
            refine lv_iconst (v := 1) hx hb dX2_walk_160 (by decide) ?_
            refine lv_ixor hx hb dX2_walk_161 ?_
            refine lv_istore (lv' := [(5, .int (x8 ^^^ 1)), (4, .int t0), (0, .ref (q 4)), (2, .int x2), (6, .int x6), (8, .int x8)]) hx hb dX2_walk_162 hl (by decide) rfl (fun ls hl => ?_)
            refine lv_aload_n hx hb dX2_walk_164 rfl (lv_at hl 2 rfl) ?_
            refine h_get (v := .ref (q 1)) cx hw 4 (wC_p4 q cI S) rfl hinX2 0 (by decide) lk18 rfl dX2_walk_165 ?_
            refine h_get (v := .ref (q 5)) cx hw 1 (wC_p1 q cI S) rfl hinX1 1 (by decide) lk55 rfl dX2_walk_168 ?_
            refine lv_iload hx hb dX2_walk_171 (lv_at hl 0 rfl) ?_
            obtain ⟨v1, e2, h⟩ := h_bd_ok h
            refine h_ald cx hw 5 (wC_p5 q cI S) e2 dX2_walk_173 ?_
            refine lv_istore_n (lv' := [(3, .int v1), (5, .int (x8 ^^^ 1)), (4, .int t0), (0, .ref (q 4)), (2, .int x2), (6, .int x6), (8, .int x8)]) hx hb dX2_walk_174 rfl hl (by decide) rfl (fun ls hl => ?_)
            refine lv_iinc (v := x6 + 1) (lv' := [(6, .int (x6 + 1)), (3, .int v1), (5, .int (x8 ^^^ 1)), (4, .int t0), (0, .ref (q 4)), (2, .int x2), (8, .int x8)]) hx hb dX2_walk_175 hl (k := 5) rfl rfl (by decide) rfl (fun ls hl => ?_)
            refine lv_goto (tgt := 11) hx hb dX2_walk_178 (by decide) ?_
            exact ih11 _ _ _ _ _ _ h _ _ _ hw (lv_sub hl [4, 5, 1, 3, 2, 0] rfl)
          refine lv_iload hx hb dX2_walk_138 (lv_at hl 4 rfl) ?_
          obtain ⟨r1, e2, h⟩ := h_bd_ok h
          refine h_callN cx.1 (c_X3_labelOf l x9 r1 e2) ⟨va_cnB 1 hts (hgA (hcW wdC_X3_labelOf)) rfl rfl rfl cx.2.2.1.2.2.2.2.2.2.2 hiniX3 pdX3_labelOf.2 ⟨Nat.le_of_ble_eq_true rfl, Nat.le_of_ble_eq_true rfl⟩, hstX3_labelOf, trivial⟩ rfl hl.1 rfl (Nat.le_of_ble_eq_true rfl) dX2_walk_140 ⟨Nat.zero_le _, Nat.zero_le _⟩ ?_
          refine lv_iconst (v := 3) hx hb dX2_walk_143 (by decide) ?_
          refine lv_icmp_ne (tgt := 151) hx hb dX2_walk_144 (by decide) (fun c3 => ?_) (fun c3 => ?_)
          · have h := h_ifn c3 h
            refine lv_iload hx hb dX2_walk_151 (lv_at hl 4 rfl) ?_
            obtain ⟨r4, e5, h⟩ := h_bd_ok h
            refine h_callN cx.1 (c_X3_labelOf l x9 r4 e5) ⟨va_cnB 1 hts (hgA (hcW wdC_X3_labelOf)) rfl rfl rfl cx.2.2.1.2.2.2.2.2.2.2 hiniX3 pdX3_labelOf.2 ⟨Nat.le_of_ble_eq_true rfl, Nat.le_of_ble_eq_true rfl⟩, hstX3_labelOf, trivial⟩ rfl hl.1 rfl (Nat.le_of_ble_eq_true rfl) dX2_walk_153 ⟨Nat.zero_le _, Nat.zero_le _⟩ ?_
            exact kk156 _ _ _ _ _ h _ _ _ hw (lv_sub hl [0, 1, 2, 3] rfl)
          · have h := h_ifp c3 h
            refine lv_iconst (v := 0) hx hb dX2_walk_147 (by decide) ?_
            refine lv_goto (tgt := 156) hx hb dX2_walk_148 (by decide) ?_
            exact kk156 _ _ _ _ _ h _ _ _ hw (lv_sub hl [0, 1, 2, 3] rfl)
        refine lv_istore (lv' := [(7, .int t0), (0, .ref (q 4)), (2, .int x2), (3, .int x3), (4, .int x4), (6, .int x6)]) hx hb dX2_walk_64 hl (by decide) rfl (fun ls hl => ?_)
        refine lv_iload hx hb dX2_walk_66 (lv_at hl 0 rfl) ?_
        refine lv_iconst (v := (-1)) hx hb dX2_walk_68 (by decide) ?_
        refine lv_icmp_ne (tgt := 74) hx hb dX2_walk_69 (by decide) (fun c1 => ?_) (fun c1 => ?_)
        · have h := h_ifn c1 h
          refine lv_aload_n hx hb dX2_walk_74 rfl (lv_at hl 1 rfl) ?_
          refine h_get (v := .ref (q 1)) cx hw 4 (wC_p4 q cI S) rfl hinX2 0 (by decide) lk18 rfl dX2_walk_75 ?_
          refine h_get (v := .ref (q 8)) cx hw 1 (wC_p1 q cI S) rfl hinX1 4 (by decide) lk36 rfl dX2_walk_78 ?_
          refine lv_iload hx hb dX2_walk_81 (lv_at hl 0 rfl) ?_
          obtain ⟨v2, e3, h⟩ := h_bd_ok h
          refine h_ald cx hw 8 (wC_p8 q cI S) e3 dX2_walk_83 ?_
          refine lv_iload_n hx hb dX2_walk_84 rfl (lv_at hl 3 rfl) ?_
          refine lv_icmp_ne (tgt := 90) hx hb dX2_walk_85 (by decide) (fun c4 => ?_) (fun c4 => ?_)
          · have h := h_ifn c4 h
            refine lv_aload_n hx hb dX2_walk_90 rfl (lv_at hl 1 rfl) ?_
            refine h_get (v := .ref (q 1)) cx hw 4 (wC_p4 q cI S) rfl hinX2 0 (by decide) lk18 rfl dX2_walk_91 ?_
            refine h_get (v := .ref (q 10)) cx hw 1 (wC_p1 q cI S) rfl hinX1 6 (by decide) lk41 rfl dX2_walk_94 ?_
            refine lv_iload_n hx hb dX2_walk_97 rfl (lv_at hl 3 rfl) ?_
            refine lv_iload hx hb dX2_walk_98 (lv_at hl 0 rfl) ?_
            obtain ⟨r5, e6, h⟩ := h_bd_ok h
            refine h_callN cx.1 (c_X3_pair l x3 t0 r5 e6) ⟨va_cnB 2 hts (hgA (hcW wdC_X3_pair)) rfl rfl rfl cx.2.2.1.2.2.2.2.2.2.1 hiniX3 pdX3_pair.2 ⟨Nat.le_of_ble_eq_true rfl, Nat.le_of_ble_eq_true rfl⟩, hstX3_pair, trivial⟩ rfl hl.1 rfl (Nat.le_of_ble_eq_true rfl) dX2_walk_100 ⟨Nat.zero_le _, Nat.zero_le _⟩ ?_
            obtain ⟨v7, e8, h⟩ := h_bd_ok h
            refine h_ald cx hw 10 (wC_p10 q cI S) e8 dX2_walk_103 ?_
            refine lv_istore (lv' := [(8, .int v7), (7, .int t0), (0, .ref (q 4)), (2, .int x2), (3, .int x3), (4, .int x4), (6, .int x6)]) hx hb dX2_walk_104 hl (by decide) rfl (fun ls hl => ?_)
            refine lv_iload hx hb dX2_walk_106 (lv_at hl 0 rfl) ?_
            refine lv_iconst (v := (-1)) hx hb dX2_walk_108 (by decide) ?_
            refine lv_icmp_ne (tgt := 114) hx hb dX2_walk_109 (by decide) (fun c9 => ?_) (fun c9 => ?_)
            · have h := h_ifn c9 h
              refine lv_aload_n hx hb dX2_walk_114 rfl (lv_at hl 2 rfl) ?_
              refine h_get (v := .ref (q 2)) cx hw 4 (wC_p4 q cI S) rfl hinX2 1 (by decide) lk22 rfl dX2_walk_115 ?_
              refine lv_iload_n hx hb dX2_walk_118 rfl (lv_at hl 4 rfl) ?_
              refine lv_iload hx hb dX2_walk_119 (lv_at hl 1 rfl) ?_
              obtain ⟨r10, e11, h⟩ := h_bd_ok h
              refine h_callI cx hw (c_X0_slipUsed l dC dI cI cZ q S x3 t0 r10 e11) (cwV 2 hts (hgA (hcV wdL_X2_48 wdI_X0_slipUsed wdS_X0_slipUsed wdN_RX0 wdC_X0_slipUsed)) rfl rfl rfl pdX0_slipUsed ⟨Nat.le_of_ble_eq_true rfl, Nat.le_of_ble_eq_true rfl⟩) 2 (wC_p2 q cI S) rfl rfl rfl hl.1 rfl (Nat.le_of_ble_eq_true rfl) dX2_walk_121 ⟨Nat.zero_le _, Nat.zero_le _⟩ (fun H locs hw => ?_)
              refine lv_istore (lv' := [(9, .int r10), (8, .int v7), (7, .int t0), (0, .ref (q 4)), (2, .int x2), (3, .int x3), (4, .int x4), (6, .int x6)]) hx hb dX2_walk_124 hl (by decide) rfl (fun ls hl => ?_)
              refine lv_iload hx hb dX2_walk_126 (lv_at hl 0 rfl) ?_
              refine lv_if_ne (tgt := 138) hx hb dX2_walk_128 (by decide) (fun c12 => ?_) (fun c12 => ?_)
              · have h := h_ifn c12 h
                exact kk138 _ _ _ _ _ h _ _ _ hw (lv_sub hl [3, 4, 7, 1, 0] rfl)
              · have h := h_ifp c12 h
                refine lv_iload hx hb dX2_walk_131 (lv_at hl 6 rfl) ?_
                refine lv_if_eq (tgt := 138) hx hb dX2_walk_133 (by decide) (fun c13 => ?_) (fun c13 => ?_)
                · have h := h_ifp c13 h
                  exact kk138 _ _ _ _ _ h _ _ _ hw (lv_sub hl [3, 4, 7, 1, 0] rfl)
                · have h := h_ifn c13 h
                  refine lv_iconst (v := 3) hx hb dX2_walk_136 (by decide) ?_
                  exact h_iret cx hw hr hlk rfl (congrArg Prod.fst (Option.some.inj h)) (congrArg Prod.snd (Option.some.inj h)) dX2_walk_137
            · have h := h_ifp c9 h
              refine lv_iconst (v := 1) hx hb dX2_walk_112 (by decide) ?_
              exact h_iret cx hw hr hlk rfl (congrArg Prod.fst (Option.some.inj h)) (congrArg Prod.snd (Option.some.inj h)) dX2_walk_113
          · have h := h_ifp c4 h
            refine lv_iconst (v := 0) hx hb dX2_walk_88 (by decide) ?_
            exact h_iret cx hw hr hlk rfl (congrArg Prod.fst (Option.some.inj h)) (congrArg Prod.snd (Option.some.inj h)) dX2_walk_89
        · have h := h_ifp c1 h
          refine lv_iconst (v := 2) hx hb dX2_walk_72 (by decide) ?_
          exact h_iret cx hw hr hlk rfl (congrArg Prod.fst (Option.some.inj h)) (congrArg Prod.snd (Option.some.inj h)) dX2_walk_73
      refine lv_iload hx hb dX2_walk_11 (lv_at hl 5 rfl) ?_
      refine lv_bipush (v := 14) hx hb dX2_walk_13 (by decide) ?_
      refine lv_icmp_gt (tgt := 181) hx hb dX2_walk_15 (by decide) (fun c1 => ?_) (fun c1 => ?_)
      · have h := h_ifp c1 h
        refine lv_iconst (v := 4) hx hb dX2_walk_181 (by decide) ?_
        exact h_iret cx hw hr hlk rfl (congrArg Prod.fst (Option.some.inj h)) (congrArg Prod.snd (Option.some.inj h)) dX2_walk_182
      · have h := h_ifn c1 h
        refine lv_aload_n hx hb dX2_walk_18 rfl (lv_at hl 0 rfl) ?_
        refine h_get (v := .ref (q 21)) cx hw 4 (wC_p4 q cI S) rfl hinX2 3 (by decide) lk9 rfl dX2_walk_19 ?_
        refine lv_iload hx hb dX2_walk_22 (lv_at hl 5 rfl) ?_
        refine lv_iload_n hx hb dX2_walk_24 rfl (lv_at hl 2 rfl) ?_
        obtain ⟨S2, e3, h⟩ := h_bd_ok h
        refine h_ast cx hw 21 (wC_p21 q cI S) (wC_s21 q cI S) e3 dX2_walk_25 (fun H locs hw => ?_)
        refine lv_aload_n hx hb dX2_walk_26 rfl (lv_at hl 0 rfl) ?_
        refine h_get (v := .ref (q 22)) cx hw 4 (wC_p4 q cI S2) rfl hinX2 4 (by decide) lk15 rfl dX2_walk_27 ?_
        refine lv_iload hx hb dX2_walk_30 (lv_at hl 5 rfl) ?_
        refine lv_iload hx hb dX2_walk_32 (lv_at hl 3 rfl) ?_
        obtain ⟨S4, e5, h⟩ := h_bd_ok h
        refine h_ast cx hw 22 (wC_p22 q cI S2) (wC_s22 q cI S2) e5 dX2_walk_34 (fun H locs hw => ?_)
        refine lv_aload_n hx hb dX2_walk_35 rfl (lv_at hl 0 rfl) ?_
        refine lv_iload hx hb dX2_walk_36 (lv_at hl 5 rfl) ?_
        refine lv_iconst (v := 1) hx hb dX2_walk_38 (by decide) ?_
        refine lv_iadd hx hb dX2_walk_39 ?_
        obtain ⟨S6, e7, h⟩ := h_bd_ok h
        refine h_puti (x := x6 + 1) cx hw 4 (wC_p4 q cI S4) rfl hinX2 tyX2 tyX2_ok nmX2 2 (by decide) lk26 rfl (by decide +kernel) (Nat.le_of_ble_eq_true rfl) 5 (wC_i5 q cI S4 (x6 + 1)) e7 dX2_walk_40 (fun H locs hw => ?_)
        refine lv_iload hx hb dX2_walk_43 (lv_at hl 3 rfl) ?_
        refine lv_if_ne (tgt := 52) hx hb dX2_walk_45 (by decide) (fun c8 => ?_) (fun c8 => ?_)
        · have h := h_ifn c8 h
          refine lv_aload_n hx hb dX2_walk_52 rfl (lv_at hl 0 rfl) ?_
          refine h_get (v := .ref (q 2)) cx hw 4 (wC_p4 q cI S6) rfl hinX2 1 (by decide) lk22 rfl dX2_walk_53 ?_
          refine lv_iload_n hx hb dX2_walk_56 rfl (lv_at hl 2 rfl) ?_
          refine lv_iload hx hb dX2_walk_57 (lv_at hl 4 rfl) ?_
          refine lv_iload hx hb dX2_walk_59 (lv_at hl 3 rfl) ?_
          obtain ⟨r9, e10, h⟩ := h_bd_ok h
          refine h_callI cx hw (c_X0_classMeant l dC dI cI cZ q S6 x3 x5 x4 r9 e10) (cwV 3 hts (hgA (hcV wdL_X2_30 wdI_X0_classMeant wdS_X0_classMeant wdN_RX0 wdC_X0_classMeant)) rfl rfl rfl pdX0_classMeant ⟨Nat.le_of_ble_eq_true rfl, Nat.le_of_ble_eq_true rfl⟩) 2 (wC_p2 q cI S6) rfl rfl rfl hl.1 rfl (Nat.le_of_ble_eq_true rfl) dX2_walk_61 ⟨Nat.zero_le _, Nat.zero_le _⟩ (fun H locs hw => ?_)
          exact kk64 _ _ _ _ _ _ h _ _ _ hw (lv_sub hl [0, 1, 2, 3, 5] rfl)
        · have h := h_ifp c8 h
          refine lv_iload_n hx hb dX2_walk_48 rfl (lv_at hl 1 rfl) ?_
          refine lv_goto (tgt := 64) hx hb dX2_walk_49 (by decide) ?_
          exact kk64 _ _ _ _ _ _ h _ _ _ hw (lv_sub hl [0, 1, 2, 3, 5] rfl)
  refine lv_iload_n hx hb dX2_walk_0 rfl (lv_at hl 1 rfl) ?_
  refine lv_istore_n (lv' := [(3, .int a1), (0, .ref (q 4)), (1, .int a1), (2, .int a2)]) hx hb dX2_walk_1 rfl hl (by decide) rfl (fun ls hl => ?_)
  refine lv_iconst (v := 0) hx hb dX2_walk_2 (by decide) ?_
  refine lv_istore (lv' := [(4, .int 0), (3, .int a1), (0, .ref (q 4)), (1, .int a1), (2, .int a2)]) hx hb dX2_walk_3 hl (by decide) rfl (fun ls hl => ?_)
  refine lv_iconst (v := (-1)) hx hb dX2_walk_5 (by decide) ?_
  refine lv_istore (lv' := [(5, .int (-1)), (4, .int 0), (3, .int a1), (0, .ref (q 4)), (1, .int a1), (2, .int a2)]) hx hb dX2_walk_6 hl (by decide) rfl (fun ls hl => ?_)
  refine lv_iconst (v := 0) hx hb dX2_walk_8 (by decide) ?_
  refine lv_istore (lv' := [(6, .int 0), (5, .int (-1)), (4, .int 0), (3, .int a1), (0, .ref (q 4)), (1, .int a1), (2, .int a2)]) hx hb dX2_walk_9 hl (by decide) rfl (fun ls hl => ?_)
  exact kk11 h_fu _ _ _ _ _ _ h _ _ _ hw (lv_sub hl [4, 6, 3, 2, 1, 0] rfl)
set_option maxHeartbeats 4000000 in
set_option maxRecDepth 100000 in
theorem c_X2_labelledBetweenR (l : Launch) (dC : Nat → ClassId) (dI : Nat → Nat → Nat) (cI cZ : ClassId) (q : Nat → Nat) (S : HSt) (r : Int32) (h : f_X2_labelledBetweenR S = some r) : MI l yX2_labelledBetween hsX2_labelledBetween rmX2_labelledBetween (dC, dI) cI cZ (wC q cI) S [.ref (q 4)] r S := by
  refine MI.ofW (cc := cX2_labelledBetween) (maxL := 2) (ret := (some .boolean)) (by decide +kernel) rfl (Nat.le_of_ble_eq_true rfl) ?_
  intro p e s m below meth c A cx hr hlk hw ls hl
  have hx := cx.1.1
  have hb := cx.1.2.1
  have hml := cx.1.2.2.1
  have hts := cx.1.2.2.2.2
  have hta : ∀ z ∈ hALL, z.before _ s = true := fun z h => hts z (List.mem_cons_of_mem _ h)
  have lk15 : (Cond.fieldLink RX2 15 (TX2 4).1 (TX2 4).2.1 (TX2 4).2.2.1).before _ s = true := hta _ wdF_X2_15
  have lk26 : (Cond.fieldLink RX2 26 (TX2 2).1 (TX2 2).2.1 (TX2 2).2.2.1).before _ s = true := hta _ wdF_X2_26
  have hl : lv_has ls 2 [(0, .ref (q 4))] := hl
  unfold f_X2_labelledBetweenR at h
  have kk2 : ∀ (n2 : Nat) (x1 : Int32), f_X2_labelledBetweenR_2 S n2 x1 = some r → ∀ (H : Heap) (locs : List Loc) (ls : Array Slot), HW (dC, dI) (wC q cI) S A s H locs → lv_has ls 2 [(0, .ref (q 4)), (1, .int x1)] → W p l e rmX2_labelledBetween s m ([.ref (q 4)] : List Value).toArray below meth c H locs 0 0 (MQ below (QI (dC, dI) (wC q cI) r S A) ([.ref (q 4)] : List Value).toArray s 0 0 A) (F0 m 2 ls []) := by
    intro n2
    induction n2 with
    | zero =>
      intro x1 h
      have h9 : (none : Option Int32) = some r := h
      cases h9
    | succ n2 ih2 =>
      intro x1 h H locs ls hw hl
      have h : f_X2_labelledBetweenR_2_s S (f_X2_labelledBetweenR_2 S n2) x1 = some r := h
      unfold f_X2_labelledBetweenR_2_s at h
      refine lv_iload_n hx hb dX2_labelledBetween_2 rfl (lv_at hl 1 rfl) ?_
      refine lv_aload_n hx hb dX2_labelledBetween_3 rfl (lv_at hl 0 rfl) ?_
      refine h_get (v := .int (S.1 5)) cx hw 4 (wC_p4 q cI S) rfl hinX2 2 (by decide) lk26 rfl dX2_labelledBetween_4 ?_
      refine lv_iconst (v := 1) hx hb dX2_labelledBetween_7 (by decide) ?_
      refine lv_isub hx hb dX2_labelledBetween_8 ?_
      refine lv_icmp_ge (tgt := 29) hx hb dX2_labelledBetween_9 (by decide) (fun c1 => ?_) (fun c1 => ?_)
      · have h := h_ifp c1 h
        refine lv_iconst (v := 1) hx hb dX2_labelledBetween_29 (by decide) ?_
        exact h_iret cx hw hr hlk rfl (Option.some.inj h) rfl dX2_labelledBetween_30
      · have h := h_ifn c1 h
        refine lv_aload_n hx hb dX2_labelledBetween_12 rfl (lv_at hl 0 rfl) ?_
        refine h_get (v := .ref (q 22)) cx hw 4 (wC_p4 q cI S) rfl hinX2 4 (by decide) lk15 rfl dX2_labelledBetween_13 ?_
        refine lv_iload_n hx hb dX2_labelledBetween_16 rfl (lv_at hl 1 rfl) ?_
        obtain ⟨v2, e3, h⟩ := h_bd_ok h
        refine h_ald cx hw 22 (wC_p22 q cI S) e3 dX2_labelledBetween_17 ?_
        refine lv_if_ne (tgt := 23) hx hb dX2_labelledBetween_18 (by decide) (fun c4 => ?_) (fun c4 => ?_)
        · have h := h_ifn c4 h
          refine lv_iinc (v := x1 + 1) (lv' := [(1, .int (x1 + 1)), (0, .ref (q 4))]) hx hb dX2_labelledBetween_23 hl (k := 1) rfl rfl (by decide) rfl (fun ls hl => ?_)
          refine lv_goto (tgt := 2) hx hb dX2_labelledBetween_26 (by decide) ?_
          exact ih2 _ h _ _ _ hw (lv_sub hl [1, 0] rfl)
        · have h := h_ifp c4 h
          refine lv_iconst (v := 0) hx hb dX2_labelledBetween_21 (by decide) ?_
          exact h_iret cx hw hr hlk rfl (Option.some.inj h) rfl dX2_labelledBetween_22
  refine lv_iconst (v := 1) hx hb dX2_labelledBetween_0 (by decide) ?_
  refine lv_istore_n (lv' := [(1, .int 1), (0, .ref (q 4))]) hx hb dX2_labelledBetween_1 rfl hl (by decide) rfl (fun ls hl => ?_)
  exact kk2 h_fu _ h _ _ _ hw (lv_sub hl [1, 0] rfl)
set_option maxHeartbeats 4000000 in
set_option maxRecDepth 100000 in
theorem c_X3_isBox (l : Launch) (a0 : Int32) (r : Int32) (h : f_X3_isBox a0 = some r) : MS l yX3_isBox hsX3_isBox rmX3_isBox [.int a0] r := by
  refine MS.ofW (cc := cX3_isBox) (maxL := 1) (ret := (some .boolean)) (by decide +kernel) rfl (Nat.le_of_ble_eq_true rfl) ?_
  intro p e s m below meth c cf hr hlk ls hl
  have hx := cf.1
  have hb := cf.2.1
  have hml := cf.2.2.1
  have hts := cf.2.2.2.2
  have hta : ∀ z ∈ hALL, z.before _ s = true := fun z h => hts z (List.mem_cons_of_mem _ h)
  have hl : lv_has ls 1 [(0, .int a0)] := hl
  unfold f_X3_isBox at h
  refine lv_iload_n hx hb dX3_isBox_0 rfl (lv_at hl 0 rfl) ?_
  refine lv_if_lt (tgt := 14) hx hb dX3_isBox_1 (by decide) (fun c1 => ?_) (fun c1 => ?_)
  · have h := h_ifp c1 h
    refine lv_iconst (v := 0) hx hb dX3_isBox_14 (by decide) ?_
    exact h_sret cf hr hlk rfl (Option.some.inj h) dX3_isBox_15
  · have h := h_ifn c1 h
    refine lv_iload_n hx hb dX3_isBox_4 rfl (lv_at hl 0 rfl) ?_
    refine lv_bipush (v := 7) hx hb dX3_isBox_5 (by decide) ?_
    refine lv_icmp_ge (tgt := 14) hx hb dX3_isBox_7 (by decide) (fun c2 => ?_) (fun c2 => ?_)
    · have h := h_ifp c2 h
      refine lv_iconst (v := 0) hx hb dX3_isBox_14 (by decide) ?_
      exact h_sret cf hr hlk rfl (Option.some.inj h) dX3_isBox_15
    · have h := h_ifn c2 h
      refine lv_iconst (v := 1) hx hb dX3_isBox_10 (by decide) ?_
      refine lv_goto (tgt := 15) hx hb dX3_isBox_11 (by decide) ?_
      exact h_sret cf hr hlk rfl (Option.some.inj h) dX3_isBox_15
