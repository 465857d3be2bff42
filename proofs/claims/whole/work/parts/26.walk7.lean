set_option maxHeartbeats 4000000 in
set_option maxRecDepth 100000 in
theorem c_X4_handsAll (l : Launch) (dC : Nat → ClassId) (dI : Nat → Nat → Nat) (cI cZ : ClassId) (q : Nat → Nat) (S : HSt) (a1 : Int32) (S9 : HSt) (h : f_X4_handsAll S a1 = some S9) : MV l yX4_handsAll hsX4_handsAll rmX4_handsAll (dC, dI) cI cZ (wM q cI cZ) S [.ref (q 0), .int a1] S9 := by
  refine MV.ofW (cc := cX4_handsAll) (maxL := 3) (ret := none) (by decide +kernel) rfl (Nat.le_of_ble_eq_true rfl) ?_
  intro p e s m below meth c A cx hr hlk hw ls hl
  have hx := cx.1.1
  have hb := cx.1.2.1
  have hml := cx.1.2.2.1
  have hts := cx.1.2.2.2.2
  have hta : ∀ z ∈ hALL, z.before _ s = true := fun z h => hts z (List.mem_cons_of_mem _ h)
  have lk84 : (Cond.fieldLink RX4 84 (TX4 0).1 (TX4 0).2.1 (TX4 0).2.2.1).before _ s = true := hta _ wdF_X4_84
  have hl : lv_has ls 3 [(0, .ref (q 0)), (1, .int a1)] := hl
  unfold f_X4_handsAll at h
  have kk19 : ∀ (n19 : Nat) (S : HSt) (x1 x2 : Int32), f_X4_handsAll_19 n19 S x1 x2 = some S9 → ∀ (H : Heap) (locs : List Loc) (ls : Array Slot), HW (dC, dI) (wM q cI cZ) S A s H locs → lv_has ls 3 [(0, .ref (q 0)), (1, .int x1), (2, .int x2)] → W p l e rmX4_handsAll s m ([.ref (q 0), .int a1] : List Value).toArray below meth c H locs 0 0 (MQ below (QV (dC, dI) (wM q cI cZ) S9 A) ([.ref (q 0), .int a1] : List Value).toArray s 0 0 A) (F0 m 19 ls []) := by
    intro n19
    induction n19 with
    | zero =>
      intro S x1 x2 h
      have h9 : (none : Option HSt) = some S9 := h
      cases h9
    | succ n19 ih19 =>
      intro S x1 x2 h H locs ls hw hl
      have h : f_X4_handsAll_19_s (f_X4_handsAll_19 n19) S x1 x2 = some S9 := h
      unfold f_X4_handsAll_19_s at h
      refine lv_iload_n hx hb dX4_handsAll_19 rfl (lv_at hl 2 rfl) ?_
      refine lv_aload_n hx hb dX4_handsAll_20 rfl (lv_at hl 0 rfl) ?_
      refine h_get (v := .int (S.1 0)) cx hw 0 (wM_p0 q cI cZ S) rfl hinX4 0 (by decide) lk84 rfl dX4_handsAll_21 ?_
      refine lv_icmp_ge (tgt := 39) hx hb dX4_handsAll_24 (by decide) (fun c1 => ?_) (fun c1 => ?_)
      · have h := h_ifp c1 h
        exact h_vret cx hw hr hlk (Option.some.inj h) dX4_handsAll_39
      · have h := h_ifn c1 h
        refine lv_aload_n hx hb dX4_handsAll_27 rfl (lv_at hl 0 rfl) ?_
        refine lv_iload_n hx hb dX4_handsAll_28 rfl (lv_at hl 1 rfl) ?_
        refine lv_iload_n hx hb dX4_handsAll_29 rfl (lv_at hl 2 rfl) ?_
        obtain ⟨S4, e3, h⟩ := h_bd_ok h
        refine h_callV cx hw (c_X4_handsRow l dC dI cI cZ q S x1 x2 S4 e3) (cwV 2 hts (hgA (hcV wdL_X4_145 wdI_X4_handsRow wdS_X4_handsRow wdN_RX4 wdC_X4_handsRow)) rfl rfl rfl pdX4_handsRow ⟨Nat.le_of_ble_eq_true rfl, Nat.le_of_ble_eq_true rfl⟩) 0 (wM_p0 q cI cZ S) rfl rfl rfl hl.1 rfl (Nat.le_of_ble_eq_true rfl) dX4_handsAll_30 ⟨Nat.zero_le _, Nat.zero_le _⟩ (fun H locs hw => ?_)
        refine lv_iinc (v := x2 + 1) (lv' := [(2, .int (x2 + 1)), (0, .ref (q 0)), (1, .int x1)]) hx hb dX4_handsAll_33 hl (k := 2) rfl rfl (by decide) rfl (fun ls hl => ?_)
        refine lv_goto (tgt := 19) hx hb dX4_handsAll_36 (by decide) ?_
        exact ih19 _ _ _ h _ _ _ hw (lv_sub hl [1, 2, 0] rfl)
  refine lv_aload_n hx hb dX4_handsAll_0 rfl (lv_at hl 0 rfl) ?_
  refine lv_iload_n hx hb dX4_handsAll_1 rfl (lv_at hl 1 rfl) ?_
  refine lv_iconst (v := 2) hx hb dX4_handsAll_2 (by decide) ?_
  obtain ⟨r1, e2, h⟩ := h_bd_ok h
  refine h_callI cx hw (c_X4_is l dC dI cI cZ q S a1 2 r1 e2) (cwV 2 hts (hgA (hcV wdL_X4_120 wdI_X4_is wdS_X4_is wdN_RX4 wdC_X4_is)) rfl rfl rfl pdX4_is ⟨Nat.le_of_ble_eq_true rfl, Nat.le_of_ble_eq_true rfl⟩) 0 (wM_p0 q cI cZ S) rfl rfl rfl hl.1 rfl (Nat.le_of_ble_eq_true rfl) dX4_handsAll_3 ⟨Nat.zero_le _, Nat.zero_le _⟩ (fun H locs hw => ?_)
  refine lv_if_ne (tgt := 17) hx hb dX4_handsAll_6 (by decide) (fun c3 => ?_) (fun c3 => ?_)
  · have h := h_ifn c3 h
    refine lv_iconst (v := 0) hx hb dX4_handsAll_17 (by decide) ?_
    refine lv_istore_n (lv' := [(2, .int 0), (0, .ref (q 0)), (1, .int a1)]) hx hb dX4_handsAll_18 rfl hl (by decide) rfl (fun ls hl => ?_)
    exact kk19 h_fu _ _ _ h _ _ _ hw (lv_sub hl [1, 2, 0] rfl)
  · have h := h_ifp c3 h
    refine lv_aload_n hx hb dX4_handsAll_9 rfl (lv_at hl 0 rfl) ?_
    refine lv_iload_n hx hb dX4_handsAll_10 rfl (lv_at hl 1 rfl) ?_
    refine lv_bipush (v := (-9)) hx hb dX4_handsAll_11 (by decide) ?_
    obtain ⟨S6, e5, h⟩ := h_bd_ok h
    refine h_callV cx hw (c_X4_handsRow l dC dI cI cZ q S a1 (-9) S6 e5) (cwV 2 hts (hgA (hcV wdL_X4_145 wdI_X4_handsRow wdS_X4_handsRow wdN_RX4 wdC_X4_handsRow)) rfl rfl rfl pdX4_handsRow ⟨Nat.le_of_ble_eq_true rfl, Nat.le_of_ble_eq_true rfl⟩) 0 (wM_p0 q cI cZ S) rfl rfl rfl hl.1 rfl (Nat.le_of_ble_eq_true rfl) dX4_handsAll_13 ⟨Nat.zero_le _, Nat.zero_le _⟩ (fun H locs hw => ?_)
    exact h_vret cx hw hr hlk (Option.some.inj h) dX4_handsAll_16
set_option maxHeartbeats 4000000 in
set_option maxRecDepth 100000 in
theorem c_X4_keeps (l : Launch) (dC : Nat → ClassId) (dI : Nat → Nat → Nat) (cI cZ : ClassId) (q : Nat → Nat) (S : HSt) (S9 : HSt) (h : f_X4_keeps S = some S9) : MV l yX4_keeps hsX4_keeps rmX4_keeps (dC, dI) cI cZ (wM q cI cZ) S [.ref (q 0)] S9 := by
  refine MV.ofW (cc := cX4_keeps) (maxL := 7) (ret := none) (by decide +kernel) rfl (Nat.le_of_ble_eq_true rfl) ?_
  intro p e s m below meth c A cx hr hlk hw ls hl
  have hx := cx.1.1
  have hb := cx.1.2.1
  have hml := cx.1.2.2.1
  have hts := cx.1.2.2.2.2
  have hta : ∀ z ∈ hALL, z.before _ s = true := fun z h => hts z (List.mem_cons_of_mem _ h)
  have lk19 : (Cond.fieldLink RX4 19 (TX4 4).1 (TX4 4).2.1 (TX4 4).2.2.1).before _ s = true := hta _ wdF_X4_19
  have lk35 : (Cond.fieldLink RX4 35 (TX4 9).1 (TX4 9).2.1 (TX4 9).2.2.1).before _ s = true := hta _ wdF_X4_35
  have lk38 : (Cond.fieldLink RX4 38 (TX4 10).1 (TX4 10).2.1 (TX4 10).2.2.1).before _ s = true := hta _ wdF_X4_38
  have lk41 : (Cond.fieldLink RX4 41 (TX4 11).1 (TX4 11).2.1 (TX4 11).2.2.1).before _ s = true := hta _ wdF_X4_41
  have lk44 : (Cond.fieldLink RX4 44 (TX4 12).1 (TX4 12).2.1 (TX4 12).2.2.1).before _ s = true := hta _ wdF_X4_44
  have lk59 : (Cond.fieldLink RX4 59 (TX4 18).1 (TX4 18).2.1 (TX4 18).2.2.1).before _ s = true := hta _ wdF_X4_59
  have hl : lv_has ls 7 [(0, .ref (q 0))] := hl
  unfold f_X4_keeps at h
  have kk2 : ∀ (n2 : Nat) (S : HSt) (x1 : Int32), f_X4_keeps_2 n2 S x1 = some S9 → ∀ (H : Heap) (locs : List Loc) (ls : Array Slot), HW (dC, dI) (wM q cI cZ) S A s H locs → lv_has ls 7 [(0, .ref (q 0)), (1, .int x1)] → W p l e rmX4_keeps s m ([.ref (q 0)] : List Value).toArray below meth c H locs 0 0 (MQ below (QV (dC, dI) (wM q cI cZ) S9 A) ([.ref (q 0)] : List Value).toArray s 0 0 A) (F0 m 2 ls []) := by
    intro n2
    induction n2 with
    | zero =>
      intro S x1 h
      have h9 : (none : Option HSt) = some S9 := h
      cases h9
    | succ n2 ih2 =>
      intro S x1 h H locs ls hw hl
      have h : f_X4_keeps_2_s (f_X4_keeps_2 n2) S x1 = some S9 := h
      unfold f_X4_keeps_2_s at h
      have kk146 : ∀ (S : HSt) (x1 : Int32), f_X4_keeps_146 (f_X4_keeps_2 n2) S x1 = some S9 → ∀ (H : Heap) (locs : List Loc) (ls : Array Slot), HW (dC, dI) (wM q cI cZ) S A s H locs → lv_has ls 7 [(0, .ref (q 0)), (1, .int x1)] → W p l e rmX4_keeps s m ([.ref (q 0)] : List Value).toArray below meth c H locs 0 0 (MQ below (QV (dC, dI) (wM q cI cZ) S9 A) ([.ref (q 0)] : List Value).toArray s 0 0 A) (F0 m 146 ls []) := by
        intro S x1 h H locs ls hw hl
        unfold f_X4_keeps_146 at h
        refine lv_iinc (v := x1 + 1) (lv' := [(1, .int (x1 + 1)), (0, .ref (q 0))]) hx hb dX4_keeps_146 hl (k := 1) rfl rfl (by decide) rfl (fun ls hl => ?_)
        refine lv_goto (tgt := 2) hx hb dX4_keeps_149 (by decide) ?_
        exact ih2 _ _ h _ _ _ hw (lv_sub hl [1, 0] rfl)
      have kk97 : ∀ (S : HSt) (x1 x3 x4 x5 t0 : Int32), f_X4_keeps_97 (f_X4_keeps_2 n2) S x1 x3 x4 x5 t0 = some S9 → ∀ (H : Heap) (locs : List Loc) (ls : Array Slot), HW (dC, dI) (wM q cI cZ) S A s H locs → lv_has ls 7 [(0, .ref (q 0)), (1, .int x1), (3, .int x3), (4, .int x4), (5, .int x5)] → W p l e rmX4_keeps s m ([.ref (q 0)] : List Value).toArray below meth c H locs 0 0 (MQ below (QV (dC, dI) (wM q cI cZ) S9 A) ([.ref (q 0)] : List Value).toArray s 0 0 A) (F0 m 97 ls [.int t0]) := by
        intro S x1 x3 x4 x5 t0 h H locs ls hw hl
        unfold f_X4_keeps_97 at h
        have kk126 : ∀ (S : HSt) (x1 x3 x4 x5 t0 t1 : Int32), f_X4_keeps_126 (f_X4_keeps_2 n2) S x1 x3 x4 x5 t0 t1 = some S9 → ∀ (H : Heap) (locs : List Loc) (ls : Array Slot), HW (dC, dI) (wM q cI cZ) S A s H locs → lv_has ls 7 [(0, .ref (q 0)), (1, .int x1), (3, .int x3), (4, .int x4), (5, .int x5)] → W p l e rmX4_keeps s m ([.ref (q 0)] : List Value).toArray below meth c H locs 0 0 (MQ below (QV (dC, dI) (wM q cI cZ) S9 A) ([.ref (q 0)] : List Value).toArray s 0 0 A) (F0 m 126 ls [.int t0, .int t1, .ref (q 11)]) := by
          intro S x1 x3 x4 x5 t0 t1 h H locs ls hw hl
          unfold f_X4_keeps_126 at h
          obtain ⟨S1, e2, h⟩ := h_bd_ok h
          refine h_ast cx hw 11 (wM_p11 q cI cZ S) (wM_s11 q cI cZ S) e2 dX4_keeps_126 (fun H locs hw => ?_)
          refine lv_aload_n hx hb dX4_keeps_127 rfl (lv_at hl 0 rfl) ?_
          refine h_get (v := .ref (q 12)) cx hw 0 (wM_p0 q cI cZ S1) rfl hinX4 12 (by decide) lk44 rfl dX4_keeps_128 ?_
          refine lv_iload_n hx hb dX4_keeps_131 rfl (lv_at hl 1 rfl) ?_
          refine lv_aload_n hx hb dX4_keeps_132 rfl (lv_at hl 0 rfl) ?_
          refine h_get (v := .ref (q 10)) cx hw 0 (wM_p0 q cI cZ S1) rfl hinX4 10 (by decide) lk38 rfl dX4_keeps_133 ?_
          refine lv_iload hx hb dX4_keeps_136 (lv_at hl 4 rfl) ?_
          refine lv_iload_n hx hb dX4_keeps_138 rfl (lv_at hl 2 rfl) ?_
          refine lv_iload hx hb dX4_keeps_139 (lv_at hl 3 rfl) ?_
          obtain ⟨r3, e4, h⟩ := h_bd_ok h
          refine h_callS cx.1 (c_X4_at l x5 x3 x4 r3 e4) (va_cwS 3 hts (hgA (hcS wdL_X4_109 wdT_X4_at wdN_RX4 wdC_X4_at)) rfl rfl rfl pdX4_at.2 ⟨Nat.le_of_ble_eq_true rfl, Nat.le_of_ble_eq_true rfl⟩) rfl hl.1 rfl (Nat.le_of_ble_eq_true rfl) dX4_keeps_141 ⟨Nat.zero_le _, Nat.zero_le _⟩ ?_
          obtain ⟨v5, e6, h⟩ := h_bd_ok h
          refine h_ald cx hw 10 (wM_p10 q cI cZ S1) e6 dX4_keeps_144 ?_
          obtain ⟨S7, e8, h⟩ := h_bd_ok h
          refine h_ast cx hw 12 (wM_p12 q cI cZ S1) (wM_s12 q cI cZ S1) e8 dX4_keeps_145 (fun H locs hw => ?_)
          exact kk146 _ _ h _ _ _ hw (lv_sub hl [0, 1] rfl)
        refine lv_istore (lv' := [(6, .int t0), (0, .ref (q 0)), (1, .int x1), (3, .int x3), (4, .int x4), (5, .int x5)]) hx hb dX4_keeps_97 hl (by decide) rfl (fun ls hl => ?_)
        refine lv_aload_n hx hb dX4_keeps_99 rfl (lv_at hl 1 rfl) ?_
        refine h_get (v := .ref (q 11)) cx hw 0 (wM_p0 q cI cZ S) rfl hinX4 11 (by decide) lk41 rfl dX4_keeps_100 ?_
        refine lv_iload_n hx hb dX4_keeps_103 rfl (lv_at hl 2 rfl) ?_
        refine lv_iload hx hb dX4_keeps_104 (lv_at hl 0 rfl) ?_
        refine lv_if_eq (tgt := 125) hx hb dX4_keeps_106 (by decide) (fun c1 => ?_) (fun c1 => ?_)
        · have h := h_ifp c1 h
          refine lv_iconst (v := 0) hx hb dX4_keeps_125 (by decide) ?_
          exact kk126 _ _ _ _ _ _ _ h _ _ _ hw (lv_sub hl [1, 2, 3, 4, 5] rfl)
        · have h := h_ifn c1 h
          refine lv_aload_n hx hb dX4_keeps_109 rfl (lv_at hl 1 rfl) ?_
          refine h_get (v := .ref (q 9)) cx hw 0 (wM_p0 q cI cZ S) rfl hinX4 9 (by decide) lk35 rfl dX4_keeps_110 ?_
          refine lv_iload hx hb dX4_keeps_113 (lv_at hl 5 rfl) ?_
          refine lv_iload_n hx hb dX4_keeps_115 rfl (lv_at hl 3 rfl) ?_
          refine lv_iload hx hb dX4_keeps_116 (lv_at hl 4 rfl) ?_
          obtain ⟨r2, e3, h⟩ := h_bd_ok h
          refine h_callS cx.1 (c_X4_at l x5 x3 x4 r2 e3) (va_cwS 3 hts (hgA (hcS wdL_X4_109 wdT_X4_at wdN_RX4 wdC_X4_at)) rfl rfl rfl pdX4_at.2 ⟨Nat.le_of_ble_eq_true rfl, Nat.le_of_ble_eq_true rfl⟩) rfl hl.1 rfl (Nat.le_of_ble_eq_true rfl) dX4_keeps_118 ⟨Nat.zero_le _, Nat.zero_le _⟩ ?_
          obtain ⟨v4, e5, h⟩ := h_bd_ok h
          refine h_ald cx hw 9 (wM_p9 q cI cZ S) e5 dX4_keeps_121 ?_
          refine lv_goto (tgt := 126) hx hb dX4_keeps_122 (by decide) ?_
          exact kk126 _ _ _ _ _ _ _ h _ _ _ hw (lv_sub hl [1, 2, 3, 4, 5] rfl)
      have kk92 : ∀ (S : HSt) (x1 x3 x4 x5 : Int32), f_X4_keeps_92 (f_X4_keeps_2 n2) S x1 x3 x4 x5 = some S9 → ∀ (H : Heap) (locs : List Loc) (ls : Array Slot), HW (dC, dI) (wM q cI cZ) S A s H locs → lv_has ls 7 [(0, .ref (q 0)), (1, .int x1), (3, .int x3), (4, .int x4), (5, .int x5)] → W p l e rmX4_keeps s m ([.ref (q 0)] : List Value).toArray below meth c H locs 0 0 (MQ below (QV (dC, dI) (wM q cI cZ) S9 A) ([.ref (q 0)] : List Value).toArray s 0 0 A) (F0 m 92 ls []) := by
        intro S x1 x3 x4 x5 h H locs ls hw hl
        unfold f_X4_keeps_92 at h
        refine lv_iconst (v := 1) hx hb dX4_keeps_92 (by decide) ?_
        refine lv_goto (tgt := 97) hx hb dX4_keeps_93 (by decide) ?_
        exact kk97 _ _ _ _ _ _ h _ _ _ hw (lv_sub hl [0, 1, 2, 3, 4] rfl)
      refine lv_iload_n hx hb dX4_keeps_2 rfl (lv_at hl 1 rfl) ?_
      refine lv_sipush (v := 336) hx hb dX4_keeps_3 (by decide) ?_
      refine lv_icmp_ge (tgt := 152) hx hb dX4_keeps_6 (by decide) (fun c1 => ?_) (fun c1 => ?_)
      · have h := h_ifp c1 h
        exact h_vret cx hw hr hlk (Option.some.inj h) dX4_keeps_152
      · have h := h_ifn c1 h
        refine lv_iload_n hx hb dX4_keeps_9 rfl (lv_at hl 1 rfl) ?_
        refine lv_bipush (v := 48) hx hb dX4_keeps_10 (by decide) ?_
        refine lv_idiv hx hb dX4_keeps_12 (by decide) ?_
        refine lv_istore_n (lv' := [(2, .int (x1 / 48)), (0, .ref (q 0)), (1, .int x1)]) hx hb dX4_keeps_13 rfl hl (by decide) rfl (fun ls hl => ?_)
        refine lv_iload_n hx hb dX4_keeps_14 rfl (lv_at hl 2 rfl) ?_
        refine lv_iconst (v := 4) hx hb dX4_keeps_15 (by decide) ?_
        refine lv_idiv hx hb dX4_keeps_16 (by decide) ?_
        refine lv_bipush (v := 12) hx hb dX4_keeps_17 (by decide) ?_
        refine lv_irem hx hb dX4_keeps_19 (by decide) ?_
        refine lv_istore_n (lv' := [(3, .int ((x1 / 4) - (x1 / 4) / 12 * 12)), (2, .int (x1 / 48)), (0, .ref (q 0)), (1, .int x1)]) hx hb dX4_keeps_20 rfl hl (by decide) rfl (fun ls hl => ?_)
        refine lv_iload_n hx hb dX4_keeps_21 rfl (lv_at hl 3 rfl) ?_
        refine lv_iconst (v := 4) hx hb dX4_keeps_22 (by decide) ?_
        refine lv_irem hx hb dX4_keeps_23 (by decide) ?_
        refine lv_istore (lv' := [(4, .int (x1 - x1 / 4 * 4)), (3, .int ((x1 / 4) - (x1 / 4) / 12 * 12)), (2, .int (x1 / 48)), (0, .ref (q 0)), (1, .int x1)]) hx hb dX4_keeps_24 hl (by decide) rfl (fun ls hl => ?_)
        refine lv_aload_n hx hb dX4_keeps_26 rfl (lv_at hl 3 rfl) ?_
        refine h_get (v := .ref (q 11)) cx hw 0 (wM_p0 q cI cZ S) rfl hinX4 11 (by decide) lk41 rfl dX4_keeps_27 ?_
        refine lv_iload_n hx hb dX4_keeps_30 rfl (lv_at hl 4 rfl) ?_
        refine lv_iconst (v := 0) hx hb dX4_keeps_31 (by decide) ?_
        obtain ⟨S2, e3, h⟩ := h_bd_ok h
        refine h_ast cx hw 11 (wM_p11 q cI cZ S) (wM_s11 q cI cZ S) e3 dX4_keeps_32 (fun H locs hw => ?_)
        refine lv_aload_n hx hb dX4_keeps_33 rfl (lv_at hl 3 rfl) ?_
        refine lv_iload_n hx hb dX4_keeps_34 rfl (lv_at hl 1 rfl) ?_
        obtain ⟨r4, e5, h⟩ := h_bd_ok h
        refine h_callI cx hw (c_X4_isLink l dC dI cI cZ q S2 ((x1 / 4) - (x1 / 4) / 12 * 12) r4 e5) (cwV 1 hts (hgA (hcV wdL_X4_96 wdI_X4_isLink wdS_X4_isLink wdN_RX4 wdC_X4_isLink)) rfl rfl rfl pdX4_isLink ⟨Nat.le_of_ble_eq_true rfl, Nat.le_of_ble_eq_true rfl⟩) 0 (wM_p0 q cI cZ S2) rfl rfl rfl hl.1 rfl (Nat.le_of_ble_eq_true rfl) dX4_keeps_35 ⟨Nat.zero_le _, Nat.zero_le _⟩ (fun H locs hw => ?_)
        refine lv_if_eq (tgt := 146) hx hb dX4_keeps_38 (by decide) (fun c6 => ?_) (fun c6 => ?_)
        · have h := h_ifp c6 h
          exact kk146 _ _ h _ _ _ hw (lv_sub hl [3, 4] rfl)
        · have h := h_ifn c6 h
          refine lv_aload_n hx hb dX4_keeps_41 rfl (lv_at hl 3 rfl) ?_
          refine lv_iload_n hx hb dX4_keeps_42 rfl (lv_at hl 1 rfl) ?_
          refine lv_iload_n hx hb dX4_keeps_43 rfl (lv_at hl 2 rfl) ?_
          obtain ⟨r7, e8, h⟩ := h_bd_ok h
          refine h_callI cx hw (c_X4_isAt l dC dI cI cZ q S2 ((x1 / 4) - (x1 / 4) / 12 * 12) (x1 / 48) r7 e8) (cwV 2 hts (hgA (hcV wdL_X4_116 wdI_X4_isAt wdS_X4_isAt wdN_RX4 wdC_X4_isAt)) rfl rfl rfl pdX4_isAt ⟨Nat.le_of_ble_eq_true rfl, Nat.le_of_ble_eq_true rfl⟩) 0 (wM_p0 q cI cZ S2) rfl rfl rfl hl.1 rfl (Nat.le_of_ble_eq_true rfl) dX4_keeps_44 ⟨Nat.zero_le _, Nat.zero_le _⟩ (fun H locs hw => ?_)
          refine lv_if_eq (tgt := 146) hx hb dX4_keeps_47 (by decide) (fun c9 => ?_) (fun c9 => ?_)
          · have h := h_ifp c9 h
            exact kk146 _ _ h _ _ _ hw (lv_sub hl [3, 4] rfl)
          · have h := h_ifn c9 h
            refine lv_aload_n hx hb dX4_keeps_50 rfl (lv_at hl 3 rfl) ?_
            refine h_get (v := .ref (q 4)) cx hw 0 (wM_p0 q cI cZ S2) rfl hinX4 4 (by decide) lk19 rfl dX4_keeps_51 ?_
            refine lv_iload_n hx hb dX4_keeps_54 rfl (lv_at hl 1 rfl) ?_
            obtain ⟨v10, e11, h⟩ := h_bd_ok h
            refine h_aldz cx hw 4 (wM_p4 q cI cZ S2) e11 dX4_keeps_55 ?_
            refine lv_if_eq (tgt := 146) hx hb dX4_keeps_56 (by decide) (fun c12 => ?_) (fun c12 => ?_)
            · have h := h_ifp c12 h
              exact kk146 _ _ h _ _ _ hw (lv_sub hl [3, 4] rfl)
            · have h := h_ifn c12 h
              refine lv_aload_n hx hb dX4_keeps_59 rfl (lv_at hl 3 rfl) ?_
              refine lv_iload_n hx hb dX4_keeps_60 rfl (lv_at hl 1 rfl) ?_
              refine lv_iload_n hx hb dX4_keeps_61 rfl (lv_at hl 2 rfl) ?_
              obtain ⟨r13, e14, h⟩ := h_bd_ok h
              refine h_callI cx hw (c_X4_otherOf l dC dI cI cZ q S2 ((x1 / 4) - (x1 / 4) / 12 * 12) (x1 / 48) r13 e14) (cwV 2 hts (hgA (hcV wdL_X4_123 wdI_X4_otherOf wdS_X4_otherOf wdN_RX4 wdC_X4_otherOf)) rfl rfl rfl pdX4_otherOf ⟨Nat.le_of_ble_eq_true rfl, Nat.le_of_ble_eq_true rfl⟩) 0 (wM_p0 q cI cZ S2) rfl rfl rfl hl.1 rfl (Nat.le_of_ble_eq_true rfl) dX4_keeps_62 ⟨Nat.zero_le _, Nat.zero_le _⟩ (fun H locs hw => ?_)
              refine lv_istore (lv' := [(5, .int r13), (4, .int (x1 - x1 / 4 * 4)), (3, .int ((x1 / 4) - (x1 / 4) / 12 * 12)), (2, .int (x1 / 48)), (0, .ref (q 0)), (1, .int x1)]) hx hb dX4_keeps_65 hl (by decide) rfl (fun ls hl => ?_)
              refine lv_aload_n hx hb dX4_keeps_67 rfl (lv_at hl 4 rfl) ?_
              refine lv_iload_n hx hb dX4_keeps_68 rfl (lv_at hl 3 rfl) ?_
              refine lv_iconst (v := 1) hx hb dX4_keeps_69 (by decide) ?_
              obtain ⟨r15, e16, h⟩ := h_bd_ok h
              refine h_callI cx hw (c_X4_is l dC dI cI cZ q S2 (x1 / 48) 1 r15 e16) (cwV 2 hts (hgA (hcV wdL_X4_120 wdI_X4_is wdS_X4_is wdN_RX4 wdC_X4_is)) rfl rfl rfl pdX4_is ⟨Nat.le_of_ble_eq_true rfl, Nat.le_of_ble_eq_true rfl⟩) 0 (wM_p0 q cI cZ S2) rfl rfl rfl hl.1 rfl (Nat.le_of_ble_eq_true rfl) dX4_keeps_70 ⟨Nat.zero_le _, Nat.zero_le _⟩ (fun H locs hw => ?_)
              refine lv_if_eq (tgt := 92) hx hb dX4_keeps_73 (by decide) (fun c17 => ?_) (fun c17 => ?_)
              · have h := h_ifp c17 h
                exact kk92 _ _ _ _ _ h _ _ _ hw (lv_sub hl [4, 5, 2, 1, 0] rfl)
              · have h := h_ifn c17 h
                refine lv_aload_n hx hb dX4_keeps_76 rfl (lv_at hl 4 rfl) ?_
                refine h_get (v := .ref (q 17)) cx hw 0 (wM_p0 q cI cZ S2) rfl hinX4 18 (by decide) lk59 rfl dX4_keeps_77 ?_
                refine lv_iconst (v := 4) hx hb dX4_keeps_80 (by decide) ?_
                refine lv_iload_n hx hb dX4_keeps_81 rfl (lv_at hl 3 rfl) ?_
                refine lv_imul hx hb dX4_keeps_82 ?_
                refine lv_iload hx hb dX4_keeps_83 (lv_at hl 1 rfl) ?_
                refine lv_iadd hx hb dX4_keeps_85 ?_
                obtain ⟨v18, e19, h⟩ := h_bd_ok h
                refine h_ald cx hw 17 (wM_p17 q cI cZ S2) e19 dX4_keeps_86 ?_
                refine lv_iload hx hb dX4_keeps_87 (lv_at hl 0 rfl) ?_
                refine lv_icmp_ne (tgt := 96) hx hb dX4_keeps_89 (by decide) (fun c20 => ?_) (fun c20 => ?_)
                · have h := h_ifn c20 h
                  refine lv_iconst (v := 0) hx hb dX4_keeps_96 (by decide) ?_
                  exact kk97 _ _ _ _ _ _ h _ _ _ hw (lv_sub hl [4, 5, 2, 1, 0] rfl)
                · have h := h_ifp c20 h
                  exact kk92 _ _ _ _ _ h _ _ _ hw (lv_sub hl [4, 5, 2, 1, 0] rfl)
  refine lv_iconst (v := 0) hx hb dX4_keeps_0 (by decide) ?_
  refine lv_istore_n (lv' := [(1, .int 0), (0, .ref (q 0))]) hx hb dX4_keeps_1 rfl hl (by decide) rfl (fun ls hl => ?_)
  exact kk2 h_fu _ _ h _ _ _ hw (lv_sub hl [1, 0] rfl)
set_option maxHeartbeats 4000000 in
set_option maxRecDepth 100000 in
theorem c_X4_goesOn (l : Launch) (dC : Nat → ClassId) (dI : Nat → Nat → Nat) (cI cZ : ClassId) (q : Nat → Nat) (S : HSt) (S9 : HSt) (h : f_X4_goesOn S = some S9) : MV l yX4_goesOn hsX4_goesOn rmX4_goesOn (dC, dI) cI cZ (wM q cI cZ) S [.ref (q 0)] S9 := by
  refine MV.ofW (cc := cX4_goesOn) (maxL := 2) (ret := none) (by decide +kernel) rfl (Nat.le_of_ble_eq_true rfl) ?_
  intro p e s m below meth c A cx hr hlk hw ls hl
  have hx := cx.1.1
  have hb := cx.1.2.1
  have hml := cx.1.2.2.1
  have hts := cx.1.2.2.2.2
  have hta : ∀ z ∈ hALL, z.before _ s = true := fun z h => hts z (List.mem_cons_of_mem _ h)
  have lk35 : (Cond.fieldLink RX4 35 (TX4 9).1 (TX4 9).2.1 (TX4 9).2.2.1).before _ s = true := hta _ wdF_X4_35
  have lk38 : (Cond.fieldLink RX4 38 (TX4 10).1 (TX4 10).2.1 (TX4 10).2.2.1).before _ s = true := hta _ wdF_X4_38
  have lk41 : (Cond.fieldLink RX4 41 (TX4 11).1 (TX4 11).2.1 (TX4 11).2.2.1).before _ s = true := hta _ wdF_X4_41
  have lk44 : (Cond.fieldLink RX4 44 (TX4 12).1 (TX4 12).2.1 (TX4 12).2.2.1).before _ s = true := hta _ wdF_X4_44
  have lk47 : (Cond.fieldLink RX4 47 (TX4 14).1 (TX4 14).2.1 (TX4 14).2.2.1).before _ s = true := hta _ wdF_X4_47
  have lk50 : (Cond.fieldLink RX4 50 (TX4 15).1 (TX4 15).2.1 (TX4 15).2.2.1).before _ s = true := hta _ wdF_X4_50
  have lk53 : (Cond.fieldLink RX4 53 (TX4 16).1 (TX4 16).2.1 (TX4 16).2.2.1).before _ s = true := hta _ wdF_X4_53
  have lk56 : (Cond.fieldLink RX4 56 (TX4 17).1 (TX4 17).2.1 (TX4 17).2.2.1).before _ s = true := hta _ wdF_X4_56
  have lk59 : (Cond.fieldLink RX4 59 (TX4 18).1 (TX4 18).2.1 (TX4 18).2.2.1).before _ s = true := hta _ wdF_X4_59
  have lk62 : (Cond.fieldLink RX4 62 (TX4 19).1 (TX4 19).2.1 (TX4 19).2.2.1).before _ s = true := hta _ wdF_X4_62
  have hl : lv_has ls 2 [(0, .ref (q 0))] := hl
  unfold f_X4_goesOn at h
  have kk2 : ∀ (n2 : Nat) (S : HSt) (x1 : Int32), f_X4_goesOn_2 n2 S x1 = some S9 → ∀ (H : Heap) (locs : List Loc) (ls : Array Slot), HW (dC, dI) (wM q cI cZ) S A s H locs → lv_has ls 2 [(0, .ref (q 0)), (1, .int x1)] → W p l e rmX4_goesOn s m ([.ref (q 0)] : List Value).toArray below meth c H locs 0 0 (MQ below (QV (dC, dI) (wM q cI cZ) S9 A) ([.ref (q 0)] : List Value).toArray s 0 0 A) (F0 m 2 ls []) := by
    intro n2
    induction n2 with
    | zero =>
      intro S x1 h
      have h9 : (none : Option HSt) = some S9 := h
      cases h9
    | succ n2 ih2 =>
      intro S x1 h H locs ls hw hl
      have h : f_X4_goesOn_2_s (f_X4_goesOn_2 n2) S x1 = some S9 := h
      unfold f_X4_goesOn_2_s at h
      have kk48 : ∀ (n48 : Nat) (S : HSt) (x1 : Int32), f_X4_goesOn_48 n48 S x1 = some S9 → ∀ (H : Heap) (locs : List Loc) (ls : Array Slot), HW (dC, dI) (wM q cI cZ) S A s H locs → lv_has ls 2 [(0, .ref (q 0)), (1, .int x1)] → W p l e rmX4_goesOn s m ([.ref (q 0)] : List Value).toArray below meth c H locs 0 0 (MQ below (QV (dC, dI) (wM q cI cZ) S9 A) ([.ref (q 0)] : List Value).toArray s 0 0 A) (F0 m 48 ls []) := by
        intro n48
        induction n48 with
        | zero =>
          intro S x1 h
          have h9 : (none : Option HSt) = some S9 := h
          cases h9
        | succ n48 ih48 =>
          intro S x1 h H locs ls hw hl
          have h : f_X4_goesOn_48_s (f_X4_goesOn_48 n48) S x1 = some S9 := h
          unfold f_X4_goesOn_48_s at h
          have kk118 : ∀ (n118 : Nat) (S : HSt) (x1 : Int32), f_X4_goesOn_118 n118 S x1 = some S9 → ∀ (H : Heap) (locs : List Loc) (ls : Array Slot), HW (dC, dI) (wM q cI cZ) S A s H locs → lv_has ls 2 [(0, .ref (q 0)), (1, .int x1)] → W p l e rmX4_goesOn s m ([.ref (q 0)] : List Value).toArray below meth c H locs 0 0 (MQ below (QV (dC, dI) (wM q cI cZ) S9 A) ([.ref (q 0)] : List Value).toArray s 0 0 A) (F0 m 118 ls []) := by
            intro n118
            induction n118 with
            | zero =>
              intro S x1 h
              have h9 : (none : Option HSt) = some S9 := h
              cases h9
            | succ n118 ih118 =>
              intro S x1 h H locs ls hw hl
              have h : f_X4_goesOn_118_s (f_X4_goesOn_118 n118) S x1 = some S9 := h
              unfold f_X4_goesOn_118_s at h
              refine lv_iload_n hx hb dX4_goesOn_118 rfl (lv_at hl 1 rfl) ?_
              refine lv_bipush (v := 7) hx hb dX4_goesOn_119 (by decide) ?_
              refine lv_icmp_ge (tgt := 135) hx hb dX4_goesOn_121 (by decide) (fun c1 => ?_) (fun c1 => ?_)
              · have h := h_ifp c1 h
                refine lv_aload_n hx hb dX4_goesOn_135 rfl (lv_at hl 0 rfl) ?_
                obtain ⟨S4, e3, h⟩ := h_bd_ok h
                refine h_callV cx hw (c_X4_keeps l dC dI cI cZ q S S4 e3) (cwV 0 hts (hgA (hcV wdL_X4_155 wdI_X4_keeps wdS_X4_keeps wdN_RX4 wdC_X4_keeps)) rfl rfl rfl pdX4_keeps ⟨Nat.le_of_ble_eq_true rfl, Nat.le_of_ble_eq_true rfl⟩) 0 (wM_p0 q cI cZ S) rfl rfl rfl hl.1 rfl (Nat.le_of_ble_eq_true rfl) dX4_goesOn_136 ⟨Nat.zero_le _, Nat.zero_le _⟩ (fun H locs hw => ?_)
                exact h_vret cx hw hr hlk (Option.some.inj h) dX4_goesOn_139
              · have h := h_ifn c1 h
                refine lv_aload_n hx hb dX4_goesOn_124 rfl (lv_at hl 0 rfl) ?_
                refine lv_iload_n hx hb dX4_goesOn_125 rfl (lv_at hl 1 rfl) ?_
                obtain ⟨S7, e6, h⟩ := h_bd_ok h
                refine h_callV cx hw (c_X4_handsAll l dC dI cI cZ q S x1 S7 e6) (cwV 1 hts (hgA (hcV wdL_X4_152 wdI_X4_handsAll wdS_X4_handsAll wdN_RX4 wdC_X4_handsAll)) rfl rfl rfl pdX4_handsAll ⟨Nat.le_of_ble_eq_true rfl, Nat.le_of_ble_eq_true rfl⟩) 0 (wM_p0 q cI cZ S) rfl rfl rfl hl.1 rfl (Nat.le_of_ble_eq_true rfl) dX4_goesOn_126 ⟨Nat.zero_le _, Nat.zero_le _⟩ (fun H locs hw => ?_)
                refine lv_iinc (v := x1 + 1) (lv' := [(1, .int (x1 + 1)), (0, .ref (q 0))]) hx hb dX4_goesOn_129 hl (k := 1) rfl rfl (by decide) rfl (fun ls hl => ?_)
                refine lv_goto (tgt := 118) hx hb dX4_goesOn_132 (by decide) ?_
                exact ih118 _ _ h _ _ _ hw (lv_sub hl [1, 0] rfl)
          refine lv_iload_n hx hb dX4_goesOn_48 rfl (lv_at hl 1 rfl) ?_
          refine lv_sipush (v := 336) hx hb dX4_goesOn_49 (by decide) ?_
          refine lv_icmp_ge (tgt := 116) hx hb dX4_goesOn_52 (by decide) (fun c1 => ?_) (fun c1 => ?_)
          · have h := h_ifp c1 h
            refine lv_iconst (v := 0) hx hb dX4_goesOn_116 (by decide) ?_
            refine lv_istore_n (lv' := [(1, .int 0), (0, .ref (q 0))]) hx hb dX4_goesOn_117 rfl hl (by decide) rfl (fun ls hl => ?_)
            exact kk118 h_fu _ _ h _ _ _ hw (lv_sub hl [1, 0] rfl)
          · have h := h_ifn c1 h
            refine lv_aload_n hx hb dX4_goesOn_55 rfl (lv_at hl 0 rfl) ?_
            refine h_get (v := .ref (q 13)) cx hw 0 (wM_p0 q cI cZ S) rfl hinX4 14 (by decide) lk47 rfl dX4_goesOn_56 ?_
            refine lv_iload_n hx hb dX4_goesOn_59 rfl (lv_at hl 1 rfl) ?_
            refine lv_aload_n hx hb dX4_goesOn_60 rfl (lv_at hl 0 rfl) ?_
            refine h_get (v := .ref (q 9)) cx hw 0 (wM_p0 q cI cZ S) rfl hinX4 9 (by decide) lk35 rfl dX4_goesOn_61 ?_
            refine lv_iload_n hx hb dX4_goesOn_64 rfl (lv_at hl 1 rfl) ?_
            obtain ⟨v2, e3, h⟩ := h_bd_ok h
            refine h_ald cx hw 9 (wM_p9 q cI cZ S) e3 dX4_goesOn_65 ?_
            obtain ⟨S4, e5, h⟩ := h_bd_ok h
            refine h_ast cx hw 13 (wM_p13 q cI cZ S) (wM_s13 q cI cZ S) e5 dX4_goesOn_66 (fun H locs hw => ?_)
            refine lv_aload_n hx hb dX4_goesOn_67 rfl (lv_at hl 0 rfl) ?_
            refine h_get (v := .ref (q 14)) cx hw 0 (wM_p0 q cI cZ S4) rfl hinX4 15 (by decide) lk50 rfl dX4_goesOn_68 ?_
            refine lv_iload_n hx hb dX4_goesOn_71 rfl (lv_at hl 1 rfl) ?_
            refine lv_aload_n hx hb dX4_goesOn_72 rfl (lv_at hl 0 rfl) ?_
            refine h_get (v := .ref (q 10)) cx hw 0 (wM_p0 q cI cZ S4) rfl hinX4 10 (by decide) lk38 rfl dX4_goesOn_73 ?_
            refine lv_iload_n hx hb dX4_goesOn_76 rfl (lv_at hl 1 rfl) ?_
            obtain ⟨v6, e7, h⟩ := h_bd_ok h
            refine h_ald cx hw 10 (wM_p10 q cI cZ S4) e7 dX4_goesOn_77 ?_
            obtain ⟨S8, e9, h⟩ := h_bd_ok h
            refine h_ast cx hw 14 (wM_p14 q cI cZ S4) (wM_s14 q cI cZ S4) e9 dX4_goesOn_78 (fun H locs hw => ?_)
            refine lv_aload_n hx hb dX4_goesOn_79 rfl (lv_at hl 0 rfl) ?_
            refine h_get (v := .ref (q 15)) cx hw 0 (wM_p0 q cI cZ S8) rfl hinX4 16 (by decide) lk53 rfl dX4_goesOn_80 ?_
            refine lv_iload_n hx hb dX4_goesOn_83 rfl (lv_at hl 1 rfl) ?_
            refine lv_aload_n hx hb dX4_goesOn_84 rfl (lv_at hl 0 rfl) ?_
            refine h_get (v := .ref (q 11)) cx hw 0 (wM_p0 q cI cZ S8) rfl hinX4 11 (by decide) lk41 rfl dX4_goesOn_85 ?_
            refine lv_iload_n hx hb dX4_goesOn_88 rfl (lv_at hl 1 rfl) ?_
            obtain ⟨v10, e11, h⟩ := h_bd_ok h
            refine h_ald cx hw 11 (wM_p11 q cI cZ S8) e11 dX4_goesOn_89 ?_
            obtain ⟨S12, e13, h⟩ := h_bd_ok h
            refine h_ast cx hw 15 (wM_p15 q cI cZ S8) (wM_s15 q cI cZ S8) e13 dX4_goesOn_90 (fun H locs hw => ?_)
            refine lv_aload_n hx hb dX4_goesOn_91 rfl (lv_at hl 0 rfl) ?_
            refine h_get (v := .ref (q 16)) cx hw 0 (wM_p0 q cI cZ S12) rfl hinX4 17 (by decide) lk56 rfl dX4_goesOn_92 ?_
            refine lv_iload_n hx hb dX4_goesOn_95 rfl (lv_at hl 1 rfl) ?_
            refine lv_aload_n hx hb dX4_goesOn_96 rfl (lv_at hl 0 rfl) ?_
            refine h_get (v := .ref (q 12)) cx hw 0 (wM_p0 q cI cZ S12) rfl hinX4 12 (by decide) lk44 rfl dX4_goesOn_97 ?_
            refine lv_iload_n hx hb dX4_goesOn_100 rfl (lv_at hl 1 rfl) ?_
            obtain ⟨v14, e15, h⟩ := h_bd_ok h
            refine h_ald cx hw 12 (wM_p12 q cI cZ S12) e15 dX4_goesOn_101 ?_
            obtain ⟨S16, e17, h⟩ := h_bd_ok h
            refine h_ast cx hw 16 (wM_p16 q cI cZ S12) (wM_s16 q cI cZ S12) e17 dX4_goesOn_102 (fun H locs hw => ?_)
            refine lv_aload_n hx hb dX4_goesOn_103 rfl (lv_at hl 0 rfl) ?_
            refine h_get (v := .ref (q 9)) cx hw 0 (wM_p0 q cI cZ S16) rfl hinX4 9 (by decide) lk35 rfl dX4_goesOn_104 ?_
            refine lv_iload_n hx hb dX4_goesOn_107 rfl (lv_at hl 1 rfl) ?_
            refine lv_iconst (v := 0) hx hb dX4_goesOn_108 (by decide) ?_
            obtain ⟨S18, e19, h⟩ := h_bd_ok h
            refine h_ast cx hw 9 (wM_p9 q cI cZ S16) (wM_s9 q cI cZ S16) e19 dX4_goesOn_109 (fun H locs hw => ?_)
            refine lv_iinc (v := x1 + 1) (lv' := [(1, .int (x1 + 1)), (0, .ref (q 0))]) hx hb dX4_goesOn_110 hl (k := 1) rfl rfl (by decide) rfl (fun ls hl => ?_)
            refine lv_goto (tgt := 48) hx hb dX4_goesOn_113 (by decide) ?_
            exact ih48 _ _ h _ _ _ hw (lv_sub hl [1, 0] rfl)
      refine lv_iload_n hx hb dX4_goesOn_2 rfl (lv_at hl 1 rfl) ?_
      refine lv_bipush (v := 28) hx hb dX4_goesOn_3 (by decide) ?_
      refine lv_icmp_ge (tgt := 46) hx hb dX4_goesOn_5 (by decide) (fun c1 => ?_) (fun c1 => ?_)
      · have h := h_ifp c1 h
        refine lv_iconst (v := 0) hx hb dX4_goesOn_46 (by decide) ?_
        refine lv_istore_n (lv' := [(1, .int 0), (0, .ref (q 0))]) hx hb dX4_goesOn_47 rfl hl (by decide) rfl (fun ls hl => ?_)
        exact kk48 h_fu _ _ h _ _ _ hw (lv_sub hl [1, 0] rfl)
      · have h := h_ifn c1 h
        refine lv_aload_n hx hb dX4_goesOn_8 rfl (lv_at hl 0 rfl) ?_
        refine h_get (v := .ref (q 17)) cx hw 0 (wM_p0 q cI cZ S) rfl hinX4 18 (by decide) lk59 rfl dX4_goesOn_9 ?_
        refine lv_iload_n hx hb dX4_goesOn_12 rfl (lv_at hl 1 rfl) ?_
        refine lv_aload_n hx hb dX4_goesOn_13 rfl (lv_at hl 0 rfl) ?_
        refine lv_iload_n hx hb dX4_goesOn_14 rfl (lv_at hl 1 rfl) ?_
        refine lv_iconst (v := 4) hx hb dX4_goesOn_15 (by decide) ?_
        refine lv_idiv hx hb dX4_goesOn_16 (by decide) ?_
        refine lv_iload_n hx hb dX4_goesOn_17 rfl (lv_at hl 1 rfl) ?_
        refine lv_iconst (v := 4) hx hb dX4_goesOn_18 (by decide) ?_
        refine lv_irem hx hb dX4_goesOn_19 (by decide) ?_
        obtain ⟨r2, S4, e3, h⟩ := h_bi_ok h
        refine h_callI cx hw (c_X4_nextOf l dC dI cI cZ q S (x1 / 4) (x1 - x1 / 4 * 4) r2 S4 e3) (cwV 2 hts (hgA (hcV wdL_X4_106 wdI_X4_nextOf wdS_X4_nextOf wdN_RX4 wdC_X4_nextOf)) rfl rfl rfl pdX4_nextOf ⟨Nat.le_of_ble_eq_true rfl, Nat.le_of_ble_eq_true rfl⟩) 0 (wM_p0 q cI cZ S) rfl rfl rfl hl.1 rfl (Nat.le_of_ble_eq_true rfl) dX4_goesOn_20 ⟨Nat.zero_le _, Nat.zero_le _⟩ (fun H locs hw => ?_)
        obtain ⟨S5, e6, h⟩ := h_bd_ok h
        refine h_ast cx hw 17 (wM_p17 q cI cZ S4) (wM_s17 q cI cZ S4) e6 dX4_goesOn_23 (fun H locs hw => ?_)
        refine lv_aload_n hx hb dX4_goesOn_24 rfl (lv_at hl 0 rfl) ?_
        refine h_get (v := .ref (q 18)) cx hw 0 (wM_p0 q cI cZ S5) rfl hinX4 19 (by decide) lk62 rfl dX4_goesOn_25 ?_
        refine lv_iload_n hx hb dX4_goesOn_28 rfl (lv_at hl 1 rfl) ?_
        refine lv_aload_n hx hb dX4_goesOn_29 rfl (lv_at hl 0 rfl) ?_
        refine lv_iload_n hx hb dX4_goesOn_30 rfl (lv_at hl 1 rfl) ?_
        refine lv_iconst (v := 4) hx hb dX4_goesOn_31 (by decide) ?_
        refine lv_idiv hx hb dX4_goesOn_32 (by decide) ?_
        refine lv_iload_n hx hb dX4_goesOn_33 rfl (lv_at hl 1 rfl) ?_
        refine lv_iconst (v := 4) hx hb dX4_goesOn_34 (by decide) ?_
        refine lv_irem hx hb dX4_goesOn_35 (by decide) ?_
        obtain ⟨r7, S9, e8, h⟩ := h_bi_ok h
        refine h_callI cx hw (c_X4_countOf l dC dI cI cZ q S5 (x1 / 4) (x1 - x1 / 4 * 4) r7 S9 e8) (cwV 2 hts (hgA (hcV wdL_X4_149 wdI_X4_countOf wdS_X4_countOf wdN_RX4 wdC_X4_countOf)) rfl rfl rfl pdX4_countOf ⟨Nat.le_of_ble_eq_true rfl, Nat.le_of_ble_eq_true rfl⟩) 0 (wM_p0 q cI cZ S5) rfl rfl rfl hl.1 rfl (Nat.le_of_ble_eq_true rfl) dX4_goesOn_36 ⟨Nat.zero_le _, Nat.zero_le _⟩ (fun H locs hw => ?_)
        obtain ⟨S10, e11, h⟩ := h_bd_ok h
        refine h_ast cx hw 18 (wM_p18 q cI cZ S9) (wM_s18 q cI cZ S9) e11 dX4_goesOn_39 (fun H locs hw => ?_)
        refine lv_iinc (v := x1 + 1) (lv' := [(1, .int (x1 + 1)), (0, .ref (q 0))]) hx hb dX4_goesOn_40 hl (k := 1) rfl rfl (by decide) rfl (fun ls hl => ?_)
        refine lv_goto (tgt := 2) hx hb dX4_goesOn_43 (by decide) ?_
        exact ih2 _ _ h _ _ _ hw (lv_sub hl [1, 0] rfl)
  refine lv_iconst (v := 0) hx hb dX4_goesOn_0 (by decide) ?_
  refine lv_istore_n (lv' := [(1, .int 0), (0, .ref (q 0))]) hx hb dX4_goesOn_1 rfl hl (by decide) rfl (fun ls hl => ?_)
  exact kk2 h_fu _ _ h _ _ _ hw (lv_sub hl [1, 0] rfl)
set_option maxHeartbeats 4000000 in
set_option maxRecDepth 100000 in
theorem c_X4_isChanged (l : Launch) (dC : Nat → ClassId) (dI : Nat → Nat → Nat) (cI cZ : ClassId) (q : Nat → Nat) (S : HSt) (a1 : Int32) (r : Int32) (h : f_X4_isChanged S a1 = some r) : MI l yX4_isChanged hsX4_isChanged rmX4_isChanged (dC, dI) cI cZ (wM q cI cZ) S [.ref (q 0), .int a1] r S := by
  refine MI.ofW (cc := cX4_isChanged) (maxL := 5) (ret := (some .boolean)) (by decide +kernel) rfl (Nat.le_of_ble_eq_true rfl) ?_
  intro p e s m below meth c A cx hr hlk hw ls hl
  have hx := cx.1.1
  have hb := cx.1.2.1
  have hml := cx.1.2.2.1
  have hts := cx.1.2.2.2.2
  have hta : ∀ z ∈ hALL, z.before _ s = true := fun z h => hts z (List.mem_cons_of_mem _ h)
  have lk35 : (Cond.fieldLink RX4 35 (TX4 9).1 (TX4 9).2.1 (TX4 9).2.2.1).before _ s = true := hta _ wdF_X4_35
  have lk38 : (Cond.fieldLink RX4 38 (TX4 10).1 (TX4 10).2.1 (TX4 10).2.2.1).before _ s = true := hta _ wdF_X4_38
  have lk41 : (Cond.fieldLink RX4 41 (TX4 11).1 (TX4 11).2.1 (TX4 11).2.2.1).before _ s = true := hta _ wdF_X4_41
  have lk44 : (Cond.fieldLink RX4 44 (TX4 12).1 (TX4 12).2.1 (TX4 12).2.2.1).before _ s = true := hta _ wdF_X4_44
  have lk47 : (Cond.fieldLink RX4 47 (TX4 14).1 (TX4 14).2.1 (TX4 14).2.2.1).before _ s = true := hta _ wdF_X4_47
  have lk50 : (Cond.fieldLink RX4 50 (TX4 15).1 (TX4 15).2.1 (TX4 15).2.2.1).before _ s = true := hta _ wdF_X4_50
  have lk53 : (Cond.fieldLink RX4 53 (TX4 16).1 (TX4 16).2.1 (TX4 16).2.2.1).before _ s = true := hta _ wdF_X4_53
  have lk56 : (Cond.fieldLink RX4 56 (TX4 17).1 (TX4 17).2.1 (TX4 17).2.2.1).before _ s = true := hta _ wdF_X4_56
  have hl : lv_has ls 5 [(0, .ref (q 0)), (1, .int a1)] := hl
  unfold f_X4_isChanged at h
  have kk2 : ∀ (n2 : Nat) (x1 x2 : Int32), f_X4_isChanged_2 S n2 x1 x2 = some r → ∀ (H : Heap) (locs : List Loc) (ls : Array Slot), HW (dC, dI) (wM q cI cZ) S A s H locs → lv_has ls 5 [(0, .ref (q 0)), (1, .int x1), (2, .int x2)] → W p l e rmX4_isChanged s m ([.ref (q 0), .int a1] : List Value).toArray below meth c H locs 0 0 (MQ below (QI (dC, dI) (wM q cI cZ) r S A) ([.ref (q 0), .int a1] : List Value).toArray s 0 0 A) (F0 m 2 ls []) := by
    intro n2
    induction n2 with
    | zero =>
      intro x1 x2 h
      have h9 : (none : Option Int32) = some r := h
      cases h9
    | succ n2 ih2 =>
      intro x1 x2 h H locs ls hw hl
      have h : f_X4_isChanged_2_s S (f_X4_isChanged_2 S n2) x1 x2 = some r := h
      unfold f_X4_isChanged_2_s at h
      have kk53 : ∀ (x1 x2 t0 : Int32), f_X4_isChanged_53 S (f_X4_isChanged_2 S n2) x1 x2 t0 = some r → ∀ (H : Heap) (locs : List Loc) (ls : Array Slot), HW (dC, dI) (wM q cI cZ) S A s H locs → lv_has ls 5 [(0, .ref (q 0)), (1, .int x1), (2, .int x2)] → W p l e rmX4_isChanged s m ([.ref (q 0), .int a1] : List Value).toArray below meth c H locs 0 0 (MQ below (QI (dC, dI) (wM q cI cZ) r S A) ([.ref (q 0), .int a1] : List Value).toArray s 0 0 A) (F0 m 53 ls [.int t0]) := by
        intro x1 x2 t0 h H locs ls hw hl
        unfold f_X4_isChanged_53 at h
        have kk98 : ∀ (x1 x2 x3 t0 : Int32), f_X4_isChanged_98 S (f_X4_isChanged_2 S n2) x1 x2 x3 t0 = some r → ∀ (H : Heap) (locs : List Loc) (ls : Array Slot), HW (dC, dI) (wM q cI cZ) S A s H locs → lv_has ls 5 [(0, .ref (q 0)), (1, .int x1), (2, .int x2), (3, .int x3)] → W p l e rmX4_isChanged s m ([.ref (q 0), .int a1] : List Value).toArray below meth c H locs 0 0 (MQ below (QI (dC, dI) (wM q cI cZ) r S A) ([.ref (q 0), .int a1] : List Value).toArray s 0 0 A) (F0 m 98 ls [.int t0]) := by
          intro x1 x2 x3 t0 h H locs ls hw hl
          unfold f_X4_isChanged_98 at h
          have kk115 : ∀ (x1 x2 : Int32), f_X4_isChanged_115 S (f_X4_isChanged_2 S n2) x1 x2 = some r → ∀ (H : Heap) (locs : List Loc) (ls : Array Slot), HW (dC, dI) (wM q cI cZ) S A s H locs → lv_has ls 5 [(0, .ref (q 0)), (1, .int x1), (2, .int x2)] → W p l e rmX4_isChanged s m ([.ref (q 0), .int a1] : List Value).toArray below meth c H locs 0 0 (MQ below (QI (dC, dI) (wM q cI cZ) r S A) ([.ref (q 0), .int a1] : List Value).toArray s 0 0 A) (F0 m 115 ls []) := by
            intro x1 x2 h H locs ls hw hl
            unfold f_X4_isChanged_115 at h
            refine lv_iinc (v := x2 + 1) (lv' := [(2, .int (x2 + 1)), (0, .ref (q 0)), (1, .int x1)]) hx hb dX4_isChanged_115 hl (k := 2) rfl rfl (by decide) rfl (fun ls hl => ?_)
            refine lv_goto (tgt := 2) hx hb dX4_isChanged_118 (by decide) ?_
            exact ih2 _ _ h _ _ _ hw (lv_sub hl [1, 2, 0] rfl)
          refine lv_istore (lv' := [(4, .int t0), (0, .ref (q 0)), (1, .int x1), (2, .int x2), (3, .int x3)]) hx hb dX4_isChanged_98 hl (by decide) rfl (fun ls hl => ?_)
          refine lv_iload_n hx hb dX4_isChanged_100 rfl (lv_at hl 4 rfl) ?_
          refine lv_if_ne (tgt := 113) hx hb dX4_isChanged_101 (by decide) (fun c1 => ?_) (fun c1 => ?_)
          · have h := h_ifn c1 h
            refine lv_iconst (v := 1) hx hb dX4_isChanged_113 (by decide) ?_
            exact h_iret cx hw hr hlk rfl (Option.some.inj h) rfl dX4_isChanged_114
          · have h := h_ifp c1 h
            refine lv_iload_n hx hb dX4_isChanged_104 rfl (lv_at hl 2 rfl) ?_
            refine lv_if_eq (tgt := 115) hx hb dX4_isChanged_105 (by decide) (fun c2 => ?_) (fun c2 => ?_)
            · have h := h_ifp c2 h
              exact kk115 _ _ h _ _ _ hw (lv_sub hl [1, 2, 3] rfl)
            · have h := h_ifn c2 h
              refine lv_iload hx hb dX4_isChanged_108 (lv_at hl 0 rfl) ?_
              refine lv_if_eq (tgt := 115) hx hb dX4_isChanged_110 (by decide) (fun c3 => ?_) (fun c3 => ?_)
              · have h := h_ifp c3 h
                exact kk115 _ _ h _ _ _ hw (lv_sub hl [1, 2, 3] rfl)
              · have h := h_ifn c3 h
                refine lv_iconst (v := 1) hx hb dX4_isChanged_113 (by decide) ?_
                exact h_iret cx hw hr hlk rfl (Option.some.inj h) rfl dX4_isChanged_114
        have kk93 : ∀ (x1 x2 x3 : Int32), f_X4_isChanged_93 S (f_X4_isChanged_2 S n2) x1 x2 x3 = some r → ∀ (H : Heap) (locs : List Loc) (ls : Array Slot), HW (dC, dI) (wM q cI cZ) S A s H locs → lv_has ls 5 [(0, .ref (q 0)), (1, .int x1), (2, .int x2), (3, .int x3)] → W p l e rmX4_isChanged s m ([.ref (q 0), .int a1] : List Value).toArray below meth c H locs 0 0 (MQ below (QI (dC, dI) (wM q cI cZ) r S A) ([.ref (q 0), .int a1] : List Value).toArray s 0 0 A) (F0 m 93 ls []) := by
          intro x1 x2 x3 h H locs ls hw hl
          unfold f_X4_isChanged_93 at h
          refine lv_iconst (v := 1) hx hb dX4_isChanged_93 (by decide) ?_
          refine lv_goto (tgt := 98) hx hb dX4_isChanged_94 (by decide) ?_
          exact kk98 _ _ _ _ h _ _ _ hw (lv_sub hl [0, 1, 2, 3] rfl)
        have kk97 : ∀ (x1 x2 x3 : Int32), f_X4_isChanged_97 S (f_X4_isChanged_2 S n2) x1 x2 x3 = some r → ∀ (H : Heap) (locs : List Loc) (ls : Array Slot), HW (dC, dI) (wM q cI cZ) S A s H locs → lv_has ls 5 [(0, .ref (q 0)), (1, .int x1), (2, .int x2), (3, .int x3)] → W p l e rmX4_isChanged s m ([.ref (q 0), .int a1] : List Value).toArray below meth c H locs 0 0 (MQ below (QI (dC, dI) (wM q cI cZ) r S A) ([.ref (q 0), .int a1] : List Value).toArray s 0 0 A) (F0 m 97 ls []) := by
          intro x1 x2 x3 h H locs ls hw hl
          unfold f_X4_isChanged_97 at h
          refine lv_iconst (v := 0) hx hb dX4_isChanged_97 (by decide) ?_
          exact kk98 _ _ _ _ h _ _ _ hw (lv_sub hl [0, 1, 2, 3] rfl)
        refine lv_istore_n (lv' := [(3, .int t0), (0, .ref (q 0)), (1, .int x1), (2, .int x2)]) hx hb dX4_isChanged_53 rfl hl (by decide) rfl (fun ls hl => ?_)
        refine lv_aload_n hx hb dX4_isChanged_54 rfl (lv_at hl 1 rfl) ?_
        refine h_get (v := .ref (q 11)) cx hw 0 (wM_p0 q cI cZ S) rfl hinX4 11 (by decide) lk41 rfl dX4_isChanged_55 ?_
        refine lv_iload_n hx hb dX4_isChanged_58 rfl (lv_at hl 3 rfl) ?_
        obtain ⟨v1, e2, h⟩ := h_bd_ok h
        refine h_ald cx hw 11 (wM_p11 q cI cZ S) e2 dX4_isChanged_59 ?_
        refine lv_aload_n hx hb dX4_isChanged_60 rfl (lv_at hl 1 rfl) ?_
        refine h_get (v := .ref (q 15)) cx hw 0 (wM_p0 q cI cZ S) rfl hinX4 16 (by decide) lk53 rfl dX4_isChanged_61 ?_
        refine lv_iload_n hx hb dX4_isChanged_64 rfl (lv_at hl 3 rfl) ?_
        obtain ⟨v3, e4, h⟩ := h_bd_ok h
        refine h_ald cx hw 15 (wM_p15 q cI cZ S) e4 dX4_isChanged_65 ?_
        refine lv_icmp_ne (tgt := 93) hx hb dX4_isChanged_66 (by decide) (fun c5 => ?_) (fun c5 => ?_)
        · have h := h_ifn c5 h
          exact kk93 _ _ _ h _ _ _ hw (lv_sub hl [1, 2, 3, 0] rfl)
        · have h := h_ifp c5 h
          refine lv_aload_n hx hb dX4_isChanged_69 rfl (lv_at hl 1 rfl) ?_
          refine h_get (v := .ref (q 11)) cx hw 0 (wM_p0 q cI cZ S) rfl hinX4 11 (by decide) lk41 rfl dX4_isChanged_70 ?_
          refine lv_iload_n hx hb dX4_isChanged_73 rfl (lv_at hl 3 rfl) ?_
          obtain ⟨v6, e7, h⟩ := h_bd_ok h
          refine h_ald cx hw 11 (wM_p11 q cI cZ S) e7 dX4_isChanged_74 ?_
          refine lv_if_le (tgt := 97) hx hb dX4_isChanged_75 (by decide) (fun c8 => ?_) (fun c8 => ?_)
          · have h := h_ifp c8 h
            exact kk97 _ _ _ h _ _ _ hw (lv_sub hl [1, 2, 3, 0] rfl)
          · have h := h_ifn c8 h
            refine lv_aload_n hx hb dX4_isChanged_78 rfl (lv_at hl 1 rfl) ?_
            refine h_get (v := .ref (q 12)) cx hw 0 (wM_p0 q cI cZ S) rfl hinX4 12 (by decide) lk44 rfl dX4_isChanged_79 ?_
            refine lv_iload_n hx hb dX4_isChanged_82 rfl (lv_at hl 3 rfl) ?_
            obtain ⟨v9, e10, h⟩ := h_bd_ok h
            refine h_ald cx hw 12 (wM_p12 q cI cZ S) e10 dX4_isChanged_83 ?_
            refine lv_aload_n hx hb dX4_isChanged_84 rfl (lv_at hl 1 rfl) ?_
            refine h_get (v := .ref (q 16)) cx hw 0 (wM_p0 q cI cZ S) rfl hinX4 17 (by decide) lk56 rfl dX4_isChanged_85 ?_
            refine lv_iload_n hx hb dX4_isChanged_88 rfl (lv_at hl 3 rfl) ?_
            obtain ⟨v11, e12, h⟩ := h_bd_ok h
            refine h_ald cx hw 16 (wM_p16 q cI cZ S) e12 dX4_isChanged_89 ?_
            refine lv_icmp_eq (tgt := 97) hx hb dX4_isChanged_90 (by decide) (fun c13 => ?_) (fun c13 => ?_)
            · have h := h_ifp c13 h
              exact kk97 _ _ _ h _ _ _ hw (lv_sub hl [1, 2, 3, 0] rfl)
            · have h := h_ifn c13 h
              exact kk93 _ _ _ h _ _ _ hw (lv_sub hl [1, 2, 3, 0] rfl)
      have kk48 : ∀ (x1 x2 : Int32), f_X4_isChanged_48 S (f_X4_isChanged_2 S n2) x1 x2 = some r → ∀ (H : Heap) (locs : List Loc) (ls : Array Slot), HW (dC, dI) (wM q cI cZ) S A s H locs → lv_has ls 5 [(0, .ref (q 0)), (1, .int x1), (2, .int x2)] → W p l e rmX4_isChanged s m ([.ref (q 0), .int a1] : List Value).toArray below meth c H locs 0 0 (MQ below (QI (dC, dI) (wM q cI cZ) r S A) ([.ref (q 0), .int a1] : List Value).toArray s 0 0 A) (F0 m 48 ls []) := by
        intro x1 x2 h H locs ls hw hl
        unfold f_X4_isChanged_48 at h
        refine lv_iconst (v := 1) hx hb dX4_isChanged_48 (by decide) ?_
        refine lv_goto (tgt := 53) hx hb dX4_isChanged_49 (by decide) ?_
        exact kk53 _ _ _ h _ _ _ hw (lv_sub hl [0, 1, 2] rfl)
      have kk52 : ∀ (x1 x2 : Int32), f_X4_isChanged_52 S (f_X4_isChanged_2 S n2) x1 x2 = some r → ∀ (H : Heap) (locs : List Loc) (ls : Array Slot), HW (dC, dI) (wM q cI cZ) S A s H locs → lv_has ls 5 [(0, .ref (q 0)), (1, .int x1), (2, .int x2)] → W p l e rmX4_isChanged s m ([.ref (q 0), .int a1] : List Value).toArray below meth c H locs 0 0 (MQ below (QI (dC, dI) (wM q cI cZ) r S A) ([.ref (q 0), .int a1] : List Value).toArray s 0 0 A) (F0 m 52 ls []) := by
        intro x1 x2 h H locs ls hw hl
        unfold f_X4_isChanged_52 at h
        refine lv_iconst (v := 0) hx hb dX4_isChanged_52 (by decide) ?_
        exact kk53 _ _ _ h _ _ _ hw (lv_sub hl [0, 1, 2] rfl)
      refine lv_iload_n hx hb dX4_isChanged_2 rfl (lv_at hl 2 rfl) ?_
      refine lv_sipush (v := 336) hx hb dX4_isChanged_3 (by decide) ?_
      refine lv_icmp_ge (tgt := 121) hx hb dX4_isChanged_6 (by decide) (fun c1 => ?_) (fun c1 => ?_)
      · have h := h_ifp c1 h
        refine lv_iconst (v := 0) hx hb dX4_isChanged_121 (by decide) ?_
        exact h_iret cx hw hr hlk rfl (Option.some.inj h) rfl dX4_isChanged_122
      · have h := h_ifn c1 h
        refine lv_aload_n hx hb dX4_isChanged_9 rfl (lv_at hl 0 rfl) ?_
        refine h_get (v := .ref (q 9)) cx hw 0 (wM_p0 q cI cZ S) rfl hinX4 9 (by decide) lk35 rfl dX4_isChanged_10 ?_
        refine lv_iload_n hx hb dX4_isChanged_13 rfl (lv_at hl 2 rfl) ?_
        obtain ⟨v2, e3, h⟩ := h_bd_ok h
        refine h_ald cx hw 9 (wM_p9 q cI cZ S) e3 dX4_isChanged_14 ?_
        refine lv_aload_n hx hb dX4_isChanged_15 rfl (lv_at hl 0 rfl) ?_
        refine h_get (v := .ref (q 13)) cx hw 0 (wM_p0 q cI cZ S) rfl hinX4 14 (by decide) lk47 rfl dX4_isChanged_16 ?_
        refine lv_iload_n hx hb dX4_isChanged_19 rfl (lv_at hl 2 rfl) ?_
        obtain ⟨v4, e5, h⟩ := h_bd_ok h
        refine h_ald cx hw 13 (wM_p13 q cI cZ S) e5 dX4_isChanged_20 ?_
        refine lv_icmp_ne (tgt := 48) hx hb dX4_isChanged_21 (by decide) (fun c6 => ?_) (fun c6 => ?_)
        · have h := h_ifn c6 h
          exact kk48 _ _ h _ _ _ hw (lv_sub hl [0, 1, 2] rfl)
        · have h := h_ifp c6 h
          refine lv_aload_n hx hb dX4_isChanged_24 rfl (lv_at hl 0 rfl) ?_
          refine h_get (v := .ref (q 9)) cx hw 0 (wM_p0 q cI cZ S) rfl hinX4 9 (by decide) lk35 rfl dX4_isChanged_25 ?_
          refine lv_iload_n hx hb dX4_isChanged_28 rfl (lv_at hl 2 rfl) ?_
          obtain ⟨v7, e8, h⟩ := h_bd_ok h
          refine h_ald cx hw 9 (wM_p9 q cI cZ S) e8 dX4_isChanged_29 ?_
          refine lv_if_le (tgt := 52) hx hb dX4_isChanged_30 (by decide) (fun c9 => ?_) (fun c9 => ?_)
          · have h := h_ifp c9 h
            exact kk52 _ _ h _ _ _ hw (lv_sub hl [0, 1, 2] rfl)
          · have h := h_ifn c9 h
            refine lv_aload_n hx hb dX4_isChanged_33 rfl (lv_at hl 0 rfl) ?_
            refine h_get (v := .ref (q 10)) cx hw 0 (wM_p0 q cI cZ S) rfl hinX4 10 (by decide) lk38 rfl dX4_isChanged_34 ?_
            refine lv_iload_n hx hb dX4_isChanged_37 rfl (lv_at hl 2 rfl) ?_
            obtain ⟨v10, e11, h⟩ := h_bd_ok h
            refine h_ald cx hw 10 (wM_p10 q cI cZ S) e11 dX4_isChanged_38 ?_
            refine lv_aload_n hx hb dX4_isChanged_39 rfl (lv_at hl 0 rfl) ?_
            refine h_get (v := .ref (q 14)) cx hw 0 (wM_p0 q cI cZ S) rfl hinX4 15 (by decide) lk50 rfl dX4_isChanged_40 ?_
            refine lv_iload_n hx hb dX4_isChanged_43 rfl (lv_at hl 2 rfl) ?_
            obtain ⟨v12, e13, h⟩ := h_bd_ok h
            refine h_ald cx hw 14 (wM_p14 q cI cZ S) e13 dX4_isChanged_44 ?_
            refine lv_icmp_eq (tgt := 52) hx hb dX4_isChanged_45 (by decide) (fun c14 => ?_) (fun c14 => ?_)
            · have h := h_ifp c14 h
              exact kk52 _ _ h _ _ _ hw (lv_sub hl [0, 1, 2] rfl)
            · have h := h_ifn c14 h
              exact kk48 _ _ h _ _ _ hw (lv_sub hl [0, 1, 2] rfl)
  refine lv_iconst (v := 0) hx hb dX4_isChanged_0 (by decide) ?_
  refine lv_istore_n (lv' := [(2, .int 0), (0, .ref (q 0)), (1, .int a1)]) hx hb dX4_isChanged_1 rfl hl (by decide) rfl (fun ls hl => ?_)
  exact kk2 h_fu _ _ h _ _ _ hw (lv_sub hl [1, 2, 0] rfl)
set_option maxHeartbeats 4000000 in
set_option maxRecDepth 100000 in
theorem c_X4_ticks (l : Launch) (dC : Nat → ClassId) (dI : Nat → Nat → Nat) (cI cZ : ClassId) (q : Nat → Nat) (S : HSt) (a1 : Int32) (r : Int32) (S9 : HSt) (h : f_X4_ticks S a1 = some (r, S9)) : MI l yX4_ticks hsX4_ticks rmX4_ticks (dC, dI) cI cZ (wM q cI cZ) S [.ref (q 0), .int a1] r S9 := by
  refine MI.ofW (cc := cX4_ticks) (maxL := 4) (ret := (some .int)) (by decide +kernel) rfl (Nat.le_of_ble_eq_true rfl) ?_
  intro p e s m below meth c A cx hr hlk hw ls hl
  have hx := cx.1.1
  have hb := cx.1.2.1
  have hml := cx.1.2.2.1
  have hts := cx.1.2.2.2.2
  have hta : ∀ z ∈ hALL, z.before _ s = true := fun z h => hts z (List.mem_cons_of_mem _ h)
  have lk161 : (Cond.fieldLink RX4 161 (TX4 13).1 (TX4 13).2.1 (TX4 13).2.2.1).before _ s = true := hta _ wdF_X4_161
  have hl : lv_has ls 4 [(0, .ref (q 0)), (1, .int a1)] := hl
  unfold f_X4_ticks at h
  have kk17 : ∀ (n17 : Nat) (S : HSt) (x1 x2 x3 : Int32), f_X4_ticks_17 n17 S x1 x2 x3 = some (r, S9) → ∀ (H : Heap) (locs : List Loc) (ls : Array Slot), HW (dC, dI) (wM q cI cZ) S A s H locs → lv_has ls 4 [(0, .ref (q 0)), (1, .int x1), (2, .int x2), (3, .int x3)] → W p l e rmX4_ticks s m ([.ref (q 0), .int a1] : List Value).toArray below meth c H locs 0 0 (MQ below (QI (dC, dI) (wM q cI cZ) r S9 A) ([.ref (q 0), .int a1] : List Value).toArray s 0 0 A) (F0 m 17 ls []) := by
    intro n17
    induction n17 with
    | zero =>
      intro S x1 x2 x3 h
      have h9 : (none : Option (Int32 × HSt)) = some (r, S9) := h
      cases h9
    | succ n17 ih17 =>
      intro S x1 x2 x3 h H locs ls hw hl
      have h : f_X4_ticks_17_s (f_X4_ticks_17 n17) S x1 x2 x3 = some (r, S9) := h
      unfold f_X4_ticks_17_s at h
      have kk50 : ∀ (S : HSt) (x1 x3 t0 t1 : Int32), f_X4_ticks_50 (f_X4_ticks_17 n17) S x1 x3 t0 t1 = some (r, S9) → ∀ (H : Heap) (locs : List Loc) (ls : Array Slot), HW (dC, dI) (wM q cI cZ) S A s H locs → lv_has ls 4 [(0, .ref (q 0)), (1, .int x1), (3, .int x3)] → W p l e rmX4_ticks s m ([.ref (q 0), .int a1] : List Value).toArray below meth c H locs 0 0 (MQ below (QI (dC, dI) (wM q cI cZ) r S9 A) ([.ref (q 0), .int a1] : List Value).toArray s 0 0 A) (F0 m 50 ls [.int t0, .int t1]) := by
        intro S x1 x3 t0 t1 h H locs ls hw hl
        unfold f_X4_ticks_50 at h
        refine lv_iadd hx hb dX4_ticks_50 ?_
        refine lv_istore_n (lv' := [(2, .int (t1 + t0)), (0, .ref (q 0)), (1, .int x1), (3, .int x3)]) hx hb dX4_ticks_51 rfl hl (by decide) rfl (fun ls hl => ?_)
        refine lv_iinc (v := x3 + 1) (lv' := [(3, .int (x3 + 1)), (2, .int (t1 + t0)), (0, .ref (q 0)), (1, .int x1)]) hx hb dX4_ticks_52 hl (k := 3) rfl rfl (by decide) rfl (fun ls hl => ?_)
        refine lv_goto (tgt := 17) hx hb dX4_ticks_55 (by decide) ?_
        exact ih17 _ _ _ _ h _ _ _ hw (lv_sub hl [2, 3, 1, 0] rfl)
      refine lv_iload_n hx hb dX4_ticks_17 rfl (lv_at hl 3 rfl) ?_
      refine lv_iload_n hx hb dX4_ticks_18 rfl (lv_at hl 1 rfl) ?_
      refine lv_icmp_ge (tgt := 58) hx hb dX4_ticks_19 (by decide) (fun c1 => ?_) (fun c1 => ?_)
      · have h := h_ifp c1 h
        refine lv_iload_n hx hb dX4_ticks_58 rfl (lv_at hl 2 rfl) ?_
        exact h_iret cx hw hr hlk rfl (congrArg Prod.fst (Option.some.inj h)) (congrArg Prod.snd (Option.some.inj h)) dX4_ticks_59
      · have h := h_ifn c1 h
        refine lv_aload_n hx hb dX4_ticks_22 rfl (lv_at hl 0 rfl) ?_
        obtain ⟨S4, e3, h⟩ := h_bd_ok h
        refine h_callV cx hw (c_X4_goesOn l dC dI cI cZ q S S4 e3) (cwV 0 hts (hgA (hcV wdL_X4_158 wdI_X4_goesOn wdS_X4_goesOn wdN_RX4 wdC_X4_goesOn)) rfl rfl rfl pdX4_goesOn ⟨Nat.le_of_ble_eq_true rfl, Nat.le_of_ble_eq_true rfl⟩) 0 (wM_p0 q cI cZ S) rfl rfl rfl hl.1 rfl (Nat.le_of_ble_eq_true rfl) dX4_ticks_23 ⟨Nat.zero_le _, Nat.zero_le _⟩ (fun H locs hw => ?_)
        refine lv_aload_n hx hb dX4_ticks_26 rfl (lv_at hl 0 rfl) ?_
        refine lv_dup hx hb dX4_ticks_27 rfl ?_
        refine h_get (v := .int (S4.1 1)) cx hw 0 (wM_p0 q cI cZ S4) rfl hinX4 13 (by decide) lk161 rfl dX4_ticks_28 ?_
        refine lv_iconst (v := 1) hx hb dX4_ticks_31 (by decide) ?_
        refine lv_iadd hx hb dX4_ticks_32 ?_
        obtain ⟨S5, e6, h⟩ := h_bd_ok h
        refine h_puti (x := (S4.1 1) + 1) cx hw 0 (wM_p0 q cI cZ S4) rfl hinX4 tyX4 tyX4_ok nmX4 13 (by decide) lk161 rfl (by decide +kernel) (Nat.le_of_ble_eq_true rfl) 1 (wM_i1 q cI cZ S4 ((S4.1 1) + 1)) e6 dX4_ticks_33 (fun H locs hw => ?_)
        refine lv_iload_n hx hb dX4_ticks_36 rfl (lv_at hl 2 rfl) ?_
        refine lv_aload_n hx hb dX4_ticks_37 rfl (lv_at hl 0 rfl) ?_
        refine lv_iconst (v := 0) hx hb dX4_ticks_38 (by decide) ?_
        obtain ⟨r7, e8, h⟩ := h_bd_ok h
        refine h_callI cx hw (c_X4_isChanged l dC dI cI cZ q S5 0 r7 e8) (cwV 1 hts (hgA (hcV wdL_X4_164 wdI_X4_isChanged wdS_X4_isChanged wdN_RX4 wdC_X4_isChanged)) rfl rfl rfl pdX4_isChanged ⟨Nat.le_of_ble_eq_true rfl, Nat.le_of_ble_eq_true rfl⟩) 0 (wM_p0 q cI cZ S5) rfl rfl rfl hl.1 rfl (Nat.le_of_ble_eq_true rfl) dX4_ticks_39 ⟨Nat.zero_le _, Nat.zero_le _⟩ (fun H locs hw => ?_)
        refine lv_if_eq (tgt := 49) hx hb dX4_ticks_42 (by decide) (fun c9 => ?_) (fun c9 => ?_)
        · have h := h_ifp c9 h
          refine lv_iconst (v := 0) hx hb dX4_ticks_49 (by decide) ?_
          exact kk50 _ _ _ _ _ h _ _ _ hw (lv_sub hl [0, 1, 3] rfl)
        · have h := h_ifn c9 h
          refine lv_iconst (v := 1) hx hb dX4_ticks_45 (by decide) ?_
          refine lv_goto (tgt := 50) hx hb dX4_ticks_46 (by decide) ?_
          exact kk50 _ _ _ _ _ h _ _ _ hw (lv_sub hl [0, 1, 3] rfl)
  refine lv_iload_n hx hb dX4_ticks_0 rfl (lv_at hl 1 rfl) ?_
  refine lv_iconst (v := 0) hx hb dX4_ticks_1 (by decide) ?_
  refine lv_bipush (v := 20) hx hb dX4_ticks_2 (by decide) ?_
  obtain ⟨r1, e2, h⟩ := h_bd_ok h
  refine h_callS cx.1 (c_X4_within l a1 0 20 r1 e2) (va_cwS 3 hts (hgA (hcS wdL_X4_80 wdT_X4_within wdN_RX4 wdC_X4_within)) rfl rfl rfl pdX4_within.2 ⟨Nat.le_of_ble_eq_true rfl, Nat.le_of_ble_eq_true rfl⟩) rfl hl.1 rfl (Nat.le_of_ble_eq_true rfl) dX4_ticks_4 ⟨Nat.zero_le _, Nat.zero_le _⟩ ?_
  refine lv_if_ne (tgt := 13) hx hb dX4_ticks_7 (by decide) (fun c3 => ?_) (fun c3 => ?_)
  · have h := h_ifn c3 h
    refine lv_iconst (v := 0) hx hb dX4_ticks_13 (by decide) ?_
    refine lv_istore_n (lv' := [(2, .int 0), (0, .ref (q 0)), (1, .int a1)]) hx hb dX4_ticks_14 rfl hl (by decide) rfl (fun ls hl => ?_)
    refine lv_iconst (v := 0) hx hb dX4_ticks_15 (by decide) ?_
    refine lv_istore_n (lv' := [(3, .int 0), (2, .int 0), (0, .ref (q 0)), (1, .int a1)]) hx hb dX4_ticks_16 rfl hl (by decide) rfl (fun ls hl => ?_)
    exact kk17 h_fu _ _ _ _ h _ _ _ hw (lv_sub hl [2, 3, 1, 0] rfl)
  · have h := h_ifp c3 h
    refine lv_bipush (v := (-2)) hx hb dX4_ticks_10 (by decide) ?_
    exact h_iret cx hw hr hlk rfl (congrArg Prod.fst (Option.some.inj h)) (congrArg Prod.snd (Option.some.inj h)) dX4_ticks_12
set_option maxHeartbeats 4000000 in
set_option maxRecDepth 100000 in
theorem c_X4_isThere (l : Launch) (dC : Nat → ClassId) (dI : Nat → Nat → Nat) (cI cZ : ClassId) (q : Nat → Nat) (S : HSt) (a1 a2 : Int32) (r : Int32) (h : f_X4_isThere S a1 a2 = some r) : MI l yX4_isThere hsX4_isThere rmX4_isThere (dC, dI) cI cZ (wM q cI cZ) S [.ref (q 0), .int a1, .int a2] r S := by
  refine MI.ofW (cc := cX4_isThere) (maxL := 3) (ret := (some .boolean)) (by decide +kernel) rfl (Nat.le_of_ble_eq_true rfl) ?_
  intro p e s m below meth c A cx hr hlk hw ls hl
  have hx := cx.1.1
  have hb := cx.1.2.1
  have hml := cx.1.2.2.1
  have hts := cx.1.2.2.2.2
  have hta : ∀ z ∈ hALL, z.before _ s = true := fun z h => hts z (List.mem_cons_of_mem _ h)
  have hl : lv_has ls 3 [(0, .ref (q 0)), (1, .int a1), (2, .int a2)] := hl
  unfold f_X4_isThere at h
  refine lv_iload_n hx hb dX4_isThere_0 rfl (lv_at hl 1 rfl) ?_
  obtain ⟨r1, e2, h⟩ := h_bd_ok h
  refine h_callS cx.1 (c_X4_isBox l a1 r1 e2) (va_cwS 1 hts (hgA (hcS wdL_X4_88 wdT_X4_isBox wdN_RX4 wdC_X4_isBox)) rfl rfl rfl pdX4_isBox.2 ⟨Nat.le_of_ble_eq_true rfl, Nat.le_of_ble_eq_true rfl⟩) rfl hl.1 rfl (Nat.le_of_ble_eq_true rfl) dX4_isThere_1 ⟨Nat.zero_le _, Nat.zero_le _⟩ ?_
  refine lv_if_eq (tgt := 28) hx hb dX4_isThere_4 (by decide) (fun c3 => ?_) (fun c3 => ?_)
  · have h := h_ifp c3 h
    refine lv_iconst (v := 0) hx hb dX4_isThere_28 (by decide) ?_
    exact h_iret cx hw hr hlk rfl (Option.some.inj h) rfl dX4_isThere_29
  · have h := h_ifn c3 h
    refine lv_aload_n hx hb dX4_isThere_7 rfl (lv_at hl 0 rfl) ?_
    refine lv_iload_n hx hb dX4_isThere_8 rfl (lv_at hl 2 rfl) ?_
    obtain ⟨r4, e5, h⟩ := h_bd_ok h
    refine h_callI cx hw (c_X4_isLink l dC dI cI cZ q S a2 r4 e5) (cwV 1 hts (hgA (hcV wdL_X4_96 wdI_X4_isLink wdS_X4_isLink wdN_RX4 wdC_X4_isLink)) rfl rfl rfl pdX4_isLink ⟨Nat.le_of_ble_eq_true rfl, Nat.le_of_ble_eq_true rfl⟩) 0 (wM_p0 q cI cZ S) rfl rfl rfl hl.1 rfl (Nat.le_of_ble_eq_true rfl) dX4_isThere_9 ⟨Nat.zero_le _, Nat.zero_le _⟩ (fun H locs hw => ?_)
    refine lv_if_eq (tgt := 28) hx hb dX4_isThere_12 (by decide) (fun c6 => ?_) (fun c6 => ?_)
    · have h := h_ifp c6 h
      refine lv_iconst (v := 0) hx hb dX4_isThere_28 (by decide) ?_
      exact h_iret cx hw hr hlk rfl (Option.some.inj h) rfl dX4_isThere_29
    · have h := h_ifn c6 h
      refine lv_aload_n hx hb dX4_isThere_15 rfl (lv_at hl 0 rfl) ?_
      refine lv_iload_n hx hb dX4_isThere_16 rfl (lv_at hl 2 rfl) ?_
      refine lv_iload_n hx hb dX4_isThere_17 rfl (lv_at hl 1 rfl) ?_
      obtain ⟨r7, e8, h⟩ := h_bd_ok h
      refine h_callI cx hw (c_X4_isAt l dC dI cI cZ q S a2 a1 r7 e8) (cwV 2 hts (hgA (hcV wdL_X4_116 wdI_X4_isAt wdS_X4_isAt wdN_RX4 wdC_X4_isAt)) rfl rfl rfl pdX4_isAt ⟨Nat.le_of_ble_eq_true rfl, Nat.le_of_ble_eq_true rfl⟩) 0 (wM_p0 q cI cZ S) rfl rfl rfl hl.1 rfl (Nat.le_of_ble_eq_true rfl) dX4_isThere_18 ⟨Nat.zero_le _, Nat.zero_le _⟩ (fun H locs hw => ?_)
      refine lv_if_eq (tgt := 28) hx hb dX4_isThere_21 (by decide) (fun c9 => ?_) (fun c9 => ?_)
      · have h := h_ifp c9 h
        refine lv_iconst (v := 0) hx hb dX4_isThere_28 (by decide) ?_
        exact h_iret cx hw hr hlk rfl (Option.some.inj h) rfl dX4_isThere_29
      · have h := h_ifn c9 h
        refine lv_iconst (v := 1) hx hb dX4_isThere_24 (by decide) ?_
        refine lv_goto (tgt := 29) hx hb dX4_isThere_25 (by decide) ?_
        exact h_iret cx hw hr hlk rfl (Option.some.inj h) rfl dX4_isThere_29
set_option maxHeartbeats 4000000 in
set_option maxRecDepth 100000 in
theorem c_X4_tell (l : Launch) (a0 a1 a2 : Int32) (r : Int32) (h : f_X4_tell a0 a1 a2 = some r) : MS l yX4_tell hsX4_tell rmX4_tell [.int a0, .int a1, .int a2] r := by
  refine MS.ofW (cc := cX4_tell) (maxL := 3) (ret := (some .int)) (by decide +kernel) rfl (Nat.le_of_ble_eq_true rfl) ?_
  intro p e s m below meth c cf hr hlk ls hl
  have hx := cf.1
  have hb := cf.2.1
  have hml := cf.2.2.1
  have hts := cf.2.2.2.2
  have hta : ∀ z ∈ hALL, z.before _ s = true := fun z h => hts z (List.mem_cons_of_mem _ h)
  have hl : lv_has ls 3 [(0, .int a0), (1, .int a1), (2, .int a2)] := hl
  unfold f_X4_tell at h
  refine lv_iload_n hx hb dX4_tell_0 rfl (lv_at hl 2 rfl) ?_
  refine lv_iconst (v := 0) hx hb dX4_tell_1 (by decide) ?_
  refine lv_iconst (v := 1) hx hb dX4_tell_2 (by decide) ?_
  obtain ⟨r1, e2, h⟩ := h_bd_ok h
  refine h_callS cf (c_X4_within l a2 0 1 r1 e2) (va_cwS 3 hts (hgA (hcS wdL_X4_80 wdT_X4_within wdN_RX4 wdC_X4_within)) rfl rfl rfl pdX4_within.2 ⟨Nat.le_of_ble_eq_true rfl, Nat.le_of_ble_eq_true rfl⟩) rfl hl.1 rfl (Nat.le_of_ble_eq_true rfl) dX4_tell_3 ⟨Nat.zero_le _, Nat.zero_le _⟩ ?_
  refine lv_if_ne (tgt := 12) hx hb dX4_tell_6 (by decide) (fun c3 => ?_) (fun c3 => ?_)
  · have h := h_ifn c3 h
    refine lv_iload_n hx hb dX4_tell_12 rfl (lv_at hl 0 rfl) ?_
    refine lv_if_ne (tgt := 21) hx hb dX4_tell_13 (by decide) (fun c4 => ?_) (fun c4 => ?_)
    · have h := h_ifn c4 h
      refine lv_iload_n hx hb dX4_tell_21 rfl (lv_at hl 2 rfl) ?_
      refine lv_if_ne (tgt := 29) hx hb dX4_tell_22 (by decide) (fun c5 => ?_) (fun c5 => ?_)
      · have h := h_ifn c5 h
        refine lv_iload_n hx hb dX4_tell_29 rfl (lv_at hl 1 rfl) ?_
        exact h_sret cf hr hlk rfl (Option.some.inj h) dX4_tell_30
      · have h := h_ifp c5 h
        refine lv_iload_n hx hb dX4_tell_25 rfl (lv_at hl 0 rfl) ?_
        refine lv_goto (tgt := 30) hx hb dX4_tell_26 (by decide) ?_
        exact h_sret cf hr hlk rfl (Option.some.inj h) dX4_tell_30
    · have h := h_ifp c4 h
      refine lv_bipush (v := (-9)) hx hb dX4_tell_16 (by decide) ?_
      refine lv_goto (tgt := 30) hx hb dX4_tell_18 (by decide) ?_
      exact h_sret cf hr hlk rfl (Option.some.inj h) dX4_tell_30
  · have h := h_ifp c3 h
    refine lv_bipush (v := (-2)) hx hb dX4_tell_9 (by decide) ?_
    exact h_sret cf hr hlk rfl (Option.some.inj h) dX4_tell_11
set_option maxHeartbeats 4000000 in
set_option maxRecDepth 100000 in
theorem c_X4_handed (l : Launch) (dC : Nat → ClassId) (dI : Nat → Nat → Nat) (cI cZ : ClassId) (q : Nat → Nat) (S : HSt) (a1 a2 a3 a4 : Int32) (r : Int32) (h : f_X4_handed S a1 a2 a3 a4 = some r) : MI l yX4_handed hsX4_handed rmX4_handed (dC, dI) cI cZ (wM q cI cZ) S [.ref (q 0), .int a1, .int a2, .int a3, .int a4] r S := by
  refine MI.ofW (cc := cX4_handed) (maxL := 5) (ret := (some .int)) (by decide +kernel) rfl (Nat.le_of_ble_eq_true rfl) ?_
  intro p e s m below meth c A cx hr hlk hw ls hl
  have hx := cx.1.1
  have hb := cx.1.2.1
  have hml := cx.1.2.2.1
  have hts := cx.1.2.2.2.2
  have hta : ∀ z ∈ hALL, z.before _ s = true := fun z h => hts z (List.mem_cons_of_mem _ h)
  have lk35 : (Cond.fieldLink RX4 35 (TX4 9).1 (TX4 9).2.1 (TX4 9).2.2.1).before _ s = true := hta _ wdF_X4_35
  have lk38 : (Cond.fieldLink RX4 38 (TX4 10).1 (TX4 10).2.1 (TX4 10).2.2.1).before _ s = true := hta _ wdF_X4_38
  have hl : lv_has ls 5 [(0, .ref (q 0)), (1, .int a1), (2, .int a2), (3, .int a3), (4, .int a4)] := hl
  unfold f_X4_handed at h
  refine lv_aload_n hx hb dX4_handed_0 rfl (lv_at hl 0 rfl) ?_
  refine lv_iload_n hx hb dX4_handed_1 rfl (lv_at hl 1 rfl) ?_
  refine lv_iload_n hx hb dX4_handed_2 rfl (lv_at hl 2 rfl) ?_
  obtain ⟨r1, e2, h⟩ := h_bd_ok h
  refine h_callI cx hw (c_X4_isThere l dC dI cI cZ q S a1 a2 r1 e2) (cwV 2 hts (hgA (hcV wdL_X4_168 wdI_X4_isThere wdS_X4_isThere wdN_RX4 wdC_X4_isThere)) rfl rfl rfl pdX4_isThere ⟨Nat.le_of_ble_eq_true rfl, Nat.le_of_ble_eq_true rfl⟩) 0 (wM_p0 q cI cZ S) rfl rfl rfl hl.1 rfl (Nat.le_of_ble_eq_true rfl) dX4_handed_3 ⟨Nat.zero_le _, Nat.zero_le _⟩ (fun H locs hw => ?_)
  refine lv_if_eq (tgt := 16) hx hb dX4_handed_6 (by decide) (fun c3 => ?_) (fun c3 => ?_)
  · have h := h_ifp c3 h
    refine lv_iconst (v := (-1)) hx hb dX4_handed_16 (by decide) ?_
    exact h_iret cx hw hr hlk rfl (Option.some.inj h) rfl dX4_handed_17
  · have h := h_ifn c3 h
    refine lv_iload_n hx hb dX4_handed_9 rfl (lv_at hl 3 rfl) ?_
    obtain ⟨r4, e5, h⟩ := h_bd_ok h
    refine h_callS cx.1 (c_X4_isClass l a3 r4 e5) (va_cwS 1 hts (hgA (hcS wdL_X4_99 wdT_X4_isClass wdN_RX4 wdC_X4_isClass)) rfl rfl rfl pdX4_isClass.2 ⟨Nat.le_of_ble_eq_true rfl, Nat.le_of_ble_eq_true rfl⟩) rfl hl.1 rfl (Nat.le_of_ble_eq_true rfl) dX4_handed_10 ⟨Nat.zero_le _, Nat.zero_le _⟩ ?_
    refine lv_if_ne (tgt := 18) hx hb dX4_handed_13 (by decide) (fun c6 => ?_) (fun c6 => ?_)
    · have h := h_ifn c6 h
      refine lv_aload_n hx hb dX4_handed_18 rfl (lv_at hl 0 rfl) ?_
      refine h_get (v := .ref (q 9)) cx hw 0 (wM_p0 q cI cZ S) rfl hinX4 9 (by decide) lk35 rfl dX4_handed_19 ?_
      refine lv_iload_n hx hb dX4_handed_22 rfl (lv_at hl 1 rfl) ?_
      refine lv_iload_n hx hb dX4_handed_23 rfl (lv_at hl 2 rfl) ?_
      refine lv_iload_n hx hb dX4_handed_24 rfl (lv_at hl 3 rfl) ?_
      obtain ⟨r7, e8, h⟩ := h_bd_ok h
      refine h_callS cx.1 (c_X4_at l a1 a2 a3 r7 e8) (va_cwS 3 hts (hgA (hcS wdL_X4_109 wdT_X4_at wdN_RX4 wdC_X4_at)) rfl rfl rfl pdX4_at.2 ⟨Nat.le_of_ble_eq_true rfl, Nat.le_of_ble_eq_true rfl⟩) rfl hl.1 rfl (Nat.le_of_ble_eq_true rfl) dX4_handed_25 ⟨Nat.zero_le _, Nat.zero_le _⟩ ?_
      obtain ⟨v9, e10, h⟩ := h_bd_ok h
      refine h_ald cx hw 9 (wM_p9 q cI cZ S) e10 dX4_handed_28 ?_
      refine lv_aload_n hx hb dX4_handed_29 rfl (lv_at hl 0 rfl) ?_
      refine h_get (v := .ref (q 10)) cx hw 0 (wM_p0 q cI cZ S) rfl hinX4 10 (by decide) lk38 rfl dX4_handed_30 ?_
      refine lv_iload_n hx hb dX4_handed_33 rfl (lv_at hl 1 rfl) ?_
      refine lv_iload_n hx hb dX4_handed_34 rfl (lv_at hl 2 rfl) ?_
      refine lv_iload_n hx hb dX4_handed_35 rfl (lv_at hl 3 rfl) ?_
      obtain ⟨r11, e12, h⟩ := h_bd_ok h
      refine h_callS cx.1 (c_X4_at l a1 a2 a3 r11 e12) (va_cwS 3 hts (hgA (hcS wdL_X4_109 wdT_X4_at wdN_RX4 wdC_X4_at)) rfl rfl rfl pdX4_at.2 ⟨Nat.le_of_ble_eq_true rfl, Nat.le_of_ble_eq_true rfl⟩) rfl hl.1 rfl (Nat.le_of_ble_eq_true rfl) dX4_handed_36 ⟨Nat.zero_le _, Nat.zero_le _⟩ ?_
      obtain ⟨v13, e14, h⟩ := h_bd_ok h
      refine h_ald cx hw 10 (wM_p10 q cI cZ S) e14 dX4_handed_39 ?_
      refine lv_iload hx hb dX4_handed_40 (lv_at hl 4 rfl) ?_
      obtain ⟨r15, e16, h⟩ := h_bd_ok h
      refine h_callS cx.1 (c_X4_tell l v9 v13 a4 r15 e16) (va_cwS 3 hts (hgA (hcS wdL_X4_171 wdT_X4_tell wdN_RX4 wdC_X4_tell)) rfl rfl rfl pdX4_tell.2 ⟨Nat.le_of_ble_eq_true rfl, Nat.le_of_ble_eq_true rfl⟩) rfl hl.1 rfl (Nat.le_of_ble_eq_true rfl) dX4_handed_42 ⟨Nat.zero_le _, Nat.zero_le _⟩ ?_
      exact h_iret cx hw hr hlk rfl (Option.some.inj h) rfl dX4_handed_45
    · have h := h_ifp c6 h
      refine lv_iconst (v := (-1)) hx hb dX4_handed_16 (by decide) ?_
      exact h_iret cx hw hr hlk rfl (Option.some.inj h) rfl dX4_handed_17
set_option maxHeartbeats 4000000 in
set_option maxRecDepth 100000 in
theorem c_X4_kept (l : Launch) (dC : Nat → ClassId) (dI : Nat → Nat → Nat) (cI cZ : ClassId) (q : Nat → Nat) (S : HSt) (a1 a2 a3 a4 : Int32) (r : Int32) (h : f_X4_kept S a1 a2 a3 a4 = some r) : MI l yX4_kept hsX4_kept rmX4_kept (dC, dI) cI cZ (wM q cI cZ) S [.ref (q 0), .int a1, .int a2, .int a3, .int a4] r S := by
  refine MI.ofW (cc := cX4_kept) (maxL := 5) (ret := (some .int)) (by decide +kernel) rfl (Nat.le_of_ble_eq_true rfl) ?_
  intro p e s m below meth c A cx hr hlk hw ls hl
  have hx := cx.1.1
  have hb := cx.1.2.1
  have hml := cx.1.2.2.1
  have hts := cx.1.2.2.2.2
  have hta : ∀ z ∈ hALL, z.before _ s = true := fun z h => hts z (List.mem_cons_of_mem _ h)
  have lk41 : (Cond.fieldLink RX4 41 (TX4 11).1 (TX4 11).2.1 (TX4 11).2.2.1).before _ s = true := hta _ wdF_X4_41
  have lk44 : (Cond.fieldLink RX4 44 (TX4 12).1 (TX4 12).2.1 (TX4 12).2.2.1).before _ s = true := hta _ wdF_X4_44
  have hl : lv_has ls 5 [(0, .ref (q 0)), (1, .int a1), (2, .int a2), (3, .int a3), (4, .int a4)] := hl
  unfold f_X4_kept at h
  refine lv_aload_n hx hb dX4_kept_0 rfl (lv_at hl 0 rfl) ?_
  refine lv_iload_n hx hb dX4_kept_1 rfl (lv_at hl 1 rfl) ?_
  refine lv_iload_n hx hb dX4_kept_2 rfl (lv_at hl 2 rfl) ?_
  obtain ⟨r1, e2, h⟩ := h_bd_ok h
  refine h_callI cx hw (c_X4_isThere l dC dI cI cZ q S a1 a2 r1 e2) (cwV 2 hts (hgA (hcV wdL_X4_168 wdI_X4_isThere wdS_X4_isThere wdN_RX4 wdC_X4_isThere)) rfl rfl rfl pdX4_isThere ⟨Nat.le_of_ble_eq_true rfl, Nat.le_of_ble_eq_true rfl⟩) 0 (wM_p0 q cI cZ S) rfl rfl rfl hl.1 rfl (Nat.le_of_ble_eq_true rfl) dX4_kept_3 ⟨Nat.zero_le _, Nat.zero_le _⟩ (fun H locs hw => ?_)
  refine lv_if_eq (tgt := 16) hx hb dX4_kept_6 (by decide) (fun c3 => ?_) (fun c3 => ?_)
  · have h := h_ifp c3 h
    refine lv_iconst (v := (-1)) hx hb dX4_kept_16 (by decide) ?_
    exact h_iret cx hw hr hlk rfl (Option.some.inj h) rfl dX4_kept_17
  · have h := h_ifn c3 h
    refine lv_iload_n hx hb dX4_kept_9 rfl (lv_at hl 3 rfl) ?_
    obtain ⟨r4, e5, h⟩ := h_bd_ok h
    refine h_callS cx.1 (c_X4_isClass l a3 r4 e5) (va_cwS 1 hts (hgA (hcS wdL_X4_99 wdT_X4_isClass wdN_RX4 wdC_X4_isClass)) rfl rfl rfl pdX4_isClass.2 ⟨Nat.le_of_ble_eq_true rfl, Nat.le_of_ble_eq_true rfl⟩) rfl hl.1 rfl (Nat.le_of_ble_eq_true rfl) dX4_kept_10 ⟨Nat.zero_le _, Nat.zero_le _⟩ ?_
    refine lv_if_ne (tgt := 18) hx hb dX4_kept_13 (by decide) (fun c6 => ?_) (fun c6 => ?_)
    · have h := h_ifn c6 h
      refine lv_aload_n hx hb dX4_kept_18 rfl (lv_at hl 0 rfl) ?_
      refine h_get (v := .ref (q 11)) cx hw 0 (wM_p0 q cI cZ S) rfl hinX4 11 (by decide) lk41 rfl dX4_kept_19 ?_
      refine lv_iload_n hx hb dX4_kept_22 rfl (lv_at hl 1 rfl) ?_
      refine lv_iload_n hx hb dX4_kept_23 rfl (lv_at hl 2 rfl) ?_
      refine lv_iload_n hx hb dX4_kept_24 rfl (lv_at hl 3 rfl) ?_
      obtain ⟨r7, e8, h⟩ := h_bd_ok h
      refine h_callS cx.1 (c_X4_at l a1 a2 a3 r7 e8) (va_cwS 3 hts (hgA (hcS wdL_X4_109 wdT_X4_at wdN_RX4 wdC_X4_at)) rfl rfl rfl pdX4_at.2 ⟨Nat.le_of_ble_eq_true rfl, Nat.le_of_ble_eq_true rfl⟩) rfl hl.1 rfl (Nat.le_of_ble_eq_true rfl) dX4_kept_25 ⟨Nat.zero_le _, Nat.zero_le _⟩ ?_
      obtain ⟨v9, e10, h⟩ := h_bd_ok h
      refine h_ald cx hw 11 (wM_p11 q cI cZ S) e10 dX4_kept_28 ?_
      refine lv_aload_n hx hb dX4_kept_29 rfl (lv_at hl 0 rfl) ?_
      refine h_get (v := .ref (q 12)) cx hw 0 (wM_p0 q cI cZ S) rfl hinX4 12 (by decide) lk44 rfl dX4_kept_30 ?_
      refine lv_iload_n hx hb dX4_kept_33 rfl (lv_at hl 1 rfl) ?_
      refine lv_iload_n hx hb dX4_kept_34 rfl (lv_at hl 2 rfl) ?_
      refine lv_iload_n hx hb dX4_kept_35 rfl (lv_at hl 3 rfl) ?_
      obtain ⟨r11, e12, h⟩ := h_bd_ok h
      refine h_callS cx.1 (c_X4_at l a1 a2 a3 r11 e12) (va_cwS 3 hts (hgA (hcS wdL_X4_109 wdT_X4_at wdN_RX4 wdC_X4_at)) rfl rfl rfl pdX4_at.2 ⟨Nat.le_of_ble_eq_true rfl, Nat.le_of_ble_eq_true rfl⟩) rfl hl.1 rfl (Nat.le_of_ble_eq_true rfl) dX4_kept_36 ⟨Nat.zero_le _, Nat.zero_le _⟩ ?_
      obtain ⟨v13, e14, h⟩ := h_bd_ok h
      refine h_ald cx hw 12 (wM_p12 q cI cZ S) e14 dX4_kept_39 ?_
      refine lv_iload hx hb dX4_kept_40 (lv_at hl 4 rfl) ?_
      obtain ⟨r15, e16, h⟩ := h_bd_ok h
      refine h_callS cx.1 (c_X4_tell l v9 v13 a4 r15 e16) (va_cwS 3 hts (hgA (hcS wdL_X4_171 wdT_X4_tell wdN_RX4 wdC_X4_tell)) rfl rfl rfl pdX4_tell.2 ⟨Nat.le_of_ble_eq_true rfl, Nat.le_of_ble_eq_true rfl⟩) rfl hl.1 rfl (Nat.le_of_ble_eq_true rfl) dX4_kept_42 ⟨Nat.zero_le _, Nat.zero_le _⟩ ?_
      exact h_iret cx hw hr hlk rfl (Option.some.inj h) rfl dX4_kept_45
    · have h := h_ifp c6 h
      refine lv_iconst (v := (-1)) hx hb dX4_kept_16 (by decide) ?_
      exact h_iret cx hw hr hlk rfl (Option.some.inj h) rfl dX4_kept_17
set_option maxHeartbeats 4000000 in
set_option maxRecDepth 100000 in
theorem c_X4_usedLabel (l : Launch) (dC : Nat → ClassId) (dI : Nat → Nat → Nat) (cI cZ : ClassId) (q : Nat → Nat) (S : HSt) (a1 a2 : Int32) (r : Int32) (S9 : HSt) (h : f_X4_usedLabel S a1 a2 = some (r, S9)) : MI l yX4_usedLabel hsX4_usedLabel rmX4_usedLabel (dC, dI) cI cZ (wM q cI cZ) S [.ref (q 0), .int a1, .int a2] r S9 := by
  refine MI.ofW (cc := cX4_usedLabel) (maxL := 4) (ret := (some .int)) (by decide +kernel) rfl (Nat.le_of_ble_eq_true rfl) ?_
  intro p e s m below meth c A cx hr hlk hw ls hl
  have hx := cx.1.1
  have hb := cx.1.2.1
  have hml := cx.1.2.2.1
  have hts := cx.1.2.2.2.2
  have hta : ∀ z ∈ hALL, z.before _ s = true := fun z h => hts z (List.mem_cons_of_mem _ h)
  have lk41 : (Cond.fieldLink RX4 41 (TX4 11).1 (TX4 11).2.1 (TX4 11).2.2.1).before _ s = true := hta _ wdF_X4_41
  have hl : lv_has ls 4 [(0, .ref (q 0)), (1, .int a1), (2, .int a2)] := hl
  unfold f_X4_usedLabel at h
  refine lv_aload_n hx hb dX4_usedLabel_0 rfl (lv_at hl 0 rfl) ?_
  refine lv_iload_n hx hb dX4_usedLabel_1 rfl (lv_at hl 1 rfl) ?_
  refine lv_iload_n hx hb dX4_usedLabel_2 rfl (lv_at hl 2 rfl) ?_
  obtain ⟨r1, S3, e2, h⟩ := h_bi_ok h
  refine h_callI cx hw (c_X4_usedAt l dC dI cI cZ q S a1 a2 r1 S3 e2) (cwV 2 hts (hgA (hcV wdL_X4_113 wdI_X4_usedAt wdS_X4_usedAt wdN_RX4 wdC_X4_usedAt)) rfl rfl rfl pdX4_usedAt ⟨Nat.le_of_ble_eq_true rfl, Nat.le_of_ble_eq_true rfl⟩) 0 (wM_p0 q cI cZ S) rfl rfl rfl hl.1 rfl (Nat.le_of_ble_eq_true rfl) dX4_usedLabel_3 ⟨Nat.zero_le _, Nat.zero_le _⟩ (fun H locs hw => ?_)
  refine lv_istore_n (lv' := [(3, .int r1), (0, .ref (q 0)), (1, .int a1), (2, .int a2)]) hx hb dX4_usedLabel_6 rfl hl (by decide) rfl (fun ls hl => ?_)
  refine lv_iload_n hx hb dX4_usedLabel_7 rfl (lv_at hl 0 rfl) ?_
  refine lv_bipush (v := (-9)) hx hb dX4_usedLabel_8 (by decide) ?_
  refine lv_icmp_ne (tgt := 17) hx hb dX4_usedLabel_10 (by decide) (fun c4 => ?_) (fun c4 => ?_)
  · have h := h_ifn c4 h
    refine lv_aload_n hx hb dX4_usedLabel_17 rfl (lv_at hl 1 rfl) ?_
    refine h_get (v := .ref (q 11)) cx hw 0 (wM_p0 q cI cZ S3) rfl hinX4 11 (by decide) lk41 rfl dX4_usedLabel_18 ?_
    refine lv_iload_n hx hb dX4_usedLabel_21 rfl (lv_at hl 0 rfl) ?_
    obtain ⟨v5, e6, h⟩ := h_bd_ok h
    refine h_ald cx hw 11 (wM_p11 q cI cZ S3) e6 dX4_usedLabel_22 ?_
    exact h_iret cx hw hr hlk rfl (congrArg Prod.fst (Option.some.inj h)) (congrArg Prod.snd (Option.some.inj h)) dX4_usedLabel_23
  · have h := h_ifp c4 h
    refine lv_iconst (v := 0) hx hb dX4_usedLabel_13 (by decide) ?_
    refine lv_goto (tgt := 23) hx hb dX4_usedLabel_14 (by decide) ?_
    exact h_iret cx hw hr hlk rfl (congrArg Prod.fst (Option.some.inj h)) (congrArg Prod.snd (Option.some.inj h)) dX4_usedLabel_23
set_option maxHeartbeats 4000000 in
set_option maxRecDepth 100000 in
theorem c_X4_used (l : Launch) (dC : Nat → ClassId) (dI : Nat → Nat → Nat) (cI cZ : ClassId) (q : Nat → Nat) (S : HSt) (a1 a2 : Int32) (r : Int32) (S9 : HSt) (h : f_X4_used S a1 a2 = some (r, S9)) : MI l yX4_used hsX4_used rmX4_used (dC, dI) cI cZ (wM q cI cZ) S [.ref (q 0), .int a1, .int a2] r S9 := by
  refine MI.ofW (cc := cX4_used) (maxL := 4) (ret := (some .int)) (by decide +kernel) rfl (Nat.le_of_ble_eq_true rfl) ?_
  intro p e s m below meth c A cx hr hlk hw ls hl
  have hx := cx.1.1
  have hb := cx.1.2.1
  have hml := cx.1.2.2.1
  have hts := cx.1.2.2.2.2
  have hta : ∀ z ∈ hALL, z.before _ s = true := fun z h => hts z (List.mem_cons_of_mem _ h)
  have hl : lv_has ls 4 [(0, .ref (q 0)), (1, .int a1), (2, .int a2)] := hl
  unfold f_X4_used at h
  refine lv_iload_n hx hb dX4_used_0 rfl (lv_at hl 1 rfl) ?_
  obtain ⟨r1, e2, h⟩ := h_bd_ok h
  refine h_callS cx.1 (c_X4_isBox l a1 r1 e2) (va_cwS 1 hts (hgA (hcS wdL_X4_88 wdT_X4_isBox wdN_RX4 wdC_X4_isBox)) rfl rfl rfl pdX4_isBox.2 ⟨Nat.le_of_ble_eq_true rfl, Nat.le_of_ble_eq_true rfl⟩) rfl hl.1 rfl (Nat.le_of_ble_eq_true rfl) dX4_used_1 ⟨Nat.zero_le _, Nat.zero_le _⟩ ?_
  refine lv_if_eq (tgt := 14) hx hb dX4_used_4 (by decide) (fun c3 => ?_) (fun c3 => ?_)
  · have h := h_ifp c3 h
    refine lv_iconst (v := (-1)) hx hb dX4_used_14 (by decide) ?_
    exact h_iret cx hw hr hlk rfl (congrArg Prod.fst (Option.some.inj h)) (congrArg Prod.snd (Option.some.inj h)) dX4_used_15
  · have h := h_ifn c3 h
    refine lv_iload_n hx hb dX4_used_7 rfl (lv_at hl 2 rfl) ?_
    obtain ⟨r4, e5, h⟩ := h_bd_ok h
    refine h_callS cx.1 (c_X4_isClass l a2 r4 e5) (va_cwS 1 hts (hgA (hcS wdL_X4_99 wdT_X4_isClass wdN_RX4 wdC_X4_isClass)) rfl rfl rfl pdX4_isClass.2 ⟨Nat.le_of_ble_eq_true rfl, Nat.le_of_ble_eq_true rfl⟩) rfl hl.1 rfl (Nat.le_of_ble_eq_true rfl) dX4_used_8 ⟨Nat.zero_le _, Nat.zero_le _⟩ ?_
    refine lv_if_ne (tgt := 16) hx hb dX4_used_11 (by decide) (fun c6 => ?_) (fun c6 => ?_)
    · have h := h_ifn c6 h
      refine lv_aload_n hx hb dX4_used_16 rfl (lv_at hl 0 rfl) ?_
      refine lv_iload_n hx hb dX4_used_17 rfl (lv_at hl 1 rfl) ?_
      refine lv_iload_n hx hb dX4_used_18 rfl (lv_at hl 2 rfl) ?_
      obtain ⟨r7, S9, e8, h⟩ := h_bi_ok h
      refine h_callI cx hw (c_X4_usedLabel l dC dI cI cZ q S a1 a2 r7 S9 e8) (cwV 2 hts (hgA (hcV wdL_X4_174 wdI_X4_usedLabel wdS_X4_usedLabel wdN_RX4 wdC_X4_usedLabel)) rfl rfl rfl pdX4_usedLabel ⟨Nat.le_of_ble_eq_true rfl, Nat.le_of_ble_eq_true rfl⟩) 0 (wM_p0 q cI cZ S) rfl rfl rfl hl.1 rfl (Nat.le_of_ble_eq_true rfl) dX4_used_19 ⟨Nat.zero_le _, Nat.zero_le _⟩ (fun H locs hw => ?_)
      refine lv_istore_n (lv' := [(3, .int r7), (0, .ref (q 0)), (1, .int a1), (2, .int a2)]) hx hb dX4_used_22 rfl hl (by decide) rfl (fun ls hl => ?_)
      refine lv_iload_n hx hb dX4_used_23 rfl (lv_at hl 0 rfl) ?_
      refine lv_if_ne (tgt := 32) hx hb dX4_used_24 (by decide) (fun c10 => ?_) (fun c10 => ?_)
      · have h := h_ifn c10 h
        refine lv_iload_n hx hb dX4_used_32 rfl (lv_at hl 0 rfl) ?_
        exact h_iret cx hw hr hlk rfl (congrArg Prod.fst (Option.some.inj h)) (congrArg Prod.snd (Option.some.inj h)) dX4_used_33
      · have h := h_ifp c10 h
        refine lv_bipush (v := (-9)) hx hb dX4_used_27 (by decide) ?_
        refine lv_goto (tgt := 33) hx hb dX4_used_29 (by decide) ?_
        exact h_iret cx hw hr hlk rfl (congrArg Prod.fst (Option.some.inj h)) (congrArg Prod.snd (Option.some.inj h)) dX4_used_33
    · have h := h_ifp c6 h
      refine lv_iconst (v := (-1)) hx hb dX4_used_14 (by decide) ?_
      exact h_iret cx hw hr hlk rfl (congrArg Prod.fst (Option.some.inj h)) (congrArg Prod.snd (Option.some.inj h)) dX4_used_15
set_option maxHeartbeats 4000000 in
set_option maxRecDepth 100000 in
theorem c_X4_meaningOf (l : Launch) (dC : Nat → ClassId) (dI : Nat → Nat → Nat) (cI cZ : ClassId) (q : Nat → Nat) (S : HSt) (a1 a2 a3 : Int32) (r : Int32) (h : f_X4_meaningOf S a1 a2 a3 = some r) : MI l yX4_meaningOf hsX4_meaningOf rmX4_meaningOf (dC, dI) cI cZ (wM q cI cZ) S [.ref (q 0), .int a1, .int a2, .int a3] r S := by
  refine MI.ofW (cc := cX4_meaningOf) (maxL := 7) (ret := (some .int)) (by decide +kernel) rfl (Nat.le_of_ble_eq_true rfl) ?_
  intro p e s m below meth c A cx hr hlk hw ls hl
  have hx := cx.1.1
  have hb := cx.1.2.1
  have hml := cx.1.2.2.1
  have hts := cx.1.2.2.2.2
  have hta : ∀ z ∈ hALL, z.before _ s = true := fun z h => hts z (List.mem_cons_of_mem _ h)
  have lk35 : (Cond.fieldLink RX4 35 (TX4 9).1 (TX4 9).2.1 (TX4 9).2.2.1).before _ s = true := hta _ wdF_X4_35
  have lk84 : (Cond.fieldLink RX4 84 (TX4 0).1 (TX4 0).2.1 (TX4 0).2.2.1).before _ s = true := hta _ wdF_X4_84
  have hl : lv_has ls 7 [(0, .ref (q 0)), (1, .int a1), (2, .int a2), (3, .int a3)] := hl
  unfold f_X4_meaningOf at h
  have kk3 : ∀ (n3 : Nat) (x1 x2 x3 x4 : Int32), f_X4_meaningOf_3 S n3 x1 x2 x3 x4 = some r → ∀ (H : Heap) (locs : List Loc) (ls : Array Slot), HW (dC, dI) (wM q cI cZ) S A s H locs → lv_has ls 7 [(0, .ref (q 0)), (1, .int x1), (2, .int x2), (3, .int x3), (4, .int x4)] → W p l e rmX4_meaningOf s m ([.ref (q 0), .int a1, .int a2, .int a3] : List Value).toArray below meth c H locs 0 0 (MQ below (QI (dC, dI) (wM q cI cZ) r S A) ([.ref (q 0), .int a1, .int a2, .int a3] : List Value).toArray s 0 0 A) (F0 m 3 ls []) := by
    intro n3
    induction n3 with
    | zero =>
      intro x1 x2 x3 x4 h
      have h9 : (none : Option Int32) = some r := h
      cases h9
    | succ n3 ih3 =>
      intro x1 x2 x3 x4 h H locs ls hw hl
      have h : f_X4_meaningOf_3_s S (f_X4_meaningOf_3 S n3) x1 x2 x3 x4 = some r := h
      unfold f_X4_meaningOf_3_s at h
      have kk12 : ∀ (n12 : Nat) (x1 x2 x3 x4 x5 : Int32), f_X4_meaningOf_12 S (f_X4_meaningOf_3 S n3) n12 x1 x2 x3 x4 x5 = some r → ∀ (H : Heap) (locs : List Loc) (ls : Array Slot), HW (dC, dI) (wM q cI cZ) S A s H locs → lv_has ls 7 [(0, .ref (q 0)), (1, .int x1), (2, .int x2), (3, .int x3), (4, .int x4), (5, .int x5)] → W p l e rmX4_meaningOf s m ([.ref (q 0), .int a1, .int a2, .int a3] : List Value).toArray below meth c H locs 0 0 (MQ below (QI (dC, dI) (wM q cI cZ) r S A) ([.ref (q 0), .int a1, .int a2, .int a3] : List Value).toArray s 0 0 A) (F0 m 12 ls []) := by
        intro n12
        induction n12 with
        | zero =>
          intro x1 x2 x3 x4 x5 h
          have h9 : (none : Option Int32) = some r := h
          cases h9
        | succ n12 ih12 =>
          intro x1 x2 x3 x4 x5 h H locs ls hw hl
          have h : f_X4_meaningOf_12_s S (f_X4_meaningOf_3 S n3) (f_X4_meaningOf_12 S (f_X4_meaningOf_3 S n3) n12) x1 x2 x3 x4 x5 = some r := h
          unfold f_X4_meaningOf_12_s at h
          have kk59 : ∀ (x1 x2 x3 x4 x5 t0 : Int32), f_X4_meaningOf_59 S (f_X4_meaningOf_12 S (f_X4_meaningOf_3 S n3) n12) x1 x2 x3 x4 x5 t0 = some r → ∀ (H : Heap) (locs : List Loc) (ls : Array Slot), HW (dC, dI) (wM q cI cZ) S A s H locs → lv_has ls 7 [(0, .ref (q 0)), (1, .int x1), (2, .int x2), (3, .int x3), (4, .int x4), (5, .int x5)] → W p l e rmX4_meaningOf s m ([.ref (q 0), .int a1, .int a2, .int a3] : List Value).toArray below meth c H locs 0 0 (MQ below (QI (dC, dI) (wM q cI cZ) r S A) ([.ref (q 0), .int a1, .int a2, .int a3] : List Value).toArray s 0 0 A) (F0 m 59 ls [.int t0]) := by
            intro x1 x2 x3 x4 x5 t0 h H locs ls hw hl
            unfold f_X4_meaningOf_59 at h
            have kk84 : ∀ (x1 x2 x3 x4 x5 : Int32), f_X4_meaningOf_84 S (f_X4_meaningOf_12 S (f_X4_meaningOf_3 S n3) n12) x1 x2 x3 x4 x5 = some r → ∀ (H : Heap) (locs : List Loc) (ls : Array Slot), HW (dC, dI) (wM q cI cZ) S A s H locs → lv_has ls 7 [(0, .ref (q 0)), (1, .int x1), (2, .int x2), (3, .int x3), (4, .int x4), (5, .int x5)] → W p l e rmX4_meaningOf s m ([.ref (q 0), .int a1, .int a2, .int a3] : List Value).toArray below meth c H locs 0 0 (MQ below (QI (dC, dI) (wM q cI cZ) r S A) ([.ref (q 0), .int a1, .int a2, .int a3] : List Value).toArray s 0 0 A) (F0 m 84 ls []) := by
              intro x1 x2 x3 x4 x5 h H locs ls hw hl
              unfold f_X4_meaningOf_84 at h
              refine lv_iinc (v := x5 + 1) (lv' := [(5, .int (x5 + 1)), (0, .ref (q 0)), (1, .int x1), (2, .int x2), (3, .int x3), (4, .int x4)]) hx hb dX4_meaningOf_84 hl (k := 5) rfl rfl (by decide) rfl (fun ls hl => ?_)
              refine lv_goto (tgt := 12) hx hb dX4_meaningOf_87 (by decide) ?_
              exact ih12 _ _ _ _ _ h _ _ _ hw (lv_sub hl [1, 2, 3, 4, 5, 0] rfl)
            refine lv_istore (lv' := [(6, .int t0), (0, .ref (q 0)), (1, .int x1), (2, .int x2), (3, .int x3), (4, .int x4), (5, .int x5)]) hx hb dX4_meaningOf_59 hl (by decide) rfl (fun ls hl => ?_)
            refine lv_iload hx hb dX4_meaningOf_61 (lv_at hl 0 rfl) ?_
            refine lv_if_eq (tgt := 84) hx hb dX4_meaningOf_63 (by decide) (fun c1 => ?_) (fun c1 => ?_)
            · have h := h_ifp c1 h
              exact kk84 _ _ _ _ _ h _ _ _ hw (lv_sub hl [1, 2, 3, 4, 5, 6] rfl)
            · have h := h_ifn c1 h
              refine lv_aload_n hx hb dX4_meaningOf_66 rfl (lv_at hl 1 rfl) ?_
              refine lv_iload_n hx hb dX4_meaningOf_67 rfl (lv_at hl 2 rfl) ?_
              refine lv_iconst (v := 2) hx hb dX4_meaningOf_68 (by decide) ?_
              obtain ⟨r2, e3, h⟩ := h_bd_ok h
              refine h_callI cx hw (c_X4_is l dC dI cI cZ q S x1 2 r2 e3) (cwV 2 hts (hgA (hcV wdL_X4_120 wdI_X4_is wdS_X4_is wdN_RX4 wdC_X4_is)) rfl rfl rfl pdX4_is ⟨Nat.le_of_ble_eq_true rfl, Nat.le_of_ble_eq_true rfl⟩) 0 (wM_p0 q cI cZ S) rfl rfl rfl hl.1 rfl (Nat.le_of_ble_eq_true rfl) dX4_meaningOf_69 ⟨Nat.zero_le _, Nat.zero_le _⟩ (fun H locs hw => ?_)
              refine lv_if_eq (tgt := 81) hx hb dX4_meaningOf_72 (by decide) (fun c4 => ?_) (fun c4 => ?_)
              · have h := h_ifp c4 h
                refine lv_iload hx hb dX4_meaningOf_81 (lv_at hl 5 rfl) ?_
                exact h_iret cx hw hr hlk rfl (Option.some.inj h) rfl dX4_meaningOf_83
              · have h := h_ifn c4 h
                refine lv_iload hx hb dX4_meaningOf_75 (lv_at hl 6 rfl) ?_
                refine lv_iload_n hx hb dX4_meaningOf_77 rfl (lv_at hl 3 rfl) ?_
                refine lv_icmp_ne (tgt := 84) hx hb dX4_meaningOf_78 (by decide) (fun c5 => ?_) (fun c5 => ?_)
                · have h := h_ifn c5 h
                  exact kk84 _ _ _ _ _ h _ _ _ hw (lv_sub hl [1, 2, 3, 4, 5, 6] rfl)
                · have h := h_ifp c5 h
                  refine lv_iload hx hb dX4_meaningOf_81 (lv_at hl 5 rfl) ?_
                  exact h_iret cx hw hr hlk rfl (Option.some.inj h) rfl dX4_meaningOf_83
          have kk58 : ∀ (x1 x2 x3 x4 x5 : Int32), f_X4_meaningOf_58 S (f_X4_meaningOf_12 S (f_X4_meaningOf_3 S n3) n12) x1 x2 x3 x4 x5 = some r → ∀ (H : Heap) (locs : List Loc) (ls : Array Slot), HW (dC, dI) (wM q cI cZ) S A s H locs → lv_has ls 7 [(0, .ref (q 0)), (1, .int x1), (2, .int x2), (3, .int x3), (4, .int x4), (5, .int x5)] → W p l e rmX4_meaningOf s m ([.ref (q 0), .int a1, .int a2, .int a3] : List Value).toArray below meth c H locs 0 0 (MQ below (QI (dC, dI) (wM q cI cZ) r S A) ([.ref (q 0), .int a1, .int a2, .int a3] : List Value).toArray s 0 0 A) (F0 m 58 ls []) := by
            intro x1 x2 x3 x4 x5 h H locs ls hw hl
            unfold f_X4_meaningOf_58 at h
            refine lv_iconst (v := 0) hx hb dX4_meaningOf_58 (by decide) ?_
            exact kk59 _ _ _ _ _ _ h _ _ _ hw (lv_sub hl [0, 1, 2, 3, 4, 5] rfl)
          refine lv_iload hx hb dX4_meaningOf_12 (lv_at hl 5 rfl) ?_
          refine lv_aload_n hx hb dX4_meaningOf_14 rfl (lv_at hl 0 rfl) ?_
          refine h_get (v := .int (S.1 0)) cx hw 0 (wM_p0 q cI cZ S) rfl hinX4 0 (by decide) lk84 rfl dX4_meaningOf_15 ?_
          refine lv_icmp_ge (tgt := 90) hx hb dX4_meaningOf_18 (by decide) (fun c1 => ?_) (fun c1 => ?_)
          · have h := h_ifp c1 h
            refine lv_iinc (v := x4 + 1) (lv' := [(4, .int (x4 + 1)), (0, .ref (q 0)), (1, .int x1), (2, .int x2), (3, .int x3), (5, .int x5)]) hx hb dX4_meaningOf_90 hl (k := 4) rfl rfl (by decide) rfl (fun ls hl => ?_)
            refine lv_goto (tgt := 3) hx hb dX4_meaningOf_93 (by decide) ?_
            exact ih3 _ _ _ _ h _ _ _ hw (lv_sub hl [1, 2, 3, 4, 0] rfl)
          · have h := h_ifn c1 h
            refine lv_aload_n hx hb dX4_meaningOf_21 rfl (lv_at hl 0 rfl) ?_
            refine h_get (v := .ref (q 9)) cx hw 0 (wM_p0 q cI cZ S) rfl hinX4 9 (by decide) lk35 rfl dX4_meaningOf_22 ?_
            refine lv_iload_n hx hb dX4_meaningOf_25 rfl (lv_at hl 1 rfl) ?_
            refine lv_iload hx hb dX4_meaningOf_26 (lv_at hl 5 rfl) ?_
            refine lv_iload hx hb dX4_meaningOf_28 (lv_at hl 4 rfl) ?_
            obtain ⟨r2, e3, h⟩ := h_bd_ok h
            refine h_callS cx.1 (c_X4_at l x1 x5 x4 r2 e3) (va_cwS 3 hts (hgA (hcS wdL_X4_109 wdT_X4_at wdN_RX4 wdC_X4_at)) rfl rfl rfl pdX4_at.2 ⟨Nat.le_of_ble_eq_true rfl, Nat.le_of_ble_eq_true rfl⟩) rfl hl.1 rfl (Nat.le_of_ble_eq_true rfl) dX4_meaningOf_30 ⟨Nat.zero_le _, Nat.zero_le _⟩ ?_
            obtain ⟨v4, e5, h⟩ := h_bd_ok h
            refine h_ald cx hw 9 (wM_p9 q cI cZ S) e5 dX4_meaningOf_33 ?_
            refine lv_if_le (tgt := 58) hx hb dX4_meaningOf_34 (by decide) (fun c6 => ?_) (fun c6 => ?_)
            · have h := h_ifp c6 h
              exact kk58 _ _ _ _ _ h _ _ _ hw (lv_sub hl [0, 1, 2, 3, 4, 5] rfl)
            · have h := h_ifn c6 h
              refine lv_aload_n hx hb dX4_meaningOf_37 rfl (lv_at hl 0 rfl) ?_
              refine h_get (v := .ref (q 9)) cx hw 0 (wM_p0 q cI cZ S) rfl hinX4 9 (by decide) lk35 rfl dX4_meaningOf_38 ?_
              refine lv_iload_n hx hb dX4_meaningOf_41 rfl (lv_at hl 1 rfl) ?_
              refine lv_iload hx hb dX4_meaningOf_42 (lv_at hl 5 rfl) ?_
              refine lv_iload hx hb dX4_meaningOf_44 (lv_at hl 4 rfl) ?_
              obtain ⟨r7, e8, h⟩ := h_bd_ok h
              refine h_callS cx.1 (c_X4_at l x1 x5 x4 r7 e8) (va_cwS 3 hts (hgA (hcS wdL_X4_109 wdT_X4_at wdN_RX4 wdC_X4_at)) rfl rfl rfl pdX4_at.2 ⟨Nat.le_of_ble_eq_true rfl, Nat.le_of_ble_eq_true rfl⟩) rfl hl.1 rfl (Nat.le_of_ble_eq_true rfl) dX4_meaningOf_46 ⟨Nat.zero_le _, Nat.zero_le _⟩ ?_
              obtain ⟨v9, e10, h⟩ := h_bd_ok h
              refine h_ald cx hw 9 (wM_p9 q cI cZ S) e10 dX4_meaningOf_49 ?_
              refine lv_iload_n hx hb dX4_meaningOf_50 rfl (lv_at hl 3 rfl) ?_
              refine lv_icmp_ne (tgt := 58) hx hb dX4_meaningOf_51 (by decide) (fun c11 => ?_) (fun c11 => ?_)
              · have h := h_ifn c11 h
                exact kk58 _ _ _ _ _ h _ _ _ hw (lv_sub hl [0, 1, 2, 3, 4, 5] rfl)
              · have h := h_ifp c11 h
                refine lv_iconst (v := 1) hx hb dX4_meaningOf_54 (by decide) ?_
                refine lv_goto (tgt := 59) hx hb dX4_meaningOf_55 (by decide) ?_
                exact kk59 _ _ _ _ _ _ h _ _ _ hw (lv_sub hl [0, 1, 2, 3, 4, 5] rfl)
      refine lv_iload hx hb dX4_meaningOf_3 (lv_at hl 4 rfl) ?_
      refine lv_iconst (v := 4) hx hb dX4_meaningOf_5 (by decide) ?_
      refine lv_icmp_ge (tgt := 96) hx hb dX4_meaningOf_6 (by decide) (fun c1 => ?_) (fun c1 => ?_)
      · have h := h_ifp c1 h
        refine lv_bipush (v := (-9)) hx hb dX4_meaningOf_96 (by decide) ?_
        exact h_iret cx hw hr hlk rfl (Option.some.inj h) rfl dX4_meaningOf_98
      · have h := h_ifn c1 h
        refine lv_iconst (v := 0) hx hb dX4_meaningOf_9 (by decide) ?_
        refine lv_istore (lv' := [(5, .int 0), (0, .ref (q 0)), (1, .int x1), (2, .int x2), (3, .int x3), (4, .int x4)]) hx hb dX4_meaningOf_10 hl (by decide) rfl (fun ls hl => ?_)
        exact kk12 h_fu _ _ _ _ _ h _ _ _ hw (lv_sub hl [1, 2, 3, 4, 5, 0] rfl)
  refine lv_iconst (v := 0) hx hb dX4_meaningOf_0 (by decide) ?_
  refine lv_istore (lv' := [(4, .int 0), (0, .ref (q 0)), (1, .int a1), (2, .int a2), (3, .int a3)]) hx hb dX4_meaningOf_1 hl (by decide) rfl (fun ls hl => ?_)
  exact kk3 h_fu _ _ _ _ h _ _ _ hw (lv_sub hl [1, 2, 3, 4, 0] rfl)
set_option maxHeartbeats 4000000 in
set_option maxRecDepth 100000 in
theorem c_X4_meaning (l : Launch) (dC : Nat → ClassId) (dI : Nat → Nat → Nat) (cI cZ : ClassId) (q : Nat → Nat) (S : HSt) (a1 a2 a3 : Int32) (r : Int32) (h : f_X4_meaning S a1 a2 a3 = some r) : MI l yX4_meaning hsX4_meaning rmX4_meaning (dC, dI) cI cZ (wM q cI cZ) S [.ref (q 0), .int a1, .int a2, .int a3] r S := by
  refine MI.ofW (cc := cX4_meaning) (maxL := 4) (ret := (some .int)) (by decide +kernel) rfl (Nat.le_of_ble_eq_true rfl) ?_
  intro p e s m below meth c A cx hr hlk hw ls hl
  have hx := cx.1.1
  have hb := cx.1.2.1
  have hml := cx.1.2.2.1
  have hts := cx.1.2.2.2.2
  have hta : ∀ z ∈ hALL, z.before _ s = true := fun z h => hts z (List.mem_cons_of_mem _ h)
  have hl : lv_has ls 4 [(0, .ref (q 0)), (1, .int a1), (2, .int a2), (3, .int a3)] := hl
  unfold f_X4_meaning at h
  refine lv_aload_n hx hb dX4_meaning_0 rfl (lv_at hl 0 rfl) ?_
  refine lv_iload_n hx hb dX4_meaning_1 rfl (lv_at hl 1 rfl) ?_
  refine lv_iload_n hx hb dX4_meaning_2 rfl (lv_at hl 2 rfl) ?_
  obtain ⟨r1, e2, h⟩ := h_bd_ok h
  refine h_callI cx hw (c_X4_isThere l dC dI cI cZ q S a1 a2 r1 e2) (cwV 2 hts (hgA (hcV wdL_X4_168 wdI_X4_isThere wdS_X4_isThere wdN_RX4 wdC_X4_isThere)) rfl rfl rfl pdX4_isThere ⟨Nat.le_of_ble_eq_true rfl, Nat.le_of_ble_eq_true rfl⟩) 0 (wM_p0 q cI cZ S) rfl rfl rfl hl.1 rfl (Nat.le_of_ble_eq_true rfl) dX4_meaning_3 ⟨Nat.zero_le _, Nat.zero_le _⟩ (fun H locs hw => ?_)
  refine lv_if_ne (tgt := 11) hx hb dX4_meaning_6 (by decide) (fun c3 => ?_) (fun c3 => ?_)
  · have h := h_ifn c3 h
    refine lv_iload_n hx hb dX4_meaning_11 rfl (lv_at hl 3 rfl) ?_
    refine lv_iconst (v := 0) hx hb dX4_meaning_12 (by decide) ?_
    refine lv_bipush (v := 99) hx hb dX4_meaning_13 (by decide) ?_
    obtain ⟨r4, e5, h⟩ := h_bd_ok h
    refine h_callS cx.1 (c_X4_within l a3 0 99 r4 e5) (va_cwS 3 hts (hgA (hcS wdL_X4_80 wdT_X4_within wdN_RX4 wdC_X4_within)) rfl rfl rfl pdX4_within.2 ⟨Nat.le_of_ble_eq_true rfl, Nat.le_of_ble_eq_true rfl⟩) rfl hl.1 rfl (Nat.le_of_ble_eq_true rfl) dX4_meaning_15 ⟨Nat.zero_le _, Nat.zero_le _⟩ ?_
    refine lv_if_eq (tgt := 31) hx hb dX4_meaning_18 (by decide) (fun c6 => ?_) (fun c6 => ?_)
    · have h := h_ifp c6 h
      refine lv_bipush (v := (-2)) hx hb dX4_meaning_31 (by decide) ?_
      exact h_iret cx hw hr hlk rfl (Option.some.inj h) rfl dX4_meaning_33
    · have h := h_ifn c6 h
      refine lv_aload_n hx hb dX4_meaning_21 rfl (lv_at hl 0 rfl) ?_
      refine lv_iload_n hx hb dX4_meaning_22 rfl (lv_at hl 1 rfl) ?_
      refine lv_iload_n hx hb dX4_meaning_23 rfl (lv_at hl 2 rfl) ?_
      refine lv_iload_n hx hb dX4_meaning_24 rfl (lv_at hl 3 rfl) ?_
      obtain ⟨r7, e8, h⟩ := h_bd_ok h
      refine h_callI cx hw (c_X4_meaningOf l dC dI cI cZ q S a1 a2 a3 r7 e8) (cwV 3 hts (hgA (hcV wdL_X4_177 wdI_X4_meaningOf wdS_X4_meaningOf wdN_RX4 wdC_X4_meaningOf)) rfl rfl rfl pdX4_meaningOf ⟨Nat.le_of_ble_eq_true rfl, Nat.le_of_ble_eq_true rfl⟩) 0 (wM_p0 q cI cZ S) rfl rfl rfl hl.1 rfl (Nat.le_of_ble_eq_true rfl) dX4_meaning_25 ⟨Nat.zero_le _, Nat.zero_le _⟩ (fun H locs hw => ?_)
      refine lv_goto (tgt := 33) hx hb dX4_meaning_28 (by decide) ?_
      exact h_iret cx hw hr hlk rfl (Option.some.inj h) rfl dX4_meaning_33
  · have h := h_ifp c3 h
    refine lv_iconst (v := (-1)) hx hb dX4_meaning_9 (by decide) ?_
    exact h_iret cx hw hr hlk rfl (Option.some.inj h) rfl dX4_meaning_10
set_option maxHeartbeats 4000000 in
set_option maxRecDepth 100000 in
theorem c_X4_putsAside (l : Launch) (dC : Nat → ClassId) (dI : Nat → Nat → Nat) (cI cZ : ClassId) (q : Nat → Nat) (S : HSt) (a1 : Int32) (S9 : HSt) (h : f_X4_putsAside S a1 = some S9) : MV l yX4_putsAside hsX4_putsAside rmX4_putsAside (dC, dI) cI cZ (wM q cI cZ) S [.ref (q 0), .int a1] S9 := by
  refine MV.ofW (cc := cX4_putsAside) (maxL := 3) (ret := none) (by decide +kernel) rfl (Nat.le_of_ble_eq_true rfl) ?_
  intro p e s m below meth c A cx hr hlk hw ls hl
  have hx := cx.1.1
  have hb := cx.1.2.1
  have hml := cx.1.2.2.1
  have hts := cx.1.2.2.2.2
  have hta : ∀ z ∈ hALL, z.before _ s = true := fun z h => hts z (List.mem_cons_of_mem _ h)
  have lk35 : (Cond.fieldLink RX4 35 (TX4 9).1 (TX4 9).2.1 (TX4 9).2.2.1).before _ s = true := hta _ wdF_X4_35
  have lk38 : (Cond.fieldLink RX4 38 (TX4 10).1 (TX4 10).2.1 (TX4 10).2.2.1).before _ s = true := hta _ wdF_X4_38
  have lk41 : (Cond.fieldLink RX4 41 (TX4 11).1 (TX4 11).2.1 (TX4 11).2.2.1).before _ s = true := hta _ wdF_X4_41
  have lk44 : (Cond.fieldLink RX4 44 (TX4 12).1 (TX4 12).2.1 (TX4 12).2.2.1).before _ s = true := hta _ wdF_X4_44
  have lk65 : (Cond.fieldLink RX4 65 (TX4 20).1 (TX4 20).2.1 (TX4 20).2.2.1).before _ s = true := hta _ wdF_X4_65
  have hl : lv_has ls 3 [(0, .ref (q 0)), (1, .int a1)] := hl
  unfold f_X4_putsAside at h
  have kk2 : ∀ (n2 : Nat) (S : HSt) (x1 x2 : Int32), f_X4_putsAside_2 n2 S x1 x2 = some S9 → ∀ (H : Heap) (locs : List Loc) (ls : Array Slot), HW (dC, dI) (wM q cI cZ) S A s H locs → lv_has ls 3 [(0, .ref (q 0)), (1, .int x1), (2, .int x2)] → W p l e rmX4_putsAside s m ([.ref (q 0), .int a1] : List Value).toArray below meth c H locs 0 0 (MQ below (QV (dC, dI) (wM q cI cZ) S9 A) ([.ref (q 0), .int a1] : List Value).toArray s 0 0 A) (F0 m 2 ls []) := by
    intro n2
    induction n2 with
    | zero =>
      intro S x1 x2 h
      have h9 : (none : Option HSt) = some S9 := h
      cases h9
    | succ n2 ih2 =>
      intro S x1 x2 h H locs ls hw hl
      have h : f_X4_putsAside_2_s (f_X4_putsAside_2 n2) S x1 x2 = some S9 := h
      unfold f_X4_putsAside_2_s at h
      have kk136 : ∀ (S : HSt) (x1 x2 : Int32), f_X4_putsAside_136 (f_X4_putsAside_2 n2) S x1 x2 = some S9 → ∀ (H : Heap) (locs : List Loc) (ls : Array Slot), HW (dC, dI) (wM q cI cZ) S A s H locs → lv_has ls 3 [(0, .ref (q 0)), (1, .int x1), (2, .int x2)] → W p l e rmX4_putsAside s m ([.ref (q 0), .int a1] : List Value).toArray below meth c H locs 0 0 (MQ below (QV (dC, dI) (wM q cI cZ) S9 A) ([.ref (q 0), .int a1] : List Value).toArray s 0 0 A) (F0 m 136 ls []) := by
        intro S x1 x2 h H locs ls hw hl
        unfold f_X4_putsAside_136 at h
        refine lv_iinc (v := x2 + 1) (lv' := [(2, .int (x2 + 1)), (0, .ref (q 0)), (1, .int x1)]) hx hb dX4_putsAside_136 hl (k := 2) rfl rfl (by decide) rfl (fun ls hl => ?_)
        refine lv_goto (tgt := 2) hx hb dX4_putsAside_139 (by decide) ?_
        exact ih2 _ _ _ h _ _ _ hw (lv_sub hl [1, 2, 0] rfl)
      refine lv_iload_n hx hb dX4_putsAside_2 rfl (lv_at hl 2 rfl) ?_
      refine lv_sipush (v := 336) hx hb dX4_putsAside_3 (by decide) ?_
      refine lv_icmp_ge (tgt := 142) hx hb dX4_putsAside_6 (by decide) (fun c1 => ?_) (fun c1 => ?_)
      · have h := h_ifp c1 h
        exact h_vret cx hw hr hlk (Option.some.inj h) dX4_putsAside_142
      · have h := h_ifn c1 h
        refine lv_iload_n hx hb dX4_putsAside_9 rfl (lv_at hl 1 rfl) ?_
        refine lv_if_eq (tgt := 76) hx hb dX4_putsAside_10 (by decide) (fun c2 => ?_) (fun c2 => ?_)
        · have h := h_ifp c2 h
          refine lv_aload_n hx hb dX4_putsAside_76 rfl (lv_at hl 0 rfl) ?_
          refine h_get (v := .ref (q 19)) cx hw 0 (wM_p0 q cI cZ S) rfl hinX4 20 (by decide) lk65 rfl dX4_putsAside_77 ?_
          refine lv_iload_n hx hb dX4_putsAside_80 rfl (lv_at hl 2 rfl) ?_
          refine lv_aload_n hx hb dX4_putsAside_81 rfl (lv_at hl 0 rfl) ?_
          refine h_get (v := .ref (q 9)) cx hw 0 (wM_p0 q cI cZ S) rfl hinX4 9 (by decide) lk35 rfl dX4_putsAside_82 ?_
          refine lv_iload_n hx hb dX4_putsAside_85 rfl (lv_at hl 2 rfl) ?_
          obtain ⟨v3, e4, h⟩ := h_bd_ok h
          refine h_ald cx hw 9 (wM_p9 q cI cZ S) e4 dX4_putsAside_86 ?_
          obtain ⟨S5, e6, h⟩ := h_bd_ok h
          refine h_ast cx hw 19 (wM_p19 q cI cZ S) (wM_s19 q cI cZ S) e6 dX4_putsAside_87 (fun H locs hw => ?_)
          refine lv_aload_n hx hb dX4_putsAside_88 rfl (lv_at hl 0 rfl) ?_
          refine h_get (v := .ref (q 19)) cx hw 0 (wM_p0 q cI cZ S5) rfl hinX4 20 (by decide) lk65 rfl dX4_putsAside_89 ?_
          refine lv_sipush (v := 336) hx hb dX4_putsAside_92 (by decide) ?_
          refine lv_iload_n hx hb dX4_putsAside_95 rfl (lv_at hl 2 rfl) ?_
          refine lv_iadd hx hb dX4_putsAside_96 ?_
          refine lv_aload_n hx hb dX4_putsAside_97 rfl (lv_at hl 0 rfl) ?_
          refine h_get (v := .ref (q 10)) cx hw 0 (wM_p0 q cI cZ S5) rfl hinX4 10 (by decide) lk38 rfl dX4_putsAside_98 ?_
          refine lv_iload_n hx hb dX4_putsAside_101 rfl (lv_at hl 2 rfl) ?_
          obtain ⟨v7, e8, h⟩ := h_bd_ok h
          refine h_ald cx hw 10 (wM_p10 q cI cZ S5) e8 dX4_putsAside_102 ?_
          obtain ⟨S9, e10, h⟩ := h_bd_ok h
          refine h_ast cx hw 19 (wM_p19 q cI cZ S5) (wM_s19 q cI cZ S5) e10 dX4_putsAside_103 (fun H locs hw => ?_)
          refine lv_aload_n hx hb dX4_putsAside_104 rfl (lv_at hl 0 rfl) ?_
          refine h_get (v := .ref (q 19)) cx hw 0 (wM_p0 q cI cZ S9) rfl hinX4 20 (by decide) lk65 rfl dX4_putsAside_105 ?_
          refine lv_sipush (v := 672) hx hb dX4_putsAside_108 (by decide) ?_
          refine lv_iload_n hx hb dX4_putsAside_111 rfl (lv_at hl 2 rfl) ?_
          refine lv_iadd hx hb dX4_putsAside_112 ?_
          refine lv_aload_n hx hb dX4_putsAside_113 rfl (lv_at hl 0 rfl) ?_
          refine h_get (v := .ref (q 11)) cx hw 0 (wM_p0 q cI cZ S9) rfl hinX4 11 (by decide) lk41 rfl dX4_putsAside_114 ?_
          refine lv_iload_n hx hb dX4_putsAside_117 rfl (lv_at hl 2 rfl) ?_
          obtain ⟨v11, e12, h⟩ := h_bd_ok h
          refine h_ald cx hw 11 (wM_p11 q cI cZ S9) e12 dX4_putsAside_118 ?_
          obtain ⟨S13, e14, h⟩ := h_bd_ok h
          refine h_ast cx hw 19 (wM_p19 q cI cZ S9) (wM_s19 q cI cZ S9) e14 dX4_putsAside_119 (fun H locs hw => ?_)
          refine lv_aload_n hx hb dX4_putsAside_120 rfl (lv_at hl 0 rfl) ?_
          refine h_get (v := .ref (q 19)) cx hw 0 (wM_p0 q cI cZ S13) rfl hinX4 20 (by decide) lk65 rfl dX4_putsAside_121 ?_
          refine lv_sipush (v := 1008) hx hb dX4_putsAside_124 (by decide) ?_
          refine lv_iload_n hx hb dX4_putsAside_127 rfl (lv_at hl 2 rfl) ?_
          refine lv_iadd hx hb dX4_putsAside_128 ?_
          refine lv_aload_n hx hb dX4_putsAside_129 rfl (lv_at hl 0 rfl) ?_
          refine h_get (v := .ref (q 12)) cx hw 0 (wM_p0 q cI cZ S13) rfl hinX4 12 (by decide) lk44 rfl dX4_putsAside_130 ?_
          refine lv_iload_n hx hb dX4_putsAside_133 rfl (lv_at hl 2 rfl) ?_
          obtain ⟨v15, e16, h⟩ := h_bd_ok h
          refine h_ald cx hw 12 (wM_p12 q cI cZ S13) e16 dX4_putsAside_134 ?_
          obtain ⟨S17, e18, h⟩ := h_bd_ok h
          refine h_ast cx hw 19 (wM_p19 q cI cZ S13) (wM_s19 q cI cZ S13) e18 dX4_putsAside_135 (fun H locs hw => ?_)
          exact kk136 _ _ _ h _ _ _ hw (lv_sub hl [0, 1, 2] rfl)
        · have h := h_ifn c2 h
          refine lv_aload_n hx hb dX4_putsAside_13 rfl (lv_at hl 0 rfl) ?_
          refine h_get (v := .ref (q 9)) cx hw 0 (wM_p0 q cI cZ S) rfl hinX4 9 (by decide) lk35 rfl dX4_putsAside_14 ?_
          refine lv_iload_n hx hb dX4_putsAside_17 rfl (lv_at hl 2 rfl) ?_
          refine lv_aload_n hx hb dX4_putsAside_18 rfl (lv_at hl 0 rfl) ?_
          refine h_get (v := .ref (q 19)) cx hw 0 (wM_p0 q cI cZ S) rfl hinX4 20 (by decide) lk65 rfl dX4_putsAside_19 ?_
          refine lv_iload_n hx hb dX4_putsAside_22 rfl (lv_at hl 2 rfl) ?_
          obtain ⟨v19, e20, h⟩ := h_bd_ok h
          refine h_ald cx hw 19 (wM_p19 q cI cZ S) e20 dX4_putsAside_23 ?_
          obtain ⟨S21, e22, h⟩ := h_bd_ok h
          refine h_ast cx hw 9 (wM_p9 q cI cZ S) (wM_s9 q cI cZ S) e22 dX4_putsAside_24 (fun H locs hw => ?_)
          refine lv_aload_n hx hb dX4_putsAside_25 rfl (lv_at hl 0 rfl) ?_
          refine h_get (v := .ref (q 10)) cx hw 0 (wM_p0 q cI cZ S21) rfl hinX4 10 (by decide) lk38 rfl dX4_putsAside_26 ?_
          refine lv_iload_n hx hb dX4_putsAside_29 rfl (lv_at hl 2 rfl) ?_
          refine lv_aload_n hx hb dX4_putsAside_30 rfl (lv_at hl 0 rfl) ?_
          refine h_get (v := .ref (q 19)) cx hw 0 (wM_p0 q cI cZ S21) rfl hinX4 20 (by decide) lk65 rfl dX4_putsAside_31 ?_
          refine lv_sipush (v := 336) hx hb dX4_putsAside_34 (by decide) ?_
          refine lv_iload_n hx hb dX4_putsAside_37 rfl (lv_at hl 2 rfl) ?_
          refine lv_iadd hx hb dX4_putsAside_38 ?_
          obtain ⟨v23, e24, h⟩ := h_bd_ok h
          refine h_ald cx hw 19 (wM_p19 q cI cZ S21) e24 dX4_putsAside_39 ?_
          obtain ⟨S25, e26, h⟩ := h_bd_ok h
          refine h_ast cx hw 10 (wM_p10 q cI cZ S21) (wM_s10 q cI cZ S21) e26 dX4_putsAside_40 (fun H locs hw => ?_)
          refine lv_aload_n hx hb dX4_putsAside_41 rfl (lv_at hl 0 rfl) ?_
          refine h_get (v := .ref (q 11)) cx hw 0 (wM_p0 q cI cZ S25) rfl hinX4 11 (by decide) lk41 rfl dX4_putsAside_42 ?_
          refine lv_iload_n hx hb dX4_putsAside_45 rfl (lv_at hl 2 rfl) ?_
          refine lv_aload_n hx hb dX4_putsAside_46 rfl (lv_at hl 0 rfl) ?_
          refine h_get (v := .ref (q 19)) cx hw 0 (wM_p0 q cI cZ S25) rfl hinX4 20 (by decide) lk65 rfl dX4_putsAside_47 ?_
          refine lv_sipush (v := 672) hx hb dX4_putsAside_50 (by decide) ?_
          refine lv_iload_n hx hb dX4_putsAside_53 rfl (lv_at hl 2 rfl) ?_
          refine lv_iadd hx hb dX4_putsAside_54 ?_
          obtain ⟨v27, e28, h⟩ := h_bd_ok h
          refine h_ald cx hw 19 (wM_p19 q cI cZ S25) e28 dX4_putsAside_55 ?_
          obtain ⟨S29, e30, h⟩ := h_bd_ok h
          refine h_ast cx hw 11 (wM_p11 q cI cZ S25) (wM_s11 q cI cZ S25) e30 dX4_putsAside_56 (fun H locs hw => ?_)
          refine lv_aload_n hx hb dX4_putsAside_57 rfl (lv_at hl 0 rfl) ?_
          refine h_get (v := .ref (q 12)) cx hw 0 (wM_p0 q cI cZ S29) rfl hinX4 12 (by decide) lk44 rfl dX4_putsAside_58 ?_
          refine lv_iload_n hx hb dX4_putsAside_61 rfl (lv_at hl 2 rfl) ?_
          refine lv_aload_n hx hb dX4_putsAside_62 rfl (lv_at hl 0 rfl) ?_
          refine h_get (v := .ref (q 19)) cx hw 0 (wM_p0 q cI cZ S29) rfl hinX4 20 (by decide) lk65 rfl dX4_putsAside_63 ?_
          refine lv_sipush (v := 1008) hx hb dX4_putsAside_66 (by decide) ?_
          refine lv_iload_n hx hb dX4_putsAside_69 rfl (lv_at hl 2 rfl) ?_
          refine lv_iadd hx hb dX4_putsAside_70 ?_
          obtain ⟨v31, e32, h⟩ := h_bd_ok h
          refine h_ald cx hw 19 (wM_p19 q cI cZ S29) e32 dX4_putsAside_71 ?_
          obtain ⟨S33, e34, h⟩ := h_bd_ok h
          refine h_ast cx hw 12 (wM_p12 q cI cZ S29) (wM_s12 q cI cZ S29) e34 dX4_putsAside_72 (fun H locs hw => ?_)
          refine lv_goto (tgt := 136) hx hb dX4_putsAside_73 (by decide) ?_
          exact kk136 _ _ _ h _ _ _ hw (lv_sub hl [0, 1, 2] rfl)
  refine lv_iconst (v := 0) hx hb dX4_putsAside_0 (by decide) ?_
  refine lv_istore_n (lv' := [(2, .int 0), (0, .ref (q 0)), (1, .int a1)]) hx hb dX4_putsAside_1 rfl hl (by decide) rfl (fun ls hl => ?_)
  exact kk2 h_fu _ _ _ h _ _ _ hw (lv_sub hl [1, 2, 0] rfl)
