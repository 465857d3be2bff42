set_option maxHeartbeats 4000000 in
set_option maxRecDepth 100000 in
theorem c_X4_settles (l : Launch) (dC : Nat → ClassId) (dI : Nat → Nat → Nat) (cI cZ : ClassId) (q : Nat → Nat) (S : HSt) (r : Int32) (S9 : HSt) (h : f_X4_settles S = some (r, S9)) : MI l yX4_settles hsX4_settles rmX4_settles (dC, dI) cI cZ (wM q cI cZ) S [.ref (q 0)] r S9 := by
  refine MI.ofW (cc := cX4_settles) (maxL := 3) (ret := (some .int)) (by decide +kernel) rfl (Nat.le_of_ble_eq_true rfl) ?_
  intro p e s m below meth c A cx hr hlk hw ls hl
  have hx := cx.1.1
  have hb := cx.1.2.1
  have hml := cx.1.2.2.1
  have hts := cx.1.2.2.2.2
  have hta : ∀ z ∈ hALL, z.before _ s = true := fun z h => hts z (List.mem_cons_of_mem _ h)
  have hl : lv_has ls 3 [(0, .ref (q 0))] := hl
  unfold f_X4_settles at h
  have kk9 : ∀ (n9 : Nat) (S : HSt) (x1 x2 : Int32), f_X4_settles_9 n9 S x1 x2 = some (r, S9) → ∀ (H : Heap) (locs : List Loc) (ls : Array Slot), HW (dC, dI) (wM q cI cZ) S A s H locs → lv_has ls 3 [(0, .ref (q 0)), (1, .int x1), (2, .int x2)] → W p l e rmX4_settles s m ([.ref (q 0)] : List Value).toArray below meth c H locs 0 0 (MQ below (QI (dC, dI) (wM q cI cZ) r S9 A) ([.ref (q 0)] : List Value).toArray s 0 0 A) (F0 m 9 ls []) := by
    intro n9
    induction n9 with
    | zero =>
      intro S x1 x2 h
      have h9 : (none : Option (Int32 × HSt)) = some (r, S9) := h
      cases h9
    | succ n9 ih9 =>
      intro S x1 x2 h H locs ls hw hl
      have h : f_X4_settles_9_s (f_X4_settles_9 n9) S x1 x2 = some (r, S9) := h
      unfold f_X4_settles_9_s at h
      have kk44 : ∀ (S : HSt) (x1 x2 : Int32), f_X4_settles_44 S x1 x2 = some (r, S9) → ∀ (H : Heap) (locs : List Loc) (ls : Array Slot), HW (dC, dI) (wM q cI cZ) S A s H locs → lv_has ls 3 [(0, .ref (q 0)), (1, .int x1), (2, .int x2)] → W p l e rmX4_settles s m ([.ref (q 0)] : List Value).toArray below meth c H locs 0 0 (MQ below (QI (dC, dI) (wM q cI cZ) r S9 A) ([.ref (q 0)] : List Value).toArray s 0 0 A) (F0 m 44 ls []) := by
        intro S x1 x2 h H locs ls hw hl
        unfold f_X4_settles_44 at h
        refine lv_aload_n hx hb dX4_settles_44 rfl (lv_at hl 0 rfl) ?_
        refine lv_iconst (v := 1) hx hb dX4_settles_45 (by decide) ?_
        obtain ⟨S3, e2, h⟩ := h_bd_ok h
        refine h_callV cx hw (c_X4_putsAside l dC dI cI cZ q S 1 S3 e2) (cwV 1 hts (hgA (hcV wdL_X4_180 wdI_X4_putsAside wdS_X4_putsAside wdN_RX4 wdC_X4_putsAside)) rfl rfl rfl pdX4_putsAside ⟨Nat.le_of_ble_eq_true rfl, Nat.le_of_ble_eq_true rfl⟩) 0 (wM_p0 q cI cZ S) rfl rfl rfl hl.1 rfl (Nat.le_of_ble_eq_true rfl) dX4_settles_46 ⟨Nat.zero_le _, Nat.zero_le _⟩ (fun H locs hw => ?_)
        refine lv_iload_n hx hb dX4_settles_49 rfl (lv_at hl 2 rfl) ?_
        refine lv_if_eq (tgt := 58) hx hb dX4_settles_50 (by decide) (fun c4 => ?_) (fun c4 => ?_)
        · have h := h_ifp c4 h
          refine lv_iload_n hx hb dX4_settles_58 rfl (lv_at hl 1 rfl) ?_
          exact h_iret cx hw hr hlk rfl (congrArg Prod.fst (Option.some.inj h)) (congrArg Prod.snd (Option.some.inj h)) dX4_settles_59
        · have h := h_ifn c4 h
          refine lv_bipush (v := (-9)) hx hb dX4_settles_53 (by decide) ?_
          refine lv_goto (tgt := 59) hx hb dX4_settles_55 (by decide) ?_
          exact h_iret cx hw hr hlk rfl (congrArg Prod.fst (Option.some.inj h)) (congrArg Prod.snd (Option.some.inj h)) dX4_settles_59
      have kk39 : ∀ (S : HSt) (x2 t0 t1 : Int32), f_X4_settles_39 (f_X4_settles_9 n9) S x2 t0 t1 = some (r, S9) → ∀ (H : Heap) (locs : List Loc) (ls : Array Slot), HW (dC, dI) (wM q cI cZ) S A s H locs → lv_has ls 3 [(0, .ref (q 0)), (2, .int x2)] → W p l e rmX4_settles s m ([.ref (q 0)] : List Value).toArray below meth c H locs 0 0 (MQ below (QI (dC, dI) (wM q cI cZ) r S9 A) ([.ref (q 0)] : List Value).toArray s 0 0 A) (F0 m 39 ls [.int t0, .int t1]) := by
        intro S x2 t0 t1 h H locs ls hw hl
        unfold f_X4_settles_39 at h
        refine lv_iadd hx hb dX4_settles_39 ?_
        refine lv_istore_n (lv' := [(1, .int (t1 + t0)), (0, .ref (q 0)), (2, .int x2)]) hx hb dX4_settles_40 rfl hl (by decide) rfl (fun ls hl => ?_)
        refine lv_goto (tgt := 9) hx hb dX4_settles_41 (by decide) ?_
        exact ih9 _ _ _ h _ _ _ hw (lv_sub hl [1, 0, 2] rfl)
      refine lv_iload_n hx hb dX4_settles_9 rfl (lv_at hl 2 rfl) ?_
      refine lv_if_eq (tgt := 44) hx hb dX4_settles_10 (by decide) (fun c1 => ?_) (fun c1 => ?_)
      · have h := h_ifp c1 h
        exact kk44 _ _ _ h _ _ _ hw (lv_sub hl [0, 1, 2] rfl)
      · have h := h_ifn c1 h
        refine lv_iload_n hx hb dX4_settles_13 rfl (lv_at hl 1 rfl) ?_
        refine lv_bipush (v := 30) hx hb dX4_settles_14 (by decide) ?_
        refine lv_icmp_ge (tgt := 44) hx hb dX4_settles_16 (by decide) (fun c2 => ?_) (fun c2 => ?_)
        · have h := h_ifp c2 h
          exact kk44 _ _ _ h _ _ _ hw (lv_sub hl [0, 1, 2] rfl)
        · have h := h_ifn c2 h
          refine lv_aload_n hx hb dX4_settles_19 rfl (lv_at hl 0 rfl) ?_
          obtain ⟨S5, e4, h⟩ := h_bd_ok h
          refine h_callV cx hw (c_X4_goesOn l dC dI cI cZ q S S5 e4) (cwV 0 hts (hgA (hcV wdL_X4_158 wdI_X4_goesOn wdS_X4_goesOn wdN_RX4 wdC_X4_goesOn)) rfl rfl rfl pdX4_goesOn ⟨Nat.le_of_ble_eq_true rfl, Nat.le_of_ble_eq_true rfl⟩) 0 (wM_p0 q cI cZ S) rfl rfl rfl hl.1 rfl (Nat.le_of_ble_eq_true rfl) dX4_settles_20 ⟨Nat.zero_le _, Nat.zero_le _⟩ (fun H locs hw => ?_)
          refine lv_aload_n hx hb dX4_settles_23 rfl (lv_at hl 0 rfl) ?_
          refine lv_iconst (v := 1) hx hb dX4_settles_24 (by decide) ?_
          obtain ⟨r6, e7, h⟩ := h_bd_ok h
          refine h_callI cx hw (c_X4_isChanged l dC dI cI cZ q S5 1 r6 e7) (cwV 1 hts (hgA (hcV wdL_X4_164 wdI_X4_isChanged wdS_X4_isChanged wdN_RX4 wdC_X4_isChanged)) rfl rfl rfl pdX4_isChanged ⟨Nat.le_of_ble_eq_true rfl, Nat.le_of_ble_eq_true rfl⟩) 0 (wM_p0 q cI cZ S5) rfl rfl rfl hl.1 rfl (Nat.le_of_ble_eq_true rfl) dX4_settles_25 ⟨Nat.zero_le _, Nat.zero_le _⟩ (fun H locs hw => ?_)
          refine lv_istore_n (lv' := [(2, .int r6), (0, .ref (q 0)), (1, .int x1)]) hx hb dX4_settles_28 rfl hl (by decide) rfl (fun ls hl => ?_)
          refine lv_iload_n hx hb dX4_settles_29 rfl (lv_at hl 2 rfl) ?_
          refine lv_iload_n hx hb dX4_settles_30 rfl (lv_at hl 0 rfl) ?_
          refine lv_if_eq (tgt := 38) hx hb dX4_settles_31 (by decide) (fun c8 => ?_) (fun c8 => ?_)
          · have h := h_ifp c8 h
            refine lv_iconst (v := 0) hx hb dX4_settles_38 (by decide) ?_
            exact kk39 _ _ _ _ h _ _ _ hw (lv_sub hl [1, 0] rfl)
          · have h := h_ifn c8 h
            refine lv_iconst (v := 1) hx hb dX4_settles_34 (by decide) ?_
            refine lv_goto (tgt := 39) hx hb dX4_settles_35 (by decide) ?_
            exact kk39 _ _ _ _ h _ _ _ hw (lv_sub hl [1, 0] rfl)
  refine lv_aload_n hx hb dX4_settles_0 rfl (lv_at hl 0 rfl) ?_
  refine lv_iconst (v := 0) hx hb dX4_settles_1 (by decide) ?_
  obtain ⟨S3, e2, h⟩ := h_bd_ok h
  refine h_callV cx hw (c_X4_putsAside l dC dI cI cZ q S 0 S3 e2) (cwV 1 hts (hgA (hcV wdL_X4_180 wdI_X4_putsAside wdS_X4_putsAside wdN_RX4 wdC_X4_putsAside)) rfl rfl rfl pdX4_putsAside ⟨Nat.le_of_ble_eq_true rfl, Nat.le_of_ble_eq_true rfl⟩) 0 (wM_p0 q cI cZ S) rfl rfl rfl hl.1 rfl (Nat.le_of_ble_eq_true rfl) dX4_settles_2 ⟨Nat.zero_le _, Nat.zero_le _⟩ (fun H locs hw => ?_)
  refine lv_iconst (v := 0) hx hb dX4_settles_5 (by decide) ?_
  refine lv_istore_n (lv' := [(1, .int 0), (0, .ref (q 0))]) hx hb dX4_settles_6 rfl hl (by decide) rfl (fun ls hl => ?_)
  refine lv_iconst (v := 1) hx hb dX4_settles_7 (by decide) ?_
  refine lv_istore_n (lv' := [(2, .int 1), (1, .int 0), (0, .ref (q 0))]) hx hb dX4_settles_8 rfl hl (by decide) rfl (fun ls hl => ?_)
  exact kk9 h_fu _ _ _ h _ _ _ hw (lv_sub hl [2, 1, 0] rfl)
set_option maxHeartbeats 4000000 in
set_option maxRecDepth 100000 in
theorem c_X4_goes (l : Launch) (dC : Nat → ClassId) (dI : Nat → Nat → Nat) (cI cZ : ClassId) (q : Nat → Nat) (S : HSt) (a1 a2 : Int32) (r : Int32) (S9 : HSt) (h : f_X4_goes S a1 a2 = some (r, S9)) : MI l yX4_goes hsX4_goes rmX4_goes (dC, dI) cI cZ (wM q cI cZ) S [.ref (q 0), .int a1, .int a2] r S9 := by
  refine MI.ofW (cc := cX4_goes) (maxL := 9) (ret := (some .int)) (by decide +kernel) rfl (Nat.le_of_ble_eq_true rfl) ?_
  intro p e s m below meth c A cx hr hlk hw ls hl
  have hx := cx.1.1
  have hb := cx.1.2.1
  have hml := cx.1.2.2.1
  have hts := cx.1.2.2.2.2
  have hta : ∀ z ∈ hALL, z.before _ s = true := fun z h => hts z (List.mem_cons_of_mem _ h)
  have lk184 : (Cond.fieldLink RX4 184 (TX4 23).1 (TX4 23).2.1 (TX4 23).2.2.1).before _ s = true := hta _ wdF_X4_184
  have lk23 : (Cond.fieldLink RX4 23 (TX4 5).1 (TX4 5).2.1 (TX4 5).2.2.1).before _ s = true := hta _ wdF_X4_23
  have lk68 : (Cond.fieldLink RX4 68 (TX4 21).1 (TX4 21).2.1 (TX4 21).2.2.1).before _ s = true := hta _ wdF_X4_68
  have lk71 : (Cond.fieldLink RX4 71 (TX4 22).1 (TX4 22).2.1 (TX4 22).2.2.1).before _ s = true := hta _ wdF_X4_71
  have hl : lv_has ls 9 [(0, .ref (q 0)), (1, .int a1), (2, .int a2)] := hl
  unfold f_X4_goes at h
  have kk14 : ∀ (n14 : Nat) (S : HSt) (x2 x3 x4 x5 : Int32), f_X4_goes_14 n14 S x2 x3 x4 x5 = some (r, S9) → ∀ (H : Heap) (locs : List Loc) (ls : Array Slot), HW (dC, dI) (wM q cI cZ) S A s H locs → lv_has ls 9 [(0, .ref (q 0)), (2, .int x2), (3, .int x3), (4, .int x4), (5, .int x5)] → W p l e rmX4_goes s m ([.ref (q 0), .int a1, .int a2] : List Value).toArray below meth c H locs 0 0 (MQ below (QI (dC, dI) (wM q cI cZ) r S9 A) ([.ref (q 0), .int a1, .int a2] : List Value).toArray s 0 0 A) (F0 m 14 ls []) := by
    intro n14
    induction n14 with
    | zero =>
      intro S x2 x3 x4 x5 h
      have h9 : (none : Option (Int32 × HSt)) = some (r, S9) := h
      cases h9
    | succ n14 ih14 =>
      intro S x2 x3 x4 x5 h H locs ls hw hl
      have h : f_X4_goes_14_s (f_X4_goes_14 n14) S x2 x3 x4 x5 = some (r, S9) := h
      unfold f_X4_goes_14_s at h
      have kk63 : ∀ (S : HSt) (x2 x3 x4 t0 : Int32), f_X4_goes_63 (f_X4_goes_14 n14) S x2 x3 x4 t0 = some (r, S9) → ∀ (H : Heap) (locs : List Loc) (ls : Array Slot), HW (dC, dI) (wM q cI cZ) S A s H locs → lv_has ls 9 [(0, .ref (q 0)), (2, .int x2), (3, .int x3), (4, .int x4)] → W p l e rmX4_goes s m ([.ref (q 0), .int a1, .int a2] : List Value).toArray below meth c H locs 0 0 (MQ below (QI (dC, dI) (wM q cI cZ) r S9 A) ([.ref (q 0), .int a1, .int a2] : List Value).toArray s 0 0 A) (F0 m 63 ls [.int t0]) := by
        intro S x2 x3 x4 t0 h H locs ls hw hl
        unfold f_X4_goes_63 at h
        have kk126 : ∀ (S : HSt) (x2 x3 x7 x8 : Int32), f_X4_goes_126 (f_X4_goes_14 n14) S x2 x3 x7 x8 = some (r, S9) → ∀ (H : Heap) (locs : List Loc) (ls : Array Slot), HW (dC, dI) (wM q cI cZ) S A s H locs → lv_has ls 9 [(0, .ref (q 0)), (2, .int x2), (3, .int x3), (7, .int x7), (8, .int x8)] → W p l e rmX4_goes s m ([.ref (q 0), .int a1, .int a2] : List Value).toArray below meth c H locs 0 0 (MQ below (QI (dC, dI) (wM q cI cZ) r S9 A) ([.ref (q 0), .int a1, .int a2] : List Value).toArray s 0 0 A) (F0 m 126 ls []) := by
          intro S x2 x3 x7 x8 h H locs ls hw hl
          unfold f_X4_goes_126 at h
          have kk149 : ∀ (S : HSt) (x2 x3 x7 t0 : Int32), f_X4_goes_149 (f_X4_goes_14 n14) S x2 x3 x7 t0 = some (r, S9) → ∀ (H : Heap) (locs : List Loc) (ls : Array Slot), HW (dC, dI) (wM q cI cZ) S A s H locs → lv_has ls 9 [(0, .ref (q 0)), (2, .int x2), (3, .int x3), (7, .int x7)] → W p l e rmX4_goes s m ([.ref (q 0), .int a1, .int a2] : List Value).toArray below meth c H locs 0 0 (MQ below (QI (dC, dI) (wM q cI cZ) r S9 A) ([.ref (q 0), .int a1, .int a2] : List Value).toArray s 0 0 A) (F0 m 149 ls [.int t0]) := by
            intro S x2 x3 x7 t0 h H locs ls hw hl
            unfold f_X4_goes_149 at h
            refine lv_istore (lv' := [(4, .int t0), (0, .ref (q 0)), (2, .int x2), (3, .int x3), (7, .int x7)]) hx hb dX4_goes_149 hl (by decide) rfl (fun ls hl => ?_)
            refine lv_aload_n hx hb dX4_goes_151 rfl (lv_at hl 1 rfl) ?_
            refine lv_iload_n hx hb dX4_goes_152 rfl (lv_at hl 3 rfl) ?_
            refine lv_iload hx hb dX4_goes_153 (lv_at hl 4 rfl) ?_
            obtain ⟨r1, e2, h⟩ := h_bd_ok h
            refine h_callI cx hw (c_X4_linkBetween l dC dI cI cZ q S x3 x7 r1 e2) (cwV 2 hts (hgA (hcV wdL_X4_92 wdI_X4_linkBetween wdS_X4_linkBetween wdN_RX4 wdC_X4_linkBetween)) rfl rfl rfl pdX4_linkBetween ⟨Nat.le_of_ble_eq_true rfl, Nat.le_of_ble_eq_true rfl⟩) 0 (wM_p0 q cI cZ S) rfl rfl rfl hl.1 rfl (Nat.le_of_ble_eq_true rfl) dX4_goes_155 ⟨Nat.zero_le _, Nat.zero_le _⟩ (fun H locs hw => ?_)
            refine lv_istore (lv' := [(5, .int r1), (4, .int t0), (0, .ref (q 0)), (2, .int x2), (3, .int x3), (7, .int x7)]) hx hb dX4_goes_158 hl (by decide) rfl (fun ls hl => ?_)
            refine lv_iload hx hb dX4_goes_160 (lv_at hl 5 rfl) ?_
            refine lv_istore_n (lv' := [(3, .int x7), (5, .int r1), (4, .int t0), (0, .ref (q 0)), (2, .int x2), (7, .int x7)]) hx hb dX4_goes_162 rfl hl (by decide) rfl (fun ls hl => ?_)
            refine lv_goto (tgt := 14) hx hb dX4_goes_163 (by decide) ?_
            exact ih14 _ _ _ _ _ h _ _ _ hw (lv_sub hl [3, 4, 0, 2, 1] rfl)
          refine lv_aload_n hx hb dX4_goes_126 rfl (lv_at hl 0 rfl) ?_
          refine h_get (v := .int (S.1 2)) cx hw 0 (wM_p0 q cI cZ S) rfl hinX4 23 (by decide) lk184 rfl dX4_goes_127 ?_
          refine lv_bipush (v := 14) hx hb dX4_goes_130 (by decide) ?_
          refine lv_icmp_le (tgt := 137) hx hb dX4_goes_132 (by decide) (fun c1 => ?_) (fun c1 => ?_)
          · have h := h_ifp c1 h
            refine lv_iload hx hb dX4_goes_137 (lv_at hl 4 rfl) ?_
            refine lv_iconst (v := 3) hx hb dX4_goes_139 (by decide) ?_
            refine lv_icmp_ne (tgt := 147) hx hb dX4_goes_140 (by decide) (fun c2 => ?_) (fun c2 => ?_)
            · have h := h_ifn c2 h
              refine lv_iload hx hb dX4_goes_147 (lv_at hl 4 rfl) ?_
              exact kk149 _ _ _ _ _ h _ _ _ hw (lv_sub hl [0, 1, 2, 3] rfl)
            · have h := h_ifp c2 h
              refine lv_iconst (v := 0) hx hb dX4_goes_143 (by decide) ?_
              refine lv_goto (tgt := 149) hx hb dX4_goes_144 (by decide) ?_
              exact kk149 _ _ _ _ _ h _ _ _ hw (lv_sub hl [0, 1, 2, 3] rfl)
          · have h := h_ifn c1 h
            refine lv_iconst (v := 4) hx hb dX4_goes_135 (by decide) ?_
            exact h_iret cx hw hr hlk rfl (congrArg Prod.fst (Option.some.inj h)) (congrArg Prod.snd (Option.some.inj h)) dX4_goes_136
        refine lv_istore (lv' := [(6, .int t0), (0, .ref (q 0)), (2, .int x2), (3, .int x3), (4, .int x4)]) hx hb dX4_goes_63 hl (by decide) rfl (fun ls hl => ?_)
        refine lv_iload hx hb dX4_goes_65 (lv_at hl 0 rfl) ?_
        refine lv_bipush (v := (-9)) hx hb dX4_goes_67 (by decide) ?_
        refine lv_icmp_ne (tgt := 74) hx hb dX4_goes_69 (by decide) (fun c1 => ?_) (fun c1 => ?_)
        · have h := h_ifn c1 h
          refine lv_aload_n hx hb dX4_goes_74 rfl (lv_at hl 1 rfl) ?_
          refine h_get (v := .ref (q 5)) cx hw 0 (wM_p0 q cI cZ S) rfl hinX4 5 (by decide) lk23 rfl dX4_goes_75 ?_
          refine lv_iload hx hb dX4_goes_78 (lv_at hl 0 rfl) ?_
          obtain ⟨v2, e3, h⟩ := h_bd_ok h
          refine h_ald cx hw 5 (wM_p5 q cI cZ S) e3 dX4_goes_80 ?_
          refine lv_iload_n hx hb dX4_goes_81 rfl (lv_at hl 3 rfl) ?_
          refine lv_icmp_ne (tgt := 87) hx hb dX4_goes_82 (by decide) (fun c4 => ?_) (fun c4 => ?_)
          · have h := h_ifn c4 h
            refine lv_aload_n hx hb dX4_goes_87 rfl (lv_at hl 1 rfl) ?_
            refine lv_iload_n hx hb dX4_goes_88 rfl (lv_at hl 3 rfl) ?_
            refine lv_iload hx hb dX4_goes_89 (lv_at hl 0 rfl) ?_
            obtain ⟨r5, S7, e6, h⟩ := h_bi_ok h
            refine h_callI cx hw (c_X4_nextOf l dC dI cI cZ q S x3 t0 r5 S7 e6) (cwV 2 hts (hgA (hcV wdL_X4_106 wdI_X4_nextOf wdS_X4_nextOf wdN_RX4 wdC_X4_nextOf)) rfl rfl rfl pdX4_nextOf ⟨Nat.le_of_ble_eq_true rfl, Nat.le_of_ble_eq_true rfl⟩) 0 (wM_p0 q cI cZ S) rfl rfl rfl hl.1 rfl (Nat.le_of_ble_eq_true rfl) dX4_goes_91 ⟨Nat.zero_le _, Nat.zero_le _⟩ (fun H locs hw => ?_)
            refine lv_istore (lv' := [(7, .int r5), (6, .int t0), (0, .ref (q 0)), (2, .int x2), (3, .int x3), (4, .int x4)]) hx hb dX4_goes_94 hl (by decide) rfl (fun ls hl => ?_)
            refine lv_iload hx hb dX4_goes_96 (lv_at hl 0 rfl) ?_
            refine lv_bipush (v := (-9)) hx hb dX4_goes_98 (by decide) ?_
            refine lv_icmp_ne (tgt := 105) hx hb dX4_goes_100 (by decide) (fun c8 => ?_) (fun c8 => ?_)
            · have h := h_ifn c8 h
              refine lv_aload_n hx hb dX4_goes_105 rfl (lv_at hl 2 rfl) ?_
              refine lv_iload_n hx hb dX4_goes_106 rfl (lv_at hl 4 rfl) ?_
              refine lv_iload hx hb dX4_goes_107 (lv_at hl 1 rfl) ?_
              obtain ⟨r9, S11, e10, h⟩ := h_bi_ok h
              refine h_callI cx hw (c_X4_usedLabel l dC dI cI cZ q S7 x3 t0 r9 S11 e10) (cwV 2 hts (hgA (hcV wdL_X4_174 wdI_X4_usedLabel wdS_X4_usedLabel wdN_RX4 wdC_X4_usedLabel)) rfl rfl rfl pdX4_usedLabel ⟨Nat.le_of_ble_eq_true rfl, Nat.le_of_ble_eq_true rfl⟩) 0 (wM_p0 q cI cZ S7) rfl rfl rfl hl.1 rfl (Nat.le_of_ble_eq_true rfl) dX4_goes_109 ⟨Nat.zero_le _, Nat.zero_le _⟩ (fun H locs hw => ?_)
              refine lv_istore (lv' := [(8, .int r9), (7, .int r5), (6, .int t0), (0, .ref (q 0)), (2, .int x2), (3, .int x3), (4, .int x4)]) hx hb dX4_goes_112 hl (by decide) rfl (fun ls hl => ?_)
              refine lv_iload hx hb dX4_goes_114 (lv_at hl 0 rfl) ?_
              refine lv_if_ne (tgt := 126) hx hb dX4_goes_116 (by decide) (fun c12 => ?_) (fun c12 => ?_)
              · have h := h_ifn c12 h
                exact kk126 _ _ _ _ _ h _ _ _ hw (lv_sub hl [3, 4, 5, 1, 0] rfl)
              · have h := h_ifp c12 h
                refine lv_iload hx hb dX4_goes_119 (lv_at hl 6 rfl) ?_
                refine lv_if_le (tgt := 126) hx hb dX4_goes_121 (by decide) (fun c13 => ?_) (fun c13 => ?_)
                · have h := h_ifp c13 h
                  exact kk126 _ _ _ _ _ h _ _ _ hw (lv_sub hl [3, 4, 5, 1, 0] rfl)
                · have h := h_ifn c13 h
                  refine lv_iconst (v := 3) hx hb dX4_goes_124 (by decide) ?_
                  exact h_iret cx hw hr hlk rfl (congrArg Prod.fst (Option.some.inj h)) (congrArg Prod.snd (Option.some.inj h)) dX4_goes_125
            · have h := h_ifp c8 h
              refine lv_iconst (v := 1) hx hb dX4_goes_103 (by decide) ?_
              exact h_iret cx hw hr hlk rfl (congrArg Prod.fst (Option.some.inj h)) (congrArg Prod.snd (Option.some.inj h)) dX4_goes_104
          · have h := h_ifp c4 h
            refine lv_iconst (v := 0) hx hb dX4_goes_85 (by decide) ?_
            exact h_iret cx hw hr hlk rfl (congrArg Prod.fst (Option.some.inj h)) (congrArg Prod.snd (Option.some.inj h)) dX4_goes_86
        · have h := h_ifp c1 h
          refine lv_iconst (v := 2) hx hb dX4_goes_72 (by decide) ?_
          exact h_iret cx hw hr hlk rfl (congrArg Prod.fst (Option.some.inj h)) (congrArg Prod.snd (Option.some.inj h)) dX4_goes_73
      refine lv_aload_n hx hb dX4_goes_14 rfl (lv_at hl 0 rfl) ?_
      refine h_get (v := .ref (q 20)) cx hw 0 (wM_p0 q cI cZ S) rfl hinX4 21 (by decide) lk68 rfl dX4_goes_15 ?_
      refine lv_aload_n hx hb dX4_goes_18 rfl (lv_at hl 0 rfl) ?_
      refine h_get (v := .int (S.1 2)) cx hw 0 (wM_p0 q cI cZ S) rfl hinX4 23 (by decide) lk184 rfl dX4_goes_19 ?_
      refine lv_iload_n hx hb dX4_goes_22 rfl (lv_at hl 2 rfl) ?_
      obtain ⟨S1, e2, h⟩ := h_bd_ok h
      refine h_ast cx hw 20 (wM_p20 q cI cZ S) (wM_s20 q cI cZ S) e2 dX4_goes_23 (fun H locs hw => ?_)
      refine lv_aload_n hx hb dX4_goes_24 rfl (lv_at hl 0 rfl) ?_
      refine h_get (v := .ref (q 21)) cx hw 0 (wM_p0 q cI cZ S1) rfl hinX4 22 (by decide) lk71 rfl dX4_goes_25 ?_
      refine lv_aload_n hx hb dX4_goes_28 rfl (lv_at hl 0 rfl) ?_
      refine h_get (v := .int (S1.1 2)) cx hw 0 (wM_p0 q cI cZ S1) rfl hinX4 23 (by decide) lk184 rfl dX4_goes_29 ?_
      refine lv_iload hx hb dX4_goes_32 (lv_at hl 3 rfl) ?_
      obtain ⟨S3, e4, h⟩ := h_bd_ok h
      refine h_ast cx hw 21 (wM_p21 q cI cZ S1) (wM_s21 q cI cZ S1) e4 dX4_goes_34 (fun H locs hw => ?_)
      refine lv_aload_n hx hb dX4_goes_35 rfl (lv_at hl 0 rfl) ?_
      refine lv_dup hx hb dX4_goes_36 rfl ?_
      refine h_get (v := .int (S3.1 2)) cx hw 0 (wM_p0 q cI cZ S3) rfl hinX4 23 (by decide) lk184 rfl dX4_goes_37 ?_
      refine lv_iconst (v := 1) hx hb dX4_goes_40 (by decide) ?_
      refine lv_iadd hx hb dX4_goes_41 ?_
      obtain ⟨S5, e6, h⟩ := h_bd_ok h
      refine h_puti (x := (S3.1 2) + 1) cx hw 0 (wM_p0 q cI cZ S3) rfl hinX4 tyX4 tyX4_ok nmX4 23 (by decide) lk184 rfl (by decide +kernel) (Nat.le_of_ble_eq_true rfl) 2 (wM_i2 q cI cZ S3 ((S3.1 2) + 1)) e6 dX4_goes_42 (fun H locs hw => ?_)
      refine lv_iload hx hb dX4_goes_45 (lv_at hl 3 rfl) ?_
      refine lv_if_ne (tgt := 54) hx hb dX4_goes_47 (by decide) (fun c7 => ?_) (fun c7 => ?_)
      · have h := h_ifn c7 h
        refine lv_aload_n hx hb dX4_goes_54 rfl (lv_at hl 0 rfl) ?_
        refine lv_iload_n hx hb dX4_goes_55 rfl (lv_at hl 2 rfl) ?_
        refine lv_iload hx hb dX4_goes_56 (lv_at hl 4 rfl) ?_
        refine lv_iload hx hb dX4_goes_58 (lv_at hl 3 rfl) ?_
        obtain ⟨r8, e9, h⟩ := h_bd_ok h
        refine h_callI cx hw (c_X4_meaningOf l dC dI cI cZ q S5 x3 x5 x4 r8 e9) (cwV 3 hts (hgA (hcV wdL_X4_177 wdI_X4_meaningOf wdS_X4_meaningOf wdN_RX4 wdC_X4_meaningOf)) rfl rfl rfl pdX4_meaningOf ⟨Nat.le_of_ble_eq_true rfl, Nat.le_of_ble_eq_true rfl⟩) 0 (wM_p0 q cI cZ S5) rfl rfl rfl hl.1 rfl (Nat.le_of_ble_eq_true rfl) dX4_goes_60 ⟨Nat.zero_le _, Nat.zero_le _⟩ (fun H locs hw => ?_)
        exact kk63 _ _ _ _ _ h _ _ _ hw (lv_sub hl [0, 1, 2, 3] rfl)
      · have h := h_ifp c7 h
        refine lv_iload_n hx hb dX4_goes_50 rfl (lv_at hl 1 rfl) ?_
        refine lv_goto (tgt := 63) hx hb dX4_goes_51 (by decide) ?_
        exact kk63 _ _ _ _ _ h _ _ _ hw (lv_sub hl [0, 1, 2, 3] rfl)
  refine lv_iload_n hx hb dX4_goes_0 rfl (lv_at hl 1 rfl) ?_
  refine lv_istore_n (lv' := [(3, .int a1), (0, .ref (q 0)), (1, .int a1), (2, .int a2)]) hx hb dX4_goes_1 rfl hl (by decide) rfl (fun ls hl => ?_)
  refine lv_iconst (v := 0) hx hb dX4_goes_2 (by decide) ?_
  refine lv_istore (lv' := [(4, .int 0), (3, .int a1), (0, .ref (q 0)), (1, .int a1), (2, .int a2)]) hx hb dX4_goes_3 hl (by decide) rfl (fun ls hl => ?_)
  refine lv_bipush (v := (-9)) hx hb dX4_goes_5 (by decide) ?_
  refine lv_istore (lv' := [(5, .int (-9)), (4, .int 0), (3, .int a1), (0, .ref (q 0)), (1, .int a1), (2, .int a2)]) hx hb dX4_goes_7 hl (by decide) rfl (fun ls hl => ?_)
  refine lv_aload_n hx hb dX4_goes_9 rfl (lv_at hl 3 rfl) ?_
  refine lv_iconst (v := 0) hx hb dX4_goes_10 (by decide) ?_
  obtain ⟨S1, e2, h⟩ := h_bd_ok h
  refine h_puti (x := 0) cx hw 0 (wM_p0 q cI cZ S) rfl hinX4 tyX4 tyX4_ok nmX4 23 (by decide) lk184 rfl (by decide +kernel) (Nat.le_of_ble_eq_true rfl) 2 (wM_i2 q cI cZ S 0) e2 dX4_goes_11 (fun H locs hw => ?_)
  exact kk14 h_fu _ _ _ _ _ h _ _ _ hw (lv_sub hl [3, 5, 2, 1, 0] rfl)
set_option maxHeartbeats 4000000 in
set_option maxRecDepth 100000 in
theorem c_X4_letter (l : Launch) (dC : Nat → ClassId) (dI : Nat → Nat → Nat) (cI cZ : ClassId) (q : Nat → Nat) (S : HSt) (a1 a2 : Int32) (r : Int32) (S9 : HSt) (h : f_X4_letter S a1 a2 = some (r, S9)) : MI l yX4_letter hsX4_letter rmX4_letter (dC, dI) cI cZ (wM q cI cZ) S [.ref (q 0), .int a1, .int a2] r S9 := by
  refine MI.ofW (cc := cX4_letter) (maxL := 5) (ret := (some .int)) (by decide +kernel) rfl (Nat.le_of_ble_eq_true rfl) ?_
  intro p e s m below meth c A cx hr hlk hw ls hl
  have hx := cx.1.1
  have hb := cx.1.2.1
  have hml := cx.1.2.2.1
  have hts := cx.1.2.2.2.2
  have hta : ∀ z ∈ hALL, z.before _ s = true := fun z h => hts z (List.mem_cons_of_mem _ h)
  have lk184 : (Cond.fieldLink RX4 184 (TX4 23).1 (TX4 23).2.1 (TX4 23).2.2.1).before _ s = true := hta _ wdF_X4_184
  have lk190 : (Cond.fieldLink RX4 190 (TX4 26).1 (TX4 26).2.1 (TX4 26).2.2.1).before _ s = true := hta _ wdF_X4_190
  have lk68 : (Cond.fieldLink RX4 68 (TX4 21).1 (TX4 21).2.1 (TX4 21).2.2.1).before _ s = true := hta _ wdF_X4_68
  have lk71 : (Cond.fieldLink RX4 71 (TX4 22).1 (TX4 22).2.1 (TX4 22).2.2.1).before _ s = true := hta _ wdF_X4_71
  have lk74 : (Cond.fieldLink RX4 74 (TX4 24).1 (TX4 24).2.1 (TX4 24).2.2.1).before _ s = true := hta _ wdF_X4_74
  have lk77 : (Cond.fieldLink RX4 77 (TX4 25).1 (TX4 25).2.1 (TX4 25).2.2.1).before _ s = true := hta _ wdF_X4_77
  have hl : lv_has ls 5 [(0, .ref (q 0)), (1, .int a1), (2, .int a2)] := hl
  unfold f_X4_letter at h
  have kk34 : ∀ (n34 : Nat) (S : HSt) (x3 x4 : Int32), f_X4_letter_34 n34 S x3 x4 = some (r, S9) → ∀ (H : Heap) (locs : List Loc) (ls : Array Slot), HW (dC, dI) (wM q cI cZ) S A s H locs → lv_has ls 5 [(0, .ref (q 0)), (3, .int x3), (4, .int x4)] → W p l e rmX4_letter s m ([.ref (q 0), .int a1, .int a2] : List Value).toArray below meth c H locs 0 0 (MQ below (QI (dC, dI) (wM q cI cZ) r S9 A) ([.ref (q 0), .int a1, .int a2] : List Value).toArray s 0 0 A) (F0 m 34 ls []) := by
    intro n34
    induction n34 with
    | zero =>
      intro S x3 x4 h
      have h9 : (none : Option (Int32 × HSt)) = some (r, S9) := h
      cases h9
    | succ n34 ih34 =>
      intro S x3 x4 h H locs ls hw hl
      have h : f_X4_letter_34_s (f_X4_letter_34 n34) S x3 x4 = some (r, S9) := h
      unfold f_X4_letter_34_s at h
      refine lv_iload hx hb dX4_letter_34 (lv_at hl 2 rfl) ?_
      refine lv_aload_n hx hb dX4_letter_36 rfl (lv_at hl 0 rfl) ?_
      refine h_get (v := .int (S.1 2)) cx hw 0 (wM_p0 q cI cZ S) rfl hinX4 23 (by decide) lk184 rfl dX4_letter_37 ?_
      refine lv_icmp_ge (tgt := 77) hx hb dX4_letter_40 (by decide) (fun c1 => ?_) (fun c1 => ?_)
      · have h := h_ifp c1 h
        refine lv_iload_n hx hb dX4_letter_77 rfl (lv_at hl 1 rfl) ?_
        exact h_iret cx hw hr hlk rfl (congrArg Prod.fst (Option.some.inj h)) (congrArg Prod.snd (Option.some.inj h)) dX4_letter_78
      · have h := h_ifn c1 h
        refine lv_aload_n hx hb dX4_letter_43 rfl (lv_at hl 0 rfl) ?_
        refine h_get (v := .ref (q 22)) cx hw 0 (wM_p0 q cI cZ S) rfl hinX4 24 (by decide) lk74 rfl dX4_letter_44 ?_
        refine lv_iload hx hb dX4_letter_47 (lv_at hl 2 rfl) ?_
        refine lv_aload_n hx hb dX4_letter_49 rfl (lv_at hl 0 rfl) ?_
        refine h_get (v := .ref (q 20)) cx hw 0 (wM_p0 q cI cZ S) rfl hinX4 21 (by decide) lk68 rfl dX4_letter_50 ?_
        refine lv_iload hx hb dX4_letter_53 (lv_at hl 2 rfl) ?_
        obtain ⟨v2, e3, h⟩ := h_bd_ok h
        refine h_ald cx hw 20 (wM_p20 q cI cZ S) e3 dX4_letter_55 ?_
        obtain ⟨S4, e5, h⟩ := h_bd_ok h
        refine h_ast cx hw 22 (wM_p22 q cI cZ S) (wM_s22 q cI cZ S) e5 dX4_letter_56 (fun H locs hw => ?_)
        refine lv_aload_n hx hb dX4_letter_57 rfl (lv_at hl 0 rfl) ?_
        refine h_get (v := .ref (q 23)) cx hw 0 (wM_p0 q cI cZ S4) rfl hinX4 25 (by decide) lk77 rfl dX4_letter_58 ?_
        refine lv_iload hx hb dX4_letter_61 (lv_at hl 2 rfl) ?_
        refine lv_aload_n hx hb dX4_letter_63 rfl (lv_at hl 0 rfl) ?_
        refine h_get (v := .ref (q 21)) cx hw 0 (wM_p0 q cI cZ S4) rfl hinX4 22 (by decide) lk71 rfl dX4_letter_64 ?_
        refine lv_iload hx hb dX4_letter_67 (lv_at hl 2 rfl) ?_
        obtain ⟨v6, e7, h⟩ := h_bd_ok h
        refine h_ald cx hw 21 (wM_p21 q cI cZ S4) e7 dX4_letter_69 ?_
        obtain ⟨S8, e9, h⟩ := h_bd_ok h
        refine h_ast cx hw 23 (wM_p23 q cI cZ S4) (wM_s23 q cI cZ S4) e9 dX4_letter_70 (fun H locs hw => ?_)
        refine lv_iinc (v := x4 + 1) (lv' := [(4, .int (x4 + 1)), (0, .ref (q 0)), (3, .int x3)]) hx hb dX4_letter_71 hl (k := 2) rfl rfl (by decide) rfl (fun ls hl => ?_)
        refine lv_goto (tgt := 34) hx hb dX4_letter_74 (by decide) ?_
        exact ih34 _ _ _ h _ _ _ hw (lv_sub hl [1, 2, 0] rfl)
  refine lv_iload_n hx hb dX4_letter_0 rfl (lv_at hl 1 rfl) ?_
  obtain ⟨r1, e2, h⟩ := h_bd_ok h
  refine h_callS cx.1 (c_X4_isBox l a1 r1 e2) (va_cwS 1 hts (hgA (hcS wdL_X4_88 wdT_X4_isBox wdN_RX4 wdC_X4_isBox)) rfl rfl rfl pdX4_isBox.2 ⟨Nat.le_of_ble_eq_true rfl, Nat.le_of_ble_eq_true rfl⟩) rfl hl.1 rfl (Nat.le_of_ble_eq_true rfl) dX4_letter_1 ⟨Nat.zero_le _, Nat.zero_le _⟩ ?_
  refine lv_if_eq (tgt := 14) hx hb dX4_letter_4 (by decide) (fun c3 => ?_) (fun c3 => ?_)
  · have h := h_ifp c3 h
    refine lv_iconst (v := (-1)) hx hb dX4_letter_14 (by decide) ?_
    exact h_iret cx hw hr hlk rfl (congrArg Prod.fst (Option.some.inj h)) (congrArg Prod.snd (Option.some.inj h)) dX4_letter_15
  · have h := h_ifn c3 h
    refine lv_iload_n hx hb dX4_letter_7 rfl (lv_at hl 2 rfl) ?_
    obtain ⟨r4, e5, h⟩ := h_bd_ok h
    refine h_callS cx.1 (c_X4_isClass l a2 r4 e5) (va_cwS 1 hts (hgA (hcS wdL_X4_99 wdT_X4_isClass wdN_RX4 wdC_X4_isClass)) rfl rfl rfl pdX4_isClass.2 ⟨Nat.le_of_ble_eq_true rfl, Nat.le_of_ble_eq_true rfl⟩) rfl hl.1 rfl (Nat.le_of_ble_eq_true rfl) dX4_letter_8 ⟨Nat.zero_le _, Nat.zero_le _⟩ ?_
    refine lv_if_ne (tgt := 16) hx hb dX4_letter_11 (by decide) (fun c6 => ?_) (fun c6 => ?_)
    · have h := h_ifn c6 h
      refine lv_aload_n hx hb dX4_letter_16 rfl (lv_at hl 0 rfl) ?_
      refine lv_iload_n hx hb dX4_letter_17 rfl (lv_at hl 1 rfl) ?_
      refine lv_iload_n hx hb dX4_letter_18 rfl (lv_at hl 2 rfl) ?_
      obtain ⟨r7, S9, e8, h⟩ := h_bi_ok h
      refine h_callI cx hw (c_X4_goes l dC dI cI cZ q S a1 a2 r7 S9 e8) (cwV 2 hts (hgA (hcV wdL_X4_187 wdI_X4_goes wdS_X4_goes wdN_RX4 wdC_X4_goes)) rfl rfl rfl pdX4_goes ⟨Nat.le_of_ble_eq_true rfl, Nat.le_of_ble_eq_true rfl⟩) 0 (wM_p0 q cI cZ S) rfl rfl rfl hl.1 rfl (Nat.le_of_ble_eq_true rfl) dX4_letter_19 ⟨Nat.zero_le _, Nat.zero_le _⟩ (fun H locs hw => ?_)
      refine lv_istore_n (lv' := [(3, .int r7), (0, .ref (q 0)), (1, .int a1), (2, .int a2)]) hx hb dX4_letter_22 rfl hl (by decide) rfl (fun ls hl => ?_)
      refine lv_aload_n hx hb dX4_letter_23 rfl (lv_at hl 1 rfl) ?_
      refine lv_aload_n hx hb dX4_letter_24 rfl (lv_at hl 1 rfl) ?_
      refine h_get (v := .int (S9.1 2)) cx hw 0 (wM_p0 q cI cZ S9) rfl hinX4 23 (by decide) lk184 rfl dX4_letter_25 ?_
      obtain ⟨S10, e11, h⟩ := h_bd_ok h
      refine h_puti (x := S9.1 2) cx hw 0 (wM_p0 q cI cZ S9) rfl hinX4 tyX4 tyX4_ok nmX4 26 (by decide) lk190 rfl (by decide +kernel) (Nat.le_of_ble_eq_true rfl) 3 (wM_i3 q cI cZ S9 (S9.1 2)) e11 dX4_letter_28 (fun H locs hw => ?_)
      refine lv_iconst (v := 0) hx hb dX4_letter_31 (by decide) ?_
      refine lv_istore (lv' := [(4, .int 0), (3, .int r7), (0, .ref (q 0)), (1, .int a1), (2, .int a2)]) hx hb dX4_letter_32 hl (by decide) rfl (fun ls hl => ?_)
      exact kk34 h_fu _ _ _ h _ _ _ hw (lv_sub hl [2, 1, 0] rfl)
    · have h := h_ifp c6 h
      refine lv_iconst (v := (-1)) hx hb dX4_letter_14 (by decide) ?_
      exact h_iret cx hw hr hlk rfl (congrArg Prod.fst (Option.some.inj h)) (congrArg Prod.snd (Option.some.inj h)) dX4_letter_15
set_option maxHeartbeats 4000000 in
set_option maxRecDepth 100000 in
theorem c_X4_trace (l : Launch) (dC : Nat → ClassId) (dI : Nat → Nat → Nat) (cI cZ : ClassId) (q : Nat → Nat) (S : HSt) (a1 a2 : Int32) (r : Int32) (h : f_X4_trace S a1 a2 = some r) : MI l yX4_trace hsX4_trace rmX4_trace (dC, dI) cI cZ (wM q cI cZ) S [.ref (q 0), .int a1, .int a2] r S := by
  refine MI.ofW (cc := cX4_trace) (maxL := 3) (ret := (some .int)) (by decide +kernel) rfl (Nat.le_of_ble_eq_true rfl) ?_
  intro p e s m below meth c A cx hr hlk hw ls hl
  have hx := cx.1.1
  have hb := cx.1.2.1
  have hml := cx.1.2.2.1
  have hts := cx.1.2.2.2.2
  have hta : ∀ z ∈ hALL, z.before _ s = true := fun z h => hts z (List.mem_cons_of_mem _ h)
  have lk190 : (Cond.fieldLink RX4 190 (TX4 26).1 (TX4 26).2.1 (TX4 26).2.2.1).before _ s = true := hta _ wdF_X4_190
  have lk74 : (Cond.fieldLink RX4 74 (TX4 24).1 (TX4 24).2.1 (TX4 24).2.2.1).before _ s = true := hta _ wdF_X4_74
  have lk77 : (Cond.fieldLink RX4 77 (TX4 25).1 (TX4 25).2.1 (TX4 25).2.2.1).before _ s = true := hta _ wdF_X4_77
  have hl : lv_has ls 3 [(0, .ref (q 0)), (1, .int a1), (2, .int a2)] := hl
  unfold f_X4_trace at h
  refine lv_iload_n hx hb dX4_trace_0 rfl (lv_at hl 1 rfl) ?_
  refine lv_iconst (v := 0) hx hb dX4_trace_1 (by decide) ?_
  refine lv_bipush (v := 14) hx hb dX4_trace_2 (by decide) ?_
  obtain ⟨r1, e2, h⟩ := h_bd_ok h
  refine h_callS cx.1 (c_X4_within l a1 0 14 r1 e2) (va_cwS 3 hts (hgA (hcS wdL_X4_80 wdT_X4_within wdN_RX4 wdC_X4_within)) rfl rfl rfl pdX4_within.2 ⟨Nat.le_of_ble_eq_true rfl, Nat.le_of_ble_eq_true rfl⟩) rfl hl.1 rfl (Nat.le_of_ble_eq_true rfl) dX4_trace_4 ⟨Nat.zero_le _, Nat.zero_le _⟩ ?_
  refine lv_if_eq (tgt := 19) hx hb dX4_trace_7 (by decide) (fun c3 => ?_) (fun c3 => ?_)
  · have h := h_ifp c3 h
    refine lv_bipush (v := (-2)) hx hb dX4_trace_19 (by decide) ?_
    exact h_iret cx hw hr hlk rfl (Option.some.inj h) rfl dX4_trace_21
  · have h := h_ifn c3 h
    refine lv_iload_n hx hb dX4_trace_10 rfl (lv_at hl 2 rfl) ?_
    refine lv_iconst (v := 0) hx hb dX4_trace_11 (by decide) ?_
    refine lv_iconst (v := 1) hx hb dX4_trace_12 (by decide) ?_
    obtain ⟨r4, e5, h⟩ := h_bd_ok h
    refine h_callS cx.1 (c_X4_within l a2 0 1 r4 e5) (va_cwS 3 hts (hgA (hcS wdL_X4_80 wdT_X4_within wdN_RX4 wdC_X4_within)) rfl rfl rfl pdX4_within.2 ⟨Nat.le_of_ble_eq_true rfl, Nat.le_of_ble_eq_true rfl⟩) rfl hl.1 rfl (Nat.le_of_ble_eq_true rfl) dX4_trace_13 ⟨Nat.zero_le _, Nat.zero_le _⟩ ?_
    refine lv_if_ne (tgt := 22) hx hb dX4_trace_16 (by decide) (fun c6 => ?_) (fun c6 => ?_)
    · have h := h_ifn c6 h
      refine lv_iload_n hx hb dX4_trace_22 rfl (lv_at hl 1 rfl) ?_
      refine lv_aload_n hx hb dX4_trace_23 rfl (lv_at hl 0 rfl) ?_
      refine h_get (v := .int (S.1 3)) cx hw 0 (wM_p0 q cI cZ S) rfl hinX4 26 (by decide) lk190 rfl dX4_trace_24 ?_
      refine lv_icmp_lt (tgt := 33) hx hb dX4_trace_27 (by decide) (fun c7 => ?_) (fun c7 => ?_)
      · have h := h_ifp c7 h
        refine lv_iload_n hx hb dX4_trace_33 rfl (lv_at hl 2 rfl) ?_
        refine lv_if_ne (tgt := 46) hx hb dX4_trace_34 (by decide) (fun c8 => ?_) (fun c8 => ?_)
        · have h := h_ifn c8 h
          refine lv_aload_n hx hb dX4_trace_46 rfl (lv_at hl 0 rfl) ?_
          refine h_get (v := .ref (q 23)) cx hw 0 (wM_p0 q cI cZ S) rfl hinX4 25 (by decide) lk77 rfl dX4_trace_47 ?_
          refine lv_iload_n hx hb dX4_trace_50 rfl (lv_at hl 1 rfl) ?_
          obtain ⟨v9, e10, h⟩ := h_bd_ok h
          refine h_ald cx hw 23 (wM_p23 q cI cZ S) e10 dX4_trace_51 ?_
          exact h_iret cx hw hr hlk rfl (Option.some.inj h) rfl dX4_trace_52
        · have h := h_ifp c8 h
          refine lv_aload_n hx hb dX4_trace_37 rfl (lv_at hl 0 rfl) ?_
          refine h_get (v := .ref (q 22)) cx hw 0 (wM_p0 q cI cZ S) rfl hinX4 24 (by decide) lk74 rfl dX4_trace_38 ?_
          refine lv_iload_n hx hb dX4_trace_41 rfl (lv_at hl 1 rfl) ?_
          obtain ⟨v11, e12, h⟩ := h_bd_ok h
          refine h_ald cx hw 22 (wM_p22 q cI cZ S) e12 dX4_trace_42 ?_
          refine lv_goto (tgt := 52) hx hb dX4_trace_43 (by decide) ?_
          exact h_iret cx hw hr hlk rfl (Option.some.inj h) rfl dX4_trace_52
      · have h := h_ifn c7 h
        refine lv_bipush (v := (-9)) hx hb dX4_trace_30 (by decide) ?_
        exact h_iret cx hw hr hlk rfl (Option.some.inj h) rfl dX4_trace_32
    · have h := h_ifp c6 h
      refine lv_bipush (v := (-2)) hx hb dX4_trace_19 (by decide) ?_
      exact h_iret cx hw hr hlk rfl (Option.some.inj h) rfl dX4_trace_21
set_option maxHeartbeats 4000000 in
set_option maxRecDepth 100000 in
theorem c_X4_isCarried (l : Launch) (dC : Nat → ClassId) (dI : Nat → Nat → Nat) (cI cZ : ClassId) (q : Nat → Nat) (S : HSt) (r : Int32) (h : f_X4_isCarried S = some r) : MI l yX4_isCarried hsX4_isCarried rmX4_isCarried (dC, dI) cI cZ (wM q cI cZ) S [.ref (q 0)] r S := by
  refine MI.ofW (cc := cX4_isCarried) (maxL := 2) (ret := (some .boolean)) (by decide +kernel) rfl (Nat.le_of_ble_eq_true rfl) ?_
  intro p e s m below meth c A cx hr hlk hw ls hl
  have hx := cx.1.1
  have hb := cx.1.2.1
  have hml := cx.1.2.2.1
  have hts := cx.1.2.2.2.2
  have hta : ∀ z ∈ hALL, z.before _ s = true := fun z h => hts z (List.mem_cons_of_mem _ h)
  have lk184 : (Cond.fieldLink RX4 184 (TX4 23).1 (TX4 23).2.1 (TX4 23).2.2.1).before _ s = true := hta _ wdF_X4_184
  have lk71 : (Cond.fieldLink RX4 71 (TX4 22).1 (TX4 22).2.1 (TX4 22).2.2.1).before _ s = true := hta _ wdF_X4_71
  have hl : lv_has ls 2 [(0, .ref (q 0))] := hl
  unfold f_X4_isCarried at h
  have kk2 : ∀ (n2 : Nat) (x1 : Int32), f_X4_isCarried_2 S n2 x1 = some r → ∀ (H : Heap) (locs : List Loc) (ls : Array Slot), HW (dC, dI) (wM q cI cZ) S A s H locs → lv_has ls 2 [(0, .ref (q 0)), (1, .int x1)] → W p l e rmX4_isCarried s m ([.ref (q 0)] : List Value).toArray below meth c H locs 0 0 (MQ below (QI (dC, dI) (wM q cI cZ) r S A) ([.ref (q 0)] : List Value).toArray s 0 0 A) (F0 m 2 ls []) := by
    intro n2
    induction n2 with
    | zero =>
      intro x1 h
      have h9 : (none : Option Int32) = some r := h
      cases h9
    | succ n2 ih2 =>
      intro x1 h H locs ls hw hl
      have h : f_X4_isCarried_2_s S (f_X4_isCarried_2 S n2) x1 = some r := h
      unfold f_X4_isCarried_2_s at h
      refine lv_iload_n hx hb dX4_isCarried_2 rfl (lv_at hl 1 rfl) ?_
      refine lv_aload_n hx hb dX4_isCarried_3 rfl (lv_at hl 0 rfl) ?_
      refine h_get (v := .int (S.1 2)) cx hw 0 (wM_p0 q cI cZ S) rfl hinX4 23 (by decide) lk184 rfl dX4_isCarried_4 ?_
      refine lv_iconst (v := 1) hx hb dX4_isCarried_7 (by decide) ?_
      refine lv_isub hx hb dX4_isCarried_8 ?_
      refine lv_icmp_ge (tgt := 29) hx hb dX4_isCarried_9 (by decide) (fun c1 => ?_) (fun c1 => ?_)
      · have h := h_ifp c1 h
        refine lv_iconst (v := 1) hx hb dX4_isCarried_29 (by decide) ?_
        exact h_iret cx hw hr hlk rfl (Option.some.inj h) rfl dX4_isCarried_30
      · have h := h_ifn c1 h
        refine lv_aload_n hx hb dX4_isCarried_12 rfl (lv_at hl 0 rfl) ?_
        refine h_get (v := .ref (q 21)) cx hw 0 (wM_p0 q cI cZ S) rfl hinX4 22 (by decide) lk71 rfl dX4_isCarried_13 ?_
        refine lv_iload_n hx hb dX4_isCarried_16 rfl (lv_at hl 1 rfl) ?_
        obtain ⟨v2, e3, h⟩ := h_bd_ok h
        refine h_ald cx hw 21 (wM_p21 q cI cZ S) e3 dX4_isCarried_17 ?_
        refine lv_if_ne (tgt := 23) hx hb dX4_isCarried_18 (by decide) (fun c4 => ?_) (fun c4 => ?_)
        · have h := h_ifn c4 h
          refine lv_iinc (v := x1 + 1) (lv' := [(1, .int (x1 + 1)), (0, .ref (q 0))]) hx hb dX4_isCarried_23 hl (k := 1) rfl rfl (by decide) rfl (fun ls hl => ?_)
          refine lv_goto (tgt := 2) hx hb dX4_isCarried_26 (by decide) ?_
          exact ih2 _ h _ _ _ hw (lv_sub hl [1, 0] rfl)
        · have h := h_ifp c4 h
          refine lv_iconst (v := 0) hx hb dX4_isCarried_21 (by decide) ?_
          exact h_iret cx hw hr hlk rfl (Option.some.inj h) rfl dX4_isCarried_22
  refine lv_iconst (v := 1) hx hb dX4_isCarried_0 (by decide) ?_
  refine lv_istore_n (lv' := [(1, .int 1), (0, .ref (q 0))]) hx hb dX4_isCarried_1 rfl hl (by decide) rfl (fun ls hl => ?_)
  exact kk2 h_fu _ h _ _ _ hw (lv_sub hl [1, 0] rfl)
set_option maxHeartbeats 4000000 in
set_option maxRecDepth 100000 in
theorem c_X4_served (l : Launch) (dC : Nat → ClassId) (dI : Nat → Nat → Nat) (cI cZ : ClassId) (q : Nat → Nat) (S : HSt) (a1 a2 : Int32) (r : Int32) (S9 : HSt) (h : f_X4_served S a1 a2 = some (r, S9)) : MI l yX4_served hsX4_served rmX4_served (dC, dI) cI cZ (wM q cI cZ) S [.ref (q 0), .int a1, .int a2] r S9 := by
  refine MI.ofW (cc := cX4_served) (maxL := 7) (ret := (some .int)) (by decide +kernel) rfl (Nat.le_of_ble_eq_true rfl) ?_
  intro p e s m below meth c A cx hr hlk hw ls hl
  have hx := cx.1.1
  have hb := cx.1.2.1
  have hml := cx.1.2.2.1
  have hts := cx.1.2.2.2.2
  have hta : ∀ z ∈ hALL, z.before _ s = true := fun z h => hts z (List.mem_cons_of_mem _ h)
  have hl : lv_has ls 7 [(0, .ref (q 0)), (1, .int a1), (2, .int a2)] := hl
  unfold f_X4_served at h
  have kk26 : ∀ (n26 : Nat) (S : HSt) (x1 x2 x3 x4 : Int32), f_X4_served_26 n26 S x1 x2 x3 x4 = some (r, S9) → ∀ (H : Heap) (locs : List Loc) (ls : Array Slot), HW (dC, dI) (wM q cI cZ) S A s H locs → lv_has ls 7 [(0, .ref (q 0)), (1, .int x1), (2, .int x2), (3, .int x3), (4, .int x4)] → W p l e rmX4_served s m ([.ref (q 0), .int a1, .int a2] : List Value).toArray below meth c H locs 0 0 (MQ below (QI (dC, dI) (wM q cI cZ) r S9 A) ([.ref (q 0), .int a1, .int a2] : List Value).toArray s 0 0 A) (F0 m 26 ls []) := by
    intro n26
    induction n26 with
    | zero =>
      intro S x1 x2 x3 x4 h
      have h9 : (none : Option (Int32 × HSt)) = some (r, S9) := h
      cases h9
    | succ n26 ih26 =>
      intro S x1 x2 x3 x4 h H locs ls hw hl
      have h : f_X4_served_26_s (f_X4_served_26 n26) S x1 x2 x3 x4 = some (r, S9) := h
      unfold f_X4_served_26_s at h
      have kk48 : ∀ (S : HSt) (x1 x2 x3 x4 t0 : Int32), f_X4_served_48 (f_X4_served_26 n26) S x1 x2 x3 x4 t0 = some (r, S9) → ∀ (H : Heap) (locs : List Loc) (ls : Array Slot), HW (dC, dI) (wM q cI cZ) S A s H locs → lv_has ls 7 [(0, .ref (q 0)), (1, .int x1), (2, .int x2), (3, .int x3), (4, .int x4)] → W p l e rmX4_served s m ([.ref (q 0), .int a1, .int a2] : List Value).toArray below meth c H locs 0 0 (MQ below (QI (dC, dI) (wM q cI cZ) r S9 A) ([.ref (q 0), .int a1, .int a2] : List Value).toArray s 0 0 A) (F0 m 48 ls [.int t0]) := by
        intro S x1 x2 x3 x4 t0 h H locs ls hw hl
        unfold f_X4_served_48 at h
        have kk94 : ∀ (S : HSt) (x1 x2 x3 x4 t0 : Int32), f_X4_served_94 (f_X4_served_26 n26) S x1 x2 x3 x4 t0 = some (r, S9) → ∀ (H : Heap) (locs : List Loc) (ls : Array Slot), HW (dC, dI) (wM q cI cZ) S A s H locs → lv_has ls 7 [(0, .ref (q 0)), (1, .int x1), (2, .int x2), (3, .int x3), (4, .int x4)] → W p l e rmX4_served s m ([.ref (q 0), .int a1, .int a2] : List Value).toArray below meth c H locs 0 0 (MQ below (QI (dC, dI) (wM q cI cZ) r S9 A) ([.ref (q 0), .int a1, .int a2] : List Value).toArray s 0 0 A) (F0 m 94 ls [.int t0]) := by
          intro S x1 x2 x3 x4 t0 h H locs ls hw hl
          unfold f_X4_served_94 at h
          have kk110 : ∀ (S : HSt) (x1 x2 x4 t0 t1 : Int32), f_X4_served_110 (f_X4_served_26 n26) S x1 x2 x4 t0 t1 = some (r, S9) → ∀ (H : Heap) (locs : List Loc) (ls : Array Slot), HW (dC, dI) (wM q cI cZ) S A s H locs → lv_has ls 7 [(0, .ref (q 0)), (1, .int x1), (2, .int x2), (4, .int x4)] → W p l e rmX4_served s m ([.ref (q 0), .int a1, .int a2] : List Value).toArray below meth c H locs 0 0 (MQ below (QI (dC, dI) (wM q cI cZ) r S9 A) ([.ref (q 0), .int a1, .int a2] : List Value).toArray s 0 0 A) (F0 m 110 ls [.int t0, .int t1]) := by
            intro S x1 x2 x4 t0 t1 h H locs ls hw hl
            unfold f_X4_served_110 at h
            refine lv_ior hx hb dX4_served_110 ?_
            refine lv_istore_n (lv' := [(3, .int (t1 ||| t0)), (0, .ref (q 0)), (1, .int x1), (2, .int x2), (4, .int x4)]) hx hb dX4_served_111 rfl hl (by decide) rfl (fun ls hl => ?_)
            refine lv_iinc (v := x4 + 1) (lv' := [(4, .int (x4 + 1)), (3, .int (t1 ||| t0)), (0, .ref (q 0)), (1, .int x1), (2, .int x2)]) hx hb dX4_served_112 hl (k := 4) rfl rfl (by decide) rfl (fun ls hl => ?_)
            refine lv_goto (tgt := 26) hx hb dX4_served_115 (by decide) ?_
            exact ih26 _ _ _ _ _ h _ _ _ hw (lv_sub hl [2, 3, 4, 1, 0] rfl)
          refine lv_istore (lv' := [(6, .int t0), (0, .ref (q 0)), (1, .int x1), (2, .int x2), (3, .int x3), (4, .int x4)]) hx hb dX4_served_94 hl (by decide) rfl (fun ls hl => ?_)
          refine lv_iload_n hx hb dX4_served_96 rfl (lv_at hl 4 rfl) ?_
          refine lv_iload hx hb dX4_served_97 (lv_at hl 0 rfl) ?_
          refine lv_if_eq (tgt := 109) hx hb dX4_served_99 (by decide) (fun c1 => ?_) (fun c1 => ?_)
          · have h := h_ifp c1 h
            refine lv_iconst (v := 0) hx hb dX4_served_109 (by decide) ?_
            exact kk110 _ _ _ _ _ _ h _ _ _ hw (lv_sub hl [1, 2, 3, 5] rfl)
          · have h := h_ifn c1 h
            refine lv_iconst (v := 1) hx hb dX4_served_102 (by decide) ?_
            refine lv_iload hx hb dX4_served_103 (lv_at hl 5 rfl) ?_
            refine lv_ishl hx hb dX4_served_105 ?_
            refine lv_goto (tgt := 110) hx hb dX4_served_106 (by decide) ?_
            exact kk110 _ _ _ _ _ _ h _ _ _ hw (lv_sub hl [1, 2, 3, 5] rfl)
        have kk93 : ∀ (S : HSt) (x1 x2 x3 x4 : Int32), f_X4_served_93 (f_X4_served_26 n26) S x1 x2 x3 x4 = some (r, S9) → ∀ (H : Heap) (locs : List Loc) (ls : Array Slot), HW (dC, dI) (wM q cI cZ) S A s H locs → lv_has ls 7 [(0, .ref (q 0)), (1, .int x1), (2, .int x2), (3, .int x3), (4, .int x4)] → W p l e rmX4_served s m ([.ref (q 0), .int a1, .int a2] : List Value).toArray below meth c H locs 0 0 (MQ below (QI (dC, dI) (wM q cI cZ) r S9 A) ([.ref (q 0), .int a1, .int a2] : List Value).toArray s 0 0 A) (F0 m 93 ls []) := by
          intro S x1 x2 x3 x4 h H locs ls hw hl
          unfold f_X4_served_93 at h
          refine lv_iconst (v := 0) hx hb dX4_served_93 (by decide) ?_
          exact kk94 _ _ _ _ _ _ h _ _ _ hw (lv_sub hl [0, 1, 2, 3, 4] rfl)
        refine lv_istore (lv' := [(5, .int t0), (0, .ref (q 0)), (1, .int x1), (2, .int x2), (3, .int x3), (4, .int x4)]) hx hb dX4_served_48 hl (by decide) rfl (fun ls hl => ?_)
        refine lv_iload_n hx hb dX4_served_50 rfl (lv_at hl 3 rfl) ?_
        refine lv_if_ne (tgt := 59) hx hb dX4_served_51 (by decide) (fun c1 => ?_) (fun c1 => ?_)
        · have h := h_ifn c1 h
          refine lv_iload_n hx hb dX4_served_59 rfl (lv_at hl 3 rfl) ?_
          refine lv_iconst (v := 1) hx hb dX4_served_60 (by decide) ?_
          refine lv_icmp_ne (tgt := 77) hx hb dX4_served_61 (by decide) (fun c2 => ?_) (fun c2 => ?_)
          · have h := h_ifn c2 h
            refine lv_iload hx hb dX4_served_77 (lv_at hl 0 rfl) ?_
            refine lv_if_eq (tgt := 93) hx hb dX4_served_79 (by decide) (fun c3 => ?_) (fun c3 => ?_)
            · have h := h_ifp c3 h
              exact kk93 _ _ _ _ _ h _ _ _ hw (lv_sub hl [1, 2, 3, 4, 5] rfl)
            · have h := h_ifn c3 h
              refine lv_aload_n hx hb dX4_served_82 rfl (lv_at hl 1 rfl) ?_
              obtain ⟨r4, e5, h⟩ := h_bd_ok h
              refine h_callI cx hw (c_X4_isCarried l dC dI cI cZ q S r4 e5) (cwV 0 hts (hgA (hcV wdL_X4_193 wdI_X4_isCarried wdS_X4_isCarried wdN_RX4 wdC_X4_isCarried)) rfl rfl rfl pdX4_isCarried ⟨Nat.le_of_ble_eq_true rfl, Nat.le_of_ble_eq_true rfl⟩) 0 (wM_p0 q cI cZ S) rfl rfl rfl hl.1 rfl (Nat.le_of_ble_eq_true rfl) dX4_served_83 ⟨Nat.zero_le _, Nat.zero_le _⟩ (fun H locs hw => ?_)
              refine lv_if_eq (tgt := 93) hx hb dX4_served_86 (by decide) (fun c6 => ?_) (fun c6 => ?_)
              · have h := h_ifp c6 h
                exact kk93 _ _ _ _ _ h _ _ _ hw (lv_sub hl [1, 2, 3, 4, 5] rfl)
              · have h := h_ifn c6 h
                refine lv_iconst (v := 1) hx hb dX4_served_89 (by decide) ?_
                refine lv_goto (tgt := 94) hx hb dX4_served_90 (by decide) ?_
                exact kk94 _ _ _ _ _ _ h _ _ _ hw (lv_sub hl [1, 2, 3, 4, 5] rfl)
          · have h := h_ifp c2 h
            refine lv_iload hx hb dX4_served_64 (lv_at hl 0 rfl) ?_
            refine lv_if_ne (tgt := 73) hx hb dX4_served_66 (by decide) (fun c7 => ?_) (fun c7 => ?_)
            · have h := h_ifn c7 h
              refine lv_iconst (v := 0) hx hb dX4_served_73 (by decide) ?_
              refine lv_goto (tgt := 94) hx hb dX4_served_74 (by decide) ?_
              exact kk94 _ _ _ _ _ _ h _ _ _ hw (lv_sub hl [1, 2, 3, 4, 5] rfl)
            · have h := h_ifp c7 h
              refine lv_iconst (v := 1) hx hb dX4_served_69 (by decide) ?_
              refine lv_goto (tgt := 94) hx hb dX4_served_70 (by decide) ?_
              exact kk94 _ _ _ _ _ _ h _ _ _ hw (lv_sub hl [1, 2, 3, 4, 5] rfl)
        · have h := h_ifp c1 h
          refine lv_iload hx hb dX4_served_54 (lv_at hl 0 rfl) ?_
          refine lv_goto (tgt := 94) hx hb dX4_served_56 (by decide) ?_
          exact kk94 _ _ _ _ _ _ h _ _ _ hw (lv_sub hl [1, 2, 3, 4, 5] rfl)
      refine lv_iload hx hb dX4_served_26 (lv_at hl 4 rfl) ?_
      refine lv_bipush (v := 7) hx hb dX4_served_28 (by decide) ?_
      refine lv_icmp_ge (tgt := 118) hx hb dX4_served_30 (by decide) (fun c1 => ?_) (fun c1 => ?_)
      · have h := h_ifp c1 h
        refine lv_iload_n hx hb dX4_served_118 rfl (lv_at hl 3 rfl) ?_
        exact h_iret cx hw hr hlk rfl (congrArg Prod.fst (Option.some.inj h)) (congrArg Prod.snd (Option.some.inj h)) dX4_served_119
      · have h := h_ifn c1 h
        refine lv_aload_n hx hb dX4_served_33 rfl (lv_at hl 0 rfl) ?_
        refine lv_iload hx hb dX4_served_34 (lv_at hl 4 rfl) ?_
        refine lv_iload_n hx hb dX4_served_36 rfl (lv_at hl 1 rfl) ?_
        obtain ⟨r2, S4, e3, h⟩ := h_bi_ok h
        refine h_callI cx hw (c_X4_goes l dC dI cI cZ q S x4 x1 r2 S4 e3) (cwV 2 hts (hgA (hcV wdL_X4_187 wdI_X4_goes wdS_X4_goes wdN_RX4 wdC_X4_goes)) rfl rfl rfl pdX4_goes ⟨Nat.le_of_ble_eq_true rfl, Nat.le_of_ble_eq_true rfl⟩) 0 (wM_p0 q cI cZ S) rfl rfl rfl hl.1 rfl (Nat.le_of_ble_eq_true rfl) dX4_served_37 ⟨Nat.zero_le _, Nat.zero_le _⟩ (fun H locs hw => ?_)
        refine lv_if_ne (tgt := 47) hx hb dX4_served_40 (by decide) (fun c5 => ?_) (fun c5 => ?_)
        · have h := h_ifn c5 h
          refine lv_iconst (v := 0) hx hb dX4_served_47 (by decide) ?_
          exact kk48 _ _ _ _ _ _ h _ _ _ hw (lv_sub hl [0, 1, 2, 3, 4] rfl)
        · have h := h_ifp c5 h
          refine lv_iconst (v := 1) hx hb dX4_served_43 (by decide) ?_
          refine lv_goto (tgt := 48) hx hb dX4_served_44 (by decide) ?_
          exact kk48 _ _ _ _ _ _ h _ _ _ hw (lv_sub hl [0, 1, 2, 3, 4] rfl)
  refine lv_iload_n hx hb dX4_served_0 rfl (lv_at hl 1 rfl) ?_
  obtain ⟨r1, e2, h⟩ := h_bd_ok h
  refine h_callS cx.1 (c_X4_isClass l a1 r1 e2) (va_cwS 1 hts (hgA (hcS wdL_X4_99 wdT_X4_isClass wdN_RX4 wdC_X4_isClass)) rfl rfl rfl pdX4_isClass.2 ⟨Nat.le_of_ble_eq_true rfl, Nat.le_of_ble_eq_true rfl⟩) rfl hl.1 rfl (Nat.le_of_ble_eq_true rfl) dX4_served_1 ⟨Nat.zero_le _, Nat.zero_le _⟩ ?_
  refine lv_if_ne (tgt := 9) hx hb dX4_served_4 (by decide) (fun c3 => ?_) (fun c3 => ?_)
  · have h := h_ifn c3 h
    refine lv_iload_n hx hb dX4_served_9 rfl (lv_at hl 2 rfl) ?_
    refine lv_iconst (v := 0) hx hb dX4_served_10 (by decide) ?_
    refine lv_iconst (v := 2) hx hb dX4_served_11 (by decide) ?_
    obtain ⟨r4, e5, h⟩ := h_bd_ok h
    refine h_callS cx.1 (c_X4_within l a2 0 2 r4 e5) (va_cwS 3 hts (hgA (hcS wdL_X4_80 wdT_X4_within wdN_RX4 wdC_X4_within)) rfl rfl rfl pdX4_within.2 ⟨Nat.le_of_ble_eq_true rfl, Nat.le_of_ble_eq_true rfl⟩) rfl hl.1 rfl (Nat.le_of_ble_eq_true rfl) dX4_served_12 ⟨Nat.zero_le _, Nat.zero_le _⟩ ?_
    refine lv_if_ne (tgt := 21) hx hb dX4_served_15 (by decide) (fun c6 => ?_) (fun c6 => ?_)
    · have h := h_ifn c6 h
      refine lv_iconst (v := 0) hx hb dX4_served_21 (by decide) ?_
      refine lv_istore_n (lv' := [(3, .int 0), (0, .ref (q 0)), (1, .int a1), (2, .int a2)]) hx hb dX4_served_22 rfl hl (by decide) rfl (fun ls hl => ?_)
      refine lv_iconst (v := 0) hx hb dX4_served_23 (by decide) ?_
      refine lv_istore (lv' := [(4, .int 0), (3, .int 0), (0, .ref (q 0)), (1, .int a1), (2, .int a2)]) hx hb dX4_served_24 hl (by decide) rfl (fun ls hl => ?_)
      exact kk26 h_fu _ _ _ _ _ h _ _ _ hw (lv_sub hl [2, 3, 4, 1, 0] rfl)
    · have h := h_ifp c6 h
      refine lv_bipush (v := (-2)) hx hb dX4_served_18 (by decide) ?_
      exact h_iret cx hw hr hlk rfl (congrArg Prod.fst (Option.some.inj h)) (congrArg Prod.snd (Option.some.inj h)) dX4_served_20
  · have h := h_ifp c3 h
    refine lv_iconst (v := (-1)) hx hb dX4_served_7 (by decide) ?_
    exact h_iret cx hw hr hlk rfl (congrArg Prod.fst (Option.some.inj h)) (congrArg Prod.snd (Option.some.inj h)) dX4_served_8
set_option maxHeartbeats 4000000 in
set_option maxRecDepth 100000 in
theorem c_X4_merged (l : Launch) (dC : Nat → ClassId) (dI : Nat → Nat → Nat) (cI cZ : ClassId) (q : Nat → Nat) (S : HSt) (a1 a2 : Int32) (r : Int32) (S9 : HSt) (h : f_X4_merged S a1 a2 = some (r, S9)) : MI l yX4_merged hsX4_merged rmX4_merged (dC, dI) cI cZ (wM q cI cZ) S [.ref (q 0), .int a1, .int a2] r S9 := by
  refine MI.ofW (cc := cX4_merged) (maxL := 5) (ret := (some .int)) (by decide +kernel) rfl (Nat.le_of_ble_eq_true rfl) ?_
  intro p e s m below meth c A cx hr hlk hw ls hl
  have hx := cx.1.1
  have hb := cx.1.2.1
  have hml := cx.1.2.2.1
  have hts := cx.1.2.2.2.2
  have hta : ∀ z ∈ hALL, z.before _ s = true := fun z h => hts z (List.mem_cons_of_mem _ h)
  have hl : lv_has ls 5 [(0, .ref (q 0)), (1, .int a1), (2, .int a2)] := hl
  unfold f_X4_merged at h
  have kk21 : ∀ (n21 : Nat) (S : HSt) (x1 x2 x3 x4 : Int32), f_X4_merged_21 n21 S x1 x2 x3 x4 = some (r, S9) → ∀ (H : Heap) (locs : List Loc) (ls : Array Slot), HW (dC, dI) (wM q cI cZ) S A s H locs → lv_has ls 5 [(0, .ref (q 0)), (1, .int x1), (2, .int x2), (3, .int x3), (4, .int x4)] → W p l e rmX4_merged s m ([.ref (q 0), .int a1, .int a2] : List Value).toArray below meth c H locs 0 0 (MQ below (QI (dC, dI) (wM q cI cZ) r S9 A) ([.ref (q 0), .int a1, .int a2] : List Value).toArray s 0 0 A) (F0 m 21 ls []) := by
    intro n21
    induction n21 with
    | zero =>
      intro S x1 x2 x3 x4 h
      have h9 : (none : Option (Int32 × HSt)) = some (r, S9) := h
      cases h9
    | succ n21 ih21 =>
      intro S x1 x2 x3 x4 h H locs ls hw hl
      have h : f_X4_merged_21_s (f_X4_merged_21 n21) S x1 x2 x3 x4 = some (r, S9) := h
      unfold f_X4_merged_21_s at h
      have kk58 : ∀ (S : HSt) (x1 x2 x4 t0 t1 : Int32), f_X4_merged_58 (f_X4_merged_21 n21) S x1 x2 x4 t0 t1 = some (r, S9) → ∀ (H : Heap) (locs : List Loc) (ls : Array Slot), HW (dC, dI) (wM q cI cZ) S A s H locs → lv_has ls 5 [(0, .ref (q 0)), (1, .int x1), (2, .int x2), (4, .int x4)] → W p l e rmX4_merged s m ([.ref (q 0), .int a1, .int a2] : List Value).toArray below meth c H locs 0 0 (MQ below (QI (dC, dI) (wM q cI cZ) r S9 A) ([.ref (q 0), .int a1, .int a2] : List Value).toArray s 0 0 A) (F0 m 58 ls [.int t0, .int t1]) := by
        intro S x1 x2 x4 t0 t1 h H locs ls hw hl
        unfold f_X4_merged_58 at h
        refine lv_ior hx hb dX4_merged_58 ?_
        refine lv_istore_n (lv' := [(3, .int (t1 ||| t0)), (0, .ref (q 0)), (1, .int x1), (2, .int x2), (4, .int x4)]) hx hb dX4_merged_59 rfl hl (by decide) rfl (fun ls hl => ?_)
        refine lv_iinc (v := x4 + 1) (lv' := [(4, .int (x4 + 1)), (3, .int (t1 ||| t0)), (0, .ref (q 0)), (1, .int x1), (2, .int x2)]) hx hb dX4_merged_60 hl (k := 4) rfl rfl (by decide) rfl (fun ls hl => ?_)
        refine lv_goto (tgt := 21) hx hb dX4_merged_63 (by decide) ?_
        exact ih21 _ _ _ _ _ h _ _ _ hw (lv_sub hl [2, 3, 4, 1, 0] rfl)
      have kk57 : ∀ (S : HSt) (x1 x2 x4 t0 : Int32), f_X4_merged_57 (f_X4_merged_21 n21) S x1 x2 x4 t0 = some (r, S9) → ∀ (H : Heap) (locs : List Loc) (ls : Array Slot), HW (dC, dI) (wM q cI cZ) S A s H locs → lv_has ls 5 [(0, .ref (q 0)), (1, .int x1), (2, .int x2), (4, .int x4)] → W p l e rmX4_merged s m ([.ref (q 0), .int a1, .int a2] : List Value).toArray below meth c H locs 0 0 (MQ below (QI (dC, dI) (wM q cI cZ) r S9 A) ([.ref (q 0), .int a1, .int a2] : List Value).toArray s 0 0 A) (F0 m 57 ls [.int t0]) := by
        intro S x1 x2 x4 t0 h H locs ls hw hl
        unfold f_X4_merged_57 at h
        refine lv_iconst (v := 0) hx hb dX4_merged_57 (by decide) ?_
        exact kk58 _ _ _ _ _ _ h _ _ _ hw (lv_sub hl [0, 1, 2, 3] rfl)
      refine lv_iload hx hb dX4_merged_21 (lv_at hl 4 rfl) ?_
      refine lv_bipush (v := 7) hx hb dX4_merged_23 (by decide) ?_
      refine lv_icmp_ge (tgt := 66) hx hb dX4_merged_25 (by decide) (fun c1 => ?_) (fun c1 => ?_)
      · have h := h_ifp c1 h
        refine lv_iload_n hx hb dX4_merged_66 rfl (lv_at hl 3 rfl) ?_
        exact h_iret cx hw hr hlk rfl (congrArg Prod.fst (Option.some.inj h)) (congrArg Prod.snd (Option.some.inj h)) dX4_merged_67
      · have h := h_ifn c1 h
        refine lv_iload_n hx hb dX4_merged_28 rfl (lv_at hl 3 rfl) ?_
        refine lv_aload_n hx hb dX4_merged_29 rfl (lv_at hl 0 rfl) ?_
        refine lv_iload hx hb dX4_merged_30 (lv_at hl 4 rfl) ?_
        refine lv_iload_n hx hb dX4_merged_32 rfl (lv_at hl 2 rfl) ?_
        obtain ⟨r2, S4, e3, h⟩ := h_bi_ok h
        refine h_callI cx hw (c_X4_nextOf l dC dI cI cZ q S x4 x2 r2 S4 e3) (cwV 2 hts (hgA (hcV wdL_X4_106 wdI_X4_nextOf wdS_X4_nextOf wdN_RX4 wdC_X4_nextOf)) rfl rfl rfl pdX4_nextOf ⟨Nat.le_of_ble_eq_true rfl, Nat.le_of_ble_eq_true rfl⟩) 0 (wM_p0 q cI cZ S) rfl rfl rfl hl.1 rfl (Nat.le_of_ble_eq_true rfl) dX4_merged_33 ⟨Nat.zero_le _, Nat.zero_le _⟩ (fun H locs hw => ?_)
        refine lv_iload_n hx hb dX4_merged_36 rfl (lv_at hl 1 rfl) ?_
        refine lv_icmp_ne (tgt := 57) hx hb dX4_merged_37 (by decide) (fun c5 => ?_) (fun c5 => ?_)
        · have h := h_ifn c5 h
          exact kk57 _ _ _ _ _ h _ _ _ hw (lv_sub hl [0, 1, 2, 4] rfl)
        · have h := h_ifp c5 h
          refine lv_aload_n hx hb dX4_merged_40 rfl (lv_at hl 0 rfl) ?_
          refine lv_iload hx hb dX4_merged_41 (lv_at hl 4 rfl) ?_
          refine lv_iload_n hx hb dX4_merged_43 rfl (lv_at hl 2 rfl) ?_
          obtain ⟨r6, S8, e7, h⟩ := h_bi_ok h
          refine h_callI cx hw (c_X4_usedLabel l dC dI cI cZ q S4 x4 x2 r6 S8 e7) (cwV 2 hts (hgA (hcV wdL_X4_174 wdI_X4_usedLabel wdS_X4_usedLabel wdN_RX4 wdC_X4_usedLabel)) rfl rfl rfl pdX4_usedLabel ⟨Nat.le_of_ble_eq_true rfl, Nat.le_of_ble_eq_true rfl⟩) 0 (wM_p0 q cI cZ S4) rfl rfl rfl hl.1 rfl (Nat.le_of_ble_eq_true rfl) dX4_merged_44 ⟨Nat.zero_le _, Nat.zero_le _⟩ (fun H locs hw => ?_)
          refine lv_if_le (tgt := 57) hx hb dX4_merged_47 (by decide) (fun c9 => ?_) (fun c9 => ?_)
          · have h := h_ifp c9 h
            exact kk57 _ _ _ _ _ h _ _ _ hw (lv_sub hl [0, 1, 2, 4] rfl)
          · have h := h_ifn c9 h
            refine lv_iconst (v := 1) hx hb dX4_merged_50 (by decide) ?_
            refine lv_iload hx hb dX4_merged_51 (lv_at hl 4 rfl) ?_
            refine lv_ishl hx hb dX4_merged_53 ?_
            refine lv_goto (tgt := 58) hx hb dX4_merged_54 (by decide) ?_
            exact kk58 _ _ _ _ _ _ h _ _ _ hw (lv_sub hl [0, 1, 2, 4] rfl)
  refine lv_iload_n hx hb dX4_merged_0 rfl (lv_at hl 1 rfl) ?_
  obtain ⟨r1, e2, h⟩ := h_bd_ok h
  refine h_callS cx.1 (c_X4_isBox l a1 r1 e2) (va_cwS 1 hts (hgA (hcS wdL_X4_88 wdT_X4_isBox wdN_RX4 wdC_X4_isBox)) rfl rfl rfl pdX4_isBox.2 ⟨Nat.le_of_ble_eq_true rfl, Nat.le_of_ble_eq_true rfl⟩) rfl hl.1 rfl (Nat.le_of_ble_eq_true rfl) dX4_merged_1 ⟨Nat.zero_le _, Nat.zero_le _⟩ ?_
  refine lv_if_eq (tgt := 14) hx hb dX4_merged_4 (by decide) (fun c3 => ?_) (fun c3 => ?_)
  · have h := h_ifp c3 h
    refine lv_iconst (v := (-1)) hx hb dX4_merged_14 (by decide) ?_
    exact h_iret cx hw hr hlk rfl (congrArg Prod.fst (Option.some.inj h)) (congrArg Prod.snd (Option.some.inj h)) dX4_merged_15
  · have h := h_ifn c3 h
    refine lv_iload_n hx hb dX4_merged_7 rfl (lv_at hl 2 rfl) ?_
    obtain ⟨r4, e5, h⟩ := h_bd_ok h
    refine h_callS cx.1 (c_X4_isClass l a2 r4 e5) (va_cwS 1 hts (hgA (hcS wdL_X4_99 wdT_X4_isClass wdN_RX4 wdC_X4_isClass)) rfl rfl rfl pdX4_isClass.2 ⟨Nat.le_of_ble_eq_true rfl, Nat.le_of_ble_eq_true rfl⟩) rfl hl.1 rfl (Nat.le_of_ble_eq_true rfl) dX4_merged_8 ⟨Nat.zero_le _, Nat.zero_le _⟩ ?_
    refine lv_if_ne (tgt := 16) hx hb dX4_merged_11 (by decide) (fun c6 => ?_) (fun c6 => ?_)
    · have h := h_ifn c6 h
      refine lv_iconst (v := 0) hx hb dX4_merged_16 (by decide) ?_
      refine lv_istore_n (lv' := [(3, .int 0), (0, .ref (q 0)), (1, .int a1), (2, .int a2)]) hx hb dX4_merged_17 rfl hl (by decide) rfl (fun ls hl => ?_)
      refine lv_iconst (v := 0) hx hb dX4_merged_18 (by decide) ?_
      refine lv_istore (lv' := [(4, .int 0), (3, .int 0), (0, .ref (q 0)), (1, .int a1), (2, .int a2)]) hx hb dX4_merged_19 hl (by decide) rfl (fun ls hl => ?_)
      exact kk21 h_fu _ _ _ _ _ h _ _ _ hw (lv_sub hl [2, 3, 4, 1, 0] rfl)
    · have h := h_ifp c6 h
      refine lv_iconst (v := (-1)) hx hb dX4_merged_14 (by decide) ?_
      exact h_iret cx hw hr hlk rfl (congrArg Prod.fst (Option.some.inj h)) (congrArg Prod.snd (Option.some.inj h)) dX4_merged_15
set_option maxHeartbeats 4000000 in
set_option maxRecDepth 100000 in
theorem c_X4_manyInL (l : Launch) (dC : Nat → ClassId) (dI : Nat → Nat → Nat) (cI cZ : ClassId) (q : Nat → Nat) (S : HSt) (r : Int32) (h : f_X4_manyInL S = some r) : MI l yX4_manyIn hsX4_manyIn rmX4_manyIn (dC, dI) cI cZ (wM q cI cZ) S [.ref (q 9)] r S := by
  refine MI.ofW (cc := cX4_manyIn) (maxL := 3) (ret := (some .int)) (by decide +kernel) rfl (Nat.le_of_ble_eq_true rfl) ?_
  intro p e s m below meth c A cx hr hlk hw ls hl
  have hx := cx.1.1
  have hb := cx.1.2.1
  have hml := cx.1.2.2.1
  have hts := cx.1.2.2.2.2
  have hta : ∀ z ∈ hALL, z.before _ s = true := fun z h => hts z (List.mem_cons_of_mem _ h)
  have hl : lv_has ls 3 [(0, .ref (q 9))] := hl
  unfold f_X4_manyInL at h
  have kk4 : ∀ (n4 : Nat) (x1 x2 : Int32), f_X4_manyInL_4 S n4 x1 x2 = some r → ∀ (H : Heap) (locs : List Loc) (ls : Array Slot), HW (dC, dI) (wM q cI cZ) S A s H locs → lv_has ls 3 [(0, .ref (q 9)), (1, .int x1), (2, .int x2)] → W p l e rmX4_manyIn s m ([.ref (q 9)] : List Value).toArray below meth c H locs 0 0 (MQ below (QI (dC, dI) (wM q cI cZ) r S A) ([.ref (q 9)] : List Value).toArray s 0 0 A) (F0 m 4 ls []) := by
    intro n4
    induction n4 with
    | zero =>
      intro x1 x2 h
      have h9 : (none : Option Int32) = some r := h
      cases h9
    | succ n4 ih4 =>
      intro x1 x2 h H locs ls hw hl
      have h : f_X4_manyInL_4_s S (f_X4_manyInL_4 S n4) x1 x2 = some r := h
      unfold f_X4_manyInL_4_s at h
      have kk23 : ∀ (x2 t0 t1 : Int32), f_X4_manyInL_23 S (f_X4_manyInL_4 S n4) x2 t0 t1 = some r → ∀ (H : Heap) (locs : List Loc) (ls : Array Slot), HW (dC, dI) (wM q cI cZ) S A s H locs → lv_has ls 3 [(0, .ref (q 9)), (2, .int x2)] → W p l e rmX4_manyIn s m ([.ref (q 9)] : List Value).toArray below meth c H locs 0 0 (MQ below (QI (dC, dI) (wM q cI cZ) r S A) ([.ref (q 9)] : List Value).toArray s 0 0 A) (F0 m 23 ls [.int t0, .int t1]) := by
        intro x2 t0 t1 h H locs ls hw hl
        unfold f_X4_manyInL_23 at h
        refine lv_iadd hx hb dX4_manyIn_23 ?_
        refine lv_istore_n (lv' := [(1, .int (t1 + t0)), (0, .ref (q 9)), (2, .int x2)]) hx hb dX4_manyIn_24 rfl hl (by decide) rfl (fun ls hl => ?_)
        refine lv_iinc (v := x2 + 1) (lv' := [(2, .int (x2 + 1)), (1, .int (t1 + t0)), (0, .ref (q 9))]) hx hb dX4_manyIn_25 hl (k := 2) rfl rfl (by decide) rfl (fun ls hl => ?_)
        refine lv_goto (tgt := 4) hx hb dX4_manyIn_28 (by decide) ?_
        exact ih4 _ _ h _ _ _ hw (lv_sub hl [2, 1, 0] rfl)
      refine lv_iload_n hx hb dX4_manyIn_4 rfl (lv_at hl 2 rfl) ?_
      refine lv_sipush (v := 336) hx hb dX4_manyIn_5 (by decide) ?_
      refine lv_icmp_ge (tgt := 31) hx hb dX4_manyIn_8 (by decide) (fun c1 => ?_) (fun c1 => ?_)
      · have h := h_ifp c1 h
        refine lv_iload_n hx hb dX4_manyIn_31 rfl (lv_at hl 1 rfl) ?_
        exact h_iret cx hw hr hlk rfl (Option.some.inj h) rfl dX4_manyIn_32
      · have h := h_ifn c1 h
        refine lv_iload_n hx hb dX4_manyIn_11 rfl (lv_at hl 1 rfl) ?_
        refine lv_aload_n hx hb dX4_manyIn_12 rfl (lv_at hl 0 rfl) ?_
        refine lv_iload_n hx hb dX4_manyIn_13 rfl (lv_at hl 2 rfl) ?_
        obtain ⟨v2, e3, h⟩ := h_bd_ok h
        refine h_ald cx hw 9 (wM_p9 q cI cZ S) e3 dX4_manyIn_14 ?_
        refine lv_if_le (tgt := 22) hx hb dX4_manyIn_15 (by decide) (fun c4 => ?_) (fun c4 => ?_)
        · have h := h_ifp c4 h
          refine lv_iconst (v := 0) hx hb dX4_manyIn_22 (by decide) ?_
          exact kk23 _ _ _ h _ _ _ hw (lv_sub hl [0, 2] rfl)
        · have h := h_ifn c4 h
          refine lv_iconst (v := 1) hx hb dX4_manyIn_18 (by decide) ?_
          refine lv_goto (tgt := 23) hx hb dX4_manyIn_19 (by decide) ?_
          exact kk23 _ _ _ h _ _ _ hw (lv_sub hl [0, 2] rfl)
  refine lv_iconst (v := 0) hx hb dX4_manyIn_0 (by decide) ?_
  refine lv_istore_n (lv' := [(1, .int 0), (0, .ref (q 9))]) hx hb dX4_manyIn_1 rfl hl (by decide) rfl (fun ls hl => ?_)
  refine lv_iconst (v := 0) hx hb dX4_manyIn_2 (by decide) ?_
  refine lv_istore_n (lv' := [(2, .int 0), (1, .int 0), (0, .ref (q 9))]) hx hb dX4_manyIn_3 rfl hl (by decide) rfl (fun ls hl => ?_)
  exact kk4 h_fu _ _ h _ _ _ hw (lv_sub hl [2, 1, 0] rfl)
set_option maxHeartbeats 4000000 in
set_option maxRecDepth 100000 in
theorem c_X4_manyInK (l : Launch) (dC : Nat → ClassId) (dI : Nat → Nat → Nat) (cI cZ : ClassId) (q : Nat → Nat) (S : HSt) (r : Int32) (h : f_X4_manyInK S = some r) : MI l yX4_manyIn hsX4_manyIn rmX4_manyIn (dC, dI) cI cZ (wM q cI cZ) S [.ref (q 11)] r S := by
  refine MI.ofW (cc := cX4_manyIn) (maxL := 3) (ret := (some .int)) (by decide +kernel) rfl (Nat.le_of_ble_eq_true rfl) ?_
  intro p e s m below meth c A cx hr hlk hw ls hl
  have hx := cx.1.1
  have hb := cx.1.2.1
  have hml := cx.1.2.2.1
  have hts := cx.1.2.2.2.2
  have hta : ∀ z ∈ hALL, z.before _ s = true := fun z h => hts z (List.mem_cons_of_mem _ h)
  have hl : lv_has ls 3 [(0, .ref (q 11))] := hl
  unfold f_X4_manyInK at h
  have kk4 : ∀ (n4 : Nat) (x1 x2 : Int32), f_X4_manyInK_4 S n4 x1 x2 = some r → ∀ (H : Heap) (locs : List Loc) (ls : Array Slot), HW (dC, dI) (wM q cI cZ) S A s H locs → lv_has ls 3 [(0, .ref (q 11)), (1, .int x1), (2, .int x2)] → W p l e rmX4_manyIn s m ([.ref (q 11)] : List Value).toArray below meth c H locs 0 0 (MQ below (QI (dC, dI) (wM q cI cZ) r S A) ([.ref (q 11)] : List Value).toArray s 0 0 A) (F0 m 4 ls []) := by
    intro n4
    induction n4 with
    | zero =>
      intro x1 x2 h
      have h9 : (none : Option Int32) = some r := h
      cases h9
    | succ n4 ih4 =>
      intro x1 x2 h H locs ls hw hl
      have h : f_X4_manyInK_4_s S (f_X4_manyInK_4 S n4) x1 x2 = some r := h
      unfold f_X4_manyInK_4_s at h
      have kk23 : ∀ (x2 t0 t1 : Int32), f_X4_manyInK_23 S (f_X4_manyInK_4 S n4) x2 t0 t1 = some r → ∀ (H : Heap) (locs : List Loc) (ls : Array Slot), HW (dC, dI) (wM q cI cZ) S A s H locs → lv_has ls 3 [(0, .ref (q 11)), (2, .int x2)] → W p l e rmX4_manyIn s m ([.ref (q 11)] : List Value).toArray below meth c H locs 0 0 (MQ below (QI (dC, dI) (wM q cI cZ) r S A) ([.ref (q 11)] : List Value).toArray s 0 0 A) (F0 m 23 ls [.int t0, .int t1]) := by
        intro x2 t0 t1 h H locs ls hw hl
        unfold f_X4_manyInK_23 at h
        refine lv_iadd hx hb dX4_manyIn_23 ?_
        refine lv_istore_n (lv' := [(1, .int (t1 + t0)), (0, .ref (q 11)), (2, .int x2)]) hx hb dX4_manyIn_24 rfl hl (by decide) rfl (fun ls hl => ?_)
        refine lv_iinc (v := x2 + 1) (lv' := [(2, .int (x2 + 1)), (1, .int (t1 + t0)), (0, .ref (q 11))]) hx hb dX4_manyIn_25 hl (k := 2) rfl rfl (by decide) rfl (fun ls hl => ?_)
        refine lv_goto (tgt := 4) hx hb dX4_manyIn_28 (by decide) ?_
        exact ih4 _ _ h _ _ _ hw (lv_sub hl [2, 1, 0] rfl)
      refine lv_iload_n hx hb dX4_manyIn_4 rfl (lv_at hl 2 rfl) ?_
      refine lv_sipush (v := 336) hx hb dX4_manyIn_5 (by decide) ?_
      refine lv_icmp_ge (tgt := 31) hx hb dX4_manyIn_8 (by decide) (fun c1 => ?_) (fun c1 => ?_)
      · have h := h_ifp c1 h
        refine lv_iload_n hx hb dX4_manyIn_31 rfl (lv_at hl 1 rfl) ?_
        exact h_iret cx hw hr hlk rfl (Option.some.inj h) rfl dX4_manyIn_32
      · have h := h_ifn c1 h
        refine lv_iload_n hx hb dX4_manyIn_11 rfl (lv_at hl 1 rfl) ?_
        refine lv_aload_n hx hb dX4_manyIn_12 rfl (lv_at hl 0 rfl) ?_
        refine lv_iload_n hx hb dX4_manyIn_13 rfl (lv_at hl 2 rfl) ?_
        obtain ⟨v2, e3, h⟩ := h_bd_ok h
        refine h_ald cx hw 11 (wM_p11 q cI cZ S) e3 dX4_manyIn_14 ?_
        refine lv_if_le (tgt := 22) hx hb dX4_manyIn_15 (by decide) (fun c4 => ?_) (fun c4 => ?_)
        · have h := h_ifp c4 h
          refine lv_iconst (v := 0) hx hb dX4_manyIn_22 (by decide) ?_
          exact kk23 _ _ _ h _ _ _ hw (lv_sub hl [0, 2] rfl)
        · have h := h_ifn c4 h
          refine lv_iconst (v := 1) hx hb dX4_manyIn_18 (by decide) ?_
          refine lv_goto (tgt := 23) hx hb dX4_manyIn_19 (by decide) ?_
          exact kk23 _ _ _ h _ _ _ hw (lv_sub hl [0, 2] rfl)
  refine lv_iconst (v := 0) hx hb dX4_manyIn_0 (by decide) ?_
  refine lv_istore_n (lv' := [(1, .int 0), (0, .ref (q 11))]) hx hb dX4_manyIn_1 rfl hl (by decide) rfl (fun ls hl => ?_)
  refine lv_iconst (v := 0) hx hb dX4_manyIn_2 (by decide) ?_
  refine lv_istore_n (lv' := [(2, .int 0), (1, .int 0), (0, .ref (q 11))]) hx hb dX4_manyIn_3 rfl hl (by decide) rfl (fun ls hl => ?_)
  exact kk4 h_fu _ _ h _ _ _ hw (lv_sub hl [2, 1, 0] rfl)
set_option maxHeartbeats 4000000 in
set_option maxRecDepth 100000 in
theorem c_X4_many (l : Launch) (dC : Nat → ClassId) (dI : Nat → Nat → Nat) (cI cZ : ClassId) (q : Nat → Nat) (S : HSt) (a1 : Int32) (r : Int32) (h : f_X4_many S a1 = some r) : MI l yX4_many hsX4_many rmX4_many (dC, dI) cI cZ (wM q cI cZ) S [.ref (q 0), .int a1] r S := by
  refine MI.ofW (cc := cX4_many) (maxL := 4) (ret := (some .int)) (by decide +kernel) rfl (Nat.le_of_ble_eq_true rfl) ?_
  intro p e s m below meth c A cx hr hlk hw ls hl
  have hx := cx.1.1
  have hb := cx.1.2.1
  have hml := cx.1.2.2.1
  have hts := cx.1.2.2.2.2
  have hta : ∀ z ∈ hALL, z.before _ s = true := fun z h => hts z (List.mem_cons_of_mem _ h)
  have lk161 : (Cond.fieldLink RX4 161 (TX4 13).1 (TX4 13).2.1 (TX4 13).2.2.1).before _ s = true := hta _ wdF_X4_161
  have lk19 : (Cond.fieldLink RX4 19 (TX4 4).1 (TX4 4).2.1 (TX4 4).2.2.1).before _ s = true := hta _ wdF_X4_19
  have lk23 : (Cond.fieldLink RX4 23 (TX4 5).1 (TX4 5).2.1 (TX4 5).2.2.1).before _ s = true := hta _ wdF_X4_23
  have lk35 : (Cond.fieldLink RX4 35 (TX4 9).1 (TX4 9).2.1 (TX4 9).2.2.1).before _ s = true := hta _ wdF_X4_35
  have lk41 : (Cond.fieldLink RX4 41 (TX4 11).1 (TX4 11).2.1 (TX4 11).2.2.1).before _ s = true := hta _ wdF_X4_41
  have lk84 : (Cond.fieldLink RX4 84 (TX4 0).1 (TX4 0).2.1 (TX4 0).2.2.1).before _ s = true := hta _ wdF_X4_84
  have hl : lv_has ls 4 [(0, .ref (q 0)), (1, .int a1)] := hl
  unfold f_X4_many at h
  have kk51 : ∀ (n51 : Nat) (x2 x3 : Int32), f_X4_many_51 S n51 x2 x3 = some r → ∀ (H : Heap) (locs : List Loc) (ls : Array Slot), HW (dC, dI) (wM q cI cZ) S A s H locs → lv_has ls 4 [(0, .ref (q 0)), (2, .int x2), (3, .int x3)] → W p l e rmX4_many s m ([.ref (q 0), .int a1] : List Value).toArray below meth c H locs 0 0 (MQ below (QI (dC, dI) (wM q cI cZ) r S A) ([.ref (q 0), .int a1] : List Value).toArray s 0 0 A) (F0 m 51 ls []) := by
    intro n51
    induction n51 with
    | zero =>
      intro x2 x3 h
      have h9 : (none : Option Int32) = some r := h
      cases h9
    | succ n51 ih51 =>
      intro x2 x3 h H locs ls hw hl
      have h : f_X4_many_51_s S (f_X4_many_51 S n51) x2 x3 = some r := h
      unfold f_X4_many_51_s at h
      have kk74 : ∀ (x3 t0 t1 : Int32), f_X4_many_74 S (f_X4_many_51 S n51) x3 t0 t1 = some r → ∀ (H : Heap) (locs : List Loc) (ls : Array Slot), HW (dC, dI) (wM q cI cZ) S A s H locs → lv_has ls 4 [(0, .ref (q 0)), (3, .int x3)] → W p l e rmX4_many s m ([.ref (q 0), .int a1] : List Value).toArray below meth c H locs 0 0 (MQ below (QI (dC, dI) (wM q cI cZ) r S A) ([.ref (q 0), .int a1] : List Value).toArray s 0 0 A) (F0 m 74 ls [.int t0, .int t1]) := by
        intro x3 t0 t1 h H locs ls hw hl
        unfold f_X4_many_74 at h
        refine lv_iadd hx hb dX4_many_74 ?_
        refine lv_istore_n (lv' := [(2, .int (t1 + t0)), (0, .ref (q 0)), (3, .int x3)]) hx hb dX4_many_75 rfl hl (by decide) rfl (fun ls hl => ?_)
        refine lv_iinc (v := x3 + 1) (lv' := [(3, .int (x3 + 1)), (2, .int (t1 + t0)), (0, .ref (q 0))]) hx hb dX4_many_76 hl (k := 2) rfl rfl (by decide) rfl (fun ls hl => ?_)
        refine lv_goto (tgt := 51) hx hb dX4_many_79 (by decide) ?_
        exact ih51 _ _ h _ _ _ hw (lv_sub hl [2, 1, 0] rfl)
      refine lv_iload_n hx hb dX4_many_51 rfl (lv_at hl 2 rfl) ?_
      refine lv_aload_n hx hb dX4_many_52 rfl (lv_at hl 0 rfl) ?_
      refine h_get (v := .int (S.1 0)) cx hw 0 (wM_p0 q cI cZ S) rfl hinX4 0 (by decide) lk84 rfl dX4_many_53 ?_
      refine lv_icmp_ge (tgt := 82) hx hb dX4_many_56 (by decide) (fun c1 => ?_) (fun c1 => ?_)
      · have h := h_ifp c1 h
        refine lv_iload_n hx hb dX4_many_82 rfl (lv_at hl 1 rfl) ?_
        exact h_iret cx hw hr hlk rfl (Option.some.inj h) rfl dX4_many_83
      · have h := h_ifn c1 h
        refine lv_iload_n hx hb dX4_many_59 rfl (lv_at hl 1 rfl) ?_
        refine lv_aload_n hx hb dX4_many_60 rfl (lv_at hl 0 rfl) ?_
        refine h_get (v := .ref (q 4)) cx hw 0 (wM_p0 q cI cZ S) rfl hinX4 4 (by decide) lk19 rfl dX4_many_61 ?_
        refine lv_iload_n hx hb dX4_many_64 rfl (lv_at hl 2 rfl) ?_
        obtain ⟨v2, e3, h⟩ := h_bd_ok h
        refine h_aldz cx hw 4 (wM_p4 q cI cZ S) e3 dX4_many_65 ?_
        refine lv_if_eq (tgt := 73) hx hb dX4_many_66 (by decide) (fun c4 => ?_) (fun c4 => ?_)
        · have h := h_ifp c4 h
          refine lv_iconst (v := 0) hx hb dX4_many_73 (by decide) ?_
          exact kk74 _ _ _ h _ _ _ hw (lv_sub hl [0, 2] rfl)
        · have h := h_ifn c4 h
          refine lv_iconst (v := 1) hx hb dX4_many_69 (by decide) ?_
          refine lv_goto (tgt := 74) hx hb dX4_many_70 (by decide) ?_
          exact kk74 _ _ _ h _ _ _ hw (lv_sub hl [0, 2] rfl)
  have kk102 : ∀ (n102 : Nat) (x2 x3 : Int32), f_X4_many_102 S n102 x2 x3 = some r → ∀ (H : Heap) (locs : List Loc) (ls : Array Slot), HW (dC, dI) (wM q cI cZ) S A s H locs → lv_has ls 4 [(0, .ref (q 0)), (2, .int x2), (3, .int x3)] → W p l e rmX4_many s m ([.ref (q 0), .int a1] : List Value).toArray below meth c H locs 0 0 (MQ below (QI (dC, dI) (wM q cI cZ) r S A) ([.ref (q 0), .int a1] : List Value).toArray s 0 0 A) (F0 m 102 ls []) := by
    intro n102
    induction n102 with
    | zero =>
      intro x2 x3 h
      have h9 : (none : Option Int32) = some r := h
      cases h9
    | succ n102 ih102 =>
      intro x2 x3 h H locs ls hw hl
      have h : f_X4_many_102_s S (f_X4_many_102 S n102) x2 x3 = some r := h
      unfold f_X4_many_102_s at h
      have kk124 : ∀ (x3 t0 t1 : Int32), f_X4_many_124 S (f_X4_many_102 S n102) x3 t0 t1 = some r → ∀ (H : Heap) (locs : List Loc) (ls : Array Slot), HW (dC, dI) (wM q cI cZ) S A s H locs → lv_has ls 4 [(0, .ref (q 0)), (3, .int x3)] → W p l e rmX4_many s m ([.ref (q 0), .int a1] : List Value).toArray below meth c H locs 0 0 (MQ below (QI (dC, dI) (wM q cI cZ) r S A) ([.ref (q 0), .int a1] : List Value).toArray s 0 0 A) (F0 m 124 ls [.int t0, .int t1]) := by
        intro x3 t0 t1 h H locs ls hw hl
        unfold f_X4_many_124 at h
        refine lv_iadd hx hb dX4_many_124 ?_
        refine lv_istore_n (lv' := [(2, .int (t1 + t0)), (0, .ref (q 0)), (3, .int x3)]) hx hb dX4_many_125 rfl hl (by decide) rfl (fun ls hl => ?_)
        refine lv_iinc (v := x3 + 1) (lv' := [(3, .int (x3 + 1)), (2, .int (t1 + t0)), (0, .ref (q 0))]) hx hb dX4_many_126 hl (k := 2) rfl rfl (by decide) rfl (fun ls hl => ?_)
        refine lv_goto (tgt := 102) hx hb dX4_many_129 (by decide) ?_
        exact ih102 _ _ h _ _ _ hw (lv_sub hl [2, 1, 0] rfl)
      refine lv_iload_n hx hb dX4_many_102 rfl (lv_at hl 2 rfl) ?_
      refine lv_iconst (v := 4) hx hb dX4_many_103 (by decide) ?_
      refine lv_icmp_ge (tgt := 132) hx hb dX4_many_104 (by decide) (fun c1 => ?_) (fun c1 => ?_)
      · have h := h_ifp c1 h
        refine lv_iload_n hx hb dX4_many_132 rfl (lv_at hl 1 rfl) ?_
        exact h_iret cx hw hr hlk rfl (Option.some.inj h) rfl dX4_many_133
      · have h := h_ifn c1 h
        refine lv_iload_n hx hb dX4_many_107 rfl (lv_at hl 1 rfl) ?_
        refine lv_aload_n hx hb dX4_many_108 rfl (lv_at hl 0 rfl) ?_
        refine h_get (v := .ref (q 5)) cx hw 0 (wM_p0 q cI cZ S) rfl hinX4 5 (by decide) lk23 rfl dX4_many_109 ?_
        refine lv_iload_n hx hb dX4_many_112 rfl (lv_at hl 2 rfl) ?_
        obtain ⟨v2, e3, h⟩ := h_bd_ok h
        refine h_ald cx hw 5 (wM_p5 q cI cZ S) e3 dX4_many_113 ?_
        refine lv_bipush (v := (-9)) hx hb dX4_many_114 (by decide) ?_
        refine lv_icmp_ne (tgt := 123) hx hb dX4_many_116 (by decide) (fun c4 => ?_) (fun c4 => ?_)
        · have h := h_ifn c4 h
          refine lv_iconst (v := 1) hx hb dX4_many_123 (by decide) ?_
          exact kk124 _ _ _ h _ _ _ hw (lv_sub hl [0, 2] rfl)
        · have h := h_ifp c4 h
          refine lv_iconst (v := 0) hx hb dX4_many_119 (by decide) ?_
          refine lv_goto (tgt := 124) hx hb dX4_many_120 (by decide) ?_
          exact kk124 _ _ _ h _ _ _ hw (lv_sub hl [0, 2] rfl)
  have kk141 : ∀ (n141 : Nat) (x2 x3 : Int32), f_X4_many_141 S n141 x2 x3 = some r → ∀ (H : Heap) (locs : List Loc) (ls : Array Slot), HW (dC, dI) (wM q cI cZ) S A s H locs → lv_has ls 4 [(0, .ref (q 0)), (2, .int x2), (3, .int x3)] → W p l e rmX4_many s m ([.ref (q 0), .int a1] : List Value).toArray below meth c H locs 0 0 (MQ below (QI (dC, dI) (wM q cI cZ) r S A) ([.ref (q 0), .int a1] : List Value).toArray s 0 0 A) (F0 m 141 ls []) := by
    intro n141
    induction n141 with
    | zero =>
      intro x2 x3 h
      have h9 : (none : Option Int32) = some r := h
      cases h9
    | succ n141 ih141 =>
      intro x2 x3 h H locs ls hw hl
      have h : f_X4_many_141_s S (f_X4_many_141 S n141) x2 x3 = some r := h
      unfold f_X4_many_141_s at h
      have kk168 : ∀ (x3 t0 : Int32), f_X4_many_168 S (f_X4_many_141 S n141) x3 t0 = some r → ∀ (H : Heap) (locs : List Loc) (ls : Array Slot), HW (dC, dI) (wM q cI cZ) S A s H locs → lv_has ls 4 [(0, .ref (q 0)), (3, .int x3)] → W p l e rmX4_many s m ([.ref (q 0), .int a1] : List Value).toArray below meth c H locs 0 0 (MQ below (QI (dC, dI) (wM q cI cZ) r S A) ([.ref (q 0), .int a1] : List Value).toArray s 0 0 A) (F0 m 168 ls [.int t0]) := by
        intro x3 t0 h H locs ls hw hl
        unfold f_X4_many_168 at h
        refine lv_istore_n (lv' := [(2, .int t0), (0, .ref (q 0)), (3, .int x3)]) hx hb dX4_many_168 rfl hl (by decide) rfl (fun ls hl => ?_)
        refine lv_iinc (v := x3 + 1) (lv' := [(3, .int (x3 + 1)), (2, .int t0), (0, .ref (q 0))]) hx hb dX4_many_169 hl (k := 2) rfl rfl (by decide) rfl (fun ls hl => ?_)
        refine lv_goto (tgt := 141) hx hb dX4_many_172 (by decide) ?_
        exact ih141 _ _ h _ _ _ hw (lv_sub hl [2, 1, 0] rfl)
      refine lv_iload_n hx hb dX4_many_141 rfl (lv_at hl 2 rfl) ?_
      refine lv_sipush (v := 336) hx hb dX4_many_142 (by decide) ?_
      refine lv_icmp_ge (tgt := 175) hx hb dX4_many_145 (by decide) (fun c1 => ?_) (fun c1 => ?_)
      · have h := h_ifp c1 h
        refine lv_iload_n hx hb dX4_many_175 rfl (lv_at hl 1 rfl) ?_
        exact h_iret cx hw hr hlk rfl (Option.some.inj h) rfl dX4_many_176
      · have h := h_ifn c1 h
        refine lv_aload_n hx hb dX4_many_148 rfl (lv_at hl 0 rfl) ?_
        refine h_get (v := .ref (q 9)) cx hw 0 (wM_p0 q cI cZ S) rfl hinX4 9 (by decide) lk35 rfl dX4_many_149 ?_
        refine lv_iload_n hx hb dX4_many_152 rfl (lv_at hl 2 rfl) ?_
        obtain ⟨v2, e3, h⟩ := h_bd_ok h
        refine h_ald cx hw 9 (wM_p9 q cI cZ S) e3 dX4_many_153 ?_
        refine lv_iload_n hx hb dX4_many_154 rfl (lv_at hl 1 rfl) ?_
        refine lv_icmp_le (tgt := 167) hx hb dX4_many_155 (by decide) (fun c4 => ?_) (fun c4 => ?_)
        · have h := h_ifp c4 h
          refine lv_iload_n hx hb dX4_many_167 rfl (lv_at hl 1 rfl) ?_
          exact kk168 _ _ h _ _ _ hw (lv_sub hl [0, 2] rfl)
        · have h := h_ifn c4 h
          refine lv_aload_n hx hb dX4_many_158 rfl (lv_at hl 0 rfl) ?_
          refine h_get (v := .ref (q 9)) cx hw 0 (wM_p0 q cI cZ S) rfl hinX4 9 (by decide) lk35 rfl dX4_many_159 ?_
          refine lv_iload_n hx hb dX4_many_162 rfl (lv_at hl 2 rfl) ?_
          obtain ⟨v5, e6, h⟩ := h_bd_ok h
          refine h_ald cx hw 9 (wM_p9 q cI cZ S) e6 dX4_many_163 ?_
          refine lv_goto (tgt := 168) hx hb dX4_many_164 (by decide) ?_
          exact kk168 _ _ h _ _ _ hw (lv_sub hl [0, 2] rfl)
  refine lv_iconst (v := 0) hx hb dX4_many_0 (by decide) ?_
  refine lv_istore_n (lv' := [(2, .int 0), (0, .ref (q 0)), (1, .int a1)]) hx hb dX4_many_1 rfl hl (by decide) rfl (fun ls hl => ?_)
  refine lv_iload_n hx hb dX4_many_2 rfl (lv_at hl 2 rfl) ?_
  by_cases c1 : a1 = 0
  · have h := h_ifp c1 h
    refine lv_tableIn (off := 41) (tgt := 44) hx hb dX4_many_3 (by rw [c1]; decide) (by rw [c1]; decide) (by rw [c1]; rfl) (by decide) ?_
    refine lv_aload_n hx hb dX4_many_44 rfl (lv_at hl 1 rfl) ?_
    refine h_get (v := .int (S.1 0)) cx hw 0 (wM_p0 q cI cZ S) rfl hinX4 0 (by decide) lk84 rfl dX4_many_45 ?_
    exact h_iret cx hw hr hlk rfl (Option.some.inj h) rfl dX4_many_48
  · have h := h_ifn c1 h
    by_cases c2 : a1 = 1
    · have h := h_ifp c2 h
      refine lv_tableIn (off := 46) (tgt := 49) hx hb dX4_many_3 (by rw [c2]; decide) (by rw [c2]; decide) (by rw [c2]; rfl) (by decide) ?_
      refine lv_iconst (v := 0) hx hb dX4_many_49 (by decide) ?_
      refine lv_istore_n (lv' := [(3, .int 0), (2, .int 0), (0, .ref (q 0)), (1, .int a1)]) hx hb dX4_many_50 rfl hl (by decide) rfl (fun ls hl => ?_)
      exact kk51 h_fu _ _ h _ _ _ hw (lv_sub hl [2, 1, 0] rfl)
    · have h := h_ifn c2 h
      by_cases c3 : a1 = 2
      · have h := h_ifp c3 h
        refine lv_tableIn (off := 81) (tgt := 84) hx hb dX4_many_3 (by rw [c3]; decide) (by rw [c3]; decide) (by rw [c3]; rfl) (by decide) ?_
        refine lv_aload_n hx hb dX4_many_84 rfl (lv_at hl 1 rfl) ?_
        refine h_get (v := .ref (q 9)) cx hw 0 (wM_p0 q cI cZ S) rfl hinX4 9 (by decide) lk35 rfl dX4_many_85 ?_
        obtain ⟨r4, e5, h⟩ := h_bd_ok h
        refine h_callSI cx hw (c_X4_manyInL l dC dI cI cZ q S r4 e5) (va_cwS 1 hts (hgA (hcS wdL_X4_197 wdT_X4_manyIn wdN_RX4 wdC_X4_manyIn)) rfl rfl rfl pdX4_manyIn.2 ⟨Nat.le_of_ble_eq_true rfl, Nat.le_of_ble_eq_true rfl⟩) rfl hl.1 rfl (Nat.le_of_ble_eq_true rfl) dX4_many_88 ⟨Nat.zero_le _, Nat.zero_le _⟩ (fun H locs hw => ?_)
        exact h_iret cx hw hr hlk rfl (Option.some.inj h) rfl dX4_many_91
      · have h := h_ifn c3 h
        by_cases c6 : a1 = 3
        · have h := h_ifp c6 h
          refine lv_tableIn (off := 89) (tgt := 92) hx hb dX4_many_3 (by rw [c6]; decide) (by rw [c6]; decide) (by rw [c6]; rfl) (by decide) ?_
          refine lv_aload_n hx hb dX4_many_92 rfl (lv_at hl 1 rfl) ?_
          refine h_get (v := .ref (q 11)) cx hw 0 (wM_p0 q cI cZ S) rfl hinX4 11 (by decide) lk41 rfl dX4_many_93 ?_
          obtain ⟨r7, e8, h⟩ := h_bd_ok h
          refine h_callSI cx hw (c_X4_manyInK l dC dI cI cZ q S r7 e8) (va_cwS 1 hts (hgA (hcS wdL_X4_197 wdT_X4_manyIn wdN_RX4 wdC_X4_manyIn)) rfl rfl rfl pdX4_manyIn.2 ⟨Nat.le_of_ble_eq_true rfl, Nat.le_of_ble_eq_true rfl⟩) rfl hl.1 rfl (Nat.le_of_ble_eq_true rfl) dX4_many_96 ⟨Nat.zero_le _, Nat.zero_le _⟩ (fun H locs hw => ?_)
          exact h_iret cx hw hr hlk rfl (Option.some.inj h) rfl dX4_many_99
        · have h := h_ifn c6 h
          by_cases c9 : a1 = 4
          · have h := h_ifp c9 h
            refine lv_tableIn (off := 97) (tgt := 100) hx hb dX4_many_3 (by rw [c9]; decide) (by rw [c9]; decide) (by rw [c9]; rfl) (by decide) ?_
            refine lv_iconst (v := 0) hx hb dX4_many_100 (by decide) ?_
            refine lv_istore_n (lv' := [(3, .int 0), (2, .int 0), (0, .ref (q 0)), (1, .int a1)]) hx hb dX4_many_101 rfl hl (by decide) rfl (fun ls hl => ?_)
            exact kk102 h_fu _ _ h _ _ _ hw (lv_sub hl [2, 1, 0] rfl)
          · have h := h_ifn c9 h
            by_cases c10 : a1 = 5
            · have h := h_ifp c10 h
              refine lv_tableIn (off := 131) (tgt := 134) hx hb dX4_many_3 (by rw [c10]; decide) (by rw [c10]; decide) (by rw [c10]; rfl) (by decide) ?_
              refine lv_aload_n hx hb dX4_many_134 rfl (lv_at hl 1 rfl) ?_
              refine h_get (v := .int (S.1 1)) cx hw 0 (wM_p0 q cI cZ S) rfl hinX4 13 (by decide) lk161 rfl dX4_many_135 ?_
              exact h_iret cx hw hr hlk rfl (Option.some.inj h) rfl dX4_many_138
            · have h := h_ifn c10 h
              by_cases c11 : a1 = 6
              · have h := h_ifp c11 h
                refine lv_tableIn (off := 136) (tgt := 139) hx hb dX4_many_3 (by rw [c11]; decide) (by rw [c11]; decide) (by rw [c11]; rfl) (by decide) ?_
                refine lv_iconst (v := 0) hx hb dX4_many_139 (by decide) ?_
                refine lv_istore_n (lv' := [(3, .int 0), (2, .int 0), (0, .ref (q 0)), (1, .int a1)]) hx hb dX4_many_140 rfl hl (by decide) rfl (fun ls hl => ?_)
                exact kk141 h_fu _ _ h _ _ _ hw (lv_sub hl [2, 1, 0] rfl)
              · have h := h_ifn c11 h
                refine lv_tableOut (tgt := 177) hx hb dX4_many_3 (h_tout7 c1 c2 c3 c6 c9 c10 c11) (by decide) ?_
                refine lv_bipush (v := (-2)) hx hb dX4_many_177 (by decide) ?_
                exact h_iret cx hw hr hlk rfl (Option.some.inj h) rfl dX4_many_179
