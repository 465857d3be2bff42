set_option maxHeartbeats 4000000 in
set_option maxRecDepth 100000 in
theorem whole_open {p : Program} {e : Env} {s : State} {m : MethodId} {below : List Frame} {meth : Method} {c : Code} (l : Launch) {b L : Nat} {xs : Nat → Int32} (hL : L ≤ 2560) (C0 : lw_At p s m meth c b L xs) (Rel : HSt → HSt → Prop) (S9 M9 : HSt) (hC9 : f_X1_init hS0 = some S9) (hM9 : f_X4_init hS0 = some M9) (hR9 : Rel (hSC S9) M9) (hlink : Op_link Rel) (hcost : Op_cost Rel) (hup : Op_up Rel) (hend : Op_end Rel) (hofLink : Op_ofLink Rel) (hnext : Op_next Rel) (hfar : Op_far Rel) (hmode : Op_mode Rel) (hsetting : Op_setting Rel) (hticks : Op_ticks Rel) (hhanded : Op_handed Rel) (hkept : Op_kept Rel) (hused : Op_used Rel) (hmeaning : Op_meaning Rel) (hsettles : Op_settles Rel) (hletter : Op_letter Rel) (htrace : Op_trace Rel) (hserved : Op_served Rel) (hmerged : Op_merged Rel) (hmany : Op_many Rel) : W p l e room_1 s m #[Value.ref b] below meth c s.heap [] 0 0 (lw_Z below #[Value.ref b] s) (entryFrame m ([Value.ref b] : List Value).toArray 4) := by
  obtain ⟨hx, hb, hr, hml, hown, hts, hX, hbl, hlocks, hgv⟩ := id C0
  have hta : ∀ z ∈ hALL, z.before _ s = true := fun z h => hts z (hA_tbl h)
  obtain ⟨c0, iS0, hKn0⟩ := u_known (C := RX0) (T := TX0) (N := 12) (n := 12) hts (fun w h => hA_tbl (inX0 w h)) (hta _ wdP_X0)
  obtain ⟨c1, iS1, hKn1⟩ := u_known (C := RX1) (T := TX1) (N := 7) (n := 7) hts (fun w h => hA_tbl (inX1 w h)) (hta _ wdP_X1)
  obtain ⟨c2, iS2, hKn2⟩ := u_known (C := RX2) (T := TX2) (N := 5) (n := 5) hts (fun w h => hA_tbl (inX2 w h)) (hta _ wdP_X2)
  obtain ⟨c3, iS3, hKn3⟩ := u_known (C := RX3) (T := TX3) (N := 4) (n := 4) hts (fun w h => hA_tbl (inX3 w h)) (hta _ wdP_X3)
  obtain ⟨c4, iS4, hKn4⟩ := u_known (C := RX4) (T := TX4) (N := 27) (n := 27) hts (fun w h => hA_tbl (inX4 w h)) (hta _ wdP_X4)
  obtain ⟨dC, dI, hKc⟩ : ∃ (dC : Nat → ClassId) (dI : Nat → Nat → Nat), ∀ (k : Nat) (q : vw_C), vwCl[k]? = some q → u_Kn s q.1 q.2.1 q.2.2 (dC k) (dI k) := by
    refine ⟨fun k => [c0, c1, c2, c3, c4].getD k 0, fun k => [iS0, iS1, iS2, iS3, iS4].getD k iS0, ?_⟩
    intro k q hq
    match k, hq with
    | 0, hq => cases hq; exact hKn0
    | 1, hq => cases hq; exact hKn1
    | 2, hq => cases hq; exact hKn2
    | 3, hq => cases hq; exact hKn3
    | 4, hq => cases hq; exact hKn4
    | k + 5, hq => simp [vwCl] at hq
  obtain ⟨cI, kI, oI, hI1, hI2, hI3⟩ := Cond.arrayClass_spec (hta _ wdA_int)
  obtain ⟨cZ, kZ, oZ, hZ1, hZ2, hZ3⟩ := Cond.arrayClass_spec (hta _ wdA_boolean)
  have hK : va_K (dC, dI) vwCl (hTy cI cZ) s := by
    refine ⟨hKc, fun k q hq => ?_⟩
    match k, hq with
    | 0, hq => cases hq; exact ⟨fun n z => ⟨fun k h => (by cases h), kI, hI2, oI, hI3⟩, hI1⟩
    | 1, hq => cases hq; exact ⟨fun n z => ⟨fun k h => (by cases h), kZ, hZ2, oZ, hZ3⟩, hZ1⟩
    | k + 2, hq => simp at hq
  have hN : NW s := ⟨va_Nw.of rfl (hts _ wdZ_X1_45), va_Nw.of rfl (hts _ wdZ_X0_56), va_Nw.of rfl (hts _ wdZ_X0_66), va_Nw.of rfl (hts _ wdZ_X0_126), va_Nw.of rfl (hts _ wdZ_X0_117), va_Nw.of rfl (hts _ wdZ_X0_73), va_Nw.of rfl (hts _ wdZ_X2_44), va_Nw.of rfl (hts _ wdZ_X2_51)⟩
  have cx : HCx p m c code 4 s #[Value.ref b] lw_tbl RL (dC, dI) cI cZ (fun x : Nat => s.heap.size ≤ x) := ⟨⟨hx, hb, hml, hown, hts⟩, hK, hN, fun _ h => h⟩
  have hw : HW (dC, dI) (fun _ => ([] : va_W)) hS0 (fun x : Nat => s.heap.size ≤ x) s s.heap [] := ⟨fun k q h => by simp at h, ⟨fun i j p q h => by simp at h, fun k q h => by simp at h⟩, va_S.rf⟩
  have hl := lv_entry ([.ref b]) (n := 4) (Nat.le_of_ble_eq_true rfl)
  rw [lg_entry_eq]
  generalize (lg_sl ([.ref b]) ++ List.replicate (4 - (lg_sl ([.ref b])).length) Slot.unset).toArray = ls at hl ⊢
  have hl : lv_has ls 4 [(0, .ref b)] := hl
  refine h_new (C := RX3) (T := TX3) (N := 4) (ci := 3) (fs := [.null, .null, .null, .null]) cx hw (fun w h => hA_tbl (inX3 w h)) tyX3 tyX3_ok (hta _ wdK_L_7) (hta _ wdP_X3) (hta _ wdN_RX3) rfl (fun j hj => by rcases (show j = 0 ∨ j = 1 ∨ j = 2 ∨ j = 3 by omega) with rfl | rfl | rfl | rfl <;> rfl) (Nat.le_of_ble_eq_true rfl) (Nat.le_of_ble_eq_true rfl) dL_law_0 (fun q1 H hw => ?_)
  refine W.widen (k := 1) (n := 4) (Nat.le_of_ble_eq_true rfl) (Nat.le_of_ble_eq_true rfl) ?_
  have hw : HW (dC, dI) (fun _ => [(q1, .inr (3, [.null, .null, .null, .null]))]) hS0 _ s _ _ := hw
  refine lv_dup hx hb dL_law_3 rfl ?_
  refine h_callK (wc := [(q1, .inr (3, [.null, .null, .null, .null]))]) (wr := []) (As := []) (rest := [.ref q1]) cx hw (c_X3_init l dC dI cI cZ q1 S9 hC9) (cwI 0 hts (hgT (hcW wdC_X3_init)) rfl rfl rfl (hta _ wdN_RX3) (hta _ wdL_L_9) (hta _ wdI_X3_init) rfl pdX3_init ⟨Nat.le_of_ble_eq_true rfl, Nat.le_of_ble_eq_true rfl⟩) [0] [] rfl rfl rfl (by decide) (by decide) (by decide) rfl hl.1 rfl (Nat.le_of_ble_eq_true rfl) dL_law_4 ⟨Nat.le_of_ble_eq_true rfl, Nat.le_of_ble_eq_true rfl⟩ (fun u H locs hp hwn => ?_)
  obtain ⟨q, hq, rfl⟩ := hp
  subst hq
  refine W.widen (k := 23) (n := 717) (Nat.le_of_ble_eq_true rfl) (Nat.le_of_ble_eq_true rfl) ?_
  have hw : HW (dC, dI) (fun _ => wC q cI (hSC S9)) hS0 _ s _ _ := hwn
  refine lv_astore_n (lv' := [(1, .ref (q 0)), (0, .ref b)]) hx hb dL_law_7 rfl hl (by decide) rfl (fun ls hl => ?_)
  refine h_new (C := RX4) (T := TX4) (N := 27) (ci := 4) (fs := [.int 0, .null, .null, .null, .null, .null, .null, .null, .null, .null, .null, .null, .null, .int 0, .null, .null, .null, .null, .null, .null, .null, .null, .null, .int 0, .null, .null, .int 0]) cx hw (fun w h => hA_tbl (inX4 w h)) tyX4 tyX4_ok (hta _ wdK_L_10) (hta _ wdP_X4) (hta _ wdN_RX4) rfl (fun j hj => by rcases (show j = 0 ∨ j = 1 ∨ j = 2 ∨ j = 3 ∨ j = 4 ∨ j = 5 ∨ j = 6 ∨ j = 7 ∨ j = 8 ∨ j = 9 ∨ j = 10 ∨ j = 11 ∨ j = 12 ∨ j = 13 ∨ j = 14 ∨ j = 15 ∨ j = 16 ∨ j = 17 ∨ j = 18 ∨ j = 19 ∨ j = 20 ∨ j = 21 ∨ j = 22 ∨ j = 23 ∨ j = 24 ∨ j = 25 ∨ j = 26 by omega) with rfl | rfl | rfl | rfl | rfl | rfl | rfl | rfl | rfl | rfl | rfl | rfl | rfl | rfl | rfl | rfl | rfl | rfl | rfl | rfl | rfl | rfl | rfl | rfl | rfl | rfl | rfl <;> rfl) (Nat.le_of_ble_eq_true rfl) (Nat.le_of_ble_eq_true rfl) dL_law_8 (fun q3 H hw => ?_)
  refine W.widen (k := 24) (n := 744) (Nat.le_of_ble_eq_true rfl) (Nat.le_of_ble_eq_true rfl) ?_
  have hw : HW (dC, dI) (fun _ => wC q cI (hSC S9) ++ [(q3, .inr (4, [.int 0, .null, .null, .null, .null, .null, .null, .null, .null, .null, .null, .null, .null, .int 0, .null, .null, .null, .null, .null, .null, .null, .null, .null, .int 0, .null, .null, .int 0]))]) hS0 _ s _ _ := hw
  refine lv_dup hx hb dL_law_11 rfl ?_
  refine h_callK (wc := [(q3, .inr (4, [.int 0, .null, .null, .null, .null, .null, .null, .null, .null, .null, .null, .null, .null, .int 0, .null, .null, .null, .null, .null, .null, .null, .null, .null, .int 0, .null, .null, .int 0]))]) (wr := wC q cI (hSC S9)) (As := []) (rest := [.ref q3]) cx hw (c_X4_init l dC dI cI cZ q3 M9 hM9) (cwI 0 hts (hgT (hcW wdC_X4_init)) rfl rfl rfl (hta _ wdN_RX4) (hta _ wdL_L_12) (hta _ wdI_X4_init) rfl pdX4_init ⟨Nat.le_of_ble_eq_true rfl, Nat.le_of_ble_eq_true rfl⟩) [23] [0, 1, 2, 3, 4, 5, 6, 7, 8, 9, 10, 11, 12, 13, 14, 15, 16, 17, 18, 19, 20, 21, 22] rfl rfl rfl (by decide) (by decide) (by decide) rfl hl.1 rfl (Nat.le_of_ble_eq_true rfl) dL_law_12 ⟨Nat.le_of_ble_eq_true rfl, Nat.le_of_ble_eq_true rfl⟩ (fun u H locs hp hwn => ?_)
  obtain ⟨q2, hq2, rfl⟩ := hp
  subst hq2
  refine W.widen (k := 47) (n := 4981) (Nat.le_of_ble_eq_true rfl) (Nat.le_of_ble_eq_true rfl) ?_
  have hw : HW (dC, dI) (fun _ => wC q cI (hSC S9) ++ wM q2 cI cZ M9) hS0 _ s _ _ := hwn
  refine lv_astore_n (lv' := [(2, .ref (q2 0)), (1, .ref (q 0)), (0, .ref b)]) hx hb dL_law_15 rfl hl (by decide) rfl (fun ls hl => ?_)
  refine lv_iconst (v := 0) hx hb dL_law_16 (by decide) ?_
  refine lv_istore_n (lv' := [(3, .int 0), (2, .ref (q2 0)), (1, .ref (q 0)), (0, .ref b)]) hx hb dL_law_17 rfl hl (by decide) rfl (fun ls hl => ?_)
  exact law_loop hL C0 hK hN q q2 Rel hlink hcost hup hend hofLink hnext hfar hmode hsetting hticks hhanded hkept hused hmeaning hsettles hletter htrace hserved hmerged hmany (L + 1) 0 0 (Nat.zero_le L) (by omega) nI_0.symm (hSC S9) M9 hR9 _ _ ls hw (lv_sub hl [3, 2, 1, 0] rfl)
