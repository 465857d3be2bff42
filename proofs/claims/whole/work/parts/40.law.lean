/-! THE CLAIM OUT OF ONE WALK OF THE LAW'S BODY. Your part is whole_start (and what it stands on); all else here is the same for every law, but numbers. -/
def R_law : String := "HandedLabelsLaw"
def lw_P (b : Addr) (xs : List Int32) (args : Array Value) (s : State) : Prop := args = #[.ref b] ∧ s.IntsAt b xs ∧ xs.length ≤ 2560 ∧ (Jvm.Cond.and given_1 narrow_1).before args s = true
def lw_Q (_ : Array Value) (s : State) (o : Outcome) (t : State) : Prop := o = .returned (some (.int 1)) ∧ Framed s o t [] 47 4981
def lw_Z (below : List Frame) (a : Array Value) (s : State) : State → Prop := fun t => ∃ o, t.status = .running ∧ Ended t below o ∧ lw_Q a s o t
/-- the law's own end, with 1 on the stack, nothing written that was there before, its room as the claim has it -/
theorem lw_ret {p : Program} {l : Launch} {e : Env} {s : State} {m : MethodId} {below : List Frame} {meth : Method} {c : Code} {b : Nat} (hx : p.tables.exec = Jvm.exec) (hb : c.code = code) (hr : meth.sig.returnType = ret) (hlocks : meth.locks = false) {pc : Nat} {H : Heap} {ls : Array Slot} (hdg : decode code pc = .ok (.ireturn, 1)) : W p l e room_1 s m #[Value.ref b] below meth c H [] 47 4981 (lw_Z below #[Value.ref b] s) (F0 m pc ls [.int 1]) := by
  intro T hT X
  obtain ⟨fs, hret, hrun, hended, hW, hframe⟩ := X.leave (v := some (.int 1)) (hlocks := hlocks) (fun h => by rw [hr] at h; cases h)
  have hmeth' : T.vm.method? m = some meth := X.method'
  refine ⟨T.setFrames fs, ?_, .returned (some (.int 1)), hrun, hended, rfl, ⟨_, rfl⟩, hW, hframe⟩
  jvm_step X.here [X.here.top, hx, hb, hdg, hmeth', hr, ret, narrow_b1]
  (try refine ⟨rfl, ?_⟩); (try refine ⟨rfl, ?_⟩)
  first | (intro acts; rw [hret _ acts rfl rfl rfl]) | rw [hret _ _ rfl rfl rfl]
  exact Steps.refl _
/-- what holds at the law's entry: the machine, the code, the tables' words (any of lw_tbl by 'hts w (by decide +kernel)'), the script of L ints xs at the cell b, what the Statement gives of the start (any of its parts by flat_of_before) -/
def lw_At (p : Program) (s : State) (m : MethodId) (meth : Method) (c : Code) (b L : Nat) (xs : Nat → Int32) : Prop :=
  p.tables.exec = Jvm.exec ∧ c.code = code ∧ meth.sig.returnType = ret ∧ c.maxLocals = 4 ∧ s.vm.findClass R_law = some m.cls ∧ (∀ w ∈ lw_tbl, w.before #[Value.ref b] s = true) ∧ va_X b L xs s s.heap ∧ b < s.heap.size ∧ meth.locks = false ∧ (Jvm.Cond.and given_1 narrow_1).before #[Value.ref b] s = true
set_option maxRecDepth 100000 in
set_option maxHeartbeats 4000000 in
theorem lw_callC {p : Program} {l : Launch} {e : Env} {R : Room} {s : State} {m : MethodId} {args : Array Value} {below : List Frame} {meth : Method} {c : Code} {H : Heap} {locs : List Loc} {cells slots : Nat} {Q : State → Prop} {cc : ByteArray} {nL pc : Nat} {ls : Array Slot} {rest : List Value} {Ts : List Cond} {own : String} {D : va_G} {cI cZ : ClassId} {A : Nat → Prop} {S M S' : HSt} {q q2 : Nat → Nat} {y : MethodName} {wsy : List Cond} {rm : Room} {As : List Value} {r : Int32} {index : Nat} {bytes : ByteArray} {maxL n : Nat} {ret : Option FieldType} {st0 : List Value} (cx : HCx p m c cc nL s args Ts own D cI cZ A) (hw : HW D (fun _ => wC q cI S ++ wM q2 cI cZ M) hS0 A s H locs) (hM : MI l y wsy rm D cI cZ (wC q cI) S (.ref (q 0) :: As) r S') (cw : CallW R s args own RX3 index y bytes maxL ret wsy rm 0 0 n) (hn : As.length = n) (hsize : ls.size = nL) (hst : st0 = As.reverse ++ .ref (q 0) :: rest) (hroom : (rest.map fun v => v.category).sum ≤ 8) (hdg : decode cc pc = .ok (.invokevirtual index, 3)) (hf : cells ≤ R.cells ∧ slots ≤ R.slots) (kk : ∀ (H1 : Heap) (locs1 : List Loc), HW D (fun _ => wC q cI S' ++ wM q2 cI cZ M) hS0 A s H1 locs1 → W p l e R s m args below meth c H1 locs1 cells slots Q (F0 m (pc + 3) ls (.int r :: rest))) : W p l e R s m args below meth c H locs cells slots Q (F0 m pc ls st0) := by
  have hPc : va_P D vwCl (wC q cI S) H := hw.1.sub [0, 1, 2, 3, 4, 5, 6, 7, 8, 9, 10, 11, 12, 13, 14, 15, 16, 17, 18, 19, 20, 21, 22] rfl
  have hDc : va_D A (wC q cI S) := hw.2.1.sub [0, 1, 2, 3, 4, 5, 6, 7, 8, 9, 10, 11, 12, 13, 14, 15, 16, 17, 18, 19, 20, 21, 22] (by decide) rfl
  have hFr : ∀ x, va_A (wC q cI S) H.size x → A x := va_free (wc := (wC q cI S)) hw.2.1 hw.2.2 cx.2.2.2 [0, 1, 2, 3, 4, 5, 6, 7, 8, 9, 10, 11, 12, 13, 14, 15, 16, 17, 18, 19, 20, 21, 22] rfl
  refine va_calli (va_runV (As := As) (rest := rest) cx.1 (hM H.size) cw ⟨h_blind, va_recv cx.2.1 hPc (ci := 3) (q0 := 0) rfl (wC_p0 q cI S), fun U hU hW => ⟨rfl, by rw [hU], by rw [hU]; exact hPc, va_K.moved hW.alike cx.2.1, hDc.weaken (fun _ _ _ _ => trivial), NW.warm hW cx.2.2.1⟩⟩ rfl hn hsize hst (lv_room hroom) hdg hf) hw.2.2 (fun q _ h => hFr q h) hFr (fun r1 u t H1 locs1 ht hvm hp hB hz hk hS => ?_)
  obtain ⟨rfl, rfl⟩ := hp
  obtain ⟨hP1, hD1⟩ := hB
  rw [ht] at hP1
  obtain ⟨hP2, hD2⟩ := va_join (wc := (wC q cI S)) (wr := wM q2 cI cZ M) hw.1 hw.2.1 [0, 1, 2, 3, 4, 5, 6, 7, 8, 9, 10, 11, 12, 13, 14, 15, 16, 17, 18, 19, 20, 21, 22] [23, 24, 25, 26, 27, 28, 29, 30, 31, 32, 33, 34, 35, 36, 37, 38, 39, 40, 41, 42, 43, 44, 45, 46] rfl rfl (by decide) (by decide) hk hFr hP1 hD1
  exact kk H1 locs1 ⟨hP2.sub [24, 25, 26, 27, 28, 29, 30, 31, 32, 33, 34, 35, 36, 37, 38, 39, 40, 41, 42, 43, 44, 45, 46, 0, 1, 2, 3, 4, 5, 6, 7, 8, 9, 10, 11, 12, 13, 14, 15, 16, 17, 18, 19, 20, 21, 22, 23] rfl, hD2.sub [24, 25, 26, 27, 28, 29, 30, 31, 32, 33, 34, 35, 36, 37, 38, 39, 40, 41, 42, 43, 44, 45, 46, 0, 1, 2, 3, 4, 5, 6, 7, 8, 9, 10, 11, 12, 13, 14, 15, 16, 17, 18, 19, 20, 21, 22, 23] (by decide) rfl, hS⟩
set_option maxRecDepth 100000 in
set_option maxHeartbeats 4000000 in
theorem lw_callM {p : Program} {l : Launch} {e : Env} {R : Room} {s : State} {m : MethodId} {args : Array Value} {below : List Frame} {meth : Method} {c : Code} {H : Heap} {locs : List Loc} {cells slots : Nat} {Q : State → Prop} {cc : ByteArray} {nL pc : Nat} {ls : Array Slot} {rest : List Value} {Ts : List Cond} {own : String} {D : va_G} {cI cZ : ClassId} {A : Nat → Prop} {S M M' : HSt} {q q2 : Nat → Nat} {y : MethodName} {wsy : List Cond} {rm : Room} {As : List Value} {r : Int32} {index : Nat} {bytes : ByteArray} {maxL n : Nat} {ret : Option FieldType} {st0 : List Value} (cx : HCx p m c cc nL s args Ts own D cI cZ A) (hw : HW D (fun _ => wC q cI S ++ wM q2 cI cZ M) hS0 A s H locs) (hM : MI l y wsy rm D cI cZ (wM q2 cI cZ) M (.ref (q2 0) :: As) r M') (cw : CallW R s args own RX4 index y bytes maxL ret wsy rm 0 0 n) (hn : As.length = n) (hsize : ls.size = nL) (hst : st0 = As.reverse ++ .ref (q2 0) :: rest) (hroom : (rest.map fun v => v.category).sum ≤ 8) (hdg : decode cc pc = .ok (.invokevirtual index, 3)) (hf : cells ≤ R.cells ∧ slots ≤ R.slots) (kk : ∀ (H1 : Heap) (locs1 : List Loc), HW D (fun _ => wC q cI S ++ wM q2 cI cZ M') hS0 A s H1 locs1 → W p l e R s m args below meth c H1 locs1 cells slots Q (F0 m (pc + 3) ls (.int r :: rest))) : W p l e R s m args below meth c H locs cells slots Q (F0 m pc ls st0) := by
  have hPc : va_P D vwCl (wM q2 cI cZ M) H := hw.1.sub [23, 24, 25, 26, 27, 28, 29, 30, 31, 32, 33, 34, 35, 36, 37, 38, 39, 40, 41, 42, 43, 44, 45, 46] rfl
  have hDc : va_D A (wM q2 cI cZ M) := hw.2.1.sub [23, 24, 25, 26, 27, 28, 29, 30, 31, 32, 33, 34, 35, 36, 37, 38, 39, 40, 41, 42, 43, 44, 45, 46] (by decide) rfl
  have hFr : ∀ x, va_A (wM q2 cI cZ M) H.size x → A x := va_free (wc := (wM q2 cI cZ M)) hw.2.1 hw.2.2 cx.2.2.2 [23, 24, 25, 26, 27, 28, 29, 30, 31, 32, 33, 34, 35, 36, 37, 38, 39, 40, 41, 42, 43, 44, 45, 46] rfl
  refine va_calli (va_runV (As := As) (rest := rest) cx.1 (hM H.size) cw ⟨h_blind, va_recv cx.2.1 hPc (ci := 4) (q0 := 0) rfl (wM_p0 q2 cI cZ M), fun U hU hW => ⟨rfl, by rw [hU], by rw [hU]; exact hPc, va_K.moved hW.alike cx.2.1, hDc.weaken (fun _ _ _ _ => trivial), NW.warm hW cx.2.2.1⟩⟩ rfl hn hsize hst (lv_room hroom) hdg hf) hw.2.2 (fun q _ h => hFr q h) hFr (fun r1 u t H1 locs1 ht hvm hp hB hz hk hS => ?_)
  obtain ⟨rfl, rfl⟩ := hp
  obtain ⟨hP1, hD1⟩ := hB
  rw [ht] at hP1
  obtain ⟨hP2, hD2⟩ := va_join (wc := (wM q2 cI cZ M)) (wr := wC q cI S) hw.1 hw.2.1 [23, 24, 25, 26, 27, 28, 29, 30, 31, 32, 33, 34, 35, 36, 37, 38, 39, 40, 41, 42, 43, 44, 45, 46] [0, 1, 2, 3, 4, 5, 6, 7, 8, 9, 10, 11, 12, 13, 14, 15, 16, 17, 18, 19, 20, 21, 22] rfl rfl (by decide) (by decide) hk hFr hP1 hD1
  exact kk H1 locs1 ⟨hP2, hD2, hS⟩
def Op_link (Rel : HSt → HSt → Prop) : Prop := ∀ S M : HSt, Rel S M → ∀ (a1 a2 a3 : Int32), ∃ (r : Int32) (S1 : HSt) (M1 : HSt), f_X3_link S a1 a2 a3 = some (r, S1) ∧ f_X4_link M a1 a2 a3 = some (r, M1) ∧ Rel S1 M1
def Op_cost (Rel : HSt → HSt → Prop) : Prop := ∀ S M : HSt, Rel S M → ∀ (a1 a2 : Int32), ∃ (r : Int32) (S1 : HSt) (M1 : HSt), f_X3_cost S a1 a2 = some (r, S1) ∧ f_X4_cost M a1 a2 = some (r, M1) ∧ Rel S1 M1
def Op_up (Rel : HSt → HSt → Prop) : Prop := ∀ S M : HSt, Rel S M → ∀ (a1 a2 : Int32), ∃ (r : Int32) (S1 : HSt) (M1 : HSt), f_X3_up S a1 a2 = some (r, S1) ∧ f_X4_up M a1 a2 = some (r, M1) ∧ Rel S1 M1
def Op_end (Rel : HSt → HSt → Prop) : Prop := ∀ S M : HSt, Rel S M → ∀ (a1 a2 : Int32), ∃ (r : Int32) (S1 : HSt) (M1 : HSt), f_X3_end S a1 a2 = some (r, S1) ∧ f_X4_end M a1 a2 = some (r, M1) ∧ Rel S1 M1
def Op_ofLink (Rel : HSt → HSt → Prop) : Prop := ∀ S M : HSt, Rel S M → ∀ (a1 a2 : Int32), ∃ (r : Int32), f_X3_ofLink S a1 a2 = some r ∧ f_X4_ofLink M a1 a2 = some r ∧ Rel S M
def Op_next (Rel : HSt → HSt → Prop) : Prop := ∀ S M : HSt, Rel S M → ∀ (a1 a2 : Int32), ∃ (r : Int32) (M1 : HSt), f_X3_next S a1 a2 = some r ∧ f_X4_next M a1 a2 = some (r, M1) ∧ Rel S M1
def Op_far (Rel : HSt → HSt → Prop) : Prop := ∀ S M : HSt, Rel S M → ∀ (a1 a2 : Int32), ∃ (r : Int32) (M1 : HSt), f_X3_far S a1 a2 = some r ∧ f_X4_far M a1 a2 = some (r, M1) ∧ Rel S M1
def Op_mode (Rel : HSt → HSt → Prop) : Prop := ∀ S M : HSt, Rel S M → ∀ (a1 a2 a3 : Int32), ∃ (r : Int32) (S1 : HSt) (M1 : HSt), f_X3_mode S a1 a2 a3 = some (r, S1) ∧ f_X4_mode M a1 a2 a3 = some (r, M1) ∧ Rel S1 M1
def Op_setting (Rel : HSt → HSt → Prop) : Prop := ∀ S M : HSt, Rel S M → ∀ (a1 a2 : Int32), ∃ (r : Int32) (S1 : HSt) (M1 : HSt), f_X3_setting S a1 a2 = some (r, S1) ∧ f_X4_setting M a1 a2 = some (r, M1) ∧ Rel S1 M1
def Op_ticks (Rel : HSt → HSt → Prop) : Prop := ∀ S M : HSt, Rel S M → ∀ (a1 : Int32), ∃ (r : Int32) (S1 : HSt) (M1 : HSt), f_X3_ticks S a1 = some (r, S1) ∧ f_X4_ticks M a1 = some (r, M1) ∧ Rel S1 M1
def Op_handed (Rel : HSt → HSt → Prop) : Prop := ∀ S M : HSt, Rel S M → ∀ (a1 a2 a3 a4 : Int32), ∃ (r : Int32), f_X3_handed S a1 a2 a3 a4 = some r ∧ f_X4_handed M a1 a2 a3 a4 = some r ∧ Rel S M
def Op_kept (Rel : HSt → HSt → Prop) : Prop := ∀ S M : HSt, Rel S M → ∀ (a1 a2 a3 a4 : Int32), ∃ (r : Int32), f_X3_kept S a1 a2 a3 a4 = some r ∧ f_X4_kept M a1 a2 a3 a4 = some r ∧ Rel S M
def Op_used (Rel : HSt → HSt → Prop) : Prop := ∀ S M : HSt, Rel S M → ∀ (a1 a2 : Int32), ∃ (r : Int32) (M1 : HSt), f_X3_used S a1 a2 = some r ∧ f_X4_used M a1 a2 = some (r, M1) ∧ Rel S M1
def Op_meaning (Rel : HSt → HSt → Prop) : Prop := ∀ S M : HSt, Rel S M → ∀ (a1 a2 a3 : Int32), ∃ (r : Int32), f_X3_meaning S a1 a2 a3 = some r ∧ f_X4_meaning M a1 a2 a3 = some r ∧ Rel S M
def Op_settles (Rel : HSt → HSt → Prop) : Prop := ∀ S M : HSt, Rel S M → ∃ (r : Int32) (S1 : HSt) (M1 : HSt), f_X3_settles S = some (r, S1) ∧ f_X4_settles M = some (r, M1) ∧ Rel S1 M1
def Op_letter (Rel : HSt → HSt → Prop) : Prop := ∀ S M : HSt, Rel S M → ∀ (a1 a2 : Int32), ∃ (r : Int32) (S1 : HSt) (M1 : HSt), f_X3_letter S a1 a2 = some (r, S1) ∧ f_X4_letter M a1 a2 = some (r, M1) ∧ Rel S1 M1
def Op_trace (Rel : HSt → HSt → Prop) : Prop := ∀ S M : HSt, Rel S M → ∀ (a1 a2 : Int32), ∃ (r : Int32), f_X3_trace S a1 a2 = some r ∧ f_X4_trace M a1 a2 = some r ∧ Rel S M
def Op_served (Rel : HSt → HSt → Prop) : Prop := ∀ S M : HSt, Rel S M → ∀ (a1 a2 : Int32), ∃ (r : Int32) (S1 : HSt) (M1 : HSt), f_X3_served S a1 a2 = some (r, S1) ∧ f_X4_served M a1 a2 = some (r, M1) ∧ Rel S1 M1
def Op_merged (Rel : HSt → HSt → Prop) : Prop := ∀ S M : HSt, Rel S M → ∀ (a1 a2 : Int32), ∃ (r : Int32) (M1 : HSt), f_X3_merged S a1 a2 = some r ∧ f_X4_merged M a1 a2 = some (r, M1) ∧ Rel S M1
def Op_many (Rel : HSt → HSt → Prop) : Prop := ∀ S M : HSt, Rel S M → ∀ (a1 : Int32), ∃ (r : Int32), f_X3_many S a1 = some r ∧ f_X4_many M a1 = some r ∧ Rel S M
theorem lw_5 (i : Nat) : nI i + 5 = nI (i + 5) := (nI_add i 5)
theorem lw_room5 {x3 : Int32} {i L : Nat} (ex3 : x3 = nI i) (hL : L ≤ 2560) (hi : i ≤ L) (c0 : ¬ Int32.ofNat L - 5 < x3) : i + 5 ≤ L := by
  subst ex3
  have h1 : (nI L - nI 5).toInt = (L : Int) - (5 : Nat) := pk_sub_toInt (a := L) (b := 5) (by omega) (by decide)
  have h2 : (nI i).toInt = (i : Int) := nI_toInt (by omega)
  have h3 : ¬ (nI L - nI 5).toInt < (nI i).toInt := fun h => c0 (Int32.lt_iff_toInt_lt.mpr h)
  rw [h1, h2] at h3
  omega
theorem lw_in0 {i L : Nat} (h : i + 5 ≤ L) (hL : L ≤ 2560) : vp_in (nI i) L := vp_in_nI (by omega) (by omega)
theorem lw_in1 {i L : Nat} (h : i + 5 ≤ L) (hL : L ≤ 2560) : vp_in (nI i + 1) L := (by have e : nI i + 1 = nI (i + 1) := nI_add i 1; rw [e]; exact vp_in_nI (by omega) (by omega))
theorem lw_in2 {i L : Nat} (h : i + 5 ≤ L) (hL : L ≤ 2560) : vp_in (nI i + 2) L := (by have e : nI i + 2 = nI (i + 2) := nI_add i 2; rw [e]; exact vp_in_nI (by omega) (by omega))
theorem lw_in3 {i L : Nat} (h : i + 5 ≤ L) (hL : L ≤ 2560) : vp_in (nI i + 3) L := (by have e : nI i + 3 = nI (i + 3) := nI_add i 3; rw [e]; exact vp_in_nI (by omega) (by omega))
theorem lw_in4 {i L : Nat} (h : i + 5 ≤ L) (hL : L ≤ 2560) : vp_in (nI i + 4) L := (by have e : nI i + 4 = nI (i + 4) := nI_add i 4; rw [e]; exact vp_in_nI (by omega) (by omega))
set_option maxHeartbeats 4000000 in
set_option maxRecDepth 100000 in
theorem law_loop {p : Program} {l : Launch} {e : Env} {s : State} {m : MethodId} {below : List Frame} {meth : Method} {c : Code} {dC : Nat → ClassId} {dI : Nat → Nat → Nat} {cI cZ : ClassId} {b L : Nat} {xs : Nat → Int32} (hL : L ≤ 2560) (C0 : lw_At p s m meth c b L xs) (hK : va_K (dC, dI) vwCl (hTy cI cZ) s) (hN : NW s) (q q2 : Nat → Nat) (Rel : HSt → HSt → Prop) (hlink : Op_link Rel) (hcost : Op_cost Rel) (hup : Op_up Rel) (hend : Op_end Rel) (hofLink : Op_ofLink Rel) (hnext : Op_next Rel) (hfar : Op_far Rel) (hmode : Op_mode Rel) (hsetting : Op_setting Rel) (hticks : Op_ticks Rel) (hhanded : Op_handed Rel) (hkept : Op_kept Rel) (hused : Op_used Rel) (hmeaning : Op_meaning Rel) (hsettles : Op_settles Rel) (hletter : Op_letter Rel) (htrace : Op_trace Rel) (hserved : Op_served Rel) (hmerged : Op_merged Rel) (hmany : Op_many Rel) :
    ∀ (n i : Nat) (x3 : Int32), i ≤ L → L + 1 ≤ i + n → x3 = nI i → ∀ (S M : HSt), Rel S M → ∀ (H : Heap) (locs : List Loc) (ls : Array Slot), HW (dC, dI) (fun _ => wC q cI S ++ wM q2 cI cZ M) hS0 (fun x : Nat => s.heap.size ≤ x) s H locs → lv_has ls 4 [(0, .ref b), (1, .ref (q 0)), (2, .ref (q2 0)), (3, .int x3)] → W p l e room_1 s m #[Value.ref b] below meth c H locs 47 4981 (lw_Z below #[Value.ref b] s) (F0 m 18 ls []) := by
  obtain ⟨hx, hb, hr, hml, hown, hts, hX, hbl, hlocks, hgv⟩ := C0
  have cx : HCx p m c code 4 s #[Value.ref b] lw_tbl RL (dC, dI) cI cZ (fun x : Nat => s.heap.size ≤ x) := ⟨⟨hx, hb, hml, hown, hts⟩, hK, hN, fun _ h => h⟩
  have hbA : ¬ (fun q : Nat => s.heap.size ≤ q) b := Nat.not_le.mpr hbl
  intro n
  induction n with
  | zero =>
    intro i x3 h1 h2
    exact absurd h2 (by omega)
  | succ n ih =>
    intro i x3 hi hin ex3 S M hR H locs ls hw hl
    refine lv_iload_n hx hb dL_law_18 rfl (lv_at hl 3 rfl) ?_
    refine lv_aload_n hx hb dL_law_19 rfl (lv_at hl 0 rfl) ?_
    refine va_slen hx hb hX hbl hbA hw.2.2 dL_law_20 ?_
    refine lv_iconst (v := 5) hx hb dL_law_21 (by decide) ?_
    refine lv_isub hx hb dL_law_22 ?_
    refine lv_icmp_gt (tgt := 824) hx hb dL_law_23 (by decide) (fun c0 => ?_) (fun c0 => ?_)
    · refine lv_iconst (v := 1) hx hb dL_law_824 (by decide) ?_
      refine va_forget (fun q hq => hw.2.2.2.2 q hq) ?_
      exact lw_ret hx hb hr hlocks dL_law_825
    · have hi5 : i + 5 ≤ L := lw_room5 ex3 hL hi c0
      have h_0 : vp_in x3 L := by rw [ex3]; exact lw_in0 hi5 hL
      have h_1 : vp_in (x3 + 1) L := by rw [ex3]; exact lw_in1 hi5 hL
      have h_2 : vp_in (x3 + 2) L := by rw [ex3]; exact lw_in2 hi5 hL
      have h_3 : vp_in (x3 + 3) L := by rw [ex3]; exact lw_in3 hi5 hL
      have h_4 : vp_in (x3 + 4) L := by rw [ex3]; exact lw_in4 hi5 hL
      refine lv_aload_n hx hb dL_law_26 rfl (lv_at hl 0 rfl) ?_
      refine lv_iload_n hx hb dL_law_27 rfl (lv_at hl 3 rfl) ?_
      refine va_sld hx hb hX hbl hbA hw.2.2 h_0 dL_law_28 ?_
      refine lv_bipush (v := 31) hx hb dL_law_29 (by decide) ?_
      refine lv_iand hx hb dL_law_31 ?_
      generalize hz : ((xs (x3).toNatClampNeg) &&& 31) = z
      by_cases c1 : z = 0
      · refine lv_tableIn (off := 96) (tgt := 128) hx hb dL_law_32 (by rw [c1]; decide) (by rw [c1]; decide) (by rw [c1]; rfl) (by decide) ?_
        refine lv_aload_n hx hb dL_law_128 rfl (lv_at hl 1 rfl) ?_
        refine lv_aload_n hx hb dL_law_129 rfl (lv_at hl 0 rfl) ?_
        refine lv_iload_n hx hb dL_law_130 rfl (lv_at hl 3 rfl) ?_
        refine lv_iconst (v := 1) hx hb dL_law_131 (by decide) ?_
        refine lv_iadd hx hb dL_law_132 ?_
        refine va_sld hx hb hX hbl hbA hw.2.2 h_1 dL_law_133 ?_
        refine lv_aload_n hx hb dL_law_134 rfl (lv_at hl 0 rfl) ?_
        refine lv_iload_n hx hb dL_law_135 rfl (lv_at hl 3 rfl) ?_
        refine lv_iconst (v := 2) hx hb dL_law_136 (by decide) ?_
        refine lv_iadd hx hb dL_law_137 ?_
        refine va_sld hx hb hX hbl hbA hw.2.2 h_2 dL_law_138 ?_
        refine lv_aload_n hx hb dL_law_139 rfl (lv_at hl 0 rfl) ?_
        refine lv_iload_n hx hb dL_law_140 rfl (lv_at hl 3 rfl) ?_
        refine lv_iconst (v := 3) hx hb dL_law_141 (by decide) ?_
        refine lv_iadd hx hb dL_law_142 ?_
        refine va_sld hx hb hX hbl hbA hw.2.2 h_3 dL_law_143 ?_
        obtain ⟨r9, S1, M1, e1, e2, hR1⟩ := hlink S M hR (xs ((x3 + 1)).toNatClampNeg) (xs ((x3 + 2)).toNatClampNeg) (xs ((x3 + 3)).toNatClampNeg)
        refine lw_callC cx hw (c_X3_link l dC dI cI cZ q S (xs ((x3 + 1)).toNatClampNeg) (xs ((x3 + 2)).toNatClampNeg) (xs ((x3 + 3)).toNatClampNeg) r9 S1 e1) (cwV 3 hts (hgT (hcV wdL_L_13 wdI_X3_link wdS_X3_link wdN_RX3 wdC_X3_link)) rfl rfl rfl pdX3_link ⟨Nat.le_of_ble_eq_true rfl, Nat.le_of_ble_eq_true rfl⟩) rfl hl.1 rfl (Nat.le_of_ble_eq_true rfl) dL_law_144 ⟨Nat.le_of_ble_eq_true rfl, Nat.le_of_ble_eq_true rfl⟩ (fun H locs hw => ?_)
        refine lv_aload_n hx hb dL_law_147 rfl (lv_at hl 2 rfl) ?_
        refine lv_aload_n hx hb dL_law_148 rfl (lv_at hl 0 rfl) ?_
        refine lv_iload_n hx hb dL_law_149 rfl (lv_at hl 3 rfl) ?_
        refine lv_iconst (v := 1) hx hb dL_law_150 (by decide) ?_
        refine lv_iadd hx hb dL_law_151 ?_
        refine va_sld hx hb hX hbl hbA hw.2.2 h_1 dL_law_152 ?_
        refine lv_aload_n hx hb dL_law_153 rfl (lv_at hl 0 rfl) ?_
        refine lv_iload_n hx hb dL_law_154 rfl (lv_at hl 3 rfl) ?_
        refine lv_iconst (v := 2) hx hb dL_law_155 (by decide) ?_
        refine lv_iadd hx hb dL_law_156 ?_
        refine va_sld hx hb hX hbl hbA hw.2.2 h_2 dL_law_157 ?_
        refine lv_aload_n hx hb dL_law_158 rfl (lv_at hl 0 rfl) ?_
        refine lv_iload_n hx hb dL_law_159 rfl (lv_at hl 3 rfl) ?_
        refine lv_iconst (v := 3) hx hb dL_law_160 (by decide) ?_
        refine lv_iadd hx hb dL_law_161 ?_
        refine va_sld hx hb hX hbl hbA hw.2.2 h_3 dL_law_162 ?_
        refine lw_callM cx hw (c_X4_link l dC dI cI cZ q2 M (xs ((x3 + 1)).toNatClampNeg) (xs ((x3 + 2)).toNatClampNeg) (xs ((x3 + 3)).toNatClampNeg) r9 M1 e2) (cwV 3 hts (hgT (hcV wdL_L_17 wdI_X4_link wdS_X4_link wdN_RX4 wdC_X4_link)) rfl rfl rfl pdX4_link ⟨Nat.le_of_ble_eq_true rfl, Nat.le_of_ble_eq_true rfl⟩) rfl hl.1 rfl (Nat.le_of_ble_eq_true rfl) dL_law_163 ⟨Nat.le_of_ble_eq_true rfl, Nat.le_of_ble_eq_true rfl⟩ (fun H locs hw => ?_)
        refine lv_icmp_eq (tgt := 818) hx hb dL_law_166 (by decide) (fun c2 => ?_) (fun c2 => absurd rfl c2)
        refine lv_iinc (v := x3 + 5) (lv' := [(3, .int (x3 + 5)), (0, .ref b), (1, .ref (q 0)), (2, .ref (q2 0))]) hx hb dL_law_818 hl (k := 3) rfl rfl (by decide) rfl (fun ls hl => ?_)
        refine lv_goto (tgt := 18) hx hb dL_law_821 (by decide) ?_
        exact ih (i + 5) (x3 + 5) hi5 (by omega) (by rw [ex3]; exact lw_5 i) S1 M1 hR1 _ _ _ hw (lv_sub hl [1, 2, 3, 0] rfl)
      · skip
        by_cases c3 : z = 1
        · refine lv_tableIn (off := 139) (tgt := 171) hx hb dL_law_32 (by rw [c3]; decide) (by rw [c3]; decide) (by rw [c3]; rfl) (by decide) ?_
          refine lv_aload_n hx hb dL_law_171 rfl (lv_at hl 1 rfl) ?_
          refine lv_aload_n hx hb dL_law_172 rfl (lv_at hl 0 rfl) ?_
          refine lv_iload_n hx hb dL_law_173 rfl (lv_at hl 3 rfl) ?_
          refine lv_iconst (v := 1) hx hb dL_law_174 (by decide) ?_
          refine lv_iadd hx hb dL_law_175 ?_
          refine va_sld hx hb hX hbl hbA hw.2.2 h_1 dL_law_176 ?_
          refine lv_aload_n hx hb dL_law_177 rfl (lv_at hl 0 rfl) ?_
          refine lv_iload_n hx hb dL_law_178 rfl (lv_at hl 3 rfl) ?_
          refine lv_iconst (v := 2) hx hb dL_law_179 (by decide) ?_
          refine lv_iadd hx hb dL_law_180 ?_
          refine va_sld hx hb hX hbl hbA hw.2.2 h_2 dL_law_181 ?_
          obtain ⟨r9, S1, M1, e1, e2, hR1⟩ := hcost S M hR (xs ((x3 + 1)).toNatClampNeg) (xs ((x3 + 2)).toNatClampNeg)
          refine lw_callC cx hw (c_X3_cost l dC dI cI cZ q S (xs ((x3 + 1)).toNatClampNeg) (xs ((x3 + 2)).toNatClampNeg) r9 S1 e1) (cwV 2 hts (hgT (hcV wdL_L_18 wdI_X3_cost wdS_X3_cost wdN_RX3 wdC_X3_cost)) rfl rfl rfl pdX3_cost ⟨Nat.le_of_ble_eq_true rfl, Nat.le_of_ble_eq_true rfl⟩) rfl hl.1 rfl (Nat.le_of_ble_eq_true rfl) dL_law_182 ⟨Nat.le_of_ble_eq_true rfl, Nat.le_of_ble_eq_true rfl⟩ (fun H locs hw => ?_)
          refine lv_aload_n hx hb dL_law_185 rfl (lv_at hl 2 rfl) ?_
          refine lv_aload_n hx hb dL_law_186 rfl (lv_at hl 0 rfl) ?_
          refine lv_iload_n hx hb dL_law_187 rfl (lv_at hl 3 rfl) ?_
          refine lv_iconst (v := 1) hx hb dL_law_188 (by decide) ?_
          refine lv_iadd hx hb dL_law_189 ?_
          refine va_sld hx hb hX hbl hbA hw.2.2 h_1 dL_law_190 ?_
          refine lv_aload_n hx hb dL_law_191 rfl (lv_at hl 0 rfl) ?_
          refine lv_iload_n hx hb dL_law_192 rfl (lv_at hl 3 rfl) ?_
          refine lv_iconst (v := 2) hx hb dL_law_193 (by decide) ?_
          refine lv_iadd hx hb dL_law_194 ?_
          refine va_sld hx hb hX hbl hbA hw.2.2 h_2 dL_law_195 ?_
          refine lw_callM cx hw (c_X4_cost l dC dI cI cZ q2 M (xs ((x3 + 1)).toNatClampNeg) (xs ((x3 + 2)).toNatClampNeg) r9 M1 e2) (cwV 2 hts (hgT (hcV wdL_L_22 wdI_X4_cost wdS_X4_cost wdN_RX4 wdC_X4_cost)) rfl rfl rfl pdX4_cost ⟨Nat.le_of_ble_eq_true rfl, Nat.le_of_ble_eq_true rfl⟩) rfl hl.1 rfl (Nat.le_of_ble_eq_true rfl) dL_law_196 ⟨Nat.le_of_ble_eq_true rfl, Nat.le_of_ble_eq_true rfl⟩ (fun H locs hw => ?_)
          refine lv_icmp_eq (tgt := 818) hx hb dL_law_199 (by decide) (fun c4 => ?_) (fun c4 => absurd rfl c4)
          refine lv_iinc (v := x3 + 5) (lv' := [(3, .int (x3 + 5)), (0, .ref b), (1, .ref (q 0)), (2, .ref (q2 0))]) hx hb dL_law_818 hl (k := 3) rfl rfl (by decide) rfl (fun ls hl => ?_)
          refine lv_goto (tgt := 18) hx hb dL_law_821 (by decide) ?_
          exact ih (i + 5) (x3 + 5) hi5 (by omega) (by rw [ex3]; exact lw_5 i) S1 M1 hR1 _ _ _ hw (lv_sub hl [1, 2, 3, 0] rfl)
        · skip
          by_cases c5 : z = 2
          · refine lv_tableIn (off := 172) (tgt := 204) hx hb dL_law_32 (by rw [c5]; decide) (by rw [c5]; decide) (by rw [c5]; rfl) (by decide) ?_
            refine lv_aload_n hx hb dL_law_204 rfl (lv_at hl 1 rfl) ?_
            refine lv_aload_n hx hb dL_law_205 rfl (lv_at hl 0 rfl) ?_
            refine lv_iload_n hx hb dL_law_206 rfl (lv_at hl 3 rfl) ?_
            refine lv_iconst (v := 1) hx hb dL_law_207 (by decide) ?_
            refine lv_iadd hx hb dL_law_208 ?_
            refine va_sld hx hb hX hbl hbA hw.2.2 h_1 dL_law_209 ?_
            refine lv_aload_n hx hb dL_law_210 rfl (lv_at hl 0 rfl) ?_
            refine lv_iload_n hx hb dL_law_211 rfl (lv_at hl 3 rfl) ?_
            refine lv_iconst (v := 2) hx hb dL_law_212 (by decide) ?_
            refine lv_iadd hx hb dL_law_213 ?_
            refine va_sld hx hb hX hbl hbA hw.2.2 h_2 dL_law_214 ?_
            obtain ⟨r9, S1, M1, e1, e2, hR1⟩ := hup S M hR (xs ((x3 + 1)).toNatClampNeg) (xs ((x3 + 2)).toNatClampNeg)
            refine lw_callC cx hw (c_X3_up l dC dI cI cZ q S (xs ((x3 + 1)).toNatClampNeg) (xs ((x3 + 2)).toNatClampNeg) r9 S1 e1) (cwV 2 hts (hgT (hcV wdL_L_23 wdI_X3_up wdS_X3_up wdN_RX3 wdC_X3_up)) rfl rfl rfl pdX3_up ⟨Nat.le_of_ble_eq_true rfl, Nat.le_of_ble_eq_true rfl⟩) rfl hl.1 rfl (Nat.le_of_ble_eq_true rfl) dL_law_215 ⟨Nat.le_of_ble_eq_true rfl, Nat.le_of_ble_eq_true rfl⟩ (fun H locs hw => ?_)
            refine lv_aload_n hx hb dL_law_218 rfl (lv_at hl 2 rfl) ?_
            refine lv_aload_n hx hb dL_law_219 rfl (lv_at hl 0 rfl) ?_
            refine lv_iload_n hx hb dL_law_220 rfl (lv_at hl 3 rfl) ?_
            refine lv_iconst (v := 1) hx hb dL_law_221 (by decide) ?_
            refine lv_iadd hx hb dL_law_222 ?_
            refine va_sld hx hb hX hbl hbA hw.2.2 h_1 dL_law_223 ?_
            refine lv_aload_n hx hb dL_law_224 rfl (lv_at hl 0 rfl) ?_
            refine lv_iload_n hx hb dL_law_225 rfl (lv_at hl 3 rfl) ?_
            refine lv_iconst (v := 2) hx hb dL_law_226 (by decide) ?_
            refine lv_iadd hx hb dL_law_227 ?_
            refine va_sld hx hb hX hbl hbA hw.2.2 h_2 dL_law_228 ?_
            refine lw_callM cx hw (c_X4_up l dC dI cI cZ q2 M (xs ((x3 + 1)).toNatClampNeg) (xs ((x3 + 2)).toNatClampNeg) r9 M1 e2) (cwV 2 hts (hgT (hcV wdL_L_26 wdI_X4_up wdS_X4_up wdN_RX4 wdC_X4_up)) rfl rfl rfl pdX4_up ⟨Nat.le_of_ble_eq_true rfl, Nat.le_of_ble_eq_true rfl⟩) rfl hl.1 rfl (Nat.le_of_ble_eq_true rfl) dL_law_229 ⟨Nat.le_of_ble_eq_true rfl, Nat.le_of_ble_eq_true rfl⟩ (fun H locs hw => ?_)
            refine lv_icmp_eq (tgt := 818) hx hb dL_law_232 (by decide) (fun c6 => ?_) (fun c6 => absurd rfl c6)
            refine lv_iinc (v := x3 + 5) (lv' := [(3, .int (x3 + 5)), (0, .ref b), (1, .ref (q 0)), (2, .ref (q2 0))]) hx hb dL_law_818 hl (k := 3) rfl rfl (by decide) rfl (fun ls hl => ?_)
            refine lv_goto (tgt := 18) hx hb dL_law_821 (by decide) ?_
            exact ih (i + 5) (x3 + 5) hi5 (by omega) (by rw [ex3]; exact lw_5 i) S1 M1 hR1 _ _ _ hw (lv_sub hl [1, 2, 3, 0] rfl)
          · skip
            by_cases c7 : z = 3
            · refine lv_tableIn (off := 205) (tgt := 237) hx hb dL_law_32 (by rw [c7]; decide) (by rw [c7]; decide) (by rw [c7]; rfl) (by decide) ?_
              refine lv_aload_n hx hb dL_law_237 rfl (lv_at hl 1 rfl) ?_
              refine lv_aload_n hx hb dL_law_238 rfl (lv_at hl 0 rfl) ?_
              refine lv_iload_n hx hb dL_law_239 rfl (lv_at hl 3 rfl) ?_
              refine lv_iconst (v := 1) hx hb dL_law_240 (by decide) ?_
              refine lv_iadd hx hb dL_law_241 ?_
              refine va_sld hx hb hX hbl hbA hw.2.2 h_1 dL_law_242 ?_
              refine lv_aload_n hx hb dL_law_243 rfl (lv_at hl 0 rfl) ?_
              refine lv_iload_n hx hb dL_law_244 rfl (lv_at hl 3 rfl) ?_
              refine lv_iconst (v := 2) hx hb dL_law_245 (by decide) ?_
              refine lv_iadd hx hb dL_law_246 ?_
              refine va_sld hx hb hX hbl hbA hw.2.2 h_2 dL_law_247 ?_
              obtain ⟨r9, S1, M1, e1, e2, hR1⟩ := hend S M hR (xs ((x3 + 1)).toNatClampNeg) (xs ((x3 + 2)).toNatClampNeg)
              refine lw_callC cx hw (c_X3_end l dC dI cI cZ q S (xs ((x3 + 1)).toNatClampNeg) (xs ((x3 + 2)).toNatClampNeg) r9 S1 e1) (cwV 2 hts (hgT (hcV wdL_L_27 wdI_X3_end wdS_X3_end wdN_RX3 wdC_X3_end)) rfl rfl rfl pdX3_end ⟨Nat.le_of_ble_eq_true rfl, Nat.le_of_ble_eq_true rfl⟩) rfl hl.1 rfl (Nat.le_of_ble_eq_true rfl) dL_law_248 ⟨Nat.le_of_ble_eq_true rfl, Nat.le_of_ble_eq_true rfl⟩ (fun H locs hw => ?_)
              refine lv_aload_n hx hb dL_law_251 rfl (lv_at hl 2 rfl) ?_
              refine lv_aload_n hx hb dL_law_252 rfl (lv_at hl 0 rfl) ?_
              refine lv_iload_n hx hb dL_law_253 rfl (lv_at hl 3 rfl) ?_
              refine lv_iconst (v := 1) hx hb dL_law_254 (by decide) ?_
              refine lv_iadd hx hb dL_law_255 ?_
              refine va_sld hx hb hX hbl hbA hw.2.2 h_1 dL_law_256 ?_
              refine lv_aload_n hx hb dL_law_257 rfl (lv_at hl 0 rfl) ?_
              refine lv_iload_n hx hb dL_law_258 rfl (lv_at hl 3 rfl) ?_
              refine lv_iconst (v := 2) hx hb dL_law_259 (by decide) ?_
              refine lv_iadd hx hb dL_law_260 ?_
              refine va_sld hx hb hX hbl hbA hw.2.2 h_2 dL_law_261 ?_
              refine lw_callM cx hw (c_X4_end l dC dI cI cZ q2 M (xs ((x3 + 1)).toNatClampNeg) (xs ((x3 + 2)).toNatClampNeg) r9 M1 e2) (cwV 2 hts (hgT (hcV wdL_L_30 wdI_X4_end wdS_X4_end wdN_RX4 wdC_X4_end)) rfl rfl rfl pdX4_end ⟨Nat.le_of_ble_eq_true rfl, Nat.le_of_ble_eq_true rfl⟩) rfl hl.1 rfl (Nat.le_of_ble_eq_true rfl) dL_law_262 ⟨Nat.le_of_ble_eq_true rfl, Nat.le_of_ble_eq_true rfl⟩ (fun H locs hw => ?_)
              refine lv_icmp_eq (tgt := 818) hx hb dL_law_265 (by decide) (fun c8 => ?_) (fun c8 => absurd rfl c8)
              refine lv_iinc (v := x3 + 5) (lv' := [(3, .int (x3 + 5)), (0, .ref b), (1, .ref (q 0)), (2, .ref (q2 0))]) hx hb dL_law_818 hl (k := 3) rfl rfl (by decide) rfl (fun ls hl => ?_)
              refine lv_goto (tgt := 18) hx hb dL_law_821 (by decide) ?_
              exact ih (i + 5) (x3 + 5) hi5 (by omega) (by rw [ex3]; exact lw_5 i) S1 M1 hR1 _ _ _ hw (lv_sub hl [1, 2, 3, 0] rfl)
            · skip
              by_cases c9 : z = 4
              · refine lv_tableIn (off := 238) (tgt := 270) hx hb dL_law_32 (by rw [c9]; decide) (by rw [c9]; decide) (by rw [c9]; rfl) (by decide) ?_
                refine lv_aload_n hx hb dL_law_270 rfl (lv_at hl 1 rfl) ?_
                refine lv_aload_n hx hb dL_law_271 rfl (lv_at hl 0 rfl) ?_
                refine lv_iload_n hx hb dL_law_272 rfl (lv_at hl 3 rfl) ?_
                refine lv_iconst (v := 1) hx hb dL_law_273 (by decide) ?_
                refine lv_iadd hx hb dL_law_274 ?_
                refine va_sld hx hb hX hbl hbA hw.2.2 h_1 dL_law_275 ?_
                refine lv_aload_n hx hb dL_law_276 rfl (lv_at hl 0 rfl) ?_
                refine lv_iload_n hx hb dL_law_277 rfl (lv_at hl 3 rfl) ?_
                refine lv_iconst (v := 2) hx hb dL_law_278 (by decide) ?_
                refine lv_iadd hx hb dL_law_279 ?_
                refine va_sld hx hb hX hbl hbA hw.2.2 h_2 dL_law_280 ?_
                obtain ⟨r9, e1, e2, hR1⟩ := hofLink S M hR (xs ((x3 + 1)).toNatClampNeg) (xs ((x3 + 2)).toNatClampNeg)
                refine lw_callC cx hw (c_X3_ofLink l dC dI cI cZ q S (xs ((x3 + 1)).toNatClampNeg) (xs ((x3 + 2)).toNatClampNeg) r9 e1) (cwV 2 hts (hgT (hcV wdL_L_31 wdI_X3_ofLink wdS_X3_ofLink wdN_RX3 wdC_X3_ofLink)) rfl rfl rfl pdX3_ofLink ⟨Nat.le_of_ble_eq_true rfl, Nat.le_of_ble_eq_true rfl⟩) rfl hl.1 rfl (Nat.le_of_ble_eq_true rfl) dL_law_281 ⟨Nat.le_of_ble_eq_true rfl, Nat.le_of_ble_eq_true rfl⟩ (fun H locs hw => ?_)
                refine lv_aload_n hx hb dL_law_284 rfl (lv_at hl 2 rfl) ?_
                refine lv_aload_n hx hb dL_law_285 rfl (lv_at hl 0 rfl) ?_
                refine lv_iload_n hx hb dL_law_286 rfl (lv_at hl 3 rfl) ?_
                refine lv_iconst (v := 1) hx hb dL_law_287 (by decide) ?_
                refine lv_iadd hx hb dL_law_288 ?_
                refine va_sld hx hb hX hbl hbA hw.2.2 h_1 dL_law_289 ?_
                refine lv_aload_n hx hb dL_law_290 rfl (lv_at hl 0 rfl) ?_
                refine lv_iload_n hx hb dL_law_291 rfl (lv_at hl 3 rfl) ?_
                refine lv_iconst (v := 2) hx hb dL_law_292 (by decide) ?_
                refine lv_iadd hx hb dL_law_293 ?_
                refine va_sld hx hb hX hbl hbA hw.2.2 h_2 dL_law_294 ?_
                refine lw_callM cx hw (c_X4_ofLink l dC dI cI cZ q2 M (xs ((x3 + 1)).toNatClampNeg) (xs ((x3 + 2)).toNatClampNeg) r9 e2) (cwV 2 hts (hgT (hcV wdL_L_34 wdI_X4_ofLink wdS_X4_ofLink wdN_RX4 wdC_X4_ofLink)) rfl rfl rfl pdX4_ofLink ⟨Nat.le_of_ble_eq_true rfl, Nat.le_of_ble_eq_true rfl⟩) rfl hl.1 rfl (Nat.le_of_ble_eq_true rfl) dL_law_295 ⟨Nat.le_of_ble_eq_true rfl, Nat.le_of_ble_eq_true rfl⟩ (fun H locs hw => ?_)
                refine lv_icmp_eq (tgt := 818) hx hb dL_law_298 (by decide) (fun c10 => ?_) (fun c10 => absurd rfl c10)
                refine lv_iinc (v := x3 + 5) (lv' := [(3, .int (x3 + 5)), (0, .ref b), (1, .ref (q 0)), (2, .ref (q2 0))]) hx hb dL_law_818 hl (k := 3) rfl rfl (by decide) rfl (fun ls hl => ?_)
                refine lv_goto (tgt := 18) hx hb dL_law_821 (by decide) ?_
                exact ih (i + 5) (x3 + 5) hi5 (by omega) (by rw [ex3]; exact lw_5 i) S M hR1 _ _ _ hw (lv_sub hl [1, 2, 3, 0] rfl)
              · skip
                by_cases c11 : z = 5
                · refine lv_tableIn (off := 271) (tgt := 303) hx hb dL_law_32 (by rw [c11]; decide) (by rw [c11]; decide) (by rw [c11]; rfl) (by decide) ?_
                  refine lv_aload_n hx hb dL_law_303 rfl (lv_at hl 1 rfl) ?_
                  refine lv_aload_n hx hb dL_law_304 rfl (lv_at hl 0 rfl) ?_
                  refine lv_iload_n hx hb dL_law_305 rfl (lv_at hl 3 rfl) ?_
                  refine lv_iconst (v := 1) hx hb dL_law_306 (by decide) ?_
                  refine lv_iadd hx hb dL_law_307 ?_
                  refine va_sld hx hb hX hbl hbA hw.2.2 h_1 dL_law_308 ?_
                  refine lv_aload_n hx hb dL_law_309 rfl (lv_at hl 0 rfl) ?_
                  refine lv_iload_n hx hb dL_law_310 rfl (lv_at hl 3 rfl) ?_
                  refine lv_iconst (v := 2) hx hb dL_law_311 (by decide) ?_
                  refine lv_iadd hx hb dL_law_312 ?_
                  refine va_sld hx hb hX hbl hbA hw.2.2 h_2 dL_law_313 ?_
                  obtain ⟨r9, M1, e1, e2, hR1⟩ := hnext S M hR (xs ((x3 + 1)).toNatClampNeg) (xs ((x3 + 2)).toNatClampNeg)
                  refine lw_callC cx hw (c_X3_next l dC dI cI cZ q S (xs ((x3 + 1)).toNatClampNeg) (xs ((x3 + 2)).toNatClampNeg) r9 e1) (cwV 2 hts (hgT (hcV wdL_L_35 wdI_X3_next wdS_X3_next wdN_RX3 wdC_X3_next)) rfl rfl rfl pdX3_next ⟨Nat.le_of_ble_eq_true rfl, Nat.le_of_ble_eq_true rfl⟩) rfl hl.1 rfl (Nat.le_of_ble_eq_true rfl) dL_law_314 ⟨Nat.le_of_ble_eq_true rfl, Nat.le_of_ble_eq_true rfl⟩ (fun H locs hw => ?_)
                  refine lv_aload_n hx hb dL_law_317 rfl (lv_at hl 2 rfl) ?_
                  refine lv_aload_n hx hb dL_law_318 rfl (lv_at hl 0 rfl) ?_
                  refine lv_iload_n hx hb dL_law_319 rfl (lv_at hl 3 rfl) ?_
                  refine lv_iconst (v := 1) hx hb dL_law_320 (by decide) ?_
                  refine lv_iadd hx hb dL_law_321 ?_
                  refine va_sld hx hb hX hbl hbA hw.2.2 h_1 dL_law_322 ?_
                  refine lv_aload_n hx hb dL_law_323 rfl (lv_at hl 0 rfl) ?_
                  refine lv_iload_n hx hb dL_law_324 rfl (lv_at hl 3 rfl) ?_
                  refine lv_iconst (v := 2) hx hb dL_law_325 (by decide) ?_
                  refine lv_iadd hx hb dL_law_326 ?_
                  refine va_sld hx hb hX hbl hbA hw.2.2 h_2 dL_law_327 ?_
                  refine lw_callM cx hw (c_X4_next l dC dI cI cZ q2 M (xs ((x3 + 1)).toNatClampNeg) (xs ((x3 + 2)).toNatClampNeg) r9 M1 e2) (cwV 2 hts (hgT (hcV wdL_L_38 wdI_X4_next wdS_X4_next wdN_RX4 wdC_X4_next)) rfl rfl rfl pdX4_next ⟨Nat.le_of_ble_eq_true rfl, Nat.le_of_ble_eq_true rfl⟩) rfl hl.1 rfl (Nat.le_of_ble_eq_true rfl) dL_law_328 ⟨Nat.le_of_ble_eq_true rfl, Nat.le_of_ble_eq_true rfl⟩ (fun H locs hw => ?_)
                  refine lv_icmp_eq (tgt := 818) hx hb dL_law_331 (by decide) (fun c12 => ?_) (fun c12 => absurd rfl c12)
                  refine lv_iinc (v := x3 + 5) (lv' := [(3, .int (x3 + 5)), (0, .ref b), (1, .ref (q 0)), (2, .ref (q2 0))]) hx hb dL_law_818 hl (k := 3) rfl rfl (by decide) rfl (fun ls hl => ?_)
                  refine lv_goto (tgt := 18) hx hb dL_law_821 (by decide) ?_
                  exact ih (i + 5) (x3 + 5) hi5 (by omega) (by rw [ex3]; exact lw_5 i) S M1 hR1 _ _ _ hw (lv_sub hl [1, 2, 3, 0] rfl)
                · skip
                  by_cases c13 : z = 6
                  · refine lv_tableIn (off := 304) (tgt := 336) hx hb dL_law_32 (by rw [c13]; decide) (by rw [c13]; decide) (by rw [c13]; rfl) (by decide) ?_
                    refine lv_aload_n hx hb dL_law_336 rfl (lv_at hl 1 rfl) ?_
                    refine lv_aload_n hx hb dL_law_337 rfl (lv_at hl 0 rfl) ?_
                    refine lv_iload_n hx hb dL_law_338 rfl (lv_at hl 3 rfl) ?_
                    refine lv_iconst (v := 1) hx hb dL_law_339 (by decide) ?_
                    refine lv_iadd hx hb dL_law_340 ?_
                    refine va_sld hx hb hX hbl hbA hw.2.2 h_1 dL_law_341 ?_
                    refine lv_aload_n hx hb dL_law_342 rfl (lv_at hl 0 rfl) ?_
                    refine lv_iload_n hx hb dL_law_343 rfl (lv_at hl 3 rfl) ?_
                    refine lv_iconst (v := 2) hx hb dL_law_344 (by decide) ?_
                    refine lv_iadd hx hb dL_law_345 ?_
                    refine va_sld hx hb hX hbl hbA hw.2.2 h_2 dL_law_346 ?_
                    obtain ⟨r9, M1, e1, e2, hR1⟩ := hfar S M hR (xs ((x3 + 1)).toNatClampNeg) (xs ((x3 + 2)).toNatClampNeg)
                    refine lw_callC cx hw (c_X3_far l dC dI cI cZ q S (xs ((x3 + 1)).toNatClampNeg) (xs ((x3 + 2)).toNatClampNeg) r9 e1) (cwV 2 hts (hgT (hcV wdL_L_39 wdI_X3_far wdS_X3_far wdN_RX3 wdC_X3_far)) rfl rfl rfl pdX3_far ⟨Nat.le_of_ble_eq_true rfl, Nat.le_of_ble_eq_true rfl⟩) rfl hl.1 rfl (Nat.le_of_ble_eq_true rfl) dL_law_347 ⟨Nat.le_of_ble_eq_true rfl, Nat.le_of_ble_eq_true rfl⟩ (fun H locs hw => ?_)
                    refine lv_aload_n hx hb dL_law_350 rfl (lv_at hl 2 rfl) ?_
                    refine lv_aload_n hx hb dL_law_351 rfl (lv_at hl 0 rfl) ?_
                    refine lv_iload_n hx hb dL_law_352 rfl (lv_at hl 3 rfl) ?_
                    refine lv_iconst (v := 1) hx hb dL_law_353 (by decide) ?_
                    refine lv_iadd hx hb dL_law_354 ?_
                    refine va_sld hx hb hX hbl hbA hw.2.2 h_1 dL_law_355 ?_
                    refine lv_aload_n hx hb dL_law_356 rfl (lv_at hl 0 rfl) ?_
                    refine lv_iload_n hx hb dL_law_357 rfl (lv_at hl 3 rfl) ?_
                    refine lv_iconst (v := 2) hx hb dL_law_358 (by decide) ?_
                    refine lv_iadd hx hb dL_law_359 ?_
                    refine va_sld hx hb hX hbl hbA hw.2.2 h_2 dL_law_360 ?_
                    refine lw_callM cx hw (c_X4_far l dC dI cI cZ q2 M (xs ((x3 + 1)).toNatClampNeg) (xs ((x3 + 2)).toNatClampNeg) r9 M1 e2) (cwV 2 hts (hgT (hcV wdL_L_42 wdI_X4_far wdS_X4_far wdN_RX4 wdC_X4_far)) rfl rfl rfl pdX4_far ⟨Nat.le_of_ble_eq_true rfl, Nat.le_of_ble_eq_true rfl⟩) rfl hl.1 rfl (Nat.le_of_ble_eq_true rfl) dL_law_361 ⟨Nat.le_of_ble_eq_true rfl, Nat.le_of_ble_eq_true rfl⟩ (fun H locs hw => ?_)
                    refine lv_icmp_eq (tgt := 818) hx hb dL_law_364 (by decide) (fun c14 => ?_) (fun c14 => absurd rfl c14)
                    refine lv_iinc (v := x3 + 5) (lv' := [(3, .int (x3 + 5)), (0, .ref b), (1, .ref (q 0)), (2, .ref (q2 0))]) hx hb dL_law_818 hl (k := 3) rfl rfl (by decide) rfl (fun ls hl => ?_)
                    refine lv_goto (tgt := 18) hx hb dL_law_821 (by decide) ?_
                    exact ih (i + 5) (x3 + 5) hi5 (by omega) (by rw [ex3]; exact lw_5 i) S M1 hR1 _ _ _ hw (lv_sub hl [1, 2, 3, 0] rfl)
                  · skip
                    by_cases c15 : z = 7
                    · refine lv_tableIn (off := 337) (tgt := 369) hx hb dL_law_32 (by rw [c15]; decide) (by rw [c15]; decide) (by rw [c15]; rfl) (by decide) ?_
                      refine lv_aload_n hx hb dL_law_369 rfl (lv_at hl 1 rfl) ?_
                      refine lv_aload_n hx hb dL_law_370 rfl (lv_at hl 0 rfl) ?_
                      refine lv_iload_n hx hb dL_law_371 rfl (lv_at hl 3 rfl) ?_
                      refine lv_iconst (v := 1) hx hb dL_law_372 (by decide) ?_
                      refine lv_iadd hx hb dL_law_373 ?_
                      refine va_sld hx hb hX hbl hbA hw.2.2 h_1 dL_law_374 ?_
                      refine lv_aload_n hx hb dL_law_375 rfl (lv_at hl 0 rfl) ?_
                      refine lv_iload_n hx hb dL_law_376 rfl (lv_at hl 3 rfl) ?_
                      refine lv_iconst (v := 2) hx hb dL_law_377 (by decide) ?_
                      refine lv_iadd hx hb dL_law_378 ?_
                      refine va_sld hx hb hX hbl hbA hw.2.2 h_2 dL_law_379 ?_
                      refine lv_aload_n hx hb dL_law_380 rfl (lv_at hl 0 rfl) ?_
                      refine lv_iload_n hx hb dL_law_381 rfl (lv_at hl 3 rfl) ?_
                      refine lv_iconst (v := 3) hx hb dL_law_382 (by decide) ?_
                      refine lv_iadd hx hb dL_law_383 ?_
                      refine va_sld hx hb hX hbl hbA hw.2.2 h_3 dL_law_384 ?_
                      obtain ⟨r9, S1, M1, e1, e2, hR1⟩ := hmode S M hR (xs ((x3 + 1)).toNatClampNeg) (xs ((x3 + 2)).toNatClampNeg) (xs ((x3 + 3)).toNatClampNeg)
                      refine lw_callC cx hw (c_X3_mode l dC dI cI cZ q S (xs ((x3 + 1)).toNatClampNeg) (xs ((x3 + 2)).toNatClampNeg) (xs ((x3 + 3)).toNatClampNeg) r9 S1 e1) (cwV 3 hts (hgT (hcV wdL_L_43 wdI_X3_mode wdS_X3_mode wdN_RX3 wdC_X3_mode)) rfl rfl rfl pdX3_mode ⟨Nat.le_of_ble_eq_true rfl, Nat.le_of_ble_eq_true rfl⟩) rfl hl.1 rfl (Nat.le_of_ble_eq_true rfl) dL_law_385 ⟨Nat.le_of_ble_eq_true rfl, Nat.le_of_ble_eq_true rfl⟩ (fun H locs hw => ?_)
                      refine lv_aload_n hx hb dL_law_388 rfl (lv_at hl 2 rfl) ?_
                      refine lv_aload_n hx hb dL_law_389 rfl (lv_at hl 0 rfl) ?_
                      refine lv_iload_n hx hb dL_law_390 rfl (lv_at hl 3 rfl) ?_
                      refine lv_iconst (v := 1) hx hb dL_law_391 (by decide) ?_
                      refine lv_iadd hx hb dL_law_392 ?_
                      refine va_sld hx hb hX hbl hbA hw.2.2 h_1 dL_law_393 ?_
                      refine lv_aload_n hx hb dL_law_394 rfl (lv_at hl 0 rfl) ?_
                      refine lv_iload_n hx hb dL_law_395 rfl (lv_at hl 3 rfl) ?_
                      refine lv_iconst (v := 2) hx hb dL_law_396 (by decide) ?_
                      refine lv_iadd hx hb dL_law_397 ?_
                      refine va_sld hx hb hX hbl hbA hw.2.2 h_2 dL_law_398 ?_
                      refine lv_aload_n hx hb dL_law_399 rfl (lv_at hl 0 rfl) ?_
                      refine lv_iload_n hx hb dL_law_400 rfl (lv_at hl 3 rfl) ?_
                      refine lv_iconst (v := 3) hx hb dL_law_401 (by decide) ?_
                      refine lv_iadd hx hb dL_law_402 ?_
                      refine va_sld hx hb hX hbl hbA hw.2.2 h_3 dL_law_403 ?_
                      refine lw_callM cx hw (c_X4_mode l dC dI cI cZ q2 M (xs ((x3 + 1)).toNatClampNeg) (xs ((x3 + 2)).toNatClampNeg) (xs ((x3 + 3)).toNatClampNeg) r9 M1 e2) (cwV 3 hts (hgT (hcV wdL_L_46 wdI_X4_mode wdS_X4_mode wdN_RX4 wdC_X4_mode)) rfl rfl rfl pdX4_mode ⟨Nat.le_of_ble_eq_true rfl, Nat.le_of_ble_eq_true rfl⟩) rfl hl.1 rfl (Nat.le_of_ble_eq_true rfl) dL_law_404 ⟨Nat.le_of_ble_eq_true rfl, Nat.le_of_ble_eq_true rfl⟩ (fun H locs hw => ?_)
                      refine lv_icmp_eq (tgt := 818) hx hb dL_law_407 (by decide) (fun c16 => ?_) (fun c16 => absurd rfl c16)
                      refine lv_iinc (v := x3 + 5) (lv' := [(3, .int (x3 + 5)), (0, .ref b), (1, .ref (q 0)), (2, .ref (q2 0))]) hx hb dL_law_818 hl (k := 3) rfl rfl (by decide) rfl (fun ls hl => ?_)
                      refine lv_goto (tgt := 18) hx hb dL_law_821 (by decide) ?_
                      exact ih (i + 5) (x3 + 5) hi5 (by omega) (by rw [ex3]; exact lw_5 i) S1 M1 hR1 _ _ _ hw (lv_sub hl [1, 2, 3, 0] rfl)
                    · skip
                      by_cases c17 : z = 8
                      · refine lv_tableIn (off := 380) (tgt := 412) hx hb dL_law_32 (by rw [c17]; decide) (by rw [c17]; decide) (by rw [c17]; rfl) (by decide) ?_
                        refine lv_aload_n hx hb dL_law_412 rfl (lv_at hl 1 rfl) ?_
                        refine lv_aload_n hx hb dL_law_413 rfl (lv_at hl 0 rfl) ?_
                        refine lv_iload_n hx hb dL_law_414 rfl (lv_at hl 3 rfl) ?_
                        refine lv_iconst (v := 1) hx hb dL_law_415 (by decide) ?_
                        refine lv_iadd hx hb dL_law_416 ?_
                        refine va_sld hx hb hX hbl hbA hw.2.2 h_1 dL_law_417 ?_
                        refine lv_aload_n hx hb dL_law_418 rfl (lv_at hl 0 rfl) ?_
                        refine lv_iload_n hx hb dL_law_419 rfl (lv_at hl 3 rfl) ?_
                        refine lv_iconst (v := 2) hx hb dL_law_420 (by decide) ?_
                        refine lv_iadd hx hb dL_law_421 ?_
                        refine va_sld hx hb hX hbl hbA hw.2.2 h_2 dL_law_422 ?_
                        obtain ⟨r9, S1, M1, e1, e2, hR1⟩ := hsetting S M hR (xs ((x3 + 1)).toNatClampNeg) (xs ((x3 + 2)).toNatClampNeg)
                        refine lw_callC cx hw (c_X3_setting l dC dI cI cZ q S (xs ((x3 + 1)).toNatClampNeg) (xs ((x3 + 2)).toNatClampNeg) r9 S1 e1) (cwV 2 hts (hgT (hcV wdL_L_47 wdI_X3_setting wdS_X3_setting wdN_RX3 wdC_X3_setting)) rfl rfl rfl pdX3_setting ⟨Nat.le_of_ble_eq_true rfl, Nat.le_of_ble_eq_true rfl⟩) rfl hl.1 rfl (Nat.le_of_ble_eq_true rfl) dL_law_423 ⟨Nat.le_of_ble_eq_true rfl, Nat.le_of_ble_eq_true rfl⟩ (fun H locs hw => ?_)
                        refine lv_aload_n hx hb dL_law_426 rfl (lv_at hl 2 rfl) ?_
                        refine lv_aload_n hx hb dL_law_427 rfl (lv_at hl 0 rfl) ?_
                        refine lv_iload_n hx hb dL_law_428 rfl (lv_at hl 3 rfl) ?_
                        refine lv_iconst (v := 1) hx hb dL_law_429 (by decide) ?_
                        refine lv_iadd hx hb dL_law_430 ?_
                        refine va_sld hx hb hX hbl hbA hw.2.2 h_1 dL_law_431 ?_
                        refine lv_aload_n hx hb dL_law_432 rfl (lv_at hl 0 rfl) ?_
                        refine lv_iload_n hx hb dL_law_433 rfl (lv_at hl 3 rfl) ?_
                        refine lv_iconst (v := 2) hx hb dL_law_434 (by decide) ?_
                        refine lv_iadd hx hb dL_law_435 ?_
                        refine va_sld hx hb hX hbl hbA hw.2.2 h_2 dL_law_436 ?_
                        refine lw_callM cx hw (c_X4_setting l dC dI cI cZ q2 M (xs ((x3 + 1)).toNatClampNeg) (xs ((x3 + 2)).toNatClampNeg) r9 M1 e2) (cwV 2 hts (hgT (hcV wdL_L_50 wdI_X4_setting wdS_X4_setting wdN_RX4 wdC_X4_setting)) rfl rfl rfl pdX4_setting ⟨Nat.le_of_ble_eq_true rfl, Nat.le_of_ble_eq_true rfl⟩) rfl hl.1 rfl (Nat.le_of_ble_eq_true rfl) dL_law_437 ⟨Nat.le_of_ble_eq_true rfl, Nat.le_of_ble_eq_true rfl⟩ (fun H locs hw => ?_)
                        refine lv_icmp_eq (tgt := 818) hx hb dL_law_440 (by decide) (fun c18 => ?_) (fun c18 => absurd rfl c18)
                        refine lv_iinc (v := x3 + 5) (lv' := [(3, .int (x3 + 5)), (0, .ref b), (1, .ref (q 0)), (2, .ref (q2 0))]) hx hb dL_law_818 hl (k := 3) rfl rfl (by decide) rfl (fun ls hl => ?_)
                        refine lv_goto (tgt := 18) hx hb dL_law_821 (by decide) ?_
                        exact ih (i + 5) (x3 + 5) hi5 (by omega) (by rw [ex3]; exact lw_5 i) S1 M1 hR1 _ _ _ hw (lv_sub hl [1, 2, 3, 0] rfl)
                      · skip
                        by_cases c19 : z = 9
                        · refine lv_tableIn (off := 413) (tgt := 445) hx hb dL_law_32 (by rw [c19]; decide) (by rw [c19]; decide) (by rw [c19]; rfl) (by decide) ?_
                          refine lv_aload_n hx hb dL_law_445 rfl (lv_at hl 1 rfl) ?_
                          refine lv_aload_n hx hb dL_law_446 rfl (lv_at hl 0 rfl) ?_
                          refine lv_iload_n hx hb dL_law_447 rfl (lv_at hl 3 rfl) ?_
                          refine lv_iconst (v := 1) hx hb dL_law_448 (by decide) ?_
                          refine lv_iadd hx hb dL_law_449 ?_
                          refine va_sld hx hb hX hbl hbA hw.2.2 h_1 dL_law_450 ?_
                          obtain ⟨r9, S1, M1, e1, e2, hR1⟩ := hticks S M hR (xs ((x3 + 1)).toNatClampNeg)
                          refine lw_callC cx hw (c_X3_ticks l dC dI cI cZ q S (xs ((x3 + 1)).toNatClampNeg) r9 S1 e1) (cwV 1 hts (hgT (hcV wdL_L_51 wdI_X3_ticks wdS_X3_ticks wdN_RX3 wdC_X3_ticks)) rfl rfl rfl pdX3_ticks ⟨Nat.le_of_ble_eq_true rfl, Nat.le_of_ble_eq_true rfl⟩) rfl hl.1 rfl (Nat.le_of_ble_eq_true rfl) dL_law_451 ⟨Nat.le_of_ble_eq_true rfl, Nat.le_of_ble_eq_true rfl⟩ (fun H locs hw => ?_)
                          refine lv_aload_n hx hb dL_law_454 rfl (lv_at hl 2 rfl) ?_
                          refine lv_aload_n hx hb dL_law_455 rfl (lv_at hl 0 rfl) ?_
                          refine lv_iload_n hx hb dL_law_456 rfl (lv_at hl 3 rfl) ?_
                          refine lv_iconst (v := 1) hx hb dL_law_457 (by decide) ?_
                          refine lv_iadd hx hb dL_law_458 ?_
                          refine va_sld hx hb hX hbl hbA hw.2.2 h_1 dL_law_459 ?_
                          refine lw_callM cx hw (c_X4_ticks l dC dI cI cZ q2 M (xs ((x3 + 1)).toNatClampNeg) r9 M1 e2) (cwV 1 hts (hgT (hcV wdL_L_55 wdI_X4_ticks wdS_X4_ticks wdN_RX4 wdC_X4_ticks)) rfl rfl rfl pdX4_ticks ⟨Nat.le_of_ble_eq_true rfl, Nat.le_of_ble_eq_true rfl⟩) rfl hl.1 rfl (Nat.le_of_ble_eq_true rfl) dL_law_460 ⟨Nat.le_of_ble_eq_true rfl, Nat.le_of_ble_eq_true rfl⟩ (fun H locs hw => ?_)
                          refine lv_icmp_eq (tgt := 818) hx hb dL_law_463 (by decide) (fun c20 => ?_) (fun c20 => absurd rfl c20)
                          refine lv_iinc (v := x3 + 5) (lv' := [(3, .int (x3 + 5)), (0, .ref b), (1, .ref (q 0)), (2, .ref (q2 0))]) hx hb dL_law_818 hl (k := 3) rfl rfl (by decide) rfl (fun ls hl => ?_)
                          refine lv_goto (tgt := 18) hx hb dL_law_821 (by decide) ?_
                          exact ih (i + 5) (x3 + 5) hi5 (by omega) (by rw [ex3]; exact lw_5 i) S1 M1 hR1 _ _ _ hw (lv_sub hl [1, 2, 3, 0] rfl)
                        · skip
                          by_cases c21 : z = 10
                          · refine lv_tableIn (off := 436) (tgt := 468) hx hb dL_law_32 (by rw [c21]; decide) (by rw [c21]; decide) (by rw [c21]; rfl) (by decide) ?_
                            refine lv_aload_n hx hb dL_law_468 rfl (lv_at hl 1 rfl) ?_
                            refine lv_aload_n hx hb dL_law_469 rfl (lv_at hl 0 rfl) ?_
                            refine lv_iload_n hx hb dL_law_470 rfl (lv_at hl 3 rfl) ?_
                            refine lv_iconst (v := 1) hx hb dL_law_471 (by decide) ?_
                            refine lv_iadd hx hb dL_law_472 ?_
                            refine va_sld hx hb hX hbl hbA hw.2.2 h_1 dL_law_473 ?_
                            refine lv_aload_n hx hb dL_law_474 rfl (lv_at hl 0 rfl) ?_
                            refine lv_iload_n hx hb dL_law_475 rfl (lv_at hl 3 rfl) ?_
                            refine lv_iconst (v := 2) hx hb dL_law_476 (by decide) ?_
                            refine lv_iadd hx hb dL_law_477 ?_
                            refine va_sld hx hb hX hbl hbA hw.2.2 h_2 dL_law_478 ?_
                            refine lv_aload_n hx hb dL_law_479 rfl (lv_at hl 0 rfl) ?_
                            refine lv_iload_n hx hb dL_law_480 rfl (lv_at hl 3 rfl) ?_
                            refine lv_iconst (v := 3) hx hb dL_law_481 (by decide) ?_
                            refine lv_iadd hx hb dL_law_482 ?_
                            refine va_sld hx hb hX hbl hbA hw.2.2 h_3 dL_law_483 ?_
                            refine lv_aload_n hx hb dL_law_484 rfl (lv_at hl 0 rfl) ?_
                            refine lv_iload_n hx hb dL_law_485 rfl (lv_at hl 3 rfl) ?_
                            refine lv_iconst (v := 4) hx hb dL_law_486 (by decide) ?_
                            refine lv_iadd hx hb dL_law_487 ?_
                            refine va_sld hx hb hX hbl hbA hw.2.2 h_4 dL_law_488 ?_
                            obtain ⟨r9, e1, e2, hR1⟩ := hhanded S M hR (xs ((x3 + 1)).toNatClampNeg) (xs ((x3 + 2)).toNatClampNeg) (xs ((x3 + 3)).toNatClampNeg) (xs ((x3 + 4)).toNatClampNeg)
                            refine lw_callC cx hw (c_X3_handed l dC dI cI cZ q S (xs ((x3 + 1)).toNatClampNeg) (xs ((x3 + 2)).toNatClampNeg) (xs ((x3 + 3)).toNatClampNeg) (xs ((x3 + 4)).toNatClampNeg) r9 e1) (cwV 4 hts (hgT (hcV wdL_L_56 wdI_X3_handed wdS_X3_handed wdN_RX3 wdC_X3_handed)) rfl rfl rfl pdX3_handed ⟨Nat.le_of_ble_eq_true rfl, Nat.le_of_ble_eq_true rfl⟩) rfl hl.1 rfl (Nat.le_of_ble_eq_true rfl) dL_law_489 ⟨Nat.le_of_ble_eq_true rfl, Nat.le_of_ble_eq_true rfl⟩ (fun H locs hw => ?_)
                            refine lv_aload_n hx hb dL_law_492 rfl (lv_at hl 2 rfl) ?_
                            refine lv_aload_n hx hb dL_law_493 rfl (lv_at hl 0 rfl) ?_
                            refine lv_iload_n hx hb dL_law_494 rfl (lv_at hl 3 rfl) ?_
                            refine lv_iconst (v := 1) hx hb dL_law_495 (by decide) ?_
                            refine lv_iadd hx hb dL_law_496 ?_
                            refine va_sld hx hb hX hbl hbA hw.2.2 h_1 dL_law_497 ?_
                            refine lv_aload_n hx hb dL_law_498 rfl (lv_at hl 0 rfl) ?_
                            refine lv_iload_n hx hb dL_law_499 rfl (lv_at hl 3 rfl) ?_
                            refine lv_iconst (v := 2) hx hb dL_law_500 (by decide) ?_
                            refine lv_iadd hx hb dL_law_501 ?_
                            refine va_sld hx hb hX hbl hbA hw.2.2 h_2 dL_law_502 ?_
                            refine lv_aload_n hx hb dL_law_503 rfl (lv_at hl 0 rfl) ?_
                            refine lv_iload_n hx hb dL_law_504 rfl (lv_at hl 3 rfl) ?_
                            refine lv_iconst (v := 3) hx hb dL_law_505 (by decide) ?_
                            refine lv_iadd hx hb dL_law_506 ?_
                            refine va_sld hx hb hX hbl hbA hw.2.2 h_3 dL_law_507 ?_
                            refine lv_aload_n hx hb dL_law_508 rfl (lv_at hl 0 rfl) ?_
                            refine lv_iload_n hx hb dL_law_509 rfl (lv_at hl 3 rfl) ?_
                            refine lv_iconst (v := 4) hx hb dL_law_510 (by decide) ?_
                            refine lv_iadd hx hb dL_law_511 ?_
                            refine va_sld hx hb hX hbl hbA hw.2.2 h_4 dL_law_512 ?_
                            refine lw_callM cx hw (c_X4_handed l dC dI cI cZ q2 M (xs ((x3 + 1)).toNatClampNeg) (xs ((x3 + 2)).toNatClampNeg) (xs ((x3 + 3)).toNatClampNeg) (xs ((x3 + 4)).toNatClampNeg) r9 e2) (cwV 4 hts (hgT (hcV wdL_L_60 wdI_X4_handed wdS_X4_handed wdN_RX4 wdC_X4_handed)) rfl rfl rfl pdX4_handed ⟨Nat.le_of_ble_eq_true rfl, Nat.le_of_ble_eq_true rfl⟩) rfl hl.1 rfl (Nat.le_of_ble_eq_true rfl) dL_law_513 ⟨Nat.le_of_ble_eq_true rfl, Nat.le_of_ble_eq_true rfl⟩ (fun H locs hw => ?_)
                            refine lv_icmp_eq (tgt := 818) hx hb dL_law_516 (by decide) (fun c22 => ?_) (fun c22 => absurd rfl c22)
                            refine lv_iinc (v := x3 + 5) (lv' := [(3, .int (x3 + 5)), (0, .ref b), (1, .ref (q 0)), (2, .ref (q2 0))]) hx hb dL_law_818 hl (k := 3) rfl rfl (by decide) rfl (fun ls hl => ?_)
                            refine lv_goto (tgt := 18) hx hb dL_law_821 (by decide) ?_
                            exact ih (i + 5) (x3 + 5) hi5 (by omega) (by rw [ex3]; exact lw_5 i) S M hR1 _ _ _ hw (lv_sub hl [1, 2, 3, 0] rfl)
                          · skip
                            by_cases c23 : z = 11
                            · refine lv_tableIn (off := 489) (tgt := 521) hx hb dL_law_32 (by rw [c23]; decide) (by rw [c23]; decide) (by rw [c23]; rfl) (by decide) ?_
                              refine lv_aload_n hx hb dL_law_521 rfl (lv_at hl 1 rfl) ?_
                              refine lv_aload_n hx hb dL_law_522 rfl (lv_at hl 0 rfl) ?_
                              refine lv_iload_n hx hb dL_law_523 rfl (lv_at hl 3 rfl) ?_
                              refine lv_iconst (v := 1) hx hb dL_law_524 (by decide) ?_
                              refine lv_iadd hx hb dL_law_525 ?_
                              refine va_sld hx hb hX hbl hbA hw.2.2 h_1 dL_law_526 ?_
                              refine lv_aload_n hx hb dL_law_527 rfl (lv_at hl 0 rfl) ?_
                              refine lv_iload_n hx hb dL_law_528 rfl (lv_at hl 3 rfl) ?_
                              refine lv_iconst (v := 2) hx hb dL_law_529 (by decide) ?_
                              refine lv_iadd hx hb dL_law_530 ?_
                              refine va_sld hx hb hX hbl hbA hw.2.2 h_2 dL_law_531 ?_
                              refine lv_aload_n hx hb dL_law_532 rfl (lv_at hl 0 rfl) ?_
                              refine lv_iload_n hx hb dL_law_533 rfl (lv_at hl 3 rfl) ?_
                              refine lv_iconst (v := 3) hx hb dL_law_534 (by decide) ?_
                              refine lv_iadd hx hb dL_law_535 ?_
                              refine va_sld hx hb hX hbl hbA hw.2.2 h_3 dL_law_536 ?_
                              refine lv_aload_n hx hb dL_law_537 rfl (lv_at hl 0 rfl) ?_
                              refine lv_iload_n hx hb dL_law_538 rfl (lv_at hl 3 rfl) ?_
                              refine lv_iconst (v := 4) hx hb dL_law_539 (by decide) ?_
                              refine lv_iadd hx hb dL_law_540 ?_
                              refine va_sld hx hb hX hbl hbA hw.2.2 h_4 dL_law_541 ?_
                              obtain ⟨r9, e1, e2, hR1⟩ := hkept S M hR (xs ((x3 + 1)).toNatClampNeg) (xs ((x3 + 2)).toNatClampNeg) (xs ((x3 + 3)).toNatClampNeg) (xs ((x3 + 4)).toNatClampNeg)
                              refine lw_callC cx hw (c_X3_kept l dC dI cI cZ q S (xs ((x3 + 1)).toNatClampNeg) (xs ((x3 + 2)).toNatClampNeg) (xs ((x3 + 3)).toNatClampNeg) (xs ((x3 + 4)).toNatClampNeg) r9 e1) (cwV 4 hts (hgT (hcV wdL_L_61 wdI_X3_kept wdS_X3_kept wdN_RX3 wdC_X3_kept)) rfl rfl rfl pdX3_kept ⟨Nat.le_of_ble_eq_true rfl, Nat.le_of_ble_eq_true rfl⟩) rfl hl.1 rfl (Nat.le_of_ble_eq_true rfl) dL_law_542 ⟨Nat.le_of_ble_eq_true rfl, Nat.le_of_ble_eq_true rfl⟩ (fun H locs hw => ?_)
                              refine lv_aload_n hx hb dL_law_545 rfl (lv_at hl 2 rfl) ?_
                              refine lv_aload_n hx hb dL_law_546 rfl (lv_at hl 0 rfl) ?_
                              refine lv_iload_n hx hb dL_law_547 rfl (lv_at hl 3 rfl) ?_
                              refine lv_iconst (v := 1) hx hb dL_law_548 (by decide) ?_
                              refine lv_iadd hx hb dL_law_549 ?_
                              refine va_sld hx hb hX hbl hbA hw.2.2 h_1 dL_law_550 ?_
                              refine lv_aload_n hx hb dL_law_551 rfl (lv_at hl 0 rfl) ?_
                              refine lv_iload_n hx hb dL_law_552 rfl (lv_at hl 3 rfl) ?_
                              refine lv_iconst (v := 2) hx hb dL_law_553 (by decide) ?_
                              refine lv_iadd hx hb dL_law_554 ?_
                              refine va_sld hx hb hX hbl hbA hw.2.2 h_2 dL_law_555 ?_
                              refine lv_aload_n hx hb dL_law_556 rfl (lv_at hl 0 rfl) ?_
                              refine lv_iload_n hx hb dL_law_557 rfl (lv_at hl 3 rfl) ?_
                              refine lv_iconst (v := 3) hx hb dL_law_558 (by decide) ?_
                              refine lv_iadd hx hb dL_law_559 ?_
                              refine va_sld hx hb hX hbl hbA hw.2.2 h_3 dL_law_560 ?_
                              refine lv_aload_n hx hb dL_law_561 rfl (lv_at hl 0 rfl) ?_
                              refine lv_iload_n hx hb dL_law_562 rfl (lv_at hl 3 rfl) ?_
                              refine lv_iconst (v := 4) hx hb dL_law_563 (by decide) ?_
                              refine lv_iadd hx hb dL_law_564 ?_
                              refine va_sld hx hb hX hbl hbA hw.2.2 h_4 dL_law_565 ?_
                              refine lw_callM cx hw (c_X4_kept l dC dI cI cZ q2 M (xs ((x3 + 1)).toNatClampNeg) (xs ((x3 + 2)).toNatClampNeg) (xs ((x3 + 3)).toNatClampNeg) (xs ((x3 + 4)).toNatClampNeg) r9 e2) (cwV 4 hts (hgT (hcV wdL_L_64 wdI_X4_kept wdS_X4_kept wdN_RX4 wdC_X4_kept)) rfl rfl rfl pdX4_kept ⟨Nat.le_of_ble_eq_true rfl, Nat.le_of_ble_eq_true rfl⟩) rfl hl.1 rfl (Nat.le_of_ble_eq_true rfl) dL_law_566 ⟨Nat.le_of_ble_eq_true rfl, Nat.le_of_ble_eq_true rfl⟩ (fun H locs hw => ?_)
                              refine lv_icmp_eq (tgt := 818) hx hb dL_law_569 (by decide) (fun c24 => ?_) (fun c24 => absurd rfl c24)
                              refine lv_iinc (v := x3 + 5) (lv' := [(3, .int (x3 + 5)), (0, .ref b), (1, .ref (q 0)), (2, .ref (q2 0))]) hx hb dL_law_818 hl (k := 3) rfl rfl (by decide) rfl (fun ls hl => ?_)
                              refine lv_goto (tgt := 18) hx hb dL_law_821 (by decide) ?_
                              exact ih (i + 5) (x3 + 5) hi5 (by omega) (by rw [ex3]; exact lw_5 i) S M hR1 _ _ _ hw (lv_sub hl [1, 2, 3, 0] rfl)
                            · skip
                              by_cases c25 : z = 12
                              · refine lv_tableIn (off := 542) (tgt := 574) hx hb dL_law_32 (by rw [c25]; decide) (by rw [c25]; decide) (by rw [c25]; rfl) (by decide) ?_
                                refine lv_aload_n hx hb dL_law_574 rfl (lv_at hl 1 rfl) ?_
                                refine lv_aload_n hx hb dL_law_575 rfl (lv_at hl 0 rfl) ?_
                                refine lv_iload_n hx hb dL_law_576 rfl (lv_at hl 3 rfl) ?_
                                refine lv_iconst (v := 1) hx hb dL_law_577 (by decide) ?_
                                refine lv_iadd hx hb dL_law_578 ?_
                                refine va_sld hx hb hX hbl hbA hw.2.2 h_1 dL_law_579 ?_
                                refine lv_aload_n hx hb dL_law_580 rfl (lv_at hl 0 rfl) ?_
                                refine lv_iload_n hx hb dL_law_581 rfl (lv_at hl 3 rfl) ?_
                                refine lv_iconst (v := 2) hx hb dL_law_582 (by decide) ?_
                                refine lv_iadd hx hb dL_law_583 ?_
                                refine va_sld hx hb hX hbl hbA hw.2.2 h_2 dL_law_584 ?_
                                obtain ⟨r9, M1, e1, e2, hR1⟩ := hused S M hR (xs ((x3 + 1)).toNatClampNeg) (xs ((x3 + 2)).toNatClampNeg)
                                refine lw_callC cx hw (c_X3_used l dC dI cI cZ q S (xs ((x3 + 1)).toNatClampNeg) (xs ((x3 + 2)).toNatClampNeg) r9 e1) (cwV 2 hts (hgT (hcV wdL_L_65 wdI_X3_used wdS_X3_used wdN_RX3 wdC_X3_used)) rfl rfl rfl pdX3_used ⟨Nat.le_of_ble_eq_true rfl, Nat.le_of_ble_eq_true rfl⟩) rfl hl.1 rfl (Nat.le_of_ble_eq_true rfl) dL_law_585 ⟨Nat.le_of_ble_eq_true rfl, Nat.le_of_ble_eq_true rfl⟩ (fun H locs hw => ?_)
                                refine lv_aload_n hx hb dL_law_588 rfl (lv_at hl 2 rfl) ?_
                                refine lv_aload_n hx hb dL_law_589 rfl (lv_at hl 0 rfl) ?_
                                refine lv_iload_n hx hb dL_law_590 rfl (lv_at hl 3 rfl) ?_
                                refine lv_iconst (v := 1) hx hb dL_law_591 (by decide) ?_
                                refine lv_iadd hx hb dL_law_592 ?_
                                refine va_sld hx hb hX hbl hbA hw.2.2 h_1 dL_law_593 ?_
                                refine lv_aload_n hx hb dL_law_594 rfl (lv_at hl 0 rfl) ?_
                                refine lv_iload_n hx hb dL_law_595 rfl (lv_at hl 3 rfl) ?_
                                refine lv_iconst (v := 2) hx hb dL_law_596 (by decide) ?_
                                refine lv_iadd hx hb dL_law_597 ?_
                                refine va_sld hx hb hX hbl hbA hw.2.2 h_2 dL_law_598 ?_
                                refine lw_callM cx hw (c_X4_used l dC dI cI cZ q2 M (xs ((x3 + 1)).toNatClampNeg) (xs ((x3 + 2)).toNatClampNeg) r9 M1 e2) (cwV 2 hts (hgT (hcV wdL_L_68 wdI_X4_used wdS_X4_used wdN_RX4 wdC_X4_used)) rfl rfl rfl pdX4_used ⟨Nat.le_of_ble_eq_true rfl, Nat.le_of_ble_eq_true rfl⟩) rfl hl.1 rfl (Nat.le_of_ble_eq_true rfl) dL_law_599 ⟨Nat.le_of_ble_eq_true rfl, Nat.le_of_ble_eq_true rfl⟩ (fun H locs hw => ?_)
                                refine lv_icmp_eq (tgt := 818) hx hb dL_law_602 (by decide) (fun c26 => ?_) (fun c26 => absurd rfl c26)
                                refine lv_iinc (v := x3 + 5) (lv' := [(3, .int (x3 + 5)), (0, .ref b), (1, .ref (q 0)), (2, .ref (q2 0))]) hx hb dL_law_818 hl (k := 3) rfl rfl (by decide) rfl (fun ls hl => ?_)
                                refine lv_goto (tgt := 18) hx hb dL_law_821 (by decide) ?_
                                exact ih (i + 5) (x3 + 5) hi5 (by omega) (by rw [ex3]; exact lw_5 i) S M1 hR1 _ _ _ hw (lv_sub hl [1, 2, 3, 0] rfl)
                              · skip
                                by_cases c27 : z = 13
                                · refine lv_tableIn (off := 575) (tgt := 607) hx hb dL_law_32 (by rw [c27]; decide) (by rw [c27]; decide) (by rw [c27]; rfl) (by decide) ?_
                                  refine lv_aload_n hx hb dL_law_607 rfl (lv_at hl 1 rfl) ?_
                                  refine lv_aload_n hx hb dL_law_608 rfl (lv_at hl 0 rfl) ?_
                                  refine lv_iload_n hx hb dL_law_609 rfl (lv_at hl 3 rfl) ?_
                                  refine lv_iconst (v := 1) hx hb dL_law_610 (by decide) ?_
                                  refine lv_iadd hx hb dL_law_611 ?_
                                  refine va_sld hx hb hX hbl hbA hw.2.2 h_1 dL_law_612 ?_
                                  refine lv_aload_n hx hb dL_law_613 rfl (lv_at hl 0 rfl) ?_
                                  refine lv_iload_n hx hb dL_law_614 rfl (lv_at hl 3 rfl) ?_
                                  refine lv_iconst (v := 2) hx hb dL_law_615 (by decide) ?_
                                  refine lv_iadd hx hb dL_law_616 ?_
                                  refine va_sld hx hb hX hbl hbA hw.2.2 h_2 dL_law_617 ?_
                                  refine lv_aload_n hx hb dL_law_618 rfl (lv_at hl 0 rfl) ?_
                                  refine lv_iload_n hx hb dL_law_619 rfl (lv_at hl 3 rfl) ?_
                                  refine lv_iconst (v := 3) hx hb dL_law_620 (by decide) ?_
                                  refine lv_iadd hx hb dL_law_621 ?_
                                  refine va_sld hx hb hX hbl hbA hw.2.2 h_3 dL_law_622 ?_
                                  obtain ⟨r9, e1, e2, hR1⟩ := hmeaning S M hR (xs ((x3 + 1)).toNatClampNeg) (xs ((x3 + 2)).toNatClampNeg) (xs ((x3 + 3)).toNatClampNeg)
                                  refine lw_callC cx hw (c_X3_meaning l dC dI cI cZ q S (xs ((x3 + 1)).toNatClampNeg) (xs ((x3 + 2)).toNatClampNeg) (xs ((x3 + 3)).toNatClampNeg) r9 e1) (cwV 3 hts (hgT (hcV wdL_L_69 wdI_X3_meaning wdS_X3_meaning wdN_RX3 wdC_X3_meaning)) rfl rfl rfl pdX3_meaning ⟨Nat.le_of_ble_eq_true rfl, Nat.le_of_ble_eq_true rfl⟩) rfl hl.1 rfl (Nat.le_of_ble_eq_true rfl) dL_law_623 ⟨Nat.le_of_ble_eq_true rfl, Nat.le_of_ble_eq_true rfl⟩ (fun H locs hw => ?_)
                                  refine lv_aload_n hx hb dL_law_626 rfl (lv_at hl 2 rfl) ?_
                                  refine lv_aload_n hx hb dL_law_627 rfl (lv_at hl 0 rfl) ?_
                                  refine lv_iload_n hx hb dL_law_628 rfl (lv_at hl 3 rfl) ?_
                                  refine lv_iconst (v := 1) hx hb dL_law_629 (by decide) ?_
                                  refine lv_iadd hx hb dL_law_630 ?_
                                  refine va_sld hx hb hX hbl hbA hw.2.2 h_1 dL_law_631 ?_
                                  refine lv_aload_n hx hb dL_law_632 rfl (lv_at hl 0 rfl) ?_
                                  refine lv_iload_n hx hb dL_law_633 rfl (lv_at hl 3 rfl) ?_
                                  refine lv_iconst (v := 2) hx hb dL_law_634 (by decide) ?_
                                  refine lv_iadd hx hb dL_law_635 ?_
                                  refine va_sld hx hb hX hbl hbA hw.2.2 h_2 dL_law_636 ?_
                                  refine lv_aload_n hx hb dL_law_637 rfl (lv_at hl 0 rfl) ?_
                                  refine lv_iload_n hx hb dL_law_638 rfl (lv_at hl 3 rfl) ?_
                                  refine lv_iconst (v := 3) hx hb dL_law_639 (by decide) ?_
                                  refine lv_iadd hx hb dL_law_640 ?_
                                  refine va_sld hx hb hX hbl hbA hw.2.2 h_3 dL_law_641 ?_
                                  refine lw_callM cx hw (c_X4_meaning l dC dI cI cZ q2 M (xs ((x3 + 1)).toNatClampNeg) (xs ((x3 + 2)).toNatClampNeg) (xs ((x3 + 3)).toNatClampNeg) r9 e2) (cwV 3 hts (hgT (hcV wdL_L_72 wdI_X4_meaning wdS_X4_meaning wdN_RX4 wdC_X4_meaning)) rfl rfl rfl pdX4_meaning ⟨Nat.le_of_ble_eq_true rfl, Nat.le_of_ble_eq_true rfl⟩) rfl hl.1 rfl (Nat.le_of_ble_eq_true rfl) dL_law_642 ⟨Nat.le_of_ble_eq_true rfl, Nat.le_of_ble_eq_true rfl⟩ (fun H locs hw => ?_)
                                  refine lv_icmp_eq (tgt := 818) hx hb dL_law_645 (by decide) (fun c28 => ?_) (fun c28 => absurd rfl c28)
                                  refine lv_iinc (v := x3 + 5) (lv' := [(3, .int (x3 + 5)), (0, .ref b), (1, .ref (q 0)), (2, .ref (q2 0))]) hx hb dL_law_818 hl (k := 3) rfl rfl (by decide) rfl (fun ls hl => ?_)
                                  refine lv_goto (tgt := 18) hx hb dL_law_821 (by decide) ?_
                                  exact ih (i + 5) (x3 + 5) hi5 (by omega) (by rw [ex3]; exact lw_5 i) S M hR1 _ _ _ hw (lv_sub hl [1, 2, 3, 0] rfl)
                                · skip
                                  by_cases c29 : z = 14
                                  · refine lv_tableIn (off := 618) (tgt := 650) hx hb dL_law_32 (by rw [c29]; decide) (by rw [c29]; decide) (by rw [c29]; rfl) (by decide) ?_
                                    refine lv_aload_n hx hb dL_law_650 rfl (lv_at hl 1 rfl) ?_
                                    obtain ⟨r9, S1, M1, e1, e2, hR1⟩ := hsettles S M hR 
                                    refine lw_callC cx hw (c_X3_settles l dC dI cI cZ q S r9 S1 e1) (cwV 0 hts (hgT (hcV wdL_L_73 wdI_X3_settles wdS_X3_settles wdN_RX3 wdC_X3_settles)) rfl rfl rfl pdX3_settles ⟨Nat.le_of_ble_eq_true rfl, Nat.le_of_ble_eq_true rfl⟩) rfl hl.1 rfl (Nat.le_of_ble_eq_true rfl) dL_law_651 ⟨Nat.le_of_ble_eq_true rfl, Nat.le_of_ble_eq_true rfl⟩ (fun H locs hw => ?_)
                                    refine lv_aload_n hx hb dL_law_654 rfl (lv_at hl 2 rfl) ?_
                                    refine lw_callM cx hw (c_X4_settles l dC dI cI cZ q2 M r9 M1 e2) (cwV 0 hts (hgT (hcV wdL_L_77 wdI_X4_settles wdS_X4_settles wdN_RX4 wdC_X4_settles)) rfl rfl rfl pdX4_settles ⟨Nat.le_of_ble_eq_true rfl, Nat.le_of_ble_eq_true rfl⟩) rfl hl.1 rfl (Nat.le_of_ble_eq_true rfl) dL_law_655 ⟨Nat.le_of_ble_eq_true rfl, Nat.le_of_ble_eq_true rfl⟩ (fun H locs hw => ?_)
                                    refine lv_icmp_eq (tgt := 818) hx hb dL_law_658 (by decide) (fun c30 => ?_) (fun c30 => absurd rfl c30)
                                    refine lv_iinc (v := x3 + 5) (lv' := [(3, .int (x3 + 5)), (0, .ref b), (1, .ref (q 0)), (2, .ref (q2 0))]) hx hb dL_law_818 hl (k := 3) rfl rfl (by decide) rfl (fun ls hl => ?_)
                                    refine lv_goto (tgt := 18) hx hb dL_law_821 (by decide) ?_
                                    exact ih (i + 5) (x3 + 5) hi5 (by omega) (by rw [ex3]; exact lw_5 i) S1 M1 hR1 _ _ _ hw (lv_sub hl [1, 2, 3, 0] rfl)
                                  · skip
                                    by_cases c31 : z = 15
                                    · refine lv_tableIn (off := 631) (tgt := 663) hx hb dL_law_32 (by rw [c31]; decide) (by rw [c31]; decide) (by rw [c31]; rfl) (by decide) ?_
                                      refine lv_aload_n hx hb dL_law_663 rfl (lv_at hl 1 rfl) ?_
                                      refine lv_aload_n hx hb dL_law_664 rfl (lv_at hl 0 rfl) ?_
                                      refine lv_iload_n hx hb dL_law_665 rfl (lv_at hl 3 rfl) ?_
                                      refine lv_iconst (v := 1) hx hb dL_law_666 (by decide) ?_
                                      refine lv_iadd hx hb dL_law_667 ?_
                                      refine va_sld hx hb hX hbl hbA hw.2.2 h_1 dL_law_668 ?_
                                      refine lv_aload_n hx hb dL_law_669 rfl (lv_at hl 0 rfl) ?_
                                      refine lv_iload_n hx hb dL_law_670 rfl (lv_at hl 3 rfl) ?_
                                      refine lv_iconst (v := 2) hx hb dL_law_671 (by decide) ?_
                                      refine lv_iadd hx hb dL_law_672 ?_
                                      refine va_sld hx hb hX hbl hbA hw.2.2 h_2 dL_law_673 ?_
                                      obtain ⟨r9, S1, M1, e1, e2, hR1⟩ := hletter S M hR (xs ((x3 + 1)).toNatClampNeg) (xs ((x3 + 2)).toNatClampNeg)
                                      refine lw_callC cx hw (c_X3_letter l dC dI cI cZ q S (xs ((x3 + 1)).toNatClampNeg) (xs ((x3 + 2)).toNatClampNeg) r9 S1 e1) (cwV 2 hts (hgT (hcV wdL_L_78 wdI_X3_letter wdS_X3_letter wdN_RX3 wdC_X3_letter)) rfl rfl rfl pdX3_letter ⟨Nat.le_of_ble_eq_true rfl, Nat.le_of_ble_eq_true rfl⟩) rfl hl.1 rfl (Nat.le_of_ble_eq_true rfl) dL_law_674 ⟨Nat.le_of_ble_eq_true rfl, Nat.le_of_ble_eq_true rfl⟩ (fun H locs hw => ?_)
                                      refine lv_aload_n hx hb dL_law_677 rfl (lv_at hl 2 rfl) ?_
                                      refine lv_aload_n hx hb dL_law_678 rfl (lv_at hl 0 rfl) ?_
                                      refine lv_iload_n hx hb dL_law_679 rfl (lv_at hl 3 rfl) ?_
                                      refine lv_iconst (v := 1) hx hb dL_law_680 (by decide) ?_
                                      refine lv_iadd hx hb dL_law_681 ?_
                                      refine va_sld hx hb hX hbl hbA hw.2.2 h_1 dL_law_682 ?_
                                      refine lv_aload_n hx hb dL_law_683 rfl (lv_at hl 0 rfl) ?_
                                      refine lv_iload_n hx hb dL_law_684 rfl (lv_at hl 3 rfl) ?_
                                      refine lv_iconst (v := 2) hx hb dL_law_685 (by decide) ?_
                                      refine lv_iadd hx hb dL_law_686 ?_
                                      refine va_sld hx hb hX hbl hbA hw.2.2 h_2 dL_law_687 ?_
                                      refine lw_callM cx hw (c_X4_letter l dC dI cI cZ q2 M (xs ((x3 + 1)).toNatClampNeg) (xs ((x3 + 2)).toNatClampNeg) r9 M1 e2) (cwV 2 hts (hgT (hcV wdL_L_81 wdI_X4_letter wdS_X4_letter wdN_RX4 wdC_X4_letter)) rfl rfl rfl pdX4_letter ⟨Nat.le_of_ble_eq_true rfl, Nat.le_of_ble_eq_true rfl⟩) rfl hl.1 rfl (Nat.le_of_ble_eq_true rfl) dL_law_688 ⟨Nat.le_of_ble_eq_true rfl, Nat.le_of_ble_eq_true rfl⟩ (fun H locs hw => ?_)
                                      refine lv_icmp_eq (tgt := 818) hx hb dL_law_691 (by decide) (fun c32 => ?_) (fun c32 => absurd rfl c32)
                                      refine lv_iinc (v := x3 + 5) (lv' := [(3, .int (x3 + 5)), (0, .ref b), (1, .ref (q 0)), (2, .ref (q2 0))]) hx hb dL_law_818 hl (k := 3) rfl rfl (by decide) rfl (fun ls hl => ?_)
                                      refine lv_goto (tgt := 18) hx hb dL_law_821 (by decide) ?_
                                      exact ih (i + 5) (x3 + 5) hi5 (by omega) (by rw [ex3]; exact lw_5 i) S1 M1 hR1 _ _ _ hw (lv_sub hl [1, 2, 3, 0] rfl)
                                    · skip
                                      by_cases c33 : z = 16
                                      · refine lv_tableIn (off := 664) (tgt := 696) hx hb dL_law_32 (by rw [c33]; decide) (by rw [c33]; decide) (by rw [c33]; rfl) (by decide) ?_
                                        refine lv_aload_n hx hb dL_law_696 rfl (lv_at hl 1 rfl) ?_
                                        refine lv_aload_n hx hb dL_law_697 rfl (lv_at hl 0 rfl) ?_
                                        refine lv_iload_n hx hb dL_law_698 rfl (lv_at hl 3 rfl) ?_
                                        refine lv_iconst (v := 1) hx hb dL_law_699 (by decide) ?_
                                        refine lv_iadd hx hb dL_law_700 ?_
                                        refine va_sld hx hb hX hbl hbA hw.2.2 h_1 dL_law_701 ?_
                                        refine lv_aload_n hx hb dL_law_702 rfl (lv_at hl 0 rfl) ?_
                                        refine lv_iload_n hx hb dL_law_703 rfl (lv_at hl 3 rfl) ?_
                                        refine lv_iconst (v := 2) hx hb dL_law_704 (by decide) ?_
                                        refine lv_iadd hx hb dL_law_705 ?_
                                        refine va_sld hx hb hX hbl hbA hw.2.2 h_2 dL_law_706 ?_
                                        obtain ⟨r9, e1, e2, hR1⟩ := htrace S M hR (xs ((x3 + 1)).toNatClampNeg) (xs ((x3 + 2)).toNatClampNeg)
                                        refine lw_callC cx hw (c_X3_trace l dC dI cI cZ q S (xs ((x3 + 1)).toNatClampNeg) (xs ((x3 + 2)).toNatClampNeg) r9 e1) (cwV 2 hts (hgT (hcV wdL_L_82 wdI_X3_trace wdS_X3_trace wdN_RX3 wdC_X3_trace)) rfl rfl rfl pdX3_trace ⟨Nat.le_of_ble_eq_true rfl, Nat.le_of_ble_eq_true rfl⟩) rfl hl.1 rfl (Nat.le_of_ble_eq_true rfl) dL_law_707 ⟨Nat.le_of_ble_eq_true rfl, Nat.le_of_ble_eq_true rfl⟩ (fun H locs hw => ?_)
                                        refine lv_aload_n hx hb dL_law_710 rfl (lv_at hl 2 rfl) ?_
                                        refine lv_aload_n hx hb dL_law_711 rfl (lv_at hl 0 rfl) ?_
                                        refine lv_iload_n hx hb dL_law_712 rfl (lv_at hl 3 rfl) ?_
                                        refine lv_iconst (v := 1) hx hb dL_law_713 (by decide) ?_
                                        refine lv_iadd hx hb dL_law_714 ?_
                                        refine va_sld hx hb hX hbl hbA hw.2.2 h_1 dL_law_715 ?_
                                        refine lv_aload_n hx hb dL_law_716 rfl (lv_at hl 0 rfl) ?_
                                        refine lv_iload_n hx hb dL_law_717 rfl (lv_at hl 3 rfl) ?_
                                        refine lv_iconst (v := 2) hx hb dL_law_718 (by decide) ?_
                                        refine lv_iadd hx hb dL_law_719 ?_
                                        refine va_sld hx hb hX hbl hbA hw.2.2 h_2 dL_law_720 ?_
                                        refine lw_callM cx hw (c_X4_trace l dC dI cI cZ q2 M (xs ((x3 + 1)).toNatClampNeg) (xs ((x3 + 2)).toNatClampNeg) r9 e2) (cwV 2 hts (hgT (hcV wdL_L_85 wdI_X4_trace wdS_X4_trace wdN_RX4 wdC_X4_trace)) rfl rfl rfl pdX4_trace ⟨Nat.le_of_ble_eq_true rfl, Nat.le_of_ble_eq_true rfl⟩) rfl hl.1 rfl (Nat.le_of_ble_eq_true rfl) dL_law_721 ⟨Nat.le_of_ble_eq_true rfl, Nat.le_of_ble_eq_true rfl⟩ (fun H locs hw => ?_)
                                        refine lv_icmp_eq (tgt := 818) hx hb dL_law_724 (by decide) (fun c34 => ?_) (fun c34 => absurd rfl c34)
                                        refine lv_iinc (v := x3 + 5) (lv' := [(3, .int (x3 + 5)), (0, .ref b), (1, .ref (q 0)), (2, .ref (q2 0))]) hx hb dL_law_818 hl (k := 3) rfl rfl (by decide) rfl (fun ls hl => ?_)
                                        refine lv_goto (tgt := 18) hx hb dL_law_821 (by decide) ?_
                                        exact ih (i + 5) (x3 + 5) hi5 (by omega) (by rw [ex3]; exact lw_5 i) S M hR1 _ _ _ hw (lv_sub hl [1, 2, 3, 0] rfl)
                                      · skip
                                        by_cases c35 : z = 17
                                        · refine lv_tableIn (off := 697) (tgt := 729) hx hb dL_law_32 (by rw [c35]; decide) (by rw [c35]; decide) (by rw [c35]; rfl) (by decide) ?_
                                          refine lv_aload_n hx hb dL_law_729 rfl (lv_at hl 1 rfl) ?_
                                          refine lv_aload_n hx hb dL_law_730 rfl (lv_at hl 0 rfl) ?_
                                          refine lv_iload_n hx hb dL_law_731 rfl (lv_at hl 3 rfl) ?_
                                          refine lv_iconst (v := 1) hx hb dL_law_732 (by decide) ?_
                                          refine lv_iadd hx hb dL_law_733 ?_
                                          refine va_sld hx hb hX hbl hbA hw.2.2 h_1 dL_law_734 ?_
                                          refine lv_aload_n hx hb dL_law_735 rfl (lv_at hl 0 rfl) ?_
                                          refine lv_iload_n hx hb dL_law_736 rfl (lv_at hl 3 rfl) ?_
                                          refine lv_iconst (v := 2) hx hb dL_law_737 (by decide) ?_
                                          refine lv_iadd hx hb dL_law_738 ?_
                                          refine va_sld hx hb hX hbl hbA hw.2.2 h_2 dL_law_739 ?_
                                          obtain ⟨r9, S1, M1, e1, e2, hR1⟩ := hserved S M hR (xs ((x3 + 1)).toNatClampNeg) (xs ((x3 + 2)).toNatClampNeg)
                                          refine lw_callC cx hw (c_X3_served l dC dI cI cZ q S (xs ((x3 + 1)).toNatClampNeg) (xs ((x3 + 2)).toNatClampNeg) r9 S1 e1) (cwV 2 hts (hgT (hcV wdL_L_86 wdI_X3_served wdS_X3_served wdN_RX3 wdC_X3_served)) rfl rfl rfl pdX3_served ⟨Nat.le_of_ble_eq_true rfl, Nat.le_of_ble_eq_true rfl⟩) rfl hl.1 rfl (Nat.le_of_ble_eq_true rfl) dL_law_740 ⟨Nat.le_of_ble_eq_true rfl, Nat.le_of_ble_eq_true rfl⟩ (fun H locs hw => ?_)
                                          refine lv_aload_n hx hb dL_law_743 rfl (lv_at hl 2 rfl) ?_
                                          refine lv_aload_n hx hb dL_law_744 rfl (lv_at hl 0 rfl) ?_
                                          refine lv_iload_n hx hb dL_law_745 rfl (lv_at hl 3 rfl) ?_
                                          refine lv_iconst (v := 1) hx hb dL_law_746 (by decide) ?_
                                          refine lv_iadd hx hb dL_law_747 ?_
                                          refine va_sld hx hb hX hbl hbA hw.2.2 h_1 dL_law_748 ?_
                                          refine lv_aload_n hx hb dL_law_749 rfl (lv_at hl 0 rfl) ?_
                                          refine lv_iload_n hx hb dL_law_750 rfl (lv_at hl 3 rfl) ?_
                                          refine lv_iconst (v := 2) hx hb dL_law_751 (by decide) ?_
                                          refine lv_iadd hx hb dL_law_752 ?_
                                          refine va_sld hx hb hX hbl hbA hw.2.2 h_2 dL_law_753 ?_
                                          refine lw_callM cx hw (c_X4_served l dC dI cI cZ q2 M (xs ((x3 + 1)).toNatClampNeg) (xs ((x3 + 2)).toNatClampNeg) r9 M1 e2) (cwV 2 hts (hgT (hcV wdL_L_89 wdI_X4_served wdS_X4_served wdN_RX4 wdC_X4_served)) rfl rfl rfl pdX4_served ⟨Nat.le_of_ble_eq_true rfl, Nat.le_of_ble_eq_true rfl⟩) rfl hl.1 rfl (Nat.le_of_ble_eq_true rfl) dL_law_754 ⟨Nat.le_of_ble_eq_true rfl, Nat.le_of_ble_eq_true rfl⟩ (fun H locs hw => ?_)
                                          refine lv_icmp_eq (tgt := 818) hx hb dL_law_757 (by decide) (fun c36 => ?_) (fun c36 => absurd rfl c36)
                                          refine lv_iinc (v := x3 + 5) (lv' := [(3, .int (x3 + 5)), (0, .ref b), (1, .ref (q 0)), (2, .ref (q2 0))]) hx hb dL_law_818 hl (k := 3) rfl rfl (by decide) rfl (fun ls hl => ?_)
                                          refine lv_goto (tgt := 18) hx hb dL_law_821 (by decide) ?_
                                          exact ih (i + 5) (x3 + 5) hi5 (by omega) (by rw [ex3]; exact lw_5 i) S1 M1 hR1 _ _ _ hw (lv_sub hl [1, 2, 3, 0] rfl)
                                        · skip
                                          by_cases c37 : z = 18
                                          · refine lv_tableIn (off := 730) (tgt := 762) hx hb dL_law_32 (by rw [c37]; decide) (by rw [c37]; decide) (by rw [c37]; rfl) (by decide) ?_
                                            refine lv_aload_n hx hb dL_law_762 rfl (lv_at hl 1 rfl) ?_
                                            refine lv_aload_n hx hb dL_law_763 rfl (lv_at hl 0 rfl) ?_
                                            refine lv_iload_n hx hb dL_law_764 rfl (lv_at hl 3 rfl) ?_
                                            refine lv_iconst (v := 1) hx hb dL_law_765 (by decide) ?_
                                            refine lv_iadd hx hb dL_law_766 ?_
                                            refine va_sld hx hb hX hbl hbA hw.2.2 h_1 dL_law_767 ?_
                                            refine lv_aload_n hx hb dL_law_768 rfl (lv_at hl 0 rfl) ?_
                                            refine lv_iload_n hx hb dL_law_769 rfl (lv_at hl 3 rfl) ?_
                                            refine lv_iconst (v := 2) hx hb dL_law_770 (by decide) ?_
                                            refine lv_iadd hx hb dL_law_771 ?_
                                            refine va_sld hx hb hX hbl hbA hw.2.2 h_2 dL_law_772 ?_
                                            obtain ⟨r9, M1, e1, e2, hR1⟩ := hmerged S M hR (xs ((x3 + 1)).toNatClampNeg) (xs ((x3 + 2)).toNatClampNeg)
                                            refine lw_callC cx hw (c_X3_merged l dC dI cI cZ q S (xs ((x3 + 1)).toNatClampNeg) (xs ((x3 + 2)).toNatClampNeg) r9 e1) (cwV 2 hts (hgT (hcV wdL_L_90 wdI_X3_merged wdS_X3_merged wdN_RX3 wdC_X3_merged)) rfl rfl rfl pdX3_merged ⟨Nat.le_of_ble_eq_true rfl, Nat.le_of_ble_eq_true rfl⟩) rfl hl.1 rfl (Nat.le_of_ble_eq_true rfl) dL_law_773 ⟨Nat.le_of_ble_eq_true rfl, Nat.le_of_ble_eq_true rfl⟩ (fun H locs hw => ?_)
                                            refine lv_aload_n hx hb dL_law_776 rfl (lv_at hl 2 rfl) ?_
                                            refine lv_aload_n hx hb dL_law_777 rfl (lv_at hl 0 rfl) ?_
                                            refine lv_iload_n hx hb dL_law_778 rfl (lv_at hl 3 rfl) ?_
                                            refine lv_iconst (v := 1) hx hb dL_law_779 (by decide) ?_
                                            refine lv_iadd hx hb dL_law_780 ?_
                                            refine va_sld hx hb hX hbl hbA hw.2.2 h_1 dL_law_781 ?_
                                            refine lv_aload_n hx hb dL_law_782 rfl (lv_at hl 0 rfl) ?_
                                            refine lv_iload_n hx hb dL_law_783 rfl (lv_at hl 3 rfl) ?_
                                            refine lv_iconst (v := 2) hx hb dL_law_784 (by decide) ?_
                                            refine lv_iadd hx hb dL_law_785 ?_
                                            refine va_sld hx hb hX hbl hbA hw.2.2 h_2 dL_law_786 ?_
                                            refine lw_callM cx hw (c_X4_merged l dC dI cI cZ q2 M (xs ((x3 + 1)).toNatClampNeg) (xs ((x3 + 2)).toNatClampNeg) r9 M1 e2) (cwV 2 hts (hgT (hcV wdL_L_93 wdI_X4_merged wdS_X4_merged wdN_RX4 wdC_X4_merged)) rfl rfl rfl pdX4_merged ⟨Nat.le_of_ble_eq_true rfl, Nat.le_of_ble_eq_true rfl⟩) rfl hl.1 rfl (Nat.le_of_ble_eq_true rfl) dL_law_787 ⟨Nat.le_of_ble_eq_true rfl, Nat.le_of_ble_eq_true rfl⟩ (fun H locs hw => ?_)
                                            refine lv_icmp_eq (tgt := 818) hx hb dL_law_790 (by decide) (fun c38 => ?_) (fun c38 => absurd rfl c38)
                                            refine lv_iinc (v := x3 + 5) (lv' := [(3, .int (x3 + 5)), (0, .ref b), (1, .ref (q 0)), (2, .ref (q2 0))]) hx hb dL_law_818 hl (k := 3) rfl rfl (by decide) rfl (fun ls hl => ?_)
                                            refine lv_goto (tgt := 18) hx hb dL_law_821 (by decide) ?_
                                            exact ih (i + 5) (x3 + 5) hi5 (by omega) (by rw [ex3]; exact lw_5 i) S M1 hR1 _ _ _ hw (lv_sub hl [1, 2, 3, 0] rfl)
                                          · skip
                                            by_cases c39 : z = 19
                                            · refine lv_tableIn (off := 763) (tgt := 795) hx hb dL_law_32 (by rw [c39]; decide) (by rw [c39]; decide) (by rw [c39]; rfl) (by decide) ?_
                                              refine lv_aload_n hx hb dL_law_795 rfl (lv_at hl 1 rfl) ?_
                                              refine lv_aload_n hx hb dL_law_796 rfl (lv_at hl 0 rfl) ?_
                                              refine lv_iload_n hx hb dL_law_797 rfl (lv_at hl 3 rfl) ?_
                                              refine lv_iconst (v := 1) hx hb dL_law_798 (by decide) ?_
                                              refine lv_iadd hx hb dL_law_799 ?_
                                              refine va_sld hx hb hX hbl hbA hw.2.2 h_1 dL_law_800 ?_
                                              obtain ⟨r9, e1, e2, hR1⟩ := hmany S M hR (xs ((x3 + 1)).toNatClampNeg)
                                              refine lw_callC cx hw (c_X3_many l dC dI cI cZ q S (xs ((x3 + 1)).toNatClampNeg) r9 e1) (cwV 1 hts (hgT (hcV wdL_L_94 wdI_X3_many wdS_X3_many wdN_RX3 wdC_X3_many)) rfl rfl rfl pdX3_many ⟨Nat.le_of_ble_eq_true rfl, Nat.le_of_ble_eq_true rfl⟩) rfl hl.1 rfl (Nat.le_of_ble_eq_true rfl) dL_law_801 ⟨Nat.le_of_ble_eq_true rfl, Nat.le_of_ble_eq_true rfl⟩ (fun H locs hw => ?_)
                                              refine lv_aload_n hx hb dL_law_804 rfl (lv_at hl 2 rfl) ?_
                                              refine lv_aload_n hx hb dL_law_805 rfl (lv_at hl 0 rfl) ?_
                                              refine lv_iload_n hx hb dL_law_806 rfl (lv_at hl 3 rfl) ?_
                                              refine lv_iconst (v := 1) hx hb dL_law_807 (by decide) ?_
                                              refine lv_iadd hx hb dL_law_808 ?_
                                              refine va_sld hx hb hX hbl hbA hw.2.2 h_1 dL_law_809 ?_
                                              refine lw_callM cx hw (c_X4_many l dC dI cI cZ q2 M (xs ((x3 + 1)).toNatClampNeg) r9 e2) (cwV 1 hts (hgT (hcV wdL_L_97 wdI_X4_many wdS_X4_many wdN_RX4 wdC_X4_many)) rfl rfl rfl pdX4_many ⟨Nat.le_of_ble_eq_true rfl, Nat.le_of_ble_eq_true rfl⟩) rfl hl.1 rfl (Nat.le_of_ble_eq_true rfl) dL_law_810 ⟨Nat.le_of_ble_eq_true rfl, Nat.le_of_ble_eq_true rfl⟩ (fun H locs hw => ?_)
                                              refine lv_icmp_eq (tgt := 818) hx hb dL_law_813 (by decide) (fun c40 => ?_) (fun c40 => absurd rfl c40)
                                              refine lv_iinc (v := x3 + 5) (lv' := [(3, .int (x3 + 5)), (0, .ref b), (1, .ref (q 0)), (2, .ref (q2 0))]) hx hb dL_law_818 hl (k := 3) rfl rfl (by decide) rfl (fun ls hl => ?_)
                                              refine lv_goto (tgt := 18) hx hb dL_law_821 (by decide) ?_
                                              exact ih (i + 5) (x3 + 5) hi5 (by omega) (by rw [ex3]; exact lw_5 i) S M hR1 _ _ _ hw (lv_sub hl [1, 2, 3, 0] rfl)
                                            · skip
                                              refine lv_tableOut (tgt := 818) hx hb dL_law_32 (h_tout20 c1 c3 c5 c7 c9 c11 c13 c15 c17 c19 c21 c23 c25 c27 c29 c31 c33 c35 c37 c39) (by decide) ?_
                                              refine lv_iinc (v := x3 + 5) (lv' := [(3, .int (x3 + 5)), (0, .ref b), (1, .ref (q 0)), (2, .ref (q2 0))]) hx hb dL_law_818 hl (k := 3) rfl rfl (by decide) rfl (fun ls hl => ?_)
                                              refine lv_goto (tgt := 18) hx hb dL_law_821 (by decide) ?_
                                              exact ih (i + 5) (x3 + 5) hi5 (by omega) (by rw [ex3]; exact lw_5 i) S M hR _ _ _ hw (lv_sub hl [1, 2, 3, 0] rfl)
