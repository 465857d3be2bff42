/-! the class's state and the reference's: numbers and rows, by their places -/
abbrev HSt : Type := (Nat → Int32) × (Nat → Nat → Int32)
def h_ld (S : HSt) (k n : Nat) (i : Int32) : Option Int32 := if i < 0 ∨ n ≤ i.toNatClampNeg then none else some (S.2 k i.toNatClampNeg)
def h_st (S : HSt) (k n : Nat) (i x : Int32) : Option HSt := if i < 0 ∨ n ≤ i.toNatClampNeg then none else some (S.1, va_up S.2 k (upd (S.2 k) i.toNatClampNeg x))
def h_stz (S : HSt) (k n : Nat) (i x : Int32) : Option HSt := if i < 0 ∨ n ≤ i.toNatClampNeg then none else some (S.1, va_up S.2 k (upd (S.2 k) i.toNatClampNeg (vp_nar .boolean x)))
def h_put (S : HSt) (k : Nat) (x : Int32) : HSt := (upd S.1 k x, S.2)
def h_cp (S : HSt) (j k n : Nat) : HSt := (S.1, va_up S.2 k (va_cpy (S.2 j) (S.2 k) 0 0 n))
def h_b {α : Type} (v : Int32) (x : Option α) : Option α := if v = 0 ∨ v = 1 then x else none
def h_bi {β : Type} (o : Option (Int32 × HSt)) (k : Int32 → HSt → Option β) : Option β := match o with
  | none => none
  | some z => k z.1 z.2
def h_fu : Nat := 100000
theorem h_bd_ok {α β : Type} {o : Option α} {k : α → Option β} {b : β} (h : o.bind k = some b) : ∃ v, o = some v ∧ k v = some b := by
  cases o with
  | none => cases h
  | some v => exact ⟨v, rfl, h⟩
theorem h_bi_ok {β : Type} {o : Option (Int32 × HSt)} {k : Int32 → HSt → Option β} {b : β} (h : h_bi o k = some b) : ∃ r S, o = some (r, S) ∧ k r S = some b := by
  cases o with
  | none => cases h
  | some v => exact ⟨v.1, v.2, rfl, h⟩
theorem h_ifp {c : Prop} [Decidable c] {α : Type} {a b x : α} (hc : c) (h : (if c then a else b) = x) : a = x := by rw [if_pos hc] at h; exact h
theorem h_ifn {c : Prop} [Decidable c] {α : Type} {a b x : α} (hc : ¬ c) (h : (if c then a else b) = x) : b = x := by rw [if_neg hc] at h; exact h
theorem h_b_ok {α : Type} {v : Int32} {x : Option α} {b : α} (h : h_b v x = some b) : (v = 0 ∨ v = 1) ∧ x = some b := by
  unfold h_b at h
  split at h
  · rename_i hc; exact ⟨hc, h⟩
  · cases h
theorem h_ld_ok {S : HSt} {k n : Nat} {i v : Int32} (h : h_ld S k n i = some v) : vp_in i n ∧ S.2 k i.toNatClampNeg = v := by
  unfold h_ld at h
  split at h
  · cases h
  · rename_i hn; exact ⟨hn, Option.some.inj h⟩
theorem h_st_ok {S S' : HSt} {k n : Nat} {i x : Int32} (h : h_st S k n i x = some S') : vp_in i n ∧ (S.1, va_up S.2 k (upd (S.2 k) i.toNatClampNeg x)) = S' := by
  unfold h_st at h
  split at h
  · cases h
  · rename_i hn; exact ⟨hn, Option.some.inj h⟩
theorem h_stz_ok {S S' : HSt} {k n : Nat} {i x : Int32} (h : h_stz S k n i x = some S') : vp_in i n ∧ (S.1, va_up S.2 k (upd (S.2 k) i.toNatClampNeg (vp_nar .boolean x))) = S' := by
  unfold h_stz at h
  split at h
  · cases h
  · rename_i hn; exact ⟨hn, Option.some.inj h⟩
theorem h_nb {v : Int32} (h : v = 0 ∨ v = 1) : narrow .boolean (.int v) = .int v := by
  rcases h with rfl | rfl <;> rfl
theorem h_tab {x : Int32} {k : Int32} (h : ¬ x = k) : ¬ x.toInt = k.toInt := fun e => h (Int32.toInt_inj.mp e)
/-! the private helpers that nest mates call -/
def NW (U : State) : Prop := va_Nw (.methodLinkNest RX1 45 yX3_pair RX3) U ∧ va_Nw (.methodLinkNest RX0 56 yX3_slot RX3) U ∧ va_Nw (.methodLinkNest RX0 66 yX3_pair RX3) U ∧ va_Nw (.methodLinkNest RX0 126 yX3_countOf RX3) U ∧ va_Nw (.methodLinkNest RX0 117 yX3_slipWith RX3) U ∧ va_Nw (.methodLinkNest RX0 73 yX3_labelOf RX3) U ∧ va_Nw (.methodLinkNest RX2 44 yX3_pair RX3) U ∧ va_Nw (.methodLinkNest RX2 51 yX3_labelOf RX3) U
theorem NW.warm {s U : State} (hW : s.WarmedH U.vm) (h : NW s) : NW U := ⟨va_Nw.warmM hW h.1, va_Nw.warmM hW h.2.1, va_Nw.warmM hW h.2.2.1, va_Nw.warmM hW h.2.2.2.1, va_Nw.warmM hW h.2.2.2.2.1, va_Nw.warmM hW h.2.2.2.2.2.1, va_Nw.warmM hW h.2.2.2.2.2.2.1, va_Nw.warmM hW h.2.2.2.2.2.2.2⟩
theorem NW.same {s U : State} (e : s.vm = U.vm) (h : NW s) : NW U := ⟨va_Nw.same rfl e h.1, va_Nw.same rfl e h.2.1, va_Nw.same rfl e h.2.2.1, va_Nw.same rfl e h.2.2.2.1, va_Nw.same rfl e h.2.2.2.2.1, va_Nw.same rfl e h.2.2.2.2.2.1, va_Nw.same rfl e h.2.2.2.2.2.2.1, va_Nw.same rfl e h.2.2.2.2.2.2.2⟩
/-! contracts -/
abbrev hTy (cI cZ : ClassId) : List (ClassId × FieldType) := [(cI, .int), (cZ, .boolean)]
def HPre (D : va_G) (cI cZ : ClassId) (w : HSt → va_W) (S : HSt) (sz : Nat) (U : State) : Prop := U.heap.size = sz ∧ va_P D vwCl (w S) U.heap ∧ va_K D vwCl (hTy cI cZ) U ∧ va_D (fun _ => True) (w S) ∧ NW U
def QI (D : va_G) (w : HSt → va_W) (r : Int32) (S' : HSt) (A : Nat → Prop) : Array Value → State → Outcome → State → Prop := va_Qi (S := HSt) (fun r' u => r' = r ∧ u = S') (fun u t => va_P D vwCl (w u) t.heap ∧ va_D A (w u)) A
def QV (D : va_G) (w : HSt → va_W) (S' : HSt) (A : Nat → Prop) : Array Value → State → Outcome → State → Prop := va_Qv (S := HSt) (fun u => u = S') (fun u t => va_P D vwCl (w u) t.heap ∧ va_D A (w u)) A
def MI (l : Launch) (y : MethodName) (ws : List Cond) (rm : Room) (D : va_G) (cI cZ : ClassId) (w : HSt → va_W) (S : HSt) (av : List Value) (r : Int32) (S' : HSt) : Prop := ∀ sz, Met l y ws rm (va_Pc av (HPre D cI cZ w S sz)) (QI D w r S' (va_A (w S) sz)) 0 0 (va_A (w S) sz)
def MV (l : Launch) (y : MethodName) (ws : List Cond) (rm : Room) (D : va_G) (cI cZ : ClassId) (w : HSt → va_W) (S : HSt) (av : List Value) (S' : HSt) : Prop := ∀ sz, Met l y ws rm (va_Pc av (HPre D cI cZ w S sz)) (QV D w S' (va_A (w S) sz)) 0 0 (va_A (w S) sz)
def MS (l : Launch) (y : MethodName) (ws : List Cond) (rm : Room) (av : List Value) (r : Int32) : Prop := Met l y ws rm (fun v _ => v = av.toArray) (vp_Si (fun r' => r' = r)) 0 0 (fun _ => False)
/-! what stays in a method: the machine, the tables; and its world -/
def HCx (p : Program) (m : MethodId) (c : Code) (cc : ByteArray) (nL : Nat) (s : State) (args : Array Value) (Ts : List Cond) (own : String) (D : va_G) (cI cZ : ClassId) (A : Nat → Prop) : Prop := CallFix p m c cc nL s args Ts own ∧ va_K D vwCl (hTy cI cZ) s ∧ NW s ∧ ∀ q, s.heap.size ≤ q → A q
def HW (D : va_G) (w : HSt → va_W) (S : HSt) (A : Nat → Prop) (s : State) (H : Heap) (locs : List Loc) : Prop := va_P D vwCl (w S) H ∧ va_D A (w S) ∧ va_S A s.heap H locs
section HB
variable {p : Program} {l : Launch} {e : Env} {R : Room} {s : State} {m : MethodId} {args : Array Value} {below : List Frame} {meth : Method} {c : Code} {H : Heap} {locs : List Loc} {cells slots : Nat} {Q : State → Prop}
variable {cc : ByteArray} {nL pc : Nat} {ls : Array Slot} {rest : List Value} {Ts : List Cond} {own : String} {D : va_G} {cI cZ : ClassId} {A : Nat → Prop} {w : HSt → va_W} {S S' : HSt}
theorem h_ald (cx : HCx p m c cc nL s args Ts own D cI cZ A) (hw : HW D w S A s H locs) (q0 : Nat) {a k n : Nat} (ha : (w S)[q0]? = some (a, .inl (cI, n, .inl (S.2 k)))) {i v : Int32} (hv : h_ld S k n i = some v) (hdg : decode cc pc = .ok (.iaload, 1)) (kk : W p l e R s m args below meth c H locs cells slots Q (F0 m (pc + 1) ls (.int v :: rest))) : W p l e R s m args below meth c H locs cells slots Q (F0 m pc ls (.int i :: .ref a :: rest)) := by
  obtain ⟨h1, h2⟩ := h_ld_ok hv
  subst h2
  exact va_iald cx.1.1 cx.1.2.1 cx.2.1 hw.1 q0 0 ha rfl h1 hdg kk
theorem h_aldz (cx : HCx p m c cc nL s args Ts own D cI cZ A) (hw : HW D w S A s H locs) (q0 : Nat) {a k n : Nat} (ha : (w S)[q0]? = some (a, .inl (cZ, n, .inl (S.2 k)))) {i v : Int32} (hv : h_ld S k n i = some v) (hdg : decode cc pc = .ok (.baload, 1)) (kk : W p l e R s m args below meth c H locs cells slots Q (F0 m (pc + 1) ls (.int v :: rest))) : W p l e R s m args below meth c H locs cells slots Q (F0 m pc ls (.int i :: .ref a :: rest)) := by
  obtain ⟨h1, h2⟩ := h_ld_ok hv
  subst h2
  exact va_zald cx.1.1 cx.1.2.1 cx.2.1 hw.1 q0 1 ha rfl h1 hdg kk
theorem h_ast (cx : HCx p m c cc nL s args Ts own D cI cZ A) (hw : HW D w S A s H locs) (q0 : Nat) {a k n : Nat} (ha : (w S)[q0]? = some (a, .inl (cI, n, .inl (S.2 k)))) (hset : ∀ f, (w S).set q0 (a, .inl (cI, n, .inl f)) = w (S.1, va_up S.2 k f)) {i x : Int32} (hv : h_st S k n i x = some S') (hdg : decode cc pc = .ok (.iastore, 1)) (kk : ∀ (H1 : Heap) (locs1 : List Loc), HW D w S' A s H1 locs1 → W p l e R s m args below meth c H1 locs1 cells slots Q (F0 m (pc + 1) ls rest)) : W p l e R s m args below meth c H locs cells slots Q (F0 m pc ls (.int x :: .int i :: .ref a :: rest)) := by
  obtain ⟨h1, h2⟩ := h_st_ok hv
  subst h2
  exact va_iast cx.1.1 cx.1.2.1 cx.2.1 hw.1 hw.2.1 hw.2.2 q0 0 ha rfl h1 hdg (fun H1 locs1 q1 q2 q3 => kk H1 locs1 ⟨by rw [hset] at q1; exact q1, by rw [hset] at q2; exact q2, q3⟩)
theorem h_astz (cx : HCx p m c cc nL s args Ts own D cI cZ A) (hw : HW D w S A s H locs) (q0 : Nat) {a k n : Nat} (ha : (w S)[q0]? = some (a, .inl (cZ, n, .inl (S.2 k)))) (hset : ∀ f, (w S).set q0 (a, .inl (cZ, n, .inl f)) = w (S.1, va_up S.2 k f)) {i x : Int32} (hv : h_stz S k n i x = some S') (hdg : decode cc pc = .ok (.bastore, 1)) (kk : ∀ (H1 : Heap) (locs1 : List Loc), HW D w S' A s H1 locs1 → W p l e R s m args below meth c H1 locs1 cells slots Q (F0 m (pc + 1) ls rest)) : W p l e R s m args below meth c H locs cells slots Q (F0 m pc ls (.int x :: .int i :: .ref a :: rest)) := by
  obtain ⟨h1, h2⟩ := h_stz_ok hv
  subst h2
  exact va_zast cx.1.1 cx.1.2.1 cx.2.1 hw.1 hw.2.1 hw.2.2 q0 1 ha rfl h1 hdg (fun H1 locs1 q1 q2 q3 => kk H1 locs1 ⟨by rw [hset] at q1; exact q1, by rw [hset] at q2; exact q2, q3⟩)
theorem h_len (cx : HCx p m c cc nL s args Ts own D cI cZ A) (hw : HW D w S A s H locs) (q0 : Nat) {a n : Nat} {f : Nat → Int32} (ha : (w S)[q0]? = some (a, .inl (cI, n, .inl f))) {v : Int32} (hv : Int32.ofNat n = v) (hdg : decode cc pc = .ok (.arraylength, 1)) (kk : W p l e R s m args below meth c H locs cells slots Q (F0 m (pc + 1) ls (.int v :: rest))) : W p l e R s m args below meth c H locs cells slots Q (F0 m pc ls (.ref a :: rest)) := va_alen cx.1.1 cx.1.2.1 cx.2.1 hw.1 q0 0 ha (ty := .int) rfl hv hdg kk
theorem h_get (cx : HCx p m c cc nL s args Ts own D cI cZ A) (hw : HW D w S A s H locs) (q0 : Nat) {ci a N : Nat} {fs : List Value} {C : String} {T : u_T} (he : (w S)[q0]? = some (a, .inr (ci, fs))) (hc : vwCl[ci]? = some (C, T, N)) (hin : ∀ z ∈ u_ws C T N, z ∈ Ts) (k : Nat) (hk : k < N) {index : Nat} (hlink : (Cond.fieldLink own index (T k).1 (T k).2.1 (T k).2.2.1).before args s = true) {v : Value} (hv : fs[k]? = some v) (hdg : decode cc pc = .ok (.getfield index, 3)) (kk : W p l e R s m args below meth c H locs cells slots Q (F0 m (pc + 3) ls (v :: rest))) : W p l e R s m args below meth c H locs cells slots Q (F0 m pc ls (.ref a :: rest)) :=
  va_get cx.1.1 cx.1.2.1 cx.1.2.2.2.2 hin cx.1.2.2.2.1 cx.2.1 hw.1 q0 he hc k hk hlink (fun _ h9 => h9) hv hdg kk
theorem h_puti (cx : HCx p m c cc nL s args Ts own D cI cZ A) (hw : HW D w S A s H locs) (q0 : Nat) {ci a N : Nat} {fs : List Value} {C : String} {T : u_T} (he : (w S)[q0]? = some (a, .inr (ci, fs))) (hc : vwCl[ci]? = some (C, T, N)) (hin : ∀ z ∈ u_ws C T N, z ∈ Ts) (ty0 : Nat → FieldType) (hty : ∀ k, k < N → parseFieldDescriptor (T k).2.2.1 = some (ty0 k)) (hnm : ∀ a, a < N → ∀ b, b < N → a ≠ b → (T a).2.1 ≠ (T b).2.1) (k : Nat) (hk : k < N) {index : Nat} (hlink : (Cond.fieldLink own index (T k).1 (T k).2.1 (T k).2.2.1).before args s = true) (hfin : (T k).2.2.2 = false) (hd : parseFieldDescriptor (T k).2.2.1 = some .int) (hlen : k < fs.length) {x : Int32} (j : Nat) (hset : (w S).set q0 (a, .inr (ci, fs.set k (.int x))) = w (h_put S j x)) (hv : some (h_put S j x) = some S') (hdg : decode cc pc = .ok (.putfield index, 3)) (kk : ∀ (H1 : Heap) (locs1 : List Loc), HW D w S' A s H1 locs1 → W p l e R s m args below meth c H1 locs1 cells slots Q (F0 m (pc + 3) ls rest)) : W p l e R s m args below meth c H locs cells slots Q (F0 m pc ls (.int x :: .ref a :: rest)) := by
  have h2 := Option.some.inj hv
  subst h2
  exact va_put (ty := .int) cx.1.1 cx.1.2.1 cx.1.2.2.2.2 hin ty0 hty hnm cx.1.2.2.2.1 cx.2.1 hw.1 hw.2.1 hw.2.2 q0 he hc k hk hlink (fun _ h9 => h9) hfin hd rfl rfl hlen hdg (fun H1 locs1 q1 q2 q3 => kk H1 locs1 ⟨by rw [hset] at q1; exact q1, by rw [hset] at q2; exact q2, q3⟩)
theorem h_copy (cx : HCx p m c cc nL s args Ts own D cI cZ A) (hw : HW D w S A s H locs) {index : Nat} (hlink : (Cond.methodLink own index arraycopyName).before args s = true) (hnat : (Cond.native arraycopyName).before args s = true) (hstat : (Cond.static arraycopyName).before args s = true) (hini : (Cond.initialized "java/lang/System").before args s = true) (q0 q1 : Nat) {a0 a1 j k n : Nat} (ha0 : (w S)[q0]? = some (a0, .inl (cI, n, .inl (S.2 j)))) (ha1 : (w S)[q1]? = some (a1, .inl (cI, n, .inl (S.2 k)))) (hset : ∀ f, (w S).set q1 (a1, .inl (cI, n, .inl f)) = w (S.1, va_up S.2 k f)) (hn : n < 2 ^ 31) (hv : some (h_cp S j k n) = some S') (hsize : ls.size = nL) (hframes : 1 ≤ R.frames) (hlocals : (rest.map fun v => v.category).sum + (nativeFrameWords "java/lang/System" "arraycopy" 5 + 11) ≤ R.locals) {vn : Int32} (hvn : Int32.ofNat n = vn) (hdg : decode cc pc = .ok (.invokestatic index, 3)) (kk : ∀ (H1 : Heap) (locs1 : List Loc), HW D w S' A s H1 locs1 → W p l e R s m args below meth c H1 locs1 cells slots Q (F0 m (pc + 3) ls rest)) : W p l e R s m args below meth c H locs cells slots Q (F0 m pc ls (.int vn :: .int 0 :: .ref a1 :: .int 0 :: .ref a0 :: rest)) := by
  have h2 := Option.some.inj hv
  subst h2
  subst hvn
  have hc : (Int32.ofNat n).toNatClampNeg = n := nI_clamp hn
  have h0 : (0 : Int32).toNatClampNeg = 0 := rfl
  refine va_copyi (ty := .int) cx.1.1 cx.1.2.1 (cx.1.2.2.1.trans hsize.symm) cx.1.2.2.2.1 hlink hnat hstat hini cx.2.1 hw.1 hw.2.1 hw.2.2 q0 q1 0 0 ha0 ha1 rfl rfl rfl (by decide) (by decide) (nI_pos hn) (by rw [hc, h0]; omega) (by rw [hc, h0]; omega) (fun _ _ => rfl) hframes hlocals hdg (fun H1 locs1 q1 q2 q3 => kk H1 locs1 ⟨?_, ?_, q3⟩)
  · rw [hset, hc, h0] at q1
    exact q1
  · rw [hset, hc, h0] at q2
    exact q2
theorem h_free (cx : HCx p m c cc nL s args Ts own D cI cZ A) (hw : HW D w S A s H locs) : ∀ q, va_A (w S) H.size q → A q := by
  intro q h
  rcases h with ⟨k, e, h⟩ | h
  · exact hw.2.1.2 k (q, e) h
  · exact cx.2.2.2 q (Nat.le_trans hw.2.2.1 h)
theorem h_blind {av : List Value} {sz : Nat} : FrameBlind (va_Pc av (HPre D cI cZ w S sz)) := fun a U g mk q => by
  obtain ⟨q0, q1, qP, qK, qD, qN⟩ := q
  exact ⟨q0, q1, qP, va_K.moved (u := U) (U := U.calling g mk a) (Vm.Alike.refl U.vm) qK, qD, NW.same (s := U) (U := U.calling g mk a) rfl qN⟩
theorem h_pre (cx : HCx p m c cc nL s args Ts own D cI cZ A) (hw : HW D w S A s H locs) {av : List Value} : ∀ U : State, U.heap = H → s.WarmedH U.vm → va_Pc av (HPre D cI cZ w S H.size) av.toArray U := fun U hU hW => ⟨rfl, by rw [hU], by rw [hU]; exact hw.1, va_K.moved hW.alike cx.2.1, hw.2.1.weaken (fun _ _ _ _ => trivial), NW.warm hW cx.2.2.1⟩
variable {y : MethodName} {ws : List Cond} {rm : Room} {As : List Value} {b : Nat} {r : Int32} {C : String} {index : Nat} {bytes : ByteArray} {maxL n : Nat} {ret : Option FieldType} {st0 : List Value}
theorem h_callI (cx : HCx p m c cc nL s args Ts own D cI cZ A) (hw : HW D w S A s H locs) (hM : MI l y ws rm D cI cZ w S (.ref b :: As) r S') (cw : CallW R s args own C index y bytes maxL ret ws rm 0 0 n) (q0 : Nat) {ci : Nat} {fs : List Value} {qc : vw_C} (he : (w S)[q0]? = some (b, .inr (ci, fs))) (hc : vwCl[ci]? = some qc) (hC : qc.1 = C) (hn : As.length = n) (hsize : ls.size = nL) (hst : st0 = As.reverse ++ .ref b :: rest) (hroom : (rest.map fun v => v.category).sum ≤ 8) (hdg : decode cc pc = .ok (.invokevirtual index, 3)) (hf : cells ≤ R.cells ∧ slots ≤ R.slots) (kk : ∀ (H1 : Heap) (locs1 : List Loc), HW D w S' A s H1 locs1 → W p l e R s m args below meth c H1 locs1 cells slots Q (F0 m (pc + 3) ls (.int r :: rest))) : W p l e R s m args below meth c H locs cells slots Q (F0 m pc ls st0) := by
  subst hC
  have hFr := h_free cx hw
  refine va_calli (va_runV (As := As) (rest := rest) cx.1 (hM H.size) cw ⟨h_blind, va_recv cx.2.1 hw.1 hc he, h_pre cx hw⟩ rfl hn hsize hst (lv_room hroom) hdg hf) hw.2.2 (fun q _ h => hFr q h) hFr (fun r1 u t H1 locs1 ht hvm hp hB hz hk hS => ?_)
  obtain ⟨rfl, rfl⟩ := hp
  obtain ⟨hP1, hD1⟩ := hB
  rw [ht] at hP1
  exact kk H1 locs1 ⟨hP1, hD1.weaken (fun _ q _ h => hFr q.1 h), hS⟩
theorem h_callV (cx : HCx p m c cc nL s args Ts own D cI cZ A) (hw : HW D w S A s H locs) (hM : MV l y ws rm D cI cZ w S (.ref b :: As) S') (cw : CallW R s args own C index y bytes maxL ret ws rm 0 0 n) (q0 : Nat) {ci : Nat} {fs : List Value} {qc : vw_C} (he : (w S)[q0]? = some (b, .inr (ci, fs))) (hc : vwCl[ci]? = some qc) (hC : qc.1 = C) (hn : As.length = n) (hsize : ls.size = nL) (hst : st0 = As.reverse ++ .ref b :: rest) (hroom : (rest.map fun v => v.category).sum ≤ 8) (hdg : decode cc pc = .ok (.invokevirtual index, 3)) (hf : cells ≤ R.cells ∧ slots ≤ R.slots) (kk : ∀ (H1 : Heap) (locs1 : List Loc), HW D w S' A s H1 locs1 → W p l e R s m args below meth c H1 locs1 cells slots Q (F0 m (pc + 3) ls rest)) : W p l e R s m args below meth c H locs cells slots Q (F0 m pc ls st0) := by
  subst hC
  have hFr := h_free cx hw
  refine va_callv (va_runV (As := As) (rest := rest) cx.1 (hM H.size) cw ⟨h_blind, va_recv cx.2.1 hw.1 hc he, h_pre cx hw⟩ rfl hn hsize hst (lv_room hroom) hdg hf) hw.2.2 (fun q _ h => hFr q h) hFr (fun u t H1 locs1 ht hvm hp hB hz hk hS => ?_)
  subst hp
  obtain ⟨hP1, hD1⟩ := hB
  rw [ht] at hP1
  exact kk H1 locs1 ⟨hP1, hD1.weaken (fun _ q _ h => hFr q.1 h), hS⟩
/-- a static method that reads its world -/
theorem h_callSI (cx : HCx p m c cc nL s args Ts own D cI cZ A) (hw : HW D w S A s H locs) (hM : MI l y ws rm D cI cZ w S As r S') (cw : CallB R s args own index y bytes maxL ret ws rm 0 0 n ∧ (Cond.static y).before args s = true) (hn : As.length = n) (hsize : ls.size = nL) (hst : st0 = As.reverse ++ rest) (hroom : (rest.map fun v => v.category).sum ≤ 8) (hdg : decode cc pc = .ok (.invokestatic index, 3)) (hf : cells ≤ R.cells ∧ slots ≤ R.slots) (kk : ∀ (H1 : Heap) (locs1 : List Loc), HW D w S' A s H1 locs1 → W p l e R s m args below meth c H1 locs1 cells slots Q (F0 m (pc + 3) ls (.int r :: rest))) : W p l e R s m args below meth c H locs cells slots Q (F0 m pc ls st0) := by
  have hFr := h_free cx hw
  refine va_calli (va_runS (As := As) (rest := rest) cx.1 (hM H.size) cw ⟨h_blind, h_pre cx hw⟩ rfl hn hsize hst (lv_room hroom) hdg hf) hw.2.2 (fun q _ h => hFr q h) hFr (fun r1 u t H1 locs1 ht hvm hp hB hz hk hS => ?_)
  obtain ⟨rfl, rfl⟩ := hp
  obtain ⟨hP1, hD1⟩ := hB
  rw [ht] at hP1
  exact kk H1 locs1 ⟨hP1, hD1.weaken (fun _ q _ h => hFr q.1 h), hS⟩
/-- a static method of numbers alone: the class's own, and a nest mate's -/
theorem h_callS (cf : CallFix p m c cc nL s args Ts own) (hM : MS l y ws rm As r) (cw : CallB R s args own index y bytes maxL ret ws rm 0 0 n ∧ (Cond.static y).before args s = true) (hn : As.length = n) (hsize : ls.size = nL) (hst : st0 = As.reverse ++ rest) (hroom : (rest.map fun v => v.category).sum ≤ 8) (hdg : decode cc pc = .ok (.invokestatic index, 3)) (hf : cells ≤ R.cells ∧ slots ≤ R.slots) (kk : W p l e R s m args below meth c H locs cells slots Q (F0 m (pc + 3) ls (.int r :: rest))) : W p l e R s m args below meth c H locs cells slots Q (F0 m pc ls st0) := by
  refine vp_callSi (W.runS (As := As) (rest := rest) cf hM cw preEq rfl hn hsize hst (lv_room hroom) hdg hf) (fun r1 hr => ?_)
  subst hr
  exact kk
theorem h_callN (cf : CallFix p m c cc nL s args Ts own) (hM : MS l y ws rm As r) {host : String} (cw : va_CN R s args own index y host bytes maxL ret ws rm 0 0 n ∧ (Cond.static y).before args s = true ∧ True) (hn : As.length = n) (hsize : ls.size = nL) (hst : st0 = As.reverse ++ rest) (hroom : (rest.map fun v => v.category).sum ≤ 8) (hdg : decode cc pc = .ok (.invokestatic index, 3)) (hf : cells ≤ R.cells ∧ slots ≤ R.slots) (kk : W p l e R s m args below meth c H locs cells slots Q (F0 m (pc + 3) ls (.int r :: rest))) : W p l e R s m args below meth c H locs cells slots Q (F0 m pc ls st0) := by
  refine vp_callSi (va_Run.run (va_runSN (As := As) (rest := rest) cf hM cw preEq rfl hn hsize hst (lv_room hroom) hdg hf)) (fun r1 hr => ?_)
  subst hr
  exact kk
/-- ends -/
theorem h_iret (cx : HCx p m c cc nL s args Ts own D cI cZ A) (hw : HW D w S A s H locs) {ty : FieldType} (hr : meth.sig.returnType = some ty) (hlk : meth.locks = false) {v : Int32} (hn : narrow ty (.int v) = .int v) (h1 : v = r) (h2 : S = S') (hdg : decode cc pc = .ok (.ireturn, 1)) : W p l e R s m args below meth c H locs cells slots (MQ below (QI D w r S' A) args s cells slots A) (F0 m pc ls [.int v]) := by
  subst h1; subst h2
  exact W.zret cx.1.1 cx.1.2.1 hr hn (fun t ht hW => ⟨⟨v, S, rfl, ⟨rfl, rfl⟩, by rw [ht]; exact hw.1, hw.2.1⟩, hw.2.2.F ht⟩) hw.2.2.2.2 hdg hlk
theorem h_vret (cx : HCx p m c cc nL s args Ts own D cI cZ A) (hw : HW D w S A s H locs) (hr : meth.sig.returnType = none) (hlk : meth.locks = false) (h2 : S = S') (hdg : decode cc pc = .ok (.return_, 1)) : W p l e R s m args below meth c H locs cells slots (MQ below (QV D w S' A) args s cells slots A) (F0 m pc ls []) := by
  subst h2
  exact W.vret cx.1.1 cx.1.2.1 hr (fun t ht hW => ⟨⟨S, rfl, rfl, by rw [ht]; exact hw.1, hw.2.1⟩, hw.2.2.F ht⟩) hw.2.2.2.2 hdg hlk
theorem h_sret (cf : CallFix p m c cc nL s args Ts own) {ty : FieldType} (hr : meth.sig.returnType = some ty) (hlk : meth.locks = false) {v : Int32} (hn : narrow ty (.int v) = .int v) (h1 : v = r) (hdg : decode cc pc = .ok (.ireturn, 1)) : W p l e R s m args below meth c s.heap [] cells slots (MQ below (vp_Si (fun r' => r' = r)) args s cells slots (fun _ => False)) (F0 m pc ls [.int v]) := by
  subst h1
  exact W.zret cf.1 cf.2.1 hr hn (fun t ht hW => ⟨v, rfl, rfl, ht⟩) (fun q h => by cases h) hdg hlk
/-- a contract out of a walk -/
theorem MI.ofW {ws' : List Cond} {av : List Value} (hy : plainName y.cls = true) (hws : ws = Cond.code y cc maxL ret :: ws') (hlen : (lg_sl av).length ≤ maxL) (body : ∀ (p : Program) (e : Env) (s : State) (m : MethodId) (below : List Frame) (meth : Method) (c : Code) (A : Nat → Prop), HCx p m c cc maxL s av.toArray ws y.cls D cI cZ A → meth.sig.returnType = ret → meth.locks = false → HW D w S A s s.heap [] → ∀ ls : Array Slot, lv_has ls maxL (lv_args 0 av) → W p l e rm s m av.toArray below meth c s.heap [] 0 0 (MQ below (QI D w r S' A) av.toArray s 0 0 A) (F0 m 0 ls [])) : MI l y ws rm D cI cZ w S av r S' := by
  intro sz
  refine Met.ofW (cc := cc) (maxL := maxL) (ret := ret) hy hws ?_
  intro p e s m args below meth c s₁ B hml hv
  obtain ⟨rfl, hsz, hP, hK, hD0, hN⟩ := hv
  have hts := atoms_spec (ws := ws) B.pre
  have hown : s.vm.findClass y.cls = some m.cls := findClass_of_methodNamed B.named
  subst hsz
  have hD := hD0.self (sz := s.heap.size)
  have hl := lv_entry av (n := maxL) hlen
  rw [lg_entry_eq]
  generalize (lg_sl av ++ List.replicate (maxL - (lg_sl av).length) Slot.unset).toArray = ls at hl ⊢
  exact body p e s m below meth c (va_A (w S) s.heap.size) ⟨⟨B.exec, B.bytes, hml, hown, hts⟩, hK, hN, fun q h => Or.inr h⟩ B.returns B.notSynchronized ⟨hP, hD, va_S.rf⟩ ls hl
theorem MV.ofW {ws' : List Cond} {av : List Value} (hy : plainName y.cls = true) (hws : ws = Cond.code y cc maxL ret :: ws') (hlen : (lg_sl av).length ≤ maxL) (body : ∀ (p : Program) (e : Env) (s : State) (m : MethodId) (below : List Frame) (meth : Method) (c : Code) (A : Nat → Prop), HCx p m c cc maxL s av.toArray ws y.cls D cI cZ A → meth.sig.returnType = ret → meth.locks = false → HW D w S A s s.heap [] → ∀ ls : Array Slot, lv_has ls maxL (lv_args 0 av) → W p l e rm s m av.toArray below meth c s.heap [] 0 0 (MQ below (QV D w S' A) av.toArray s 0 0 A) (F0 m 0 ls [])) : MV l y ws rm D cI cZ w S av S' := by
  intro sz
  refine Met.ofW (cc := cc) (maxL := maxL) (ret := ret) hy hws ?_
  intro p e s m args below meth c s₁ B hml hv
  obtain ⟨rfl, hsz, hP, hK, hD0, hN⟩ := hv
  have hts := atoms_spec (ws := ws) B.pre
  have hown : s.vm.findClass y.cls = some m.cls := findClass_of_methodNamed B.named
  subst hsz
  have hD := hD0.self (sz := s.heap.size)
  have hl := lv_entry av (n := maxL) hlen
  rw [lg_entry_eq]
  generalize (lg_sl av ++ List.replicate (maxL - (lg_sl av).length) Slot.unset).toArray = ls at hl ⊢
  exact body p e s m below meth c (va_A (w S) s.heap.size) ⟨⟨B.exec, B.bytes, hml, hown, hts⟩, hK, hN, fun q h => Or.inr h⟩ B.returns B.notSynchronized ⟨hP, hD, va_S.rf⟩ ls hl
theorem MS.ofW {ws' : List Cond} {av : List Value} (hy : plainName y.cls = true) (hws : ws = Cond.code y cc maxL ret :: ws') (hlen : (lg_sl av).length ≤ maxL) (body : ∀ (p : Program) (e : Env) (s : State) (m : MethodId) (below : List Frame) (meth : Method) (c : Code), CallFix p m c cc maxL s av.toArray ws y.cls → meth.sig.returnType = ret → meth.locks = false → ∀ ls : Array Slot, lv_has ls maxL (lv_args 0 av) → W p l e rm s m av.toArray below meth c s.heap [] 0 0 (MQ below (vp_Si (fun r' => r' = r)) av.toArray s 0 0 (fun _ => False)) (F0 m 0 ls [])) : MS l y ws rm av r := by
  refine Met.ofW (cc := cc) (maxL := maxL) (ret := ret) hy hws ?_
  intro p e s m args below meth c s₁ B hml hv
  have hv : args = av.toArray := hv
  subst hv
  have hts := atoms_spec (ws := ws) B.pre
  have hown : s.vm.findClass y.cls = some m.cls := findClass_of_methodNamed B.named
  have hl := lv_entry av (n := maxL) hlen
  rw [lg_entry_eq]
  generalize (lg_sl av ++ List.replicate (maxL - (lg_sl av).length) Slot.unset).toArray = ls at hl ⊢
  exact body p e s m below meth c ⟨B.exec, B.bytes, hml, hown, hts⟩ B.returns B.notSynchronized ls hl
end HB
