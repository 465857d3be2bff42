section TV
variable {S M M1 S1 : HSt} {n : Nat} {T : Nat → Nat → Nat} {en : Nat → Int32} {md : Nat → Nat} {od lm : Nat} {hl hk kl kk : Nat → Nat → Nat}
theorem NetR_tick {S' M' : HSt} (h : NetR S M n T en) (hS : fr [6, 7, 9, 10, 11] S S') (hM : fr [5, 8, 9, 10, 11, 12, 13, 14, 15, 16, 17] M M') : NetR S' M' n T en :=
  NetR_fr h (by rw [hS.1]) (fun i hi => hS.2 i (by simp; omega)) (by rw [hM.1]) (fun i hi => hM.2 i (by simp; omega))
theorem Told_tick {S' M' : HSt} (h : Told S M) (hS : fr [6, 7, 9, 10, 11] S S') (hM : fr [5, 8, 9, 10, 11, 12, 13, 14, 15, 16, 17] M M') : Told S' M' :=
  Told_fr h (by rw [hS.1]) (by rw [hM.1]) (hS.2 14 (by decide)) (hS.2 15 (by decide)) (hM.2 21 (by decide)) (hM.2 22 (by decide))
end TV
theorem op_ticks : Op_ticks Rel := by
  intro S M hR a1
  obtain ⟨n, T, en, md, od, lm, hl, hk, kl, kk, h1, h2, h3⟩ := id hR
  unfold f_X3_ticks f_X4_ticks
  rw [show (20 : Int32) = nI 20 from rfl]
  rcases q_in a1 20 (by omega) with ⟨hx, e⟩ | ⟨a, ha, rfl, e⟩
  · rw [e, Option.bind_some, if_pos (show (0 : Int32) = 0 from rfl)]
    refine ⟨-2, S, M, ?_, rfl, hR⟩
    by_cases z : a1 < 0
    · rw [if_pos z]
    · rw [if_neg z, if_neg]
      intro y
      rcases hx with x | x
      · exact z x
      · have := Int32.lt_iff_toInt_lt.mp x
        have := Int32.le_iff_toInt_le.mp y
        omega
  · rw [e, Option.bind_some, if_neg (show ¬ (1 : Int32) = 0 by decide), if_neg (nI_pos (by omega)), if_pos (nle ha (by omega))]
    have key : ∃ (r : Int32) (S1 M1 : HSt), f_X0_runTicks S (nI a) = some (r, S1) ∧ f_X4_ticks_17 h_fu M (nI a) 0 0 = some (r, M1) ∧ Rel S1 M1 := by
      unfold f_X0_runTicks
      refine lp_two (fun k (q : HSt × Int32 × Int32) => f_X0_runTicks_4 k q.1 (nI a) q.2.1 q.2.2) (fun k (q : HSt × Int32 × Int32) => f_X4_ticks_17 k q.1 (nI a) q.2.1 q.2.2) (fun i q q' => q.2.2 = nI i ∧ q'.2.2 = nI i ∧ q.2.1 = q'.2.1 ∧ NetR q.1 q'.1 n T en ∧ (∃ hl hk kl kk, Lab4 q.1 q'.1 n T md od lm hl hk kl kk) ∧ Told q.1 q'.1 ∧ q.1.1 3 = S.1 3 ∧ q'.1.1 1 = S.1 3 + nI i) a (fun o o' => ∃ (r : Int32) (S1 M1 : HSt), o = some (r, S1) ∧ o' = some (r, M1) ∧ Rel S1 M1) ?_ ?_ h_fu 0 (S, 0, 0) (M, 0, 0) (Nat.zero_le _) (by have := fu_big; omega) ⟨rfl, rfl, rfl, h1, ⟨hl, hk, kl, kk, h2.1, h2.2.1, h2.2.2.1, h2.2.2.2.1⟩, h3, rfl, by dsimp only; rw [← h2.2.2.2.2]; exact (Int32.add_zero _).symm⟩
      · rintro k i ⟨S1, x, x'⟩ ⟨M1, y, y'⟩ hi ⟨q1, q2, q3, q4, ⟨hl, hk, kl, kk, q5⟩, q6, q7, q8⟩
        dsimp only at q1 q2 q3 q4 q5 q6 q7 q8
        subst q1 q2 q3
        right
        have e1 : f_X0_runTicks_4 (k + 1) S1 (nI a) x (nI i) = f_X0_runTicks_4_s (f_X0_runTicks_4 k) S1 (nI a) x (nI i) := rfl
        have e2 : f_X4_ticks_17 (k + 1) M1 (nI a) x (nI i) = f_X4_ticks_17_s (f_X4_ticks_17 k) M1 (nI a) x (nI i) := rfl
        dsimp only
        rw [e1, e2]
        unfold f_X0_runTicks_4_s f_X4_ticks_17_s f_X0_runTicks_21 f_X4_ticks_50
        obtain ⟨r, S2, M2, hl', hk', kl', kk', uH, uK, t1, t2, t3, t4, t5, t6, t7, t8, t9⟩ := tick_spec q4 q5
        rw [if_neg (ngt hi (by omega)), if_neg (ngt hi (by omega)), t1, bi_s, t2, Option.bind_some, Option.bind_some, nI_1]
        have hrel : ∀ c : Int32, c = c → NetR S2 (h_put M2 1 (M2.1 1 + 1)) n T en ∧ (∃ hl hk kl kk, Lab4 S2 (h_put M2 1 (M2.1 1 + 1)) n T md od lm hl hk kl kk) ∧ Told S2 (h_put M2 1 (M2.1 1 + 1)) ∧ S2.1 3 = S.1 3 ∧ (h_put M2 1 (M2.1 1 + 1)).1 1 = S.1 3 + nI (i + 1) := by
          intro _ _
          refine ⟨NetR_fr (NetR_tick q4 t3 t4) rfl (fun _ _ => rfl) rfl (fun _ _ => rfl), ⟨hl', hk', kl', kk', t5⟩, Told_fr (Told_tick q6 t3 t4) rfl rfl rfl rfl rfl rfl, by rw [t3.1]; exact q7, ?_⟩
          rw [put_1, if_pos rfl, t4.1, q8, Int32.add_assoc, nI_1]
        obtain ⟨z1, z2, z3, z4, z5⟩ := hrel 0 rfl
        obtain ⟨r7, c1, c2⟩ := changed_spec (h_put M2 1 (M2.1 1 + 1)) 0 (by omega)
        rw [show (0 : Int32) = nI 0 from rfl, c1, Option.bind_some]
        rcases c2 with ⟨c2, c3⟩ | ⟨c2, v, c3, c4⟩
        · have hu : ¬ uH := fun z => by
            obtain ⟨v, v1, v2⟩ := t8.mpr z
            exact (c3 v v1).1 v2
          rw [c2, if_pos (show (0 : Int32) = nI 0 from rfl), if_pos (show r &&& 1 = nI 0 from t6.mpr hu)]
          exact ⟨(S2, x, nI (i + 1)), (h_put M2 1 (M2.1 1 + 1), x, nI (i + 1)), ⟨rfl, rfl, rfl, z1, z2, z3, z4, z5⟩, rfl, by show f_X4_ticks_17 k _ _ (x + nI 0) _ = _; rw [show x + nI 0 = x from Int32.add_zero x]⟩
        · have hu : uH := t8.mp ⟨v, c3, by rcases c4 with w | w; exact w; exact absurd w.1 (by decide)⟩
          rw [c2, if_neg (show ¬ (1 : Int32) = nI 0 by decide), if_neg (show ¬ r &&& 1 = nI 0 from fun z => t6.mp z hu)]
          exact ⟨(S2, x + 1, nI (i + 1)), (h_put M2 1 (M2.1 1 + 1), x + 1, nI (i + 1)), ⟨rfl, rfl, rfl, z1, z2, z3, z4, z5⟩, rfl, rfl⟩
      · rintro k ⟨S1, x, x'⟩ ⟨M1, y, y'⟩ ⟨q1, q2, q3, q4, ⟨hl, hk, kl, kk, q5⟩, q6, q7, q8⟩
        dsimp only at q1 q2 q3 q4 q5 q6 q7 q8
        subst q1 q2 q3
        have e1 : f_X0_runTicks_4 (k + 1) S1 (nI a) x (nI a) = f_X0_runTicks_4_s (f_X0_runTicks_4 k) S1 (nI a) x (nI a) := rfl
        have e2 : f_X4_ticks_17 (k + 1) M1 (nI a) x (nI a) = f_X4_ticks_17_s (f_X4_ticks_17 k) M1 (nI a) x (nI a) := rfl
        dsimp only
        rw [e1, e2]
        unfold f_X0_runTicks_4_s f_X4_ticks_17_s
        rw [if_pos (nle (Nat.le_refl _) (by omega)), if_pos (nle (Nat.le_refl _) (by omega)), Option.bind_some]
        refine ⟨x, h_put S1 3 (S1.1 3 + nI a), M1, rfl, rfl, n, T, en, md, od, lm, hl, hk, kl, kk, NetR_fr q4 rfl (fun _ _ => rfl) rfl (fun _ _ => rfl), ⟨q5.1, q5.2.1, q5.2.2.1, q5.2.2.2, ?_⟩, q6⟩
        rw [put_1, if_pos rfl, q7, q8]
    obtain ⟨r, S1, M1, k1, k2, k3⟩ := key
    rw [k1, k2, bi_s]
    exact ⟨r, S1, M1, rfl, rfl, k3⟩
/-! how long till nothing changes: what is, is put aside and comes back */ -/
theorem pa0 (M : HSt) : ∃ M', f_X4_putsAside M 0 = some M' ∧ fr [18] M M' ∧ ∀ x, x < 336 → M'.2 18 x = M.2 8 x ∧ M'.2 18 (336 + x) = M.2 9 x ∧ M'.2 18 (672 + x) = M.2 10 x ∧ M'.2 18 (1008 + x) = M.2 11 x := by
  unfold f_X4_putsAside
  refine lp_up (fun k (q : HSt × Int32) => f_X4_putsAside_2 k q.1 0 q.2) (fun i q => q.2 = nI i ∧ fr [18] M q.1 ∧ ∀ x, x < i → q.1.2 18 x = M.2 8 x ∧ q.1.2 18 (336 + x) = M.2 9 x ∧ q.1.2 18 (672 + x) = M.2 10 x ∧ q.1.2 18 (1008 + x) = M.2 11 x) 336 (fun o => ∃ M', o = some M' ∧ fr [18] M M' ∧ ∀ x, x < 336 → M'.2 18 x = M.2 8 x ∧ M'.2 18 (336 + x) = M.2 9 x ∧ M'.2 18 (672 + x) = M.2 10 x ∧ M'.2 18 (1008 + x) = M.2 11 x) ?_ ?_ h_fu 0 (M, 0) (Nat.zero_le _) (by have := fu_big; omega) ⟨rfl, fr_rf _ _, fun x h => by omega⟩
  · rintro k i ⟨M1, y⟩ hi ⟨q1, q2, q3⟩
    dsimp only at q1 q2 q3
    subst q1
    right
    have e1 : f_X4_putsAside_2 (k + 1) M1 0 (nI i) = f_X4_putsAside_2_s (f_X4_putsAside_2 k) M1 0 (nI i) := rfl
    dsimp only
    rw [e1]
    unfold f_X4_putsAside_2_s f_X4_putsAside_136
    rw [if_neg (show ¬ (336 : Int32) ≤ nI i from ngt (b := 336) hi (by omega)), if_pos (show (0 : Int32) = 0 from rfl), show (336 + nI i : Int32) = nI (336 + i) from nI_add 336 i, show (672 + nI i : Int32) = nI (672 + i) from nI_add 672 i, show (1008 + nI i : Int32) = nI (1008 + i) from nI_add 1008 i]
    rw [ld_n _ _ (by omega) (by omega), Option.bind_some, st_n _ _ _ (by omega) (by omega), Option.bind_some, ld_n _ _ (by omega) (by omega), Option.bind_some, st_n _ _ _ (by omega) (by omega), Option.bind_some, ld_n _ _ (by omega) (by omega), Option.bind_some, st_n _ _ _ (by omega) (by omega), Option.bind_some, ld_n _ _ (by omega) (by omega), Option.bind_some, st_n _ _ _ (by omega) (by omega), Option.bind_some, nI_1]
    refine ⟨(wr (wr (wr (wr M1 18 i (M1.2 8 i)) 18 (336 + i) (M1.2 9 i)) 18 (672 + i) (M1.2 10 i)) 18 (1008 + i) (M1.2 11 i), nI (i + 1)), ⟨rfl, fr_tr q2 (fr_tr (fr_wr (by decide)) (fr_tr (fr_wr (by decide)) (fr_tr (fr_wr (by decide)) (fr_wr (by decide))))), fun x hx => ?_⟩, rfl⟩
    dsimp only
    by_cases e : x = i
    · rw [e]
      refine ⟨?_, ?_, ?_, ?_⟩
      · rw [wr_n _ _ (by omega), wr_n _ _ (by omega), wr_n _ _ (by omega), wr_s, q2.2 8 (by decide)]
      · rw [wr_n _ _ (by omega), wr_n _ _ (by omega), wr_s, q2.2 9 (by decide)]
      · rw [wr_n _ _ (by omega), wr_s, q2.2 10 (by decide)]
      · rw [wr_s, q2.2 11 (by decide)]
    · have h := q3 x (by omega)
      refine ⟨?_, ?_, ?_, ?_⟩
      · rw [wr_n _ _ (by omega), wr_n _ _ (by omega), wr_n _ _ (by omega), wr_n _ _ (by omega)]; exact h.1
      · rw [wr_n _ _ (by omega), wr_n _ _ (by omega), wr_n _ _ (by omega), wr_n _ _ (by omega)]; exact h.2.1
      · rw [wr_n _ _ (by omega), wr_n _ _ (by omega), wr_n _ _ (by omega), wr_n _ _ (by omega)]; exact h.2.2.1
      · rw [wr_n _ _ (by omega), wr_n _ _ (by omega), wr_n _ _ (by omega), wr_n _ _ (by omega)]; exact h.2.2.2
  · rintro k ⟨M1, y⟩ ⟨q1, q2, q3⟩
    dsimp only at q1 q2 q3
    subst q1
    exact ⟨M1, rfl, q2, q3⟩
theorem pa1 (M : HSt) : ∃ M', f_X4_putsAside M 1 = some M' ∧ fr [8, 9, 10, 11] M M' ∧ ∀ x, x < 336 → M'.2 8 x = M.2 18 x ∧ M'.2 9 x = M.2 18 (336 + x) ∧ M'.2 10 x = M.2 18 (672 + x) ∧ M'.2 11 x = M.2 18 (1008 + x) := by
  unfold f_X4_putsAside
  refine lp_up (fun k (q : HSt × Int32) => f_X4_putsAside_2 k q.1 1 q.2) (fun i q => q.2 = nI i ∧ fr [8, 9, 10, 11] M q.1 ∧ ∀ x, x < i → q.1.2 8 x = M.2 18 x ∧ q.1.2 9 x = M.2 18 (336 + x) ∧ q.1.2 10 x = M.2 18 (672 + x) ∧ q.1.2 11 x = M.2 18 (1008 + x)) 336 (fun o => ∃ M', o = some M' ∧ fr [8, 9, 10, 11] M M' ∧ ∀ x, x < 336 → M'.2 8 x = M.2 18 x ∧ M'.2 9 x = M.2 18 (336 + x) ∧ M'.2 10 x = M.2 18 (672 + x) ∧ M'.2 11 x = M.2 18 (1008 + x)) ?_ ?_ h_fu 0 (M, 0) (Nat.zero_le _) (by have := fu_big; omega) ⟨rfl, fr_rf _ _, fun x h => by omega⟩
  · rintro k i ⟨M1, y⟩ hi ⟨q1, q2, q3⟩
    dsimp only at q1 q2 q3
    subst q1
    right
    have e1 : f_X4_putsAside_2 (k + 1) M1 1 (nI i) = f_X4_putsAside_2_s (f_X4_putsAside_2 k) M1 1 (nI i) := rfl
    dsimp only
    rw [e1]
    unfold f_X4_putsAside_2_s f_X4_putsAside_136
    rw [if_neg (show ¬ (336 : Int32) ≤ nI i from ngt (b := 336) hi (by omega)), if_neg (show ¬ (1 : Int32) = 0 by decide), show (336 + nI i : Int32) = nI (336 + i) from nI_add 336 i, show (672 + nI i : Int32) = nI (672 + i) from nI_add 672 i, show (1008 + nI i : Int32) = nI (1008 + i) from nI_add 1008 i]
    rw [ld_n _ _ (by omega) (by omega), Option.bind_some, st_n _ _ _ (by omega) (by omega), Option.bind_some, ld_n _ _ (by omega) (by omega), Option.bind_some, st_n _ _ _ (by omega) (by omega), Option.bind_some, ld_n _ _ (by omega) (by omega), Option.bind_some, st_n _ _ _ (by omega) (by omega), Option.bind_some, ld_n _ _ (by omega) (by omega), Option.bind_some, st_n _ _ _ (by omega) (by omega), Option.bind_some, nI_1]
    refine ⟨(wr (wr (wr (wr M1 8 i (M1.2 18 i)) 9 i (M1.2 18 (336 + i))) 10 i (M1.2 18 (672 + i))) 11 i (M1.2 18 (1008 + i)), nI (i + 1)), ⟨rfl, fr_tr q2 (fr_tr (fr_wr (by decide)) (fr_tr (fr_wr (by decide)) (fr_tr (fr_wr (by decide)) (fr_wr (by decide))))), fun x hx => ?_⟩, rfl⟩
    dsimp only
    simp (disch := decide) only [wr_o]
    by_cases e : x = i
    · rw [e]
      simp (disch := decide) only [wr_s, wr_o]
      rw [q2.2 18 (by decide)]
      exact ⟨rfl, rfl, rfl, rfl⟩
    · simp (disch := first | exact e | decide) only [wr_n, wr_o]
      exact q3 x (by omega)
  · rintro k ⟨M1, y⟩ ⟨q1, q2, q3⟩
    dsimp only at q1 q2 q3
    subst q1
    exact ⟨M1, rfl, q2, q3⟩
theorem HL_pt {S M S' M' : HSt} {n : Nat} {T : Nat → Nat → Nat} {i j k : Nat} {hl hk : Nat → Nat → Nat} (hn : NetWf n T) (h : HL S M n T i j k hl hk) (a : ∀ x, x < 96 → S'.2 i x = S.2 i x) (b : ∀ x, x < 336 → M'.2 j x = M.2 j x) (c : ∀ x, x < 336 → M'.2 k x = M.2 k x) : HL S' M' n T i j k hl hk := by
  have h12 := hn.1
  refine ⟨fun s d hs hd => ?_, fun x h1 h2 => by rw [a x h2]; exact h.2.1 x h1 h2, fun b' l d hb hl1 hd hno => by rw [b _ (by omega)]; exact h.2.2 b' l d hb hl1 hd hno⟩
  have := ow_lt hn hs
  rw [a _ (by omega), b _ (by omega), c _ (by omega)]
  exact h.1 s d hs hd
theorem op_settles : Op_settles Rel := by
  intro S M hR
  obtain ⟨n, T, en, md, od, lm, hl, hk, kl, kk, h1, h2, h3⟩ := id hR
  have hn := h1.1
  unfold f_X3_settles f_X4_settles f_X0_ticksTillStill
  obtain ⟨Ma, a1, a2, a3⟩ := pa0 M
  rw [a1, Option.bind_some, Option.bind_some, Option.bind_some]
  have key : ∃ (r : Int32) (S1 M1 : HSt), f_X0_ticksTillStill_41 h_fu (h_cp (h_cp S 6 12 96) 7 13 96) (-9) 0 = some (r, S1) ∧ f_X4_settles_9 h_fu Ma 0 1 = some (r, M1) ∧ Rel S1 M1 := by
    have last : ∀ (r : Int32) (S1 M1 : HSt), S1.1 = S.1 → (∀ k, k ∉ [6, 7, 9, 10, 11, 12, 13] → S1.2 k = S.2 k) → (∀ x, x < 96 → S1.2 12 x = S.2 6 x ∧ S1.2 13 x = S.2 7 x) → fr [5, 8, 9, 10, 11, 12, 13, 14, 15, 16, 17, 18] M M1 → M1.2 18 = Ma.2 18 → ∃ (S2 M2 : HSt), f_X0_ticksTillStill_68 S1 r = some (r, S2) ∧ f_X4_putsAside M1 1 = some M2 ∧ Rel S2 M2 := by
      intro r S1 M1 p1 p2 p3 p4 p5
      obtain ⟨M2, b1, b2, b3⟩ := pa1 M1
      refine ⟨h_cp (h_cp S1 12 6 96) 13 7 96, M2, rfl, b1, n, T, en, md, od, lm, hl, hk, kl, kk, ?_, ⟨?_, ?_, ?_, h2.2.2.2.1, ?_⟩, ?_⟩
      · refine NetR_fr h1 (by rw [cp_1, cp_1, p1]) (fun i hi => ?_) (by rw [b2.1, p4.1]) (fun i hi => ?_)
        · rw [cp_o _ (by omega), cp_o _ (by omega)]; exact p2 i (by simp; omega)
        · rw [b2.2 i (by simp; omega), p4.2 i (by simp; omega)]
      · refine MD_fr h2.1 (by rw [cp_1, cp_1, p1]) (by rw [cp_1, cp_1, p1]) ?_ (by rw [b2.2 6 (by decide), p4.2 6 (by decide)]) (by rw [b2.2 7 (by decide), p4.2 7 (by decide)])
        rw [cp_o _ (by omega), cp_o _ (by omega)]; exact p2 8 (by decide)
      · refine HL_pt hn h2.2.1 (fun x hx => ?_) (fun x hx => ?_) (fun x hx => ?_)
        · rw [cp_o _ (by omega), cp_s _ hx]; exact (p3 x hx).1
        · rw [(b3 x hx).1, p5]; exact (a3 x hx).1
        · rw [(b3 x hx).2.1, p5]; exact (a3 x hx).2.1
      · refine HL_pt hn h2.2.2.1 (fun x hx => ?_) (fun x hx => ?_) (fun x hx => ?_)
        · rw [cp_s _ hx, cp_o _ (by omega)]; exact (p3 x hx).2
        · rw [(b3 x hx).2.2.1, p5]; exact (a3 x hx).2.2.1
        · rw [(b3 x hx).2.2.2, p5]; exact (a3 x hx).2.2.2
      · rw [cp_1, cp_1, p1, b2.1, p4.1]; exact h2.2.2.2.2
      · refine Told_fr h3 (by rw [cp_1, cp_1, p1]) (by rw [b2.1, p4.1]) ?_ ?_ (by rw [b2.2 21 (by decide), p4.2 21 (by decide)]) (by rw [b2.2 22 (by decide), p4.2 22 (by decide)])
        · rw [cp_o _ (by omega), cp_o _ (by omega)]; exact p2 14 (by decide)
        · rw [cp_o _ (by omega), cp_o _ (by omega)]; exact p2 15 (by decide)
    refine lp_tw2 (fun k (q : HSt × Int32 × Int32) => f_X0_ticksTillStill_41 k q.1 q.2.1 q.2.2) (fun k (q : HSt × Int32 × Int32) => f_X4_settles_9 k q.1 q.2.1 q.2.2) (fun i q q' => i ≤ 30 ∧ q.2.1 = -9 ∧ q.2.2 = nI i ∧ q'.2.1 = nI i ∧ q'.2.2 = 1 ∧ NetR q.1 q'.1 n T en ∧ (∃ hl hk kl kk, Lab4 q.1 q'.1 n T md od lm hl hk kl kk) ∧ q.1.1 = S.1 ∧ (∀ k, k ∉ [6, 7, 9, 10, 11, 12, 13] → q.1.2 k = S.2 k) ∧ (∀ x, x < 96 → q.1.2 12 x = S.2 6 x ∧ q.1.2 13 x = S.2 7 x) ∧ fr [5, 8, 9, 10, 11, 12, 13, 14, 15, 16, 17, 18] M q'.1 ∧ q'.1.2 18 = Ma.2 18) 31 (fun o o' => ∃ (r : Int32) (S1 M1 : HSt), o = some (r, S1) ∧ o' = some (r, M1) ∧ Rel S1 M1) ?_ ?_ h_fu 0 (h_cp (h_cp S 6 12 96) 7 13 96, -9, 0) (Ma, 0, 1) (by omega) (by have := fu_big; omega) ⟨by omega, rfl, rfl, rfl, rfl, ?_, ⟨hl, hk, kl, kk, ?_, ?_, ?_, h2.2.2.2.1⟩, rfl, fun k hk => ?_, fun x hx => ⟨?_, ?_⟩, fr_mono a2 (by decide), rfl⟩
    · rintro k i ⟨S1, x, x'⟩ ⟨M1, y, y'⟩ hi hik ⟨q0, q1, q2, q3, q4, q5, ⟨hl, hk, kl, kk, q6⟩, q7, q8, q9, q10, q11⟩
      dsimp only at q1 q2 q3 q4 q5 q6 q7 q8 q9 q10 q11
      subst q1 q2 q3 q4
      have e1 : f_X0_ticksTillStill_41 (k + 1) S1 (-9) (nI i) = f_X0_ticksTillStill_41_s (f_X0_ticksTillStill_41 k) S1 (-9) (nI i) := rfl
      have e2 : f_X4_settles_9 (k + 1) M1 (nI i) 1 = f_X4_settles_9_s (f_X4_settles_9 k) M1 (nI i) 1 := rfl
      dsimp only
      rw [e1, e2]
      unfold f_X0_ticksTillStill_41_s f_X4_settles_9_s f_X0_ticksTillStill_62 f_X4_settles_39
      rw [if_pos (show (-9 : Int32) = -9 from rfl), if_neg (show ¬ (1 : Int32) = 0 by decide)]
      by_cases h30 : i = 30
      · left
        subst h30
        obtain ⟨S2, M2, l1, l2, l3⟩ := last (-9) S1 M1 q7 q8 q9 q10 q11
        rw [if_pos (show (30 : Int32) ≤ nI 30 by decide), if_pos (show (30 : Int32) ≤ nI 30 by decide), l1]
        unfold f_X4_settles_44
        rw [l2, Option.bind_some, if_neg (show ¬ (1 : Int32) = 0 by decide)]
        exact ⟨-9, S2, M2, rfl, rfl, l3⟩
      · have hi30 : ¬ (30 : Int32) ≤ nI i := ngt (b := 30) (by omega) (by omega)
        have hi31 : i + 1 ≤ 30 := by omega
        have hi9 : ¬ nI i = -9 := nn9 (by omega)
        have hkm : ∃ m, k = m + 1 := ⟨k - 1, by omega⟩
        obtain ⟨r, S2, M2, hl', hk', kl', kk', uH, uK, t1, t2, t3, t4, t5, t6, t7, t8, t9⟩ := tick_spec q5 q6
        rw [if_neg hi30, if_neg hi30, t1, bi_s, t2, Option.bind_some]
        have n1 : S2.1 = S.1 := by rw [t3.1]; exact q7
        have n2 : ∀ k, k ∉ [6, 7, 9, 10, 11, 12, 13] → S2.2 k = S.2 k := fun k hk => by
          rw [t3.2 k (fun z => hk (by simp at z; simp; omega))]; exact q8 k hk
        have n3 : ∀ x, x < 96 → S2.2 12 x = S.2 6 x ∧ S2.2 13 x = S.2 7 x := fun x hx => by
          rw [t3.2 12 (by decide), t3.2 13 (by decide)]; exact q9 x hx
        have n4 : fr [5, 8, 9, 10, 11, 12, 13, 14, 15, 16, 17, 18] M M2 := fr_tr q10 (fr_mono t4 (by decide))
        have n5 : M2.2 18 = Ma.2 18 := by rw [t4.2 18 (by decide)]; exact q11
        obtain ⟨r6, c1, c2⟩ := changed_spec M2 1 (by omega)
        have c1' : f_X4_isChanged M2 1 = some r6 := c1
        rw [c1', Option.bind_some]
        rcases c2 with ⟨c2, c3⟩ | ⟨c2, v, c3, c4⟩
        · have hu : ¬ uH ∧ ¬ uK := ⟨fun z => by
            obtain ⟨v, v1, v2⟩ := t8.mpr z
            exact (c3 v v1).1 v2, fun z => by
            obtain ⟨v, v1, v2⟩ := t9.mpr z
            exact (c3 v v1).2 rfl v2⟩
          left
          obtain ⟨m, rfl⟩ := hkm
          obtain ⟨S3, M3, l1, l2, l3⟩ := last (nI i) S2 M2 n1 n2 n3 n4 n5
          rw [c2, if_pos (show (0 : Int32) = 0 from rfl), if_pos (t7.mpr hu), show (nI i + 0 : Int32) = nI i from Int32.add_zero _]
          have e3 : f_X0_ticksTillStill_41 (m + 1) S2 (nI i) (nI i + 1) = f_X0_ticksTillStill_41_s (f_X0_ticksTillStill_41 m) S2 (nI i) (nI i + 1) := rfl
          have e4 : f_X4_settles_9 (m + 1) M2 (nI i) 0 = f_X4_settles_9_s (f_X4_settles_9 m) M2 (nI i) 0 := rfl
          rw [e3, e4]
          unfold f_X0_ticksTillStill_41_s f_X4_settles_9_s f_X4_settles_44
          rw [if_neg hi9, if_pos (show (0 : Int32) = 0 from rfl), l1, l2, Option.bind_some, if_pos (show (0 : Int32) = 0 from rfl)]
          exact ⟨nI i, S3, M3, rfl, rfl, l3⟩
        · right
          have hu : ¬ (¬ uH ∧ ¬ uK) := fun z => by
            rcases c4 with w | w
            · exact z.1 (t8.mp ⟨v, c3, w⟩)
            · exact z.2 (t9.mp ⟨v, c3, w.2⟩)
          rw [c2, if_neg (show ¬ (1 : Int32) = 0 by decide), if_neg (fun z => hu (t7.mp z)), nI_1]
          exact ⟨(S2, -9, nI (i + 1)), (M2, nI (i + 1), 1), ⟨hi31, rfl, rfl, rfl, rfl, NetR_tick q5 t3 t4, ⟨hl', hk', kl', kk', t5⟩, n1, n2, n3, n4, n5⟩, rfl, rfl⟩
    · rintro ⟨S1, x, x'⟩ ⟨M1, y, y'⟩ ⟨q0, -⟩
      omega
    · dsimp only
      refine NetR_fr h1 rfl (fun i hi => ?_) (by rw [a2.1]) (fun i hi => a2.2 i (by simp; omega))
      rw [cp_o _ (by omega), cp_o _ (by omega)]
    · dsimp only
      refine MD_fr h2.1 rfl rfl ?_ (a2.2 6 (by decide)) (a2.2 7 (by decide))
      rw [cp_o _ (by omega), cp_o _ (by omega)]
    · dsimp only
      refine HL_fr h2.2.1 ?_ (a2.2 8 (by decide)) (a2.2 9 (by decide)) (fun _ => rfl)
      rw [cp_o _ (by omega), cp_o _ (by omega)]
    · dsimp only
      refine HL_fr h2.2.2.1 ?_ (a2.2 10 (by decide)) (a2.2 11 (by decide)) (fun _ => rfl)
      rw [cp_o _ (by omega), cp_o _ (by omega)]
    · dsimp only
      rw [cp_o _ (fun z => hk (by simp [z])), cp_o _ (fun z => hk (by simp [z]))]
    · dsimp only
      rw [cp_o _ (by omega), cp_s _ hx]
    · dsimp only
      rw [cp_s _ hx, cp_o _ (by omega)]
  obtain ⟨r, S1, M1, k1, k2, k3⟩ := key
  rw [k1, k2, bi_s]
  exact ⟨r, S1, M1, rfl, rfl, k3⟩
