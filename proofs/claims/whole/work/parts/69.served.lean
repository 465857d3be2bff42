theorem frG_sc {M M' : HSt} (h : frG M M') : scM M M' := ⟨h.1, fun k hk => h.2 k (fun q => hk (by simp at q ⊢; omega))⟩
theorem frS_sc {S S' : HSt} (h : frS 5 16 17 S S') : scC S S' := ⟨h.1, fun k hk => h.2 k (fun q => hk (by simp [q])) (fun q => hk (by simp [q]))⟩
theorem told_copy {M : HSt} {t : Nat} (ht : t ≤ 15) (hc : M.1 2 = nI t) (r : Int32) : ∃ M', f_X4_letter_34 h_fu M r 0 = some (r, M') ∧ fr [21, 22] M M' ∧ ∀ k, k < t → M'.2 21 k = M.2 19 k ∧ M'.2 22 k = M.2 20 k := by
  refine lp_up (fun k (q : HSt × Int32) => f_X4_letter_34 k q.1 r q.2) (fun i q => q.2 = nI i ∧ fr [21, 22] M q.1 ∧ ∀ k, k < i → q.1.2 21 k = M.2 19 k ∧ q.1.2 22 k = M.2 20 k) t (fun o => ∃ M', o = some (r, M') ∧ fr [21, 22] M M' ∧ ∀ k, k < t → M'.2 21 k = M.2 19 k ∧ M'.2 22 k = M.2 20 k) ?_ ?_ h_fu 0 (M, 0) (Nat.zero_le _) (by have := fu_big; omega) ⟨rfl, fr_rf _ _, fun k hk => by omega⟩
  · rintro k i ⟨M1, y⟩ hi ⟨q1, q2, q3⟩
    dsimp only at q1 q2 q3
    subst q1
    right
    have e1 : f_X4_letter_34 (k + 1) M1 r (nI i) = f_X4_letter_34_s (f_X4_letter_34 k) M1 r (nI i) := rfl
    dsimp only
    rw [e1]
    unfold f_X4_letter_34_s
    rw [q2.1, hc, if_neg (ngt hi (by omega)), ld_n _ _ (by omega) (by omega), Option.bind_some, st_n _ _ _ (by omega) (by omega), Option.bind_some, ld_n _ _ (by omega) (by omega), Option.bind_some, st_n _ _ _ (by omega) (by omega), Option.bind_some, nI_1]
    refine ⟨(wr (wr M1 21 i (M1.2 19 i)) 22 i ((wr M1 21 i (M1.2 19 i)).2 20 i), nI (i + 1)), ⟨rfl, fr_tr q2 (fr_tr (fr_wr (by decide)) (fr_wr (by decide))), fun j hj => ?_⟩, rfl⟩
    dsimp only
    rw [wr_o _ _ _ (show 21 ≠ 22 by decide), wr_o _ _ _ (show 20 ≠ 21 by decide)]
    by_cases e : j = i
    · rw [e, wr_s, wr_s, q2.2 19 (by decide), q2.2 20 (by decide)]; exact ⟨rfl, rfl⟩
    · rw [wr_n _ _ e, wr_n _ _ e, wr_o _ _ _ (show 22 ≠ 21 by decide)]; exact q3 j (by omega)
  · rintro k ⟨M1, y⟩ ⟨q1, q2, q3⟩
    dsimp only at q1 q2 q3
    subst q1
    refine ⟨M1, ?_, q2, q3⟩
    show f_X4_letter_34_s (f_X4_letter_34 k) M1 r (nI t) = _
    unfold f_X4_letter_34_s
    rw [q2.1, hc, if_pos (nle (Nat.le_refl _) (by omega))]
theorem op_letter : Op_letter Rel := by
  intro S M hR a1 a2
  obtain ⟨n, T, en, md, od, lm, hl, hk, kl, kk, h1, h2, h3⟩ := id hR
  unfold f_X3_letter f_X4_letter
  rcases q_box a1 with ⟨e1, e2⟩ | ⟨b, hb, rfl, e1, e2⟩
  · rw [e1, e2]; exact ⟨-1, S, M, rfl, rfl, hR⟩
  rcases q_cls a2 with ⟨f1, f2⟩ | ⟨c, hc, rfl, f1, f2⟩
  · rw [e1, e2, f1, f2]; exact ⟨-1, S, M, rfl, rfl, hR⟩
  rw [e1, e2, f1, f2]
  repeat rw [Option.bind_some]
  rw [if_neg (show ¬ (1 : Int32) = 0 by decide), if_neg (show ¬ (1 : Int32) = 0 by decide)]
  repeat rw [Option.bind_some]
  rw [if_neg (show ¬ (1 : Int32) = 0 by decide), if_neg (show ¬ (1 : Int32) = 0 by decide)]
  obtain ⟨r, S', M', t, w1, w2, w3, w4, w5, w6, w7, w8, w9⟩ := walkT_spec h1 h2 hb hc
  rw [w1, w2, bi_s, bi_s, Option.bind_some, w8]
  obtain ⟨M2, m1, m2, m3⟩ := told_copy (M := h_put M' 3 (nI t)) w6 w8 r
  refine ⟨r, S', M2, rfl, m1, n, T, en, md, od, lm, hl, hk, kl, kk, ?_, ?_, t, w6, w7, ?_, fun k hk1 => ?_⟩
  · exact NetR_fr h1 (w3.1 0 (by decide)) (fun i hi => w3.2 i (by omega) (by omega)) (by rw [m2.1]; show M'.1 0 = _; exact w4.1 0 (by decide)) (fun i hi => by rw [m2.2 i (by simp; omega), put_2]; exact w4.2 i (by simp; omega))
  · exact LabR_fr h2 (fun i _ _ => w3.1 i (by omega)) (fun i _ _ => w3.2 i (by omega) (by omega)) (by rw [m2.1]; show M'.1 1 = _; exact w4.1 1 (by decide)) (fun i _ _ => by rw [m2.2 i (by simp; omega), put_2]; exact w4.2 i (by simp; omega)) (fun _ => rfl)
  · rw [m2.1]; rfl
  · have := m3 k hk1
    rw [put_2] at this
    rw [this.1, this.2]
    exact w9 k hk1
theorem carried_spec {S M : HSt} {t : Nat} (h1 : 1 ≤ t) (ht : t ≤ 15) (hS : S.1 5 = nI t) (hM : M.1 2 = nI t) (hr : ∀ k, k < t → S.2 17 k = M.2 20 k) : ∃ u, u ≤ 1 ∧ f_X2_labelledBetweenR S = some (nI u) ∧ f_X4_isCarried M = some (nI u) := by
  have et : nI t - 1 = nI (t - 1) := n_sub (b := 1) h1
  unfold f_X2_labelledBetweenR f_X4_isCarried
  refine lp_two (fun k (x : Int32) => f_X2_labelledBetweenR_2 S k x) (fun k (x : Int32) => f_X4_isCarried_2 M k x) (fun i p q => p = nI (i + 1) ∧ q = nI (i + 1)) (t - 2) (fun o o' => ∃ u, u ≤ 1 ∧ o = some (nI u) ∧ o' = some (nI u)) ?_ ?_ h_fu 0 1 1 (Nat.zero_le _) (by have := fu_big; omega) ⟨rfl, rfl⟩
  · rintro k i x y hi ⟨rfl, rfl⟩
    have e3 : f_X2_labelledBetweenR_2 S (k + 1) (nI (i + 1)) = f_X2_labelledBetweenR_2_s S (f_X2_labelledBetweenR_2 S k) (nI (i + 1)) := rfl
    have e4 : f_X4_isCarried_2 M (k + 1) (nI (i + 1)) = f_X4_isCarried_2_s M (f_X4_isCarried_2 M k) (nI (i + 1)) := rfl
    rw [e3, e4]
    unfold f_X2_labelledBetweenR_2_s f_X4_isCarried_2_s
    rw [hS, hM, et, if_neg (ngt (by omega) (by omega)), if_neg (ngt (by omega) (by omega)), ld_n _ _ (by omega) (by omega), ld_n _ _ (by omega) (by omega), Option.bind_some, Option.bind_some, hr _ (by omega), nI_1]
    by_cases h : M.2 20 (i + 1) = 0
    · rw [if_pos h, if_pos h]
      exact Or.inl ⟨0, by omega, rfl, rfl⟩
    · rw [if_neg h, if_neg h]
      exact Or.inr ⟨_, _, ⟨rfl, rfl⟩, rfl, rfl⟩
  · rintro k x y ⟨rfl, rfl⟩
    have e3 : f_X2_labelledBetweenR_2 S (k + 1) (nI (t - 2 + 1)) = f_X2_labelledBetweenR_2_s S (f_X2_labelledBetweenR_2 S k) (nI (t - 2 + 1)) := rfl
    have e4 : f_X4_isCarried_2 M (k + 1) (nI (t - 2 + 1)) = f_X4_isCarried_2_s M (f_X4_isCarried_2 M k) (nI (t - 2 + 1)) := rfl
    rw [e3, e4]
    unfold f_X2_labelledBetweenR_2_s f_X4_isCarried_2_s
    rw [hS, hM, et, if_pos (nle (by omega) (by omega)), if_pos (nle (by omega) (by omega))]
    exact ⟨1, by omega, rfl, rfl⟩
theorem isServed_spec {S M : HSt} {n : Nat} {T : Nat → Nat → Nat} {en : Nat → Int32} {md : Nat → Nat} {od lm : Nat} {hl hk kl kk : Nat → Nat → Nat} (h1 : NetR S M n T en) (h2 : LabR S M n T md od lm hl hk kl kk) {b c w : Nat} (hb : b < 7) (hc : c < 4) (hw : w ≤ 2) (x : Int32) (k26 : HSt → Int32 → Int32 → Int32 → Int32 → Option (Int32 × HSt)) : ∃ u S' M', u ≤ 1 ∧ scC S S' ∧ scM M M' ∧ f_X3_isServed S (nI b) (nI c) (nI w) = some (nI u, S') ∧ h_bi (f_X4_goes M (nI b) (nI c)) (fun r2 S4 => if r2 = 0 then (f_X4_served_48 k26 S4 (nI c) (nI w) x (nI b) 1) else (f_X4_served_48 k26 S4 (nI c) (nI w) x (nI b) 0)) = f_X4_served_94 k26 M' (nI c) (nI w) x (nI b) (nI u) := by
  obtain ⟨r, S', M', t, w1, w2, w3, w4, w5, w6, w7, w8, w9⟩ := walkR_spec h1 h2 hb hc
  unfold f_X3_isServed
  rw [w1, w2, bi_s, bi_s]
  obtain ⟨u, u1, u2, u3⟩ := carried_spec w5 w6 w7 w8 (fun k hk1 => (w9 k hk1).2)
  unfold f_X3_isServed_17 f_X4_served_48 f_X4_served_93
  rw [u2, u3, Option.bind_some, Option.bind_some]
  have hsc := frS_sc w3
  have hsm := frG_sc w4
  rcases (show w = 0 ∨ w = 1 ∨ w = 2 by omega) with rfl | rfl | rfl
  · by_cases hr : r = 0
    · rw [if_pos hr, if_pos hr, if_pos (show nI 0 = 0 from rfl), if_pos (show nI 0 = 0 from rfl)]
      exact ⟨1, S', M', by omega, hsc, hsm, rfl, rfl⟩
    · rw [if_neg hr, if_neg hr, if_pos (show nI 0 = 0 from rfl), if_pos (show nI 0 = 0 from rfl)]
      exact ⟨0, S', M', by omega, hsc, hsm, rfl, rfl⟩
  · by_cases hr : r = 0
    · rw [if_pos hr, if_pos hr, if_neg (show ¬ nI 1 = 0 by decide), if_neg (show ¬ nI 1 = 0 by decide), if_pos (show nI 1 = 1 from rfl), if_pos (show nI 1 = 1 from rfl), if_neg (show ¬ (1 : Int32) = 0 by decide), if_neg (show ¬ (1 : Int32) = 0 by decide)]
      exact ⟨0, S', M', by omega, hsc, hsm, rfl, rfl⟩
    · rw [if_neg hr, if_neg hr, if_neg (show ¬ nI 1 = 0 by decide), if_neg (show ¬ nI 1 = 0 by decide), if_pos (show nI 1 = 1 from rfl), if_pos (show nI 1 = 1 from rfl), if_pos (show (0 : Int32) = 0 from rfl), if_pos (show (0 : Int32) = 0 from rfl)]
      exact ⟨1, S', M', by omega, hsc, hsm, rfl, rfl⟩
  · by_cases hr : r = 0
    · rw [if_pos hr, if_pos hr, if_neg (show ¬ nI 2 = 0 by decide), if_neg (show ¬ nI 2 = 0 by decide), if_neg (show ¬ nI 2 = 1 by decide), if_neg (show ¬ nI 2 = 1 by decide), if_neg (show ¬ (1 : Int32) = 0 by decide), if_neg (show ¬ (1 : Int32) = 0 by decide)]
      rcases (show u = 0 ∨ u = 1 by omega) with rfl | rfl
      · rw [if_pos (show nI 0 = 0 from rfl), if_pos (show nI 0 = 0 from rfl)]
        exact ⟨0, S', M', by omega, hsc, hsm, rfl, rfl⟩
      · rw [if_neg (show ¬ nI 1 = 0 by decide), if_neg (show ¬ nI 1 = 0 by decide)]
        exact ⟨1, S', M', by omega, hsc, hsm, rfl, rfl⟩
    · rw [if_neg hr, if_neg hr, if_neg (show ¬ nI 2 = 0 by decide), if_neg (show ¬ nI 2 = 0 by decide), if_neg (show ¬ nI 2 = 1 by decide), if_neg (show ¬ nI 2 = 1 by decide), if_pos (show (0 : Int32) = 0 from rfl), if_pos (show (0 : Int32) = 0 from rfl)]
      exact ⟨0, S', M', by omega, hsc, hsm, rfl, rfl⟩
theorem op_served : Op_served Rel := by
  intro S M hR a1 a2
  obtain ⟨n, T, en, md, od, lm, hl, hk, kl, kk, h1, h2, h3⟩ := id hR
  unfold f_X3_served f_X4_served
  rcases q_cls a1 with ⟨f1, f2⟩ | ⟨c, hc, rfl, f1, f2⟩
  · rw [f1, f2]; exact ⟨-1, S, M, rfl, rfl, hR⟩
  rw [f1, f2]
  repeat rw [Option.bind_some]
  rw [if_neg (show ¬ (1 : Int32) = 0 by decide), if_neg (show ¬ (1 : Int32) = 0 by decide)]
  rcases q_in a2 2 (by omega) with ⟨g1, g2⟩ | ⟨w, hw, rfl, g2⟩
  · rw [show f_X4_within a2 0 2 = some 0 from g2, Option.bind_some, if_pos (show (0 : Int32) = 0 from rfl)]
    refine ⟨-2, S, M, ?_, rfl, hR⟩
    rcases g1 with g1 | g1
    · rw [if_pos g1]
    · by_cases g : a2 < 0
      · rw [if_pos g]
      · rw [if_neg g, if_neg]
        obtain ⟨j, hj, rfl⟩ := nI_of g
        rw [n_lt (by omega) (by omega)] at g1
        rw [n_2, n_le (by omega) (by omega)]
        omega
  rw [show f_X4_within (nI w) 0 2 = some 1 from g2, Option.bind_some, if_neg (show ¬ (1 : Int32) = 0 by decide), if_neg (nI_pos (by omega)), if_pos (show nI w ≤ 2 from nle (b := 2) (by omega) (by omega))]
  refine lp_two (fun k (q : HSt × Int32 × Int32) => f_X3_served_26 k q.1 (nI c) (nI w) q.2.1 q.2.2) (fun k (q : HSt × Int32 × Int32) => f_X4_served_26 k q.1 (nI c) (nI w) q.2.1 q.2.2) (fun i p q => p.2.2 = nI i ∧ q.2.2 = nI i ∧ p.2.1 = q.2.1 ∧ scC S p.1 ∧ scM M q.1) 7 (fun o o' => ∃ (r : Int32) (S1 M1 : HSt), o = some (r, S1) ∧ o' = some (r, M1) ∧ Rel S1 M1) ?_ ?_ h_fu 0 (S, 0, 0) (M, 0, 0) (Nat.zero_le _) (by have := fu_big; omega) ⟨rfl, rfl, rfl, scC_rf _, scM_rf _⟩
  · rintro k i ⟨S1, x, y⟩ ⟨M1, x', y'⟩ hi ⟨p1, p2, p3, p4, p5⟩
    dsimp only at p1 p2 p3 p4 p5
    subst p1; subst p2; subst p3
    right
    have e3 : f_X3_served_26 (k + 1) S1 (nI c) (nI w) x (nI i) = f_X3_served_26_s (f_X3_served_26 k) S1 (nI c) (nI w) x (nI i) := rfl
    have e4 : f_X4_served_26 (k + 1) M1 (nI c) (nI w) x (nI i) = f_X4_served_26_s (f_X4_served_26 k) M1 (nI c) (nI w) x (nI i) := rfl
    dsimp only
    rw [e3, e4]
    unfold f_X3_served_26_s f_X4_served_26_s f_X3_served_51
    rw [if_neg (show ¬ (7 : Int32) ≤ nI i from ngt (b := 7) hi (by omega)), if_neg (show ¬ (7 : Int32) ≤ nI i from ngt (b := 7) hi (by omega))]
    obtain ⟨u, S2, M2, u1, u2, u3, u4, u5⟩ := isServed_spec (NetR_sc h1 p4 p5) (LabR_sc h2 p4 p5) hi hc hw x (f_X4_served_26 k)
    rw [u4, u5, bi_s]
    unfold f_X4_served_94 f_X4_served_110
    rw [nI_1, or_0]
    rcases (show u = 0 ∨ u = 1 by omega) with rfl | rfl
    · rw [if_pos (show nI 0 = 0 from rfl), if_pos (show nI 0 = 0 from rfl)]
      exact ⟨(S2, x, nI (i + 1)), (M2, x, nI (i + 1)), ⟨rfl, rfl, rfl, scC_tr p4 u2, scM_tr p5 u3⟩, rfl, rfl⟩
    · rw [if_neg (show ¬ nI 1 = 0 by decide), if_neg (show ¬ nI 1 = 0 by decide)]
      exact ⟨(S2, _, nI (i + 1)), (M2, _, nI (i + 1)), ⟨rfl, rfl, rfl, scC_tr p4 u2, scM_tr p5 u3⟩, rfl, rfl⟩
  · rintro k ⟨S1, x, y⟩ ⟨M1, x', y'⟩ ⟨p1, p2, p3, p4, p5⟩
    dsimp only at p1 p2 p3 p4 p5
    subst p1; subst p2; subst p3
    exact ⟨x, S1, M1, rfl, rfl, Rel_sc hR p4 p5⟩
