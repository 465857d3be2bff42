theorem HL_rz {S M S' M' : HSt} {n : Nat} {T T' : Nat → Nat → Nat} {i j k : Nat} {hl hk : Nat → Nat → Nat} {p : Nat → Bool} (h : HL S M n T i j k hl hk) (hn : n ≤ 12) (hT : ∀ s, ow T' s = ow T s) (a1 : ∀ s c, s < 2 * n → c < 4 → S'.2 i (s * 4 + c) = if p s = true then S.2 i (s * 4 + c) else 0) (a2 : ∀ x, S'.2 i x = S.2 i x ∨ S'.2 i x = 0) (b1 : ∀ s c, s < 2 * n → c < 4 → M'.2 j (4 * (12 * ow T s + s / 2) + c) = if p s = true then M.2 j (4 * (12 * ow T s + s / 2) + c) else 0) (b2 : ∀ b l c, b < 7 → l < 12 → c < 4 → M'.2 j (4 * (12 * b + l) + c) = M.2 j (4 * (12 * b + l) + c) ∨ M'.2 j (4 * (12 * b + l) + c) = 0) (c1 : M'.2 k = M.2 k) : HL S' M' n T' i j k (rz p hl) hk := by
  refine ⟨fun s c hs hc => ?_, fun x h1 h2 => ?_, fun b l c hb hl1 hc hno => ?_⟩
  · rw [hT, a1 s c hs hc, b1 s c hs hc, c1]
    have h0 := h.1 s c hs hc
    cases e : p s with
    | true => rw [rz_t c e, if_pos rfl, if_pos rfl]; exact h0
    | false => rw [rz_f c e, if_neg (by decide), if_neg (by decide)]; exact ⟨Or.inl rfl, h0.2.1, rfl, rfl, fun q => absurd rfl q⟩
  · rcases a2 x with e | e
    · rw [e]; exact h.2.1 x h1 h2
    · exact e
  · rcases b2 b l c hb hl1 hc with e | e
    · rw [e]; exact h.2.2 b l c hb hl1 hc (fun s hs q => hno s hs (by rw [hT]; exact q))
    · exact e
theorem forget_spec (S : HSt) {l : Nat} (hl : l < 12) : ∃ S', f_X0_forgetLink S (nI l) = some S' ∧ fr [6, 7] S S' ∧ (∀ x, S'.2 6 x = if 8 * l ≤ x ∧ x < 8 * l + 8 then 0 else S.2 6 x) ∧ ∀ x, S'.2 7 x = if 8 * l ≤ x ∧ x < 8 * l + 8 then 0 else S.2 7 x := by
  have hb : (nI l * 2 : Int32) = nI (l * 2) := pk_mul l 2
  unfold f_X0_forgetLink f_X3_slot
  rw [Option.bind_some, show (2 * nI l * 4 + 0 : Int32) = nI (8 * l) by rw [n_2, n_4, n_0, pk_mul, pk_mul, nI_add]; congr 1; omega]
  refine lp_up (fun k (q : HSt × Int32) => f_X0_forgetLink_8 k q.1 (nI l) q.2) (fun i q => q.2 = nI (8 * l + i) ∧ fr [6, 7] S q.1 ∧ (∀ x, q.1.2 6 x = if 8 * l ≤ x ∧ x < 8 * l + i then 0 else S.2 6 x) ∧ ∀ x, q.1.2 7 x = if 8 * l ≤ x ∧ x < 8 * l + i then 0 else S.2 7 x) 8 (fun o => ∃ S', o = some S' ∧ fr [6, 7] S S' ∧ (∀ x, S'.2 6 x = if 8 * l ≤ x ∧ x < 8 * l + 8 then 0 else S.2 6 x) ∧ ∀ x, S'.2 7 x = if 8 * l ≤ x ∧ x < 8 * l + 8 then 0 else S.2 7 x) ?_ ?_ h_fu 0 (S, nI (8 * l)) (Nat.zero_le _) (by have := fu_big; omega) ⟨rfl, fr_rf _ _, fun x => by rw [if_neg (by omega)], fun x => by rw [if_neg (by omega)]⟩
  · rintro k i ⟨S1, y⟩ hi ⟨hy, hf, q1, q2⟩
    dsimp only at hy hf q1 q2
    subst hy
    right
    have e1 : f_X0_forgetLink_8 (k + 1) S1 (nI l) (nI (8 * l + i)) = f_X0_forgetLink_8_s (f_X0_forgetLink_8 k) S1 (nI l) (nI (8 * l + i)) := rfl
    dsimp only
    rw [e1]
    unfold f_X0_forgetLink_8_s f_X3_slot
    rw [Option.bind_some, show ((2 * nI l + 2) * 4 + 0 : Int32) = nI (8 * l + 8) by rw [n_2, n_4, n_0, pk_mul, nI_add, pk_mul, nI_add]; congr 1; omega, if_neg (ngt (by omega) (by omega)), st_n _ _ _ (by omega) (by omega), Option.bind_some, st_n _ _ _ (by omega) (by omega), Option.bind_some, nI_1]
    refine ⟨(wr (wr S1 6 (8 * l + i) 0) 7 (8 * l + i) 0, nI (8 * l + i + 1)), ⟨by rw [Nat.add_assoc], fr_tr hf (fr_tr (fr_wr (by decide)) (fr_wr (by decide))), fun x => ?_, fun x => ?_⟩, rfl⟩
    · dsimp only
      rw [wr_o _ _ _ (by omega)]
      by_cases e : x = 8 * l + i
      · rw [e, wr_s, if_pos (by omega)]
      · rw [wr_n _ _ e, q1]
        by_cases f : 8 * l ≤ x ∧ x < 8 * l + i
        · rw [if_pos f, if_pos (by omega)]
        · rw [if_neg f, if_neg (by omega)]
    · dsimp only
      by_cases e : x = 8 * l + i
      · rw [e, wr_s, if_pos (by omega)]
      · rw [wr_n _ _ e, wr_o _ _ _ (by omega), q2]
        by_cases f : 8 * l ≤ x ∧ x < 8 * l + i
        · rw [if_pos f, if_pos (by omega)]
        · rw [if_neg f, if_neg (by omega)]
  · rintro k ⟨S1, y⟩ ⟨hy, hf, q1, q2⟩
    dsimp only at hy hf q1 q2
    subst hy
    refine ⟨S1, ?_, hf, q1, q2⟩
    show f_X0_forgetLink_8_s (f_X0_forgetLink_8 k) S1 (nI l) (nI (8 * l + 8)) = _
    unfold f_X0_forgetLink_8_s f_X3_slot
    rw [Option.bind_some, show ((2 * nI l + 2) * 4 + 0 : Int32) = nI (8 * l + 8) by rw [n_2, n_4, n_0, pk_mul, nI_add, pk_mul, nI_add]; congr 1; omega, if_pos (nle (Nat.le_refl _) (by omega))]
theorem upM_spec (M : HSt) {l : Nat} (hl : l < 12) (r : Int32) : ∃ M', f_X4_up_56 h_fu M (nI l) 0 r 0 = some (r, M') ∧ fr [8, 10] M M' ∧ (∀ x, x < 336 → M'.2 8 x = if x / 4 % 12 = l then 0 else M.2 8 x) ∧ ∀ x, x < 336 → M'.2 10 x = if x / 4 % 12 = l then 0 else M.2 10 x := by
  refine lp_up (fun k (q : HSt × Int32) => f_X4_up_56 k q.1 (nI l) 0 r q.2) (fun i q => q.2 = nI i ∧ fr [8, 10] M q.1 ∧ (∀ x, q.1.2 8 x = if x < i ∧ x / 4 % 12 = l then 0 else M.2 8 x) ∧ ∀ x, q.1.2 10 x = if x < i ∧ x / 4 % 12 = l then 0 else M.2 10 x) 336 (fun o => ∃ M', o = some (r, M') ∧ fr [8, 10] M M' ∧ (∀ x, x < 336 → M'.2 8 x = if x / 4 % 12 = l then 0 else M.2 8 x) ∧ ∀ x, x < 336 → M'.2 10 x = if x / 4 % 12 = l then 0 else M.2 10 x) ?_ ?_ h_fu 0 (M, 0) (Nat.zero_le _) (by have := fu_big; omega) ⟨rfl, fr_rf _ _, fun x => by rw [if_neg (by omega)], fun x => by rw [if_neg (by omega)]⟩
  · rintro k i ⟨S1, y⟩ hi ⟨hy, hf, q1, q2⟩
    dsimp only at hy hf q1 q2
    subst hy
    right
    have e1 : f_X4_up_56 (k + 1) S1 (nI l) 0 r (nI i) = f_X4_up_56_s (f_X4_up_56 k) S1 (nI l) 0 r (nI i) := rfl
    dsimp only
    rw [e1]
    unfold f_X4_up_56_s f_X4_up_95
    have ed : nI i / 4 = nI (i / 4) := n_div (d := 4) (by omega) (by omega) (by omega)
    have em : nI (i / 4) - nI (i / 4) / 12 * 12 = nI (i / 4 % 12) := pk_rem (a := i / 4) (d := 12) (by omega) (by omega) (by omega)
    rw [if_neg (show ¬ (336 : Int32) ≤ nI i from ngt (b := 336) hi (by omega)), if_pos rfl, ed, em, nI_1]
    by_cases h : i / 4 % 12 = l
    · rw [if_pos (by rw [h]), st_n _ _ _ (by omega) (by omega), Option.bind_some, st_n _ _ _ (by omega) (by omega), Option.bind_some]
      refine ⟨(wr (wr S1 8 i 0) 10 i 0, nI (i + 1)), ⟨rfl, fr_tr hf (fr_tr (fr_wr (by decide)) (fr_wr (by decide))), fun x => ?_, fun x => ?_⟩, rfl⟩
      · dsimp only
        rw [wr_o _ _ _ (by omega)]
        by_cases e : x = i
        · rw [e, wr_s, if_pos ⟨by omega, h⟩]
        · rw [wr_n _ _ e, q1]
          by_cases f : x < i ∧ x / 4 % 12 = l
          · rw [if_pos f, if_pos (by omega)]
          · rw [if_neg f, if_neg (by omega)]
      · dsimp only
        by_cases e : x = i
        · rw [e, wr_s, if_pos ⟨by omega, h⟩]
        · rw [wr_n _ _ e, wr_o _ _ _ (by omega), q2]
          by_cases f : x < i ∧ x / 4 % 12 = l
          · rw [if_pos f, if_pos (by omega)]
          · rw [if_neg f, if_neg (by omega)]
    · rw [if_neg (by rw [n_eq (by omega) (by omega)]; exact h)]
      refine ⟨(S1, nI (i + 1)), ⟨rfl, hf, fun x => ?_, fun x => ?_⟩, rfl⟩
      · dsimp only
        rw [q1]
        by_cases f : x < i ∧ x / 4 % 12 = l
        · rw [if_pos f, if_pos (by omega)]
        · rw [if_neg f, if_neg (fun g => f ⟨by rcases (show x < i ∨ x = i by omega) with z | z; exact z; exact absurd (z ▸ g.2) h, g.2⟩)]
      · dsimp only
        rw [q2]
        by_cases f : x < i ∧ x / 4 % 12 = l
        · rw [if_pos f, if_pos (by omega)]
        · rw [if_neg f, if_neg (fun g => f ⟨by rcases (show x < i ∨ x = i by omega) with z | z; exact z; exact absurd (z ▸ g.2) h, g.2⟩)]
  · rintro k ⟨S1, y⟩ ⟨hy, hf, q1, q2⟩
    dsimp only at hy hf q1 q2
    subst hy
    refine ⟨S1, rfl, hf, fun x hx => ?_, fun x hx => ?_⟩
    · rw [q1]
      by_cases f : x / 4 % 12 = l
      · rw [if_pos ⟨hx, f⟩, if_pos f]
      · rw [if_neg (fun g => f g.2), if_neg f]
    · rw [q2]
      by_cases f : x / 4 % 12 = l
      · rw [if_pos ⟨hx, f⟩, if_pos f]
      · rw [if_neg (fun g => f g.2), if_neg f]
theorem op_up : Op_up Rel := by
  intro S M hR a1 a2
  obtain ⟨n, T, en, md, od, lm, hl, hk, kl, kk, h1, h2, h3⟩ := id hR
  obtain ⟨hn, hE, hC, hM, hW⟩ := id h1
  have h12 := hn.1
  unfold f_X3_up f_X4_up f_X1_setUp
  rcases q_link hn hC hM a1 with ⟨e1, e2⟩ | ⟨l, hl1, rfl, e1, e2⟩
  · rw [e1, e2]; exact ⟨-1, S, M, rfl, rfl, hR⟩
  have hw := hn.2.1 l hl1
  rw [e1, e2]
  simp only [Option.bind_some, i10, if_false]
  rcases q_yes a2 with ⟨f1, f2⟩ | ⟨v, hv, rfl, f1, f2⟩
  · rw [f1, f2]; exact ⟨-2, S, M, rfl, rfl, hR⟩
  rw [f1, f2]
  simp (disch := omega) only [Option.bind_some, i10, if_false, ld_n, st_n, hC.2.2.2.1, hM.2.2.2.2.1]
  have hn' : NetWf n (tu T 3 l v) := wf_tu3 hn hv
  have hC' : CN (wr S 2 l (nI v)) n (tu T 3 l v) en := by
    refine ⟨hC.1, fun s hs => ?_, fun j hj => ?_, fun j hj => ?_, fun j hj => ?_⟩
    · rw [wr_o _ _ _ (by omega), tu_ow T (by omega)]; exact hC.2.1 s hs
    · rw [wr_o _ _ _ (by omega), tu_i T j (by omega)]; exact hC.2.2.1 j hj
    · by_cases e : j = l
      · rw [e, wr_s, tu_s]
      · rw [wr_n _ _ e, tu_j T 3 e]; exact hC.2.2.2.1 j hj
    · rw [wr_o _ _ _ (by omega)]; exact hC.2.2.2.2 j hj
  have hM' : MN (wr M 3 l (nI v)) n (tu T 3 l v) en := by
    refine ⟨hM.1, fun j hj => ?_, fun j hj => ?_, fun j hj => ?_, fun j hj => ?_, fun j hj => ?_⟩
    · rw [wr_o _ _ _ (by omega), tu_i T j (by omega)]; exact hM.2.1 j hj
    · rw [wr_o _ _ _ (by omega), tu_i T j (by omega)]; exact hM.2.2.1 j hj
    · rw [wr_o _ _ _ (by omega), tu_i T j (by omega)]; exact hM.2.2.2.1 j hj
    · by_cases e : j = l
      · rw [e, wr_s, tu_s]
      · rw [wr_n _ _ e, tu_j T 3 e]; exact hM.2.2.2.2.1 j hj
    · rw [wr_o _ _ _ (by omega)]; exact hM.2.2.2.2.2 j hj
  obtain ⟨S', s1, s2, s3⟩ := findWays_spec hn' hC' hM' hE
  rw [s1]
  simp only [Option.bind_some]
  have mst : ∀ t0 : Int32, f_X4_up_36 M (nI l) (nI v) t0 = f_X4_up_56 h_fu (wr M 3 l (nI v)) (nI l) (nI v) t0 0 := by
    intro t0
    unfold f_X4_up_36 f_X4_up_52
    rcases (show v = 0 ∨ v = 1 by omega) with rfl | rfl
    · rw [if_neg (show ¬ nI 0 = 1 by decide), n_0, stz_n _ _ (by omega) (by omega) (by omega), Option.bind_some]
    · rw [if_pos (show nI 1 = 1 from rfl), n_1, stz_n _ _ (by omega) (by omega) (by omega), Option.bind_some]
  have mst2 : (if nI (T 3 l) = 0 then f_X4_up_36 M (nI l) (nI v) 0 else f_X4_up_36 M (nI l) (nI v) 1) = f_X4_up_56 h_fu (wr M 3 l (nI v)) (nI l) (nI v) (nI (T 3 l)) 0 := by
    rcases (show T 3 l = 0 ∨ T 3 l = 1 by omega) with e | e
    · rw [e, if_pos (show nI 0 = 0 from rfl), mst]; rfl
    · rw [e, if_neg (show ¬ nI 1 = 0 by decide), mst]; rfl
  rw [mst2]
  have q6 : ∀ k, 6 ≤ k → S'.2 k = S.2 k := fun k hk6 => by rw [s2.2 k (in45 hk6), wr_r _ _ (by omega)]
  have qn : S'.1 = S.1 := s2.1
  rcases (show v = 0 ∨ v = 1 by omega) with rfl | rfl
  · obtain ⟨S2, t1, t2, t3, t4⟩ := forget_spec S' (show l < 12 by omega)
    obtain ⟨M2, u1, u2, u3, u4⟩ := upM_spec (wr M 3 l (nI 0)) (show l < 12 by omega) (nI (T 3 l))
    rw [if_pos (show nI 0 = 0 from rfl), t1]
    refine ⟨nI (T 3 l), S2, M2, rfl, u1, n, tu T 3 l 0, en, md, od, lm, rz (fun s => !decide (s / 2 = l)) hl, hk, rz (fun s => !decide (s / 2 = l)) kl, kk, ⟨hn', hE, fr_CN t2 (by decide) (fr_CN s2 no45 hC'), fr_MN u2 (by decide) hM', fun c hc => Ways_fr (t2.2 4 (by decide)) (t2.2 5 (by decide)) (s3 c hc)⟩, ⟨?_, ?_, ?_, ?_, ?_⟩, ?_⟩
    · exact MD_fr h2.1 (by rw [t2.1, qn]) (by rw [t2.1, qn]) (by rw [t2.2 8 (by decide), q6 8 (by omega)]) (by rw [u2.2 6 (by decide), wr_r _ _ (by omega)]) (by rw [u2.2 7 (by decide), wr_r _ _ (by omega)])
    · refine HL_rz h2.2.1 h12 (tu_ow T (by omega)) (fun s c hs hc => ?_) (fun x => ?_) (fun s c hs hc => ?_) (fun b j c hb hj hc => ?_) (by rw [u2.2 9 (by decide), wr_r _ _ (by omega)])
      · rw [t3, q6 6 (by omega)]
        by_cases e : s / 2 = l
        · rw [if_pos (by omega), if_neg (by simp [e])]
        · rw [if_neg (by omega), if_pos (by simp [e])]
      · rw [t3, q6 6 (by omega)]
        split
        · exact Or.inr rfl
        · exact Or.inl rfl
      · have ho := ow_lt hn hs
        rw [u3 _ (by omega), wr_o _ _ _ (by omega)]
        by_cases e : s / 2 = l
        · rw [if_pos (by omega), if_neg (by simp [e])]
        · rw [if_neg (by omega), if_pos (by simp [e])]
      · rw [u3 _ (by omega), wr_o _ _ _ (by omega)]
        split
        · exact Or.inr rfl
        · exact Or.inl rfl
    · refine HL_rz h2.2.2.1 h12 (tu_ow T (by omega)) (fun s c hs hc => ?_) (fun x => ?_) (fun s c hs hc => ?_) (fun b j c hb hj hc => ?_) (by rw [u2.2 11 (by decide), wr_r _ _ (by omega)])
      · rw [t4, q6 7 (by omega)]
        by_cases e : s / 2 = l
        · rw [if_pos (by omega), if_neg (by simp [e])]
        · rw [if_neg (by omega), if_pos (by simp [e])]
      · rw [t4, q6 7 (by omega)]
        split
        · exact Or.inr rfl
        · exact Or.inl rfl
      · have ho := ow_lt hn hs
        rw [u4 _ (by omega), wr_o _ _ _ (by omega)]
        by_cases e : s / 2 = l
        · rw [if_pos (by omega), if_neg (by simp [e])]
        · rw [if_neg (by omega), if_pos (by simp [e])]
      · rw [u4 _ (by omega), wr_o _ _ _ (by omega)]
        split
        · exact Or.inr rfl
        · exact Or.inl rfl
    · intro s t c hs ht hc z1 z2 z3 z4
      rw [tu_ow T (by omega)] at z1 z2
      rw [tu_ow T (by omega)] at z1
      have y1 : rz (fun s => !decide (s / 2 = l)) hl s c = hl s c := by
        by_cases e : s / 2 = l
        · rw [rz_f c (by simp [e])] at z3; omega
        · exact rz_t c (by simp [e])
      have y2 : rz (fun s => !decide (s / 2 = l)) hl t c = hl t c := by
        by_cases e : t / 2 = l
        · rw [rz_f c (by simp [e])] at z4; omega
        · exact rz_t c (by simp [e])
      rw [y1] at z3 ⊢
      rw [y2] at z4 ⊢
      exact h2.2.2.2.1 s t c hs ht hc z1 z2 z3 z4
    · rw [t2.1, qn, u2.1]; exact h2.2.2.2.2
    · exact Told_fr h3 (by rw [t2.1, qn]) (by rw [u2.1]; rfl) (by rw [t2.2 14 (by decide), q6 14 (by omega)]) (by rw [t2.2 15 (by decide), q6 15 (by omega)]) (by rw [u2.2 21 (by decide), wr_r _ _ (by omega)]) (by rw [u2.2 22 (by decide), wr_r _ _ (by omega)])
  · rw [if_neg (show ¬ nI 1 = 0 by decide)]
    refine ⟨nI (T 3 l), S', wr M 3 l (nI 1), rfl, rfl, n, tu T 3 l 1, en, md, od, lm, hl, hk, kl, kk, ⟨hn', hE, fr_CN s2 no45 hC', hM', s3⟩, LabR_fr h2 (fun i _ _ => by rw [qn]) (fun i _ _ => q6 i (by omega)) rfl (fun i _ _ => wr_r _ _ (by omega)) (tu_ow T (by omega)), Told_fr h3 (by rw [qn]) rfl (q6 14 (by omega)) (q6 15 (by omega)) (wr_r _ _ (by omega)) (wr_r _ _ (by omega))⟩
