theorem fu_s : ∃ m, h_fu = m + 1 := ⟨99999, rfl⟩
theorem handNothing_spec {S : HSt} {n : Nat} {T : Nat → Nat → Nat} {en : Nat → Int32} (hn : NetWf n T) (hC : CN S n T en) {b : Nat} (hb : b < 7) : ∃ S', f_X0_handNothing S (nI b) = some S' ∧ fr [6] S S' ∧ ∀ x, S'.2 6 x = if x < 8 * n ∧ ow T (x / 4) = b then 0 else S.2 6 x := by
  have h12 := hn.1
  have eb : (2 * nI n * 4 + 0 : Int32) = nI (8 * n) := by rw [n_2, n_4, n_0, pk_mul, pk_mul, nI_add]; congr 1; omega
  unfold f_X0_handNothing
  refine lp_up (fun k (q : HSt × Int32) => f_X0_handNothing_2 k q.1 (nI b) q.2) (fun i q => q.2 = nI i ∧ fr [6] S q.1 ∧ ∀ x, q.1.2 6 x = if x < i ∧ ow T (x / 4) = b then 0 else S.2 6 x) (8 * n) (fun o => ∃ S', o = some S' ∧ fr [6] S S' ∧ ∀ x, S'.2 6 x = if x < 8 * n ∧ ow T (x / 4) = b then 0 else S.2 6 x) ?_ ?_ h_fu 0 (S, 0) (Nat.zero_le _) (by have := fu_big; omega) ⟨rfl, fr_rf _ _, fun x => by rw [if_neg (by omega)]⟩
  · rintro k i ⟨S1, y⟩ hi ⟨hy, hf, q1⟩
    dsimp only at hy hf q1
    subst hy
    right
    have e1 : f_X0_handNothing_2 (k + 1) S1 (nI b) (nI i) = f_X0_handNothing_2_s (f_X0_handNothing_2 k) S1 (nI b) (nI i) := rfl
    dsimp only
    rw [e1]
    unfold f_X0_handNothing_2_s f_X0_handNothing_41 f_X3_slot
    have hC1 := fr_CN hf (by decide) hC
    have ed : nI i / 4 = nI (i / 4) := n_div (d := 4) (by omega) (by omega) (by omega)
    have ho := ow_lt hn (s := i / 4) (by omega)
    rw [Option.bind_some, hC1.1, eb, if_neg (ngt hi (by omega)), ed, ld_n _ _ (by omega) (by omega), Option.bind_some, hC1.2.1 _ (by omega), nI_1]
    by_cases h : ow T (i / 4) = b
    · rw [if_pos (by rw [h]), st_n _ _ _ (by omega) (by omega), Option.bind_some]
      refine ⟨(wr S1 6 i 0, nI (i + 1)), ⟨rfl, fr_tr hf (fr_wr (by decide)), fun x => ?_⟩, rfl⟩
      dsimp only
      by_cases e : x = i
      · rw [e, wr_s, if_pos ⟨by omega, h⟩]
      · rw [wr_n _ _ e, q1]
        by_cases f : x < i ∧ ow T (x / 4) = b
        · rw [if_pos f, if_pos ⟨by omega, f.2⟩]
        · rw [if_neg f, if_neg (fun g => f ⟨by omega, g.2⟩)]
    · rw [if_neg (by rw [n_eq (by omega) (by omega)]; exact h)]
      refine ⟨(S1, nI (i + 1)), ⟨rfl, hf, fun x => ?_⟩, rfl⟩
      dsimp only
      rw [q1]
      by_cases f : x < i ∧ ow T (x / 4) = b
      · rw [if_pos f, if_pos ⟨by omega, f.2⟩]
      · rw [if_neg f, if_neg (fun g => f ⟨by rcases (show x < i ∨ x = i by omega) with z | z; exact z; exact absurd (z ▸ g.2) h, g.2⟩)]
  · rintro k ⟨S1, y⟩ ⟨hy, hf, q1⟩
    dsimp only at hy hf q1
    subst hy
    refine ⟨S1, ?_, hf, q1⟩
    show f_X0_handNothing_2_s (f_X0_handNothing_2 k) S1 (nI b) (nI (8 * n)) = _
    unfold f_X0_handNothing_2_s f_X3_slot
    have hC1 := fr_CN hf (by decide) hC
    rw [Option.bind_some, hC1.1, eb, if_pos (nle (Nat.le_refl _) (by omega))]
theorem modeM_spec (M : HSt) {b : Nat} (hb : b < 7) {v w : Int32} (hne : ¬ w = v) : ∃ M', f_X4_mode_61 h_fu M (nI b) 2 v w (nI (48 * b)) = some (w, M') ∧ fr [8] M M' ∧ ∀ x, M'.2 8 x = if 48 * b ≤ x ∧ x < 48 * b + 48 then 0 else M.2 8 x := by
  have eb : (4 * (12 * (nI b + 1) + 0) + 0 : Int32) = nI (48 * b + 48) := by rw [nI_1, n_12, n_4, n_0, pk_mul, nI_add, pk_mul, nI_add]; congr 1; omega
  refine lp_up (fun k (q : HSt × Int32) => f_X4_mode_61 k q.1 (nI b) 2 v w q.2) (fun i q => q.2 = nI (48 * b + i) ∧ fr [8] M q.1 ∧ ∀ x, q.1.2 8 x = if 48 * b ≤ x ∧ x < 48 * b + i then 0 else M.2 8 x) 48 (fun o => ∃ M', o = some (w, M') ∧ fr [8] M M' ∧ ∀ x, M'.2 8 x = if 48 * b ≤ x ∧ x < 48 * b + 48 then 0 else M.2 8 x) ?_ ?_ h_fu 0 (M, nI (48 * b)) (Nat.zero_le _) (by have := fu_big; omega) ⟨rfl, fr_rf _ _, fun x => by rw [if_neg (by omega)]⟩
  · rintro k i ⟨S1, y⟩ hi ⟨hy, hf, q1⟩
    dsimp only at hy hf q1
    subst hy
    right
    have e1 : f_X4_mode_61 (k + 1) S1 (nI b) 2 v w (nI (48 * b + i)) = f_X4_mode_61_s (f_X4_mode_61 k) S1 (nI b) 2 v w (nI (48 * b + i)) := rfl
    dsimp only
    rw [e1]
    unfold f_X4_mode_61_s f_X4_at
    rw [Option.bind_some, eb, if_neg (ngt (by omega) (by omega)), if_pos rfl, if_neg hne, st_n _ _ _ (by omega) (by omega), Option.bind_some, nI_1]
    refine ⟨(wr S1 8 (48 * b + i) 0, nI (48 * b + i + 1)), ⟨by rw [Nat.add_assoc], fr_tr hf (fr_wr (by decide)), fun x => ?_⟩, rfl⟩
    dsimp only
    by_cases e : x = 48 * b + i
    · rw [e, wr_s, if_pos (by omega)]
    · rw [wr_n _ _ e, q1]
      by_cases f : 48 * b ≤ x ∧ x < 48 * b + i
      · rw [if_pos f, if_pos (by omega)]
      · rw [if_neg f, if_neg (by omega)]
  · rintro k ⟨S1, y⟩ ⟨hy, hf, q1⟩
    dsimp only at hy hf q1
    subst hy
    refine ⟨S1, ?_, hf, q1⟩
    show f_X4_mode_61_s (f_X4_mode_61 k) S1 (nI b) 2 v w (nI (48 * b + 48)) = _
    unfold f_X4_mode_61_s f_X4_at
    rw [Option.bind_some, eb, if_pos (nle (Nat.le_refl _) (by omega))]
def mu (md : Nat → Nat) (j v : Nat) : Nat → Nat := fun i => if i = j then v else md i
theorem MD_mu {S M : HSt} {md : Nat → Nat} {od lm : Nat} (h : MD S M md od lm) {j v : Nat} (hv : v ≤ 1) : MD (wr S 8 j (nI v)) (wr M 6 j (nI v)) (mu md j v) od lm := by
  obtain ⟨m1, m2, m3, m4, m5, m6, m7, m8⟩ := h
  refine ⟨fun i hi => ?_, m2, m3, ?_, m5, m6, m7, ?_⟩
  · unfold mu
    by_cases e : i = j
    · rw [e, wr_s, wr_s, if_pos rfl]; exact ⟨hv, rfl, rfl⟩
    · rw [wr_n _ _ e, wr_n _ _ e, if_neg e]; exact m1 i hi
  · rw [wr_o _ _ _ (by omega)]; exact m4
  · rw [wr_o _ _ _ (by omega)]; exact m8
theorem op_mode : Op_mode Rel := by
  intro S M hR a1 a2 a3
  obtain ⟨n, T, en, md, od, lm, hl, hk, kl, kk, h1, h2, h3⟩ := id hR
  obtain ⟨hn, hE, hC, hM, hW⟩ := id h1
  have h12 := hn.1
  unfold f_X3_mode f_X4_mode
  rcases q_box a1 with ⟨e1, e2⟩ | ⟨b, hb, rfl, e1, e2⟩
  · rw [e1, e2]; exact ⟨-1, S, M, rfl, rfl, hR⟩
  rw [e1, e2]
  simp only [Option.bind_some, i10, if_false]
  rcases q_in a2 3 (by omega) with ⟨f1, f2⟩ | ⟨w, hw, rfl, f2⟩
  · rw [show (3 : Int32) = nI 3 from rfl, f2]
    simp only [Option.bind_some, i00, if_true]
    refine ⟨-2, S, M, ?_, rfl, hR⟩
    rcases f1 with f1 | f1
    · rw [if_pos f1]
    · by_cases g : a2 < 0
      · rw [if_pos g]
      · rw [if_neg g, if_pos]
        obtain ⟨j, hj, rfl⟩ := nI_of g
        rw [n_lt (by omega) (by omega)] at f1
        rw [n_4, n_le (by omega) (by omega)]
        omega
  rw [show (3 : Int32) = nI 3 from rfl, f2]
  simp only [Option.bind_some, i10, if_false]
  rw [if_neg (nI_pos (by omega)), if_neg (show ¬ (4 : Int32) ≤ nI w from ngt (b := 4) (by omega) (by omega))]
  rcases q_yes a3 with ⟨g1, g2⟩ | ⟨v, hv, rfl, g1, g2⟩
  · rw [g1, g2]; exact ⟨-2, S, M, rfl, rfl, hR⟩
  rw [g1, g2]
  simp only [Option.bind_some, i10, if_false]
  obtain ⟨m1, -⟩ := id h2.1
  have hmj := m1 (b * 4 + w) (by omega)
  have ec : (4 * nI b + nI w : Int32) = nI (b * 4 + w) := by rw [n_4, pk_mul, nI_add]; congr 1; omega
  have ec' : (nI b * 4 + nI w : Int32) = nI (b * 4 + w) := by rw [n_4, pk_mul, nI_add]
  unfold f_X0_changeMode f_X4_at
  rw [ec, ec', ld_n _ _ (by omega) (by omega), ld_n _ _ (by omega) (by omega), st_n _ _ _ (by omega) (by omega), st_n _ _ _ (by omega) (by omega), hmj.2.1, hmj.2.2]
  repeat rw [Option.bind_some]
  have ea : (4 * (12 * nI b + 0) + 0 : Int32) = nI (48 * b) := by rw [n_12, n_4, n_0, pk_mul, nI_add, pk_mul, nI_add]; congr 1; omega
  rw [ea]
  have hN : NetR (wr S 8 (b * 4 + w) (nI v)) (wr M 6 (b * 4 + w) (nI v)) n T en := NetR_fr h1 rfl (fun i hi => wr_r _ _ (by omega)) rfl (fun i hi => wr_r _ _ (by omega))
  have hT : Told (wr S 8 (b * 4 + w) (nI v)) (wr M 6 (b * 4 + w) (nI v)) := Told_fr h3 rfl rfl (wr_r _ _ (by omega)) (wr_r _ _ (by omega)) (wr_r _ _ (by omega)) (wr_r _ _ (by omega))
  have hMD : MD (wr S 8 (b * 4 + w) (nI v)) (wr M 6 (b * 4 + w) (nI v)) (mu md (b * 4 + w) v) od lm := MD_mu h2.1 hv
  have hH6 : HL (wr S 8 (b * 4 + w) (nI v)) (wr M 6 (b * 4 + w) (nI v)) n T 6 8 9 hl hk := HL_fr h2.2.1 (wr_r _ _ (by omega)) (wr_r _ _ (by omega)) (wr_r _ _ (by omega)) (fun _ => rfl)
  have hH7 : HL (wr S 8 (b * 4 + w) (nI v)) (wr M 6 (b * 4 + w) (nI v)) n T 7 10 11 kl kk := HL_fr h2.2.2.1 (wr_r _ _ (by omega)) (wr_r _ _ (by omega)) (wr_r _ _ (by omega)) (fun _ => rfl)
  have stay : (w = 2 → md (b * 4 + w) = v) → Rel (wr S 8 (b * 4 + w) (nI v)) (wr M 6 (b * 4 + w) (nI v)) := by
    intro hst
    refine ⟨n, T, en, _, od, lm, hl, hk, kl, kk, hN, ⟨hMD, hH6, hH7, fun s t c hs ht hc z1 z2 z3 z4 => ?_, h2.2.2.2.2⟩, hT⟩
    refine h2.2.2.2.1 s t c hs ht hc z1 ?_ z3 z4
    unfold mu at z2
    split at z2
    · rename_i e
      have : w = 2 := by omega
      rw [e, hst this]; exact z2
    · exact z2
  obtain ⟨fm, hfm⟩ := fu_s
  have last : f_X4_mode_61 h_fu (wr M 6 (b * 4 + w) (nI v)) (nI b) (nI w) (nI v) (nI (md (b * 4 + w))) (nI (48 * b)) = f_X4_mode_61_s (f_X4_mode_61 fm) (wr M 6 (b * 4 + w) (nI v)) (nI b) (nI w) (nI v) (nI (md (b * 4 + w))) (nI (48 * b)) := by rw [hfm]; rfl
  have eb : (4 * (12 * (nI b + 1) + 0) + 0 : Int32) = nI (48 * b + 48) := by rw [nI_1, n_12, n_4, n_0, pk_mul, nI_add, pk_mul, nI_add]; congr 1; omega
  by_cases hw2 : w = 2
  · by_cases hvv : md (b * 4 + w) = v
    · rw [if_pos (by rw [hw2]; rfl), if_pos (by rw [hvv]), last]
      unfold f_X4_mode_61_s f_X4_at
      rw [Option.bind_some, eb, if_neg (ngt (by omega) (by omega)), if_pos (by rw [hw2]; rfl), if_pos (by rw [hvv])]
      exact ⟨_, _, _, rfl, rfl, stay (fun _ => hvv)⟩
    · have hne : ¬ nI (md (b * 4 + w)) = nI v := by rw [n_eq (by omega) (by omega)]; exact hvv
      obtain ⟨S2, s1, s2, s3⟩ := handNothing_spec hn hN.2.2.1 hb
      obtain ⟨M2, u1, u2, u3⟩ := modeM_spec (wr M 6 (b * 4 + w) (nI v)) hb hne
      rw [if_pos (by rw [hw2]; rfl), if_neg (fun q => hne q.symm), s1, show nI w = 2 by rw [hw2]; rfl, u1]
      refine ⟨_, S2, M2, rfl, rfl, n, T, en, _, od, lm, rz (fun s => !decide (ow T s = b)) hl, hk, kl, kk, NetR_fr hN (by rw [s2.1]) (fun i hi => s2.2 i (by simp; omega)) (by rw [u2.1]) (fun i hi => u2.2 i (by simp; omega)), ⟨MD_fr hMD (by rw [s2.1]) (by rw [s2.1]) (s2.2 8 (by decide)) (u2.2 6 (by decide)) (u2.2 7 (by decide)), ?_, HL_fr hH7 (s2.2 7 (by decide)) (u2.2 10 (by decide)) (u2.2 11 (by decide)) (fun _ => rfl), ?_, by rw [s2.1, u2.1]; exact h2.2.2.2.2⟩, Told_fr hT (by rw [s2.1]) (by rw [u2.1]) (s2.2 14 (by decide)) (s2.2 15 (by decide)) (u2.2 21 (by decide)) (u2.2 22 (by decide))⟩
      · refine HL_rz hH6 h12 (fun _ => rfl) (fun s c hs hc => ?_) (fun x => ?_) (fun s c hs hc => ?_) (fun x j c hx hj hc => ?_) (u2.2 9 (by decide))
        · rw [s3, show (s * 4 + c) / 4 = s by omega]
          by_cases e : ow T s = b
          · rw [if_pos ⟨by omega, e⟩, if_neg (by simp [e])]
          · rw [if_neg (fun q => e q.2), if_pos (by simp [e])]
        · rw [s3]
          split
          · exact Or.inr rfl
          · exact Or.inl rfl
        · rw [u3]
          by_cases e : ow T s = b
          · rw [if_pos (by omega), if_neg (by simp [e])]
          · rw [if_neg (by omega), if_pos (by simp [e])]
        · rw [u3]
          split
          · exact Or.inr rfl
          · exact Or.inl rfl
      · intro s t c hs ht hc z1 z2 z3 z4
        by_cases e : ow T s = b
        · rw [rz_f c (by simp [e])] at z3; omega
        · have y1 : rz (fun s => !decide (ow T s = b)) hl s c = hl s c := rz_t c (by simp [e])
          have y2 : rz (fun s => !decide (ow T s = b)) hl t c = hl t c := rz_t c (by simp [← z1, e])
          rw [y1] at z3 ⊢
          rw [y2] at z4 ⊢
          refine h2.2.2.2.1 s t c hs ht hc z1 ?_ z3 z4
          unfold mu at z2
          rw [if_neg (by omega)] at z2
          exact z2
  · have hne2 : ¬ nI w = 2 := by rw [n_2, n_eq (by omega) (by omega)]; exact hw2
    rw [if_neg hne2, last]
    unfold f_X4_mode_61_s f_X4_at
    rw [Option.bind_some, eb, if_neg (ngt (by omega) (by omega)), if_neg hne2]
    exact ⟨_, _, _, rfl, rfl, stay (fun q => absurd q hw2)⟩
