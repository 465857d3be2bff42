/-! how the class's state and the reference's hang together -/
def sl (L k : Nat) : Nat := if L = 0 then 0 else L * 16 + k
def LOk (L : Nat) : Prop := L = 0 ∨ L = 3 ∨ (16 ≤ L ∧ L ≤ 19)
def HL (S M : HSt) (n : Nat) (T : Nat → Nat → Nat) (i j k : Nat) (hl hk : Nat → Nat → Nat) : Prop := (∀ s c, s < 2 * n → c < 4 → LOk (hl s c) ∧ hk s c ≤ 9 ∧ S.2 i (s * 4 + c) = nI (sl (hl s c) (hk s c)) ∧ M.2 j (4 * (12 * ow T s + s / 2) + c) = nI (hl s c) ∧ (hl s c ≠ 0 → M.2 k (4 * (12 * ow T s + s / 2) + c) = nI (hk s c))) ∧ (∀ x, 8 * n ≤ x → x < 96 → S.2 i x = 0) ∧ ∀ b l c, b < 7 → l < 12 → c < 4 → (∀ s, s < 2 * n → ow T s = b → s / 2 ≠ l) → M.2 j (4 * (12 * b + l) + c) = 0
def MD (S M : HSt) (md : Nat → Nat) (od lm : Nat) : Prop := (∀ j, j < 28 → md j ≤ 1 ∧ S.2 8 j = nI (md j) ∧ M.2 6 j = nI (md j)) ∧ od ≤ 1 ∧ S.1 1 = nI od ∧ M.2 7 0 = nI od ∧ 1 ≤ lm ∧ lm ≤ 9 ∧ S.1 2 = nI lm ∧ M.2 7 1 = nI lm
def Row (n : Nat) (T : Nat → Nat → Nat) (md : Nat → Nat) (hl : Nat → Nat → Nat) : Prop := ∀ s t c, s < 2 * n → t < 2 * n → c < 4 → ow T s = ow T t → md (ow T s * 4 + 2) = 0 → 16 ≤ hl s c → 16 ≤ hl t c → hl s c = hl t c
def Told (S M : HSt) : Prop := ∃ t, t ≤ 15 ∧ S.1 4 = nI t ∧ M.1 3 = nI t ∧ ∀ k, k < t → S.2 14 k = M.2 21 k ∧ S.2 15 k = M.2 22 k
def NetR (S M : HSt) (n : Nat) (T : Nat → Nat → Nat) (en : Nat → Int32) : Prop := NetWf n T ∧ EnOk en ∧ CN S n T en ∧ MN M n T en ∧ ∀ c, c < 4 → Ways S n T en c
def LabR (S M : HSt) (n : Nat) (T : Nat → Nat → Nat) (md : Nat → Nat) (od lm : Nat) (hl hk kl kk : Nat → Nat → Nat) : Prop := MD S M md od lm ∧ HL S M n T 6 8 9 hl hk ∧ HL S M n T 7 10 11 kl kk ∧ Row n T md hl ∧ S.1 3 = M.1 1
def Rel (S M : HSt) : Prop := ∃ (n : Nat) (T : Nat → Nat → Nat) (en : Nat → Int32) (md : Nat → Nat) (od lm : Nat) (hl hk kl kk : Nat → Nat → Nat), NetR S M n T en ∧ LabR S M n T md od lm hl hk kl kk ∧ Told S M
theorem HL_fr {S M S' M' : HSt} {n : Nat} {T T' : Nat → Nat → Nat} {i j k : Nat} {hl hk : Nat → Nat → Nat} (h : HL S M n T i j k hl hk) (a : S'.2 i = S.2 i) (b : M'.2 j = M.2 j) (c : M'.2 k = M.2 k) (d : ∀ s, ow T' s = ow T s) : HL S' M' n T' i j k hl hk := by
  unfold HL
  simp only [a, b, c, d]
  exact h
theorem MD_fr {S M S' M' : HSt} {md : Nat → Nat} {od lm : Nat} (h : MD S M md od lm) (a1 : S'.1 1 = S.1 1) (a2 : S'.1 2 = S.1 2) (b : S'.2 8 = S.2 8) (c : M'.2 6 = M.2 6) (d : M'.2 7 = M.2 7) : MD S' M' md od lm := by
  unfold MD
  rw [a1, a2, b, c, d]
  exact h
theorem Row_fr {n : Nat} {T T' : Nat → Nat → Nat} {md : Nat → Nat} {hl : Nat → Nat → Nat} (h : Row n T md hl) (d : ∀ s, ow T' s = ow T s) : Row n T' md hl := by
  unfold Row
  simp only [d]
  exact h
theorem LabR_fr {S M S' M' : HSt} {n : Nat} {T T' : Nat → Nat → Nat} {md : Nat → Nat} {od lm : Nat} {hl hk kl kk : Nat → Nat → Nat} (h : LabR S M n T md od lm hl hk kl kk) (a : ∀ i, 1 ≤ i → i ≤ 3 → S'.1 i = S.1 i) (b : ∀ i, 6 ≤ i → i ≤ 8 → S'.2 i = S.2 i) (c : M'.1 1 = M.1 1) (d : ∀ i, 6 ≤ i → i ≤ 11 → M'.2 i = M.2 i) (e : ∀ s, ow T' s = ow T s) : LabR S' M' n T' md od lm hl hk kl kk :=
  ⟨MD_fr h.1 (a 1 (by omega) (by omega)) (a 2 (by omega) (by omega)) (b 8 (by omega) (by omega)) (d 6 (by omega) (by omega)) (d 7 (by omega) (by omega)),
   HL_fr h.2.1 (b 6 (by omega) (by omega)) (d 8 (by omega) (by omega)) (d 9 (by omega) (by omega)) e,
   HL_fr h.2.2.1 (b 7 (by omega) (by omega)) (d 10 (by omega) (by omega)) (d 11 (by omega) (by omega)) e,
   Row_fr h.2.2.2.1 e, by rw [a 3 (by omega) (by omega), c]; exact h.2.2.2.2⟩
theorem Told_fr {S M S' M' : HSt} (h : Told S M) (a : S'.1 4 = S.1 4) (b : M'.1 3 = M.1 3) (c : S'.2 14 = S.2 14) (d : S'.2 15 = S.2 15) (e : M'.2 21 = M.2 21) (f : M'.2 22 = M.2 22) : Told S' M' := by
  unfold Told
  rw [a, b, c, d, e, f]
  exact h
theorem NetR_fr {S M S' M' : HSt} {n : Nat} {T : Nat → Nat → Nat} {en : Nat → Int32} (h : NetR S M n T en) (a : S'.1 0 = S.1 0) (b : ∀ i, i ≤ 5 → S'.2 i = S.2 i) (c : M'.1 0 = M.1 0) (d : ∀ i, i ≤ 4 → M'.2 i = M.2 i) : NetR S' M' n T en := by
  refine ⟨h.1, h.2.1, ?_, ?_, fun c hc => ?_⟩
  · unfold CN; rw [a, b 0 (by omega), b 1 (by omega), b 2 (by omega), b 3 (by omega)]; exact h.2.2.1
  · unfold MN; rw [c, d 0 (by omega), d 1 (by omega), d 2 (by omega), d 3 (by omega), d 4 (by omega)]; exact h.2.2.2.1
  · unfold Ways CF; rw [b 4 (by omega), b 5 (by omega)]; exact h.2.2.2.2 c hc
/-- what no answer rests on -/
def scC (S S' : HSt) : Prop := (∀ i, i ≠ 5 → S'.1 i = S.1 i) ∧ ∀ k, k ∉ [9, 10, 11, 12, 13, 16, 17] → S'.2 k = S.2 k
def scM (M M' : HSt) : Prop := (∀ i, i ≠ 2 → M'.1 i = M.1 i) ∧ ∀ k, k ∉ [5, 12, 13, 14, 15, 16, 17, 18, 19, 20] → M'.2 k = M.2 k
theorem scC_rf (S : HSt) : scC S S := ⟨fun _ _ => rfl, fun _ _ => rfl⟩
theorem scM_rf (S : HSt) : scM S S := ⟨fun _ _ => rfl, fun _ _ => rfl⟩
theorem scC_tr {S S' S'' : HSt} (h : scC S S') (h' : scC S' S'') : scC S S'' := ⟨fun i hi => (h'.1 i hi).trans (h.1 i hi), fun i hi => (h'.2 i hi).trans (h.2 i hi)⟩
theorem scM_tr {S S' S'' : HSt} (h : scM S S') (h' : scM S' S'') : scM S S'' := ⟨fun i hi => (h'.1 i hi).trans (h.1 i hi), fun i hi => (h'.2 i hi).trans (h.2 i hi)⟩
theorem scM_fr {ks : List Nat} {M M' : HSt} (h : fr ks M M') (hk : ∀ k ∈ ks, k ∈ [5, 12, 13, 14, 15, 16, 17, 18, 19, 20]) : scM M M' := ⟨fun i _ => by rw [h.1], fun k hk' => h.2 k (fun q => hk' (hk k q))⟩
theorem scC_fr {ks : List Nat} {M M' : HSt} (h : fr ks M M') (hk : ∀ k ∈ ks, k ∈ [9, 10, 11, 12, 13, 16, 17]) : scC M M' := ⟨fun i _ => by rw [h.1], fun k hk' => h.2 k (fun q => hk' (hk k q))⟩
theorem scC_rows {k : Nat} (h : k ≤ 8 ∨ k = 14 ∨ k = 15) : k ∉ [9, 10, 11, 12, 13, 16, 17] := by simp; omega
theorem scM_rows {k : Nat} (h : k ≤ 4 ∨ (6 ≤ k ∧ k ≤ 11) ∨ 21 ≤ k) : k ∉ [5, 12, 13, 14, 15, 16, 17, 18, 19, 20] := by simp; omega
theorem NetR_sc {S M S' M' : HSt} {n : Nat} {T : Nat → Nat → Nat} {en : Nat → Int32} (h : NetR S M n T en) (hS : scC S S') (hM : scM M M') : NetR S' M' n T en := NetR_fr h (hS.1 0 (by omega)) (fun i hi => hS.2 i (scC_rows (by omega))) (hM.1 0 (by omega)) (fun i hi => hM.2 i (scM_rows (by omega)))
theorem LabR_sc {S M S' M' : HSt} {n : Nat} {T : Nat → Nat → Nat} {md : Nat → Nat} {od lm : Nat} {hl hk kl kk : Nat → Nat → Nat} (h : LabR S M n T md od lm hl hk kl kk) (hS : scC S S') (hM : scM M M') : LabR S' M' n T md od lm hl hk kl kk := LabR_fr h (fun i _ _ => hS.1 i (by omega)) (fun i _ _ => hS.2 i (scC_rows (by omega))) (hM.1 1 (by omega)) (fun i _ _ => hM.2 i (scM_rows (by omega))) (fun _ => rfl)
theorem Told_sc {S M S' M' : HSt} (h : Told S M) (hS : scC S S') (hM : scM M M') : Told S' M' := Told_fr h (hS.1 4 (by omega)) (hM.1 3 (by omega)) (hS.2 14 (scC_rows (by omega))) (hS.2 15 (scC_rows (by omega))) (hM.2 21 (scM_rows (by omega))) (hM.2 22 (scM_rows (by omega)))
theorem Rel_sc {S M S' M' : HSt} (h : Rel S M) (hS : scC S S') (hM : scM M M') : Rel S' M' := by
  obtain ⟨n, T, en, md, od, lm, hl, hk, kl, kk, h1, h2, h3⟩ := h
  exact ⟨n, T, en, md, od, lm, hl, hk, kl, kk, NetR_sc h1 hS hM, LabR_sc h2 hS hM, Told_sc h3 hS hM⟩
theorem Rel_5 {S M M' : HSt} (h : Rel S M) (hM : fr [5] M M') : Rel S M' := Rel_sc h (scC_rf S) (scM_fr hM (by decide))
/-! plain calls -/
theorem op_ofLink : Op_ofLink Rel := by
  intro S M hR a1 a2
  obtain ⟨n, T, en, md, od, lm, hl, hk, kl, kk, h1, h2, h3⟩ := id hR
  obtain ⟨hn, hE, hC, hM, hW⟩ := h1
  have h12 := hn.1
  unfold f_X3_ofLink f_X4_ofLink
  rcases q_link hn hC hM a1 with ⟨e1, e2⟩ | ⟨l, hl, rfl, e1, e2⟩
  · rw [e1, e2]; exact ⟨-1, rfl, rfl, hR⟩
  · have hw := hn.2.1 l hl
    rw [e1, e2]
    simp (disch := omega) only [Option.bind_some, i10, if_false, n_2, pk_mul, nI_add, n_1, ld_n, hC.2.1, hC.2.2.1, hC.2.2.2.1, hM.2.1, hM.2.2.1, hM.2.2.2.1, hM.2.2.2.2.1, ow_2, ow_21]
    by_cases c0 : a2 = 0
    · rw [if_pos c0, if_pos c0]; exact ⟨_, rfl, rfl, hR⟩
    · by_cases c1 : a2 = nI 1
      · rw [if_neg c0, if_neg c0, if_pos c1, if_pos c1]; exact ⟨_, rfl, rfl, hR⟩
      · by_cases c2 : a2 = nI 2
        · rw [if_neg c0, if_neg c0, if_neg c1, if_neg c1, if_pos c2, if_pos c2]; exact ⟨_, rfl, rfl, hR⟩
        · by_cases c3 : a2 = 3
          · rw [if_neg c0, if_neg c0, if_neg c1, if_neg c1, if_neg c2, if_neg c2, if_pos c3, if_pos c3]
            refine ⟨_, rfl, ?_, hR⟩
            rcases (show T 3 l = 0 ∨ T 3 l = 1 by omega) with e | e <;> rw [e] <;> rfl
          · rw [if_neg c0, if_neg c0, if_neg c1, if_neg c1, if_neg c2, if_neg c2, if_neg c3, if_neg c3]; exact ⟨_, rfl, rfl, hR⟩
theorem op_next : Op_next Rel := by
  intro S M hR a1 a2
  obtain ⟨n, T, en, md, od, lm, hl, hk, kl, kk, h1, h2, h3⟩ := id hR
  obtain ⟨hn, hE, hC, hM, hW⟩ := h1
  have h12 := hn.1
  unfold f_X3_next f_X4_next
  rcases q_box a1 with ⟨e1, e2⟩ | ⟨b, hb, rfl, e1, e2⟩
  · rw [e1, e2]; exact ⟨-1, M, rfl, rfl, hR⟩
  · rcases q_cls a2 with ⟨f1, f2⟩ | ⟨c, hc, rfl, f1, f2⟩
    · rw [e1, e2, f1, f2]; exact ⟨-1, M, rfl, rfl, hR⟩
    · rw [e1, e2, f1, f2]
      simp only [Option.bind_some, i10, if_false]
      obtain ⟨D, d1, d2, d3⟩ := hW c hc
      obtain ⟨M', m1, m2⟩ := nextOf_spec hn hM hc hb d1 (d3 b hb)
      unfold f_X1_nextBox f_X3_pair
      simp (disch := omega) only [Option.bind_some, n_4, pk_mul, nI_add, ld_n]
      rcases m2 with ⟨e, m2⟩ | ⟨s, s1, e, s2, s3, m2⟩
      · rw [e, if_pos rfl, m2]
        exact ⟨_, M', rfl, rfl, Rel_5 hR m1⟩
      · have hfl := fl_lt s1
        rw [e, if_neg (nn1 (by omega)), m2, show nI s ^^^ 1 = nI (fl s) from n_xor s (by omega), ld_n _ _ (by omega) (by omega), hC.2.1 _ hfl]
        exact ⟨_, M', rfl, rfl, Rel_5 hR m1⟩
theorem op_far : Op_far Rel := by
  intro S M hR a1 a2
  obtain ⟨n, T, en, md, od, lm, hl, hk, kl, kk, h1, h2, h3⟩ := id hR
  obtain ⟨hn, hE, hC, hM, hW⟩ := h1
  unfold f_X3_far f_X4_far
  rcases q_box a1 with ⟨e1, e2⟩ | ⟨b, hb, rfl, e1, e2⟩
  · rw [e1, e2]; exact ⟨-1, M, rfl, rfl, hR⟩
  · rcases q_cls a2 with ⟨f1, f2⟩ | ⟨c, hc, rfl, f1, f2⟩
    · rw [e1, e2, f1, f2]; exact ⟨-1, M, rfl, rfl, hR⟩
    · rw [e1, e2, f1, f2]
      simp only [Option.bind_some, i10, if_false]
      obtain ⟨D, d1, d2, d3⟩ := hW c hc
      obtain ⟨M', d, r1, r2, r3, r4⟩ := findFar_spec hn hM hc
      have hd := D_uniq hn r4 d1 hb
      have hle := d1.1 b hb
      unfold f_X3_pair
      rw [r1]
      simp (disch := omega) only [Option.bind_some, n_4, pk_mul, nI_add, ld_n]
      rw [d2 b hb, r3 b hb, hd]
      by_cases h : D b = 1000
      · rw [h, if_pos (by decide)]
        exact ⟨_, M', rfl, rfl, Rel_5 hR r2⟩
      · rw [e9_n h, if_neg (show ¬ (1000 : Int32) ≤ nI (D b) from ngt (b := 1000) (by omega) (by omega))]
        exact ⟨_, M', rfl, rfl, Rel_5 hR r2⟩
theorem op_setting : Op_setting Rel := by
  intro S M hR a1 a2
  obtain ⟨n, T, en, md, od, lm, hl, hk, kl, kk, h1, h2, h3⟩ := id hR
  obtain ⟨⟨m1, m2, m3, m4, m5, m6, m7, m8⟩, l2, l3, l4, l5⟩ := h2
  unfold f_X3_setting f_X4_setting f_X4_setting_32 f_X4_setting_33 f_X3_setting_29
  have z0 : (0 : Int32) = nI 0 := rfl
  by_cases c0 : a1 = 0
  · subst c0
    rw [if_pos rfl, if_pos rfl]
    rcases q_yes a2 with ⟨e1, e2⟩ | ⟨u, hu, rfl, e1, e2⟩
    · rw [e1, e2]; exact ⟨-2, S, M, rfl, rfl, hR⟩
    · rw [e1, e2]
      simp only [Option.bind_some, i10, if_false]
      rw [z0, ld_n _ _ (by omega) (by omega), st_n _ _ _ (by omega) (by omega)]
      refine ⟨nI od, h_put S 1 (nI u), wr M 7 0 (nI u), by rw [m3], by rw [m4]; rfl, n, T, en, md, u, lm, hl, hk, kl, kk, ?_, ⟨⟨fun j hj => ?_, hu, rfl, wr_s _ _ _ _, m5, m6, m7, ?_⟩, ?_, ?_, l4, l5⟩, ?_⟩
      · exact NetR_fr h1 rfl (fun _ _ => rfl) rfl (fun i hi => wr_r _ _ (by omega))
      · rw [wr_o _ _ _ (by omega)]; exact m1 j hj
      · rw [wr_n _ _ (by omega)]; exact m8
      · exact HL_fr l2 rfl (wr_r _ _ (by omega)) (wr_r _ _ (by omega)) (fun _ => rfl)
      · exact HL_fr l3 rfl (wr_r _ _ (by omega)) (wr_r _ _ (by omega)) (fun _ => rfl)
      · exact Told_fr h3 rfl rfl rfl rfl (wr_r _ _ (by omega)) (wr_r _ _ (by omega))
  · by_cases c1 : a1 = 1
    · subst c1
      rw [if_neg c0, if_neg c0, if_pos rfl, if_pos rfl]
      rcases q_cost a2 with ⟨e1, e2⟩ | ⟨u, hu1, hu, rfl, e1, e2⟩
      · rw [e2]
        unfold f_X3_isCost at e1
        refine ⟨-2, S, M, ?_, rfl, hR⟩
        by_cases d1 : a2 < 1
        · rw [if_pos d1]
        · rw [if_neg d1] at e1 ⊢
          by_cases d2 : 9 < a2
          · rw [if_pos d2]
          · rw [if_neg d2] at e1; exact absurd e1 (by decide)
      · rw [e2]
        simp only [Option.bind_some, i10, if_false]
        rw [if_neg (show ¬ nI u < 1 by rw [n_1, n_lt (by omega) (by omega)]; omega), if_neg (show ¬ 9 < nI u by rw [n_9, n_lt (by omega) (by omega)]; omega), n_1, ld_n _ _ (by omega) (by omega), st_n _ _ _ (by omega) (by omega)]
        refine ⟨nI lm, h_put S 2 (nI u), wr M 7 1 (nI u), by rw [m7], by rw [m8]; rfl, n, T, en, md, od, u, hl, hk, kl, kk, ?_, ⟨⟨fun j hj => ?_, m2, m3, ?_, hu1, hu, rfl, wr_s _ _ _ _⟩, ?_, ?_, l4, l5⟩, ?_⟩
        · exact NetR_fr h1 rfl (fun _ _ => rfl) rfl (fun i hi => wr_r _ _ (by omega))
        · rw [wr_o _ _ _ (by omega)]; exact m1 j hj
        · rw [wr_n _ _ (by omega)]; exact m4
        · exact HL_fr l2 rfl (wr_r _ _ (by omega)) (wr_r _ _ (by omega)) (fun _ => rfl)
        · exact HL_fr l3 rfl (wr_r _ _ (by omega)) (wr_r _ _ (by omega)) (fun _ => rfl)
        · exact Told_fr h3 rfl rfl rfl rfl (wr_r _ _ (by omega)) (wr_r _ _ (by omega))
    · rw [if_neg c0, if_neg c0, if_neg c1, if_neg c1]
      exact ⟨-2, S, M, rfl, rfl, hR⟩
