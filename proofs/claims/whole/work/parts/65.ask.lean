/-! what is asked of labels -/
theorem nz {a : Nat} (h : ¬ a = 0) (ha : a < 2147483648) : ¬ nI a = 0 := by rw [n_0, n_eq ha (by omega)]; exact h
theorem nlt {a b : Nat} (h : a < b) (hb : b < 2147483648) : nI a < nI b := by rw [n_lt (by omega) hb]; exact h
theorem nnlt {a b : Nat} (h : ¬ a < b) (ha : a < 2147483648) : ¬ nI a < nI b := by rw [n_lt ha (by omega)]; exact h
theorem LOk_lt {L : Nat} (h : LOk L) : L < 20 := by unfold LOk at h; omega
theorem sl_lt {L k : Nat} (h : LOk L) (hk : k ≤ 9) : sl L k < 330 := by
  have := LOk_lt h
  unfold sl
  split <;> omega
theorem sl_0 {L k : Nat} (h : LOk L) : (sl L k = 0) ↔ L = 0 := by
  unfold sl
  split
  · simp [*]
  · omega
theorem sl_div {L k : Nat} (hk : k ≤ 9) : sl L k / 16 = L := by
  unfold sl
  split
  · omega
  · omega
theorem sl_mod {L k : Nat} (h0 : L ≠ 0) (hk : k ≤ 9) : sl L k % 16 = k := by
  unfold sl
  rw [if_neg h0]
  omega
theorem labelOf_sl {L k : Nat} (h : LOk L) (hk : k ≤ 9) : f_X3_labelOf (nI (sl L k)) = some (nI L) := by
  have := sl_lt h hk
  unfold f_X3_labelOf
  rw [n_4, n_shr4 (by omega), sl_div hk]
theorem countOf_sl {L k : Nat} (h : LOk L) (h0 : L ≠ 0) (hk : k ≤ 9) : f_X3_countOf (nI (sl L k)) = some (nI k) := by
  have := sl_lt h hk
  unfold f_X3_countOf
  rw [n_15, n_and15 (by omega), sl_mod h0 hk]
theorem part_tell {L k : Nat} (h : LOk L) (hk : k ≤ 9) {cnt : Int32} (hc : L ≠ 0 → cnt = nI k) (a : Int32) : ∃ r, f_X3_partOf (nI (sl L k)) a = some r ∧ f_X4_tell (nI L) cnt a = some r := by
  have hsl := sl_lt h hk
  have hl := LOk_lt h
  unfold f_X3_partOf f_X4_tell
  rcases q_in a 1 (by omega) with ⟨f1, f2⟩ | ⟨w, hw, rfl, f2⟩
  · rw [show (1 : Int32) = nI 1 from rfl, f2, Option.bind_some, if_pos rfl]
    refine ⟨-2, ?_, rfl⟩
    rcases f1 with f1 | f1
    · rw [if_pos f1]
    · by_cases g : a < 0
      · rw [if_pos g]
      · rw [if_neg g, if_neg]
        obtain ⟨j, hj, rfl⟩ := nI_of g
        rw [n_lt (by omega) (by omega)] at f1
        rw [n_le (by omega) (by omega)]
        omega
  · rw [show (1 : Int32) = nI 1 from rfl, f2, Option.bind_some, if_neg (show ¬ (1 : Int32) = 0 by decide), if_neg (nI_pos (by omega)), if_pos (nle (by omega) (by omega))]
    by_cases h0 : L = 0
    · subst h0
      exact ⟨-9, by rw [if_pos (by rfl)], by rw [if_pos (by rfl)]⟩
    · have hs0 : ¬ sl L k = 0 := fun q => h0 ((sl_0 h).mp q)
      rw [if_neg (nz hs0 (by omega)), if_neg (nz h0 (by omega))]
      rcases (show w = 0 ∨ w = 1 by omega) with rfl | rfl
      · rw [if_pos (show nI 0 = 0 from rfl), if_pos (show nI 0 = 0 from rfl), labelOf_sl h hk]
        exact ⟨nI L, rfl, rfl⟩
      · rw [if_neg (show ¬ nI 1 = 0 by decide), if_neg (show ¬ nI 1 = 0 by decide), countOf_sl h h0 hk, hc h0]
        exact ⟨nI k, rfl, rfl⟩
theorem op_handed : Op_handed Rel := by
  intro S M hR a1 a2 a3 a4
  obtain ⟨n, T, en, md, od, lm, hl, hk, kl, kk, h1, h2, h3⟩ := id hR
  obtain ⟨hn, hE, hC, hM, hW⟩ := id h1
  have h12 := hn.1
  unfold f_X3_handed f_X4_handed
  rcases sideFor_spec hn hC hM a1 a2 with ⟨e1, e2⟩ | ⟨b, s, hb, hs, ho, rfl, rfl, e1, e2⟩
  · rw [e1, e2]; exact ⟨-1, rfl, rfl, hR⟩
  · rw [e1, e2]
    rcases q_cls a3 with ⟨f1, f2⟩ | ⟨c, hc, rfl, f1, f2⟩
    · rw [f1, f2, Option.bind_some, Option.bind_some, if_neg (nn1 (by omega))]
      exact ⟨-1, rfl, rfl, hR⟩
    · rw [f1, f2, Option.bind_some, Option.bind_some, if_neg (nn1 (by omega)), if_neg (show ¬ (1 : Int32) = 0 by decide)]
      unfold f_X3_slot f_X4_at
      have hq := h2.2.1.1 s c hs hc
      rw [ho] at hq
      obtain ⟨r, r1, r2⟩ := part_tell hq.1 hq.2.1 hq.2.2.2.2 a4
      simp (disch := omega) only [Option.bind_some, i10, if_false, n_4, n_12, pk_mul, nI_add, ld_n, hq.2.2.1, hq.2.2.2.1]
      rw [r1, r2]
      exact ⟨r, rfl, rfl, hR⟩
theorem op_kept : Op_kept Rel := by
  intro S M hR a1 a2 a3 a4
  obtain ⟨n, T, en, md, od, lm, hl, hk, kl, kk, h1, h2, h3⟩ := id hR
  obtain ⟨hn, hE, hC, hM, hW⟩ := id h1
  have h12 := hn.1
  unfold f_X3_kept f_X4_kept
  rcases sideFor_spec hn hC hM a1 a2 with ⟨e1, e2⟩ | ⟨b, s, hb, hs, ho, rfl, rfl, e1, e2⟩
  · rw [e1, e2]; exact ⟨-1, rfl, rfl, hR⟩
  · rw [e1, e2]
    rcases q_cls a3 with ⟨f1, f2⟩ | ⟨c, hc, rfl, f1, f2⟩
    · rw [f1, f2, Option.bind_some, Option.bind_some, if_neg (nn1 (by omega))]
      exact ⟨-1, rfl, rfl, hR⟩
    · rw [f1, f2, Option.bind_some, Option.bind_some, if_neg (nn1 (by omega)), if_neg (show ¬ (1 : Int32) = 0 by decide)]
      unfold f_X3_slot f_X4_at
      have hq := h2.2.2.1.1 s c hs hc
      rw [ho] at hq
      obtain ⟨r, r1, r2⟩ := part_tell hq.1 hq.2.1 hq.2.2.2.2 a4
      simp (disch := omega) only [Option.bind_some, i10, if_false, n_4, n_12, pk_mul, nI_add, ld_n, hq.2.2.1, hq.2.2.2.1]
      rw [r1, r2]
      exact ⟨r, rfl, rfl, hR⟩
/-- what a BOX uses: the label and the count (0: nothing) -/
theorem used_spec {S M : HSt} {n : Nat} {T : Nat → Nat → Nat} {en : Nat → Int32} {kl kk : Nat → Nat → Nat} (hn : NetWf n T) (hM : MN M n T en) {c b : Nat} (hc : c < 4) (hb : b < 7) (hW : Ways S n T en c) (hK : HL S M n T 7 10 11 kl kk) : ∃ M' L k, fr [5] M M' ∧ LOk L ∧ k ≤ 9 ∧ f_X0_slipUsed S (nI b) (nI c) = some (nI (sl L k)) ∧ f_X4_usedLabel M (nI b) (nI c) = some (nI L, M') ∧ ((S.2 5 (b * 4 + c) = -1 ∧ L = 0) ∨ ∃ s, s < 2 * n ∧ S.2 5 (b * 4 + c) = nI s ∧ ow T s = b ∧ L = kl s c ∧ k = kk s c) := by
  have h12 := hn.1
  obtain ⟨D, d1, d2, d3⟩ := hW
  obtain ⟨M', m1, m2⟩ := usedAt_spec hn hM hc hb d1 (d3 b hb)
  unfold f_X0_slipUsed f_X4_usedLabel f_X3_pair f_X3_slot
  rw [Option.bind_some, show (nI b * 4 + nI c : Int32) = nI (b * 4 + c) by rw [n_4, pk_mul, nI_add], ld_n _ _ (by omega) (by omega), Option.bind_some]
  rcases m2 with ⟨e, m2⟩ | ⟨s, s1, e, s2, m2⟩
  · refine ⟨M', 0, 0, m1, Or.inl rfl, by omega, ?_, ?_, Or.inl ⟨e, rfl⟩⟩
    · rw [e, if_pos rfl]; rfl
    · rw [m2, bi_s, if_pos rfl]; rfl
  · have hq := hK.1 s c s1 hc
    rw [s2] at hq
    refine ⟨M', kl s c, kk s c, m1, hq.1, hq.2.1, ?_, ?_, Or.inr ⟨s, s1, e, s2, rfl, rfl⟩⟩
    · rw [e, if_neg (nn1 (by omega)), Option.bind_some, show (nI s * 4 + nI c : Int32) = nI (s * 4 + c) by rw [n_4, pk_mul, nI_add], ld_n _ _ (by omega) (by omega), hq.2.2.1]
      rfl
    · have hfr := fr_at m1 (k := 10) (by decide) (4 * (12 * b + s / 2) + c)
      rw [m2, bi_s, if_neg (nn9 (by omega)), ld_n _ _ (by omega) (by omega), hfr, hq.2.2.2.1]
      rfl
theorem op_used : Op_used Rel := by
  intro S M hR a1 a2
  obtain ⟨n, T, en, md, od, lm, hl, hk, kl, kk, h1, h2, h3⟩ := id hR
  obtain ⟨hn, hE, hC, hM, hW⟩ := id h1
  unfold f_X3_used f_X4_used
  rcases q_box a1 with ⟨e1, e2⟩ | ⟨b, hb, rfl, e1, e2⟩
  · rw [e1, e2]; exact ⟨-1, M, rfl, rfl, hR⟩
  · rcases q_cls a2 with ⟨f1, f2⟩ | ⟨c, hc, rfl, f1, f2⟩
    · rw [e1, e2, f1, f2]; exact ⟨-1, M, rfl, rfl, hR⟩
    · rw [e1, e2, f1, f2]
      simp only [Option.bind_some, i10, if_false]
      obtain ⟨M', L, k, m1, m2, m3, m4, m5, -⟩ := used_spec hn hM hc hb (hW c hc) h2.2.2.1
      have hsl := sl_lt m2 m3
      have hL := LOk_lt m2
      rw [m4, m5, Option.bind_some, bi_s]
      by_cases h0 : L = 0
      · subst h0
        rw [if_pos (show nI (sl 0 k) = 0 from rfl), if_pos (show nI 0 = 0 from rfl)]
        exact ⟨-9, M', rfl, rfl, Rel_5 hR m1⟩
      · rw [if_neg (nz (fun q => h0 ((sl_0 m2).mp q)) (by omega)), if_neg (nz h0 (by omega)), labelOf_sl m2 m3]
        exact ⟨nI L, M', rfl, rfl, Rel_5 hR m1⟩
theorem op_trace : Op_trace Rel := by
  intro S M hR a1 a2
  obtain ⟨n, T, en, md, od, lm, hl, hk, kl, kk, h1, h2, h3⟩ := id hR
  obtain ⟨t, t1, t2, t3, t4⟩ := h3
  unfold f_X3_trace f_X4_trace
  rcases q_in a1 14 (by omega) with ⟨f1, f2⟩ | ⟨k, hk1, rfl, f2⟩
  · rw [n_14, f2, Option.bind_some, if_pos rfl]
    refine ⟨-2, ?_, rfl, hR⟩
    rcases f1 with f1 | f1
    · rw [if_pos f1]
    · by_cases g : a1 < 0
      · rw [if_pos g]
      · rw [if_neg g, if_pos f1]
  · rw [n_14, f2, Option.bind_some, if_neg (show ¬ (1 : Int32) = 0 by decide), if_neg (nI_pos (by omega)), if_neg (show ¬ nI 14 < nI k by rw [n_lt (by omega) (by omega)]; omega)]
    rcases q_in a2 1 (by omega) with ⟨g1, g2⟩ | ⟨w, hw, rfl, g2⟩
    · rw [n_1, g2, Option.bind_some, if_pos rfl]
      refine ⟨-2, ?_, rfl, hR⟩
      rcases g1 with g1 | g1
      · rw [if_pos g1]
      · by_cases g : a2 < 0
        · rw [if_pos g]
        · rw [if_neg g, if_neg]
          obtain ⟨j, hj, rfl⟩ := nI_of g
          rw [n_lt (by omega) (by omega)] at g1
          rw [n_le (by omega) (by omega)]
          omega
    · rw [n_1, g2, Option.bind_some, if_neg (show ¬ (1 : Int32) = 0 by decide), if_neg (nI_pos (by omega)), if_pos (nle (by omega) (by omega)), t2, t3]
      by_cases h : k < t
      · have hv := t4 k h
        rw [if_pos (nlt h (by omega)), if_pos (nlt h (by omega))]
        simp (disch := omega) only [ld_n, Option.bind_some]
        rw [hv.1, hv.2]
        by_cases g : nI w = 0
        · rw [if_pos g]; exact ⟨_, rfl, rfl, hR⟩
        · rw [if_neg g]; exact ⟨_, rfl, rfl, hR⟩
      · rw [if_neg (nnlt h (by omega)), if_neg (nnlt h (by omega))]
        exact ⟨-9, rfl, rfl, hR⟩
