section TL
variable {S M : HSt} {n : Nat} {T : Nat → Nat → Nat} {en : Nat → Int32} {md : Nat → Nat} {od lm : Nat} {hl hk kl kk : Nat → Nat → Nat} {cn : Nat → Nat → Nat}
/-- the reference: NEXT and COUNT of all -/
theorem go_a (hn : NetWf n T) (hC : CN S n T en) (hW : ∀ c, c < 4 → Ways S n T en c) (hM : MN M n T en) (hcn : ∀ b c, b < 7 → c < 4 → (cn b c = 99 ∨ cn b c ≤ 9) ∧ f_X0_countToHand S (nI b) (nI c) = some (v1 (cn b c)) ∧ ∀ M1, fr [5, 16, 17] M M1 → ∃ M', fr [5] M1 M' ∧ f_X4_countOf M1 (nI b) (nI c) = some (v9 (cn b c), M')) : ∃ M1, f_X4_goesOn M = f_X4_goesOn_48 h_fu M1 0 ∧ fr [5, 16, 17] M M1 ∧ NN S M1 n T cn 28 := by
  have h12 := hn.1
  unfold f_X4_goesOn
  refine lp_up (fun k (q : HSt × Int32) => f_X4_goesOn_2 k q.1 q.2) (fun i q => q.2 = nI i ∧ fr [5, 16, 17] M q.1 ∧ NN S q.1 n T cn i) 28 (fun o => ∃ M1, o = f_X4_goesOn_48 h_fu M1 0 ∧ fr [5, 16, 17] M M1 ∧ NN S M1 n T cn 28) ?_ ?_ h_fu 0 (M, 0) (Nat.zero_le _) (by have := fu_big; omega) ⟨rfl, fr_rf _ _, fun b c _ _ h => by omega⟩
  · rintro k i ⟨M1, y⟩ hi ⟨q1, q2, q3⟩
    dsimp only at q1 q2 q3
    subst q1
    right
    have e1 : f_X4_goesOn_2 (k + 1) M1 (nI i) = f_X4_goesOn_2_s (f_X4_goesOn_2 k) M1 (nI i) := rfl
    dsimp only
    rw [e1]
    unfold f_X4_goesOn_2_s
    have ed : nI i / 4 = nI (i / 4) := n_div (d := 4) (by omega) (by omega) (by omega)
    have em : nI i - nI (i / 4) * 4 = nI (i % 4) := by rw [← ed]; exact pk_rem (a := i) (d := 4) (by omega) (by omega) (by omega)
    rw [if_neg (show ¬ (28 : Int32) ≤ nI i from ngt (b := 28) hi (by omega)), ed, em]
    obtain ⟨M2, r, m1, m2, m3, m4⟩ := nb_spec hn hC (fr_MN q2 (by decide) hM) (show i % 4 < 4 by omega) (show i / 4 < 7 by omega) (hW (i % 4) (by omega))
    rw [m3, bi_s, st_n _ _ _ (by omega) (by omega), Option.bind_some]
    have f3 : fr [5, 16, 17] M (wr M2 16 i r) := fr_tr q2 (fr_tr (fr_mono m1 (by decide)) (fr_wr (by decide)))
    obtain ⟨M3, u1, u2⟩ := (hcn (i / 4) (i % 4) (by omega) (by omega)).2.2 _ f3
    rw [u2, bi_s, st_n _ _ _ (by omega) (by omega), Option.bind_some, nI_1]
    refine ⟨(wr M3 17 i (v9 (cn (i / 4) (i % 4))), nI (i + 1)), ⟨rfl, fr_tr f3 (fr_tr (fr_mono u1 (by decide)) (fr_wr (by decide))), fun b c hb hc hbc => ?_⟩, rfl⟩
    dsimp only
    rw [wr_o _ _ _ (show 16 ≠ 17 by decide), u1.2 16 (by decide)]
    by_cases e : b * 4 + c = i
    · have eb : i / 4 = b := by omega
      have ec : i % 4 = c := by omega
      rw [e, wr_s, wr_s, eb, ec]
      rw [eb, ec, e] at m4
      refine ⟨rfl, ?_⟩
      rcases m4 with ⟨x1, x2⟩ | ⟨s, s1, s2, s3, s4, s5⟩
      · exact Or.inl ⟨x1, x2⟩
      · exact Or.inr ⟨s, s1, s2, s3, s4, s5⟩
    · rw [wr_n _ _ e, wr_n _ _ e, u1.2 17 (by decide), wr_o _ _ _ (show 17 ≠ 16 by decide), m1.2 17 (by decide), m1.2 16 (by decide)]
      exact q3 b c hb hc (by omega)
  · rintro k ⟨M1, y⟩ ⟨q1, q2, q3⟩
    dsimp only at q1 q2 q3
    subst q1
    exact ⟨M1, rfl, q2, q3⟩
/-- .. and what was goes aside -/
theorem go_b (M : HSt) : ∃ M1, f_X4_goesOn_48 h_fu M 0 = f_X4_goesOn_118 h_fu M1 0 ∧ fr [8, 12, 13, 14, 15] M M1 ∧ ∀ x, x < 336 → M1.2 8 x = 0 ∧ M1.2 12 x = M.2 8 x ∧ M1.2 13 x = M.2 9 x ∧ M1.2 14 x = M.2 10 x ∧ M1.2 15 x = M.2 11 x := by
  refine lp_up (fun k (q : HSt × Int32) => f_X4_goesOn_48 k q.1 q.2) (fun i q => q.2 = nI i ∧ fr [8, 12, 13, 14, 15] M q.1 ∧ (∀ x, i ≤ x → q.1.2 8 x = M.2 8 x) ∧ ∀ x, x < i → q.1.2 8 x = 0 ∧ q.1.2 12 x = M.2 8 x ∧ q.1.2 13 x = M.2 9 x ∧ q.1.2 14 x = M.2 10 x ∧ q.1.2 15 x = M.2 11 x) 336 (fun o => ∃ M1, o = f_X4_goesOn_118 h_fu M1 0 ∧ fr [8, 12, 13, 14, 15] M M1 ∧ ∀ x, x < 336 → M1.2 8 x = 0 ∧ M1.2 12 x = M.2 8 x ∧ M1.2 13 x = M.2 9 x ∧ M1.2 14 x = M.2 10 x ∧ M1.2 15 x = M.2 11 x) ?_ ?_ h_fu 0 (M, 0) (Nat.zero_le _) (by have := fu_big; omega) ⟨rfl, fr_rf _ _, fun _ _ => rfl, fun x h => by omega⟩
  · rintro k i ⟨M1, y⟩ hi ⟨q1, q2, q3, q4⟩
    dsimp only at q1 q2 q3 q4
    subst q1
    right
    have e1 : f_X4_goesOn_48 (k + 1) M1 (nI i) = f_X4_goesOn_48_s (f_X4_goesOn_48 k) M1 (nI i) := rfl
    dsimp only
    rw [e1]
    unfold f_X4_goesOn_48_s
    rw [if_neg (show ¬ (336 : Int32) ≤ nI i from ngt (b := 336) hi (by omega))]
    rw [ld_n _ _ (by omega) (by omega), Option.bind_some, st_n _ _ _ (by omega) (by omega), Option.bind_some, ld_n _ _ (by omega) (by omega), Option.bind_some, st_n _ _ _ (by omega) (by omega), Option.bind_some, ld_n _ _ (by omega) (by omega), Option.bind_some, st_n _ _ _ (by omega) (by omega), Option.bind_some, ld_n _ _ (by omega) (by omega), Option.bind_some, st_n _ _ _ (by omega) (by omega), Option.bind_some, st_n _ _ _ (by omega) (by omega), Option.bind_some, nI_1]
    refine ⟨(wr (wr (wr (wr (wr M1 12 i (M1.2 8 i)) 13 i (M1.2 9 i)) 14 i (M1.2 10 i)) 15 i (M1.2 11 i)) 8 i 0, nI (i + 1)), ⟨rfl, fr_tr q2 (fr_tr (fr_wr (by decide)) (fr_tr (fr_wr (by decide)) (fr_tr (fr_wr (by decide)) (fr_tr (fr_wr (by decide)) (fr_wr (by decide)))))), fun x hx => ?_, fun x hx => ?_⟩, rfl⟩
    · dsimp only
      rw [wr_n _ _ (show x ≠ i by omega), wr_o _ _ _ (by decide), wr_o _ _ _ (by decide), wr_o _ _ _ (by decide), wr_o _ _ _ (by decide)]
      exact q3 x (by omega)
    · dsimp only
      simp (disch := decide) only [wr_o]
      by_cases e : x = i
      · rw [e]
        simp (disch := decide) only [wr_s, wr_o]
        refine ⟨trivial, q3 i (by omega), ?_, ?_, ?_⟩
        · rw [q2.2 9 (by decide)]
        · rw [q2.2 10 (by decide)]
        · rw [q2.2 11 (by decide)]
      · simp (disch := first | exact e | decide) only [wr_n, wr_o]
        exact q4 x (by omega)
  · rintro k ⟨M1, y⟩ ⟨q1, q2, q3, q4⟩
    dsimp only at q1 q2 q3 q4
    subst q1
    exact ⟨M1, rfl, q2, q4⟩
/-- the class: slips with no LABEL yet -/
def hd (S : HSt) (T : Nat → Nat → Nat) (md : Nat → Nat) (cn : Nat → Nat → Nat) (s c : Nat) : Nat := if gz S T md cn s c = 1 then 16 + cn (ow T s) c else 0
theorem placeOver_spec {S1 : HSt} (hn : NetWf n T) (hC : CN S1 n T en) (hD : MD S1 M md od lm) (h5 : S1.2 5 = S.2 5) (hcn : ∀ b c, b < 7 → c < 4 → cn b c = 99 ∨ cn b c ≤ 9) {s : Nat} (hs : s < 2 * n) (h10 : ∀ c, c < 4 → S1.2 10 c = v1 (cn (ow T s) c)) : ∃ S', f_X0_placeOver S1 (nI s) = some S' ∧ fr [9] S1 S' ∧ ∀ x, S'.2 9 x = if s * 4 ≤ x ∧ x < s * 4 + 4 then nI (hd S T md cn s (x - s * 4)) else S1.2 9 x := by
  have h12 := hn.1
  have ho := ow_lt hn hs
  unfold f_X0_placeOver
  refine lp_up (fun k (q : HSt × Int32) => f_X0_placeOver_2 k q.1 (nI s) q.2) (fun i q => q.2 = nI i ∧ fr [9] S1 q.1 ∧ ∀ x, q.1.2 9 x = if s * 4 ≤ x ∧ x < s * 4 + i then nI (hd S T md cn s (x - s * 4)) else S1.2 9 x) 4 (fun o => ∃ S', o = some S' ∧ fr [9] S1 S' ∧ ∀ x, S'.2 9 x = if s * 4 ≤ x ∧ x < s * 4 + 4 then nI (hd S T md cn s (x - s * 4)) else S1.2 9 x) ?_ ?_ h_fu 0 (S1, 0) (Nat.zero_le _) (by have := fu_big; omega) ⟨rfl, fr_rf _ _, fun x => by rw [if_neg (by omega)]⟩
  · rintro k i ⟨S2, y⟩ hi ⟨q1, q2, q3⟩
    dsimp only at q1 q2 q3
    subst q1
    right
    have e1 : f_X0_placeOver_2 (k + 1) S2 (nI s) (nI i) = f_X0_placeOver_2_s (f_X0_placeOver_2 k) S2 (nI s) (nI i) := rfl
    dsimp only
    rw [e1]
    unfold f_X0_placeOver_2_s f_X0_placeOver_30 f_X0_placeOver_31 f_X0_placeOver_59 f_X3_slot f_X3_slipWith
    have hC2 : CN S2 n T en := fr_CN q2 (by decide) hC
    have hD2 : MD S2 M md od lm := MD_fr hD (by rw [q2.1]) (by rw [q2.1]) (q2.2 8 (by decide)) rfl rfl
    have hgo := goesOver_eq (S := S) hn hC2 hD2 (by rw [q2.2 5 (by decide), h5]) hs hi
    have hg1 := gq_le S T md s i
    have hk := hcn (ow T s) i ho hi
    rw [if_neg (show ¬ (4 : Int32) ≤ nI i from ngt (b := 4) hi (by omega)), ld_n _ _ (by omega) (by omega), hgo, q2.2 10 (by decide), h10 i hi]
    repeat rw [Option.bind_some]
    rw [show (nI s * 4 + nI i : Int32) = nI (s * 4 + i) by rw [n_4, pk_mul, nI_add], nI_1]
    repeat rw [Option.bind_some]
    have fin : ∀ v : Nat, v = hd S T md cn s i → ∃ s' : HSt × Int32, (s'.2 = nI (i + 1) ∧ fr [9] S1 s'.1 ∧ ∀ x, s'.1.2 9 x = if s * 4 ≤ x ∧ x < s * 4 + (i + 1) then nI (hd S T md cn s (x - s * 4)) else S1.2 9 x) ∧ ((h_st S2 9 96 (nI (s * 4 + i)) (nI v)).bind fun S1 => f_X0_placeOver_2 k S1 (nI s) (nI (i + 1))) = f_X0_placeOver_2 k s'.1 (nI s) s'.2 := by
      intro v hv
      rw [st_n _ _ _ (by omega) (by omega), Option.bind_some]
      refine ⟨(wr S2 9 (s * 4 + i) (nI v), nI (i + 1)), ⟨rfl, fr_tr q2 (fr_wr (by decide)), fun x => ?_⟩, rfl⟩
      dsimp only
      by_cases e : x = s * 4 + i
      · rw [e, wr_s, if_pos (by omega), show s * 4 + i - s * 4 = i by omega, hv]
      · rw [wr_n _ _ e, q3]
        by_cases f : s * 4 ≤ x ∧ x < s * 4 + i
        · rw [if_pos f, if_pos (by omega)]
        · rw [if_neg f, if_neg (by omega)]
    by_cases h9 : cn (ow T s) i = 99
    · rw [h9, if_pos (show v1 99 = -1 from rfl), if_pos (show (0 : Int32) = 0 from rfl)]
      exact fin 0 (by unfold hd gz; rw [if_pos h9]; rfl)
    · rw [show v1 (cn (ow T s) i) = nI (cn (ow T s) i) from if_neg h9, if_neg (nn1 (by omega))]
      rcases (show gq S T md s i = 0 ∨ gq S T md s i = 1 by omega) with hg | hg
      · rw [hg, if_pos (show nI 0 = 0 from rfl), if_pos (show (0 : Int32) = 0 from rfl)]
        exact fin 0 (by unfold hd gz; rw [if_neg h9, hg]; rfl)
      · rw [hg, if_neg (show ¬ nI 1 = 0 by decide), if_neg (show ¬ (1 : Int32) = 0 by decide), show (1 * 16 + nI (cn (ow T s) i) : Int32) = nI (16 + cn (ow T s) i) by rw [n_1, n_16, pk_mul, nI_add]]
        exact fin _ (by unfold hd gz; rw [if_neg h9, hg, if_pos rfl])
  · rintro k ⟨S2, y⟩ ⟨q1, q2, q3⟩
    dsimp only at q1 q2 q3
    subst q1
    exact ⟨S2, rfl, q2, q3⟩
theorem place_spec {S1 : HSt} (hn : NetWf n T) (hC : CN S n T en) (hD : MD S M md od lm) (hf : fr [9, 10, 11] S S1) (hcn : ∀ b c, b < 7 → c < 4 → (cn b c = 99 ∨ cn b c ≤ 9) ∧ f_X0_countToHand S (nI b) (nI c) = some (v1 (cn b c))) {b : Nat} (hb : b < 7) : ∃ S', f_X0_placeSlips S1 (nI b) = some S' ∧ fr [9, 10] S1 S' ∧ ∀ s c, s < 2 * n → c < 4 → S'.2 9 (s * 4 + c) = if ow T s = b then nI (hd S T md cn s c) else S1.2 9 (s * 4 + c) := by
  have h12 := hn.1
  have hcn2 : ∀ b c, b < 7 → c < 4 → cn b c = 99 ∨ cn b c ≤ 9 := fun b c hb hc => (hcn b c hb hc).1
  unfold f_X0_placeSlips
  refine lp_up (fun k (q : HSt × Int32) => f_X0_placeSlips_2 k q.1 (nI b) q.2) (fun i q => q.2 = nI i ∧ fr [10] S1 q.1 ∧ ∀ c, c < i → q.1.2 10 c = v1 (cn b c)) 4 (fun o => ∃ S', o = some S' ∧ fr [9, 10] S1 S' ∧ ∀ s c, s < 2 * n → c < 4 → S'.2 9 (s * 4 + c) = if ow T s = b then nI (hd S T md cn s c) else S1.2 9 (s * 4 + c)) ?_ ?_ h_fu 0 (S1, 0) (Nat.zero_le _) (by have := fu_big; omega) ⟨rfl, fr_rf _ _, fun c h => by omega⟩
  · rintro k i ⟨S2, y⟩ hi ⟨q1, q2, q3⟩
    dsimp only at q1 q2 q3
    subst q1
    right
    have e1 : f_X0_placeSlips_2 (k + 1) S2 (nI b) (nI i) = f_X0_placeSlips_2_s (f_X0_placeSlips_2 k) S2 (nI b) (nI i) := rfl
    dsimp only
    rw [e1]
    unfold f_X0_placeSlips_2_s
    have hct : f_X0_countToHand S2 (nI b) (nI i) = some (v1 (cn b i)) := by
      rw [cth_fr (S := S) (by rw [q2.1, hf.1]) (by rw [q2.1, hf.1]) (by rw [q2.2 3 (by decide), hf.2 3 (by decide)]) (by rw [q2.2 5 (by decide), hf.2 5 (by decide)]) (by rw [q2.2 7 (by decide), hf.2 7 (by decide)])]
      exact (hcn b i hb hi).2
    rw [if_neg (show ¬ (4 : Int32) ≤ nI i from ngt (b := 4) hi (by omega)), hct, Option.bind_some, st_n _ _ _ (by omega) (by omega), Option.bind_some, nI_1]
    refine ⟨(wr S2 10 i (v1 (cn b i)), nI (i + 1)), ⟨rfl, fr_tr q2 (fr_wr (by decide)), fun c hc => ?_⟩, rfl⟩
    dsimp only
    by_cases e : c = i
    · rw [e, wr_s]
    · rw [wr_n _ _ e]; exact q3 c (by omega)
  · rintro k ⟨S2, y⟩ ⟨q1, q2, q3⟩
    dsimp only at q1 q2 q3
    subst q1
    have e1 : f_X0_placeSlips_2 (k + 1) S2 (nI b) (nI 4) = f_X0_placeSlips_2_s (f_X0_placeSlips_2 k) S2 (nI b) (nI 4) := rfl
    dsimp only
    rw [e1]
    unfold f_X0_placeSlips_2_s
    rw [if_pos (show (4 : Int32) ≤ nI 4 by decide)]
    have hC2 : CN S2 n T en := fr_CN q2 (by decide) (fr_CN hf (by decide) hC)
    have hD2 : MD S2 M md od lm := MD_fr hD (by rw [q2.1, hf.1]) (by rw [q2.1, hf.1]) (by rw [q2.2 8 (by decide), hf.2 8 (by decide)]) rfl rfl
    refine lp_up (fun k (q : HSt × Int32) => f_X0_placeSlips_27 k q.1 (nI b) q.2) (fun i q => q.2 = nI i ∧ fr [9] S2 q.1 ∧ ∀ s c, s < 2 * n → c < 4 → q.1.2 9 (s * 4 + c) = if s < i ∧ ow T s = b then nI (hd S T md cn s c) else S1.2 9 (s * 4 + c)) (2 * n) (fun o => ∃ S', o = some S' ∧ fr [9, 10] S1 S' ∧ ∀ s c, s < 2 * n → c < 4 → S'.2 9 (s * 4 + c) = if ow T s = b then nI (hd S T md cn s c) else S1.2 9 (s * 4 + c)) ?_ ?_ h_fu 0 (S2, 0) (Nat.zero_le _) (by have := fu_big; omega) ⟨rfl, fr_rf _ _, fun s c _ _ => by rw [if_neg (by omega), q2.2 9 (by decide)]⟩
    · rintro k2 i ⟨S3, y⟩ hi ⟨p1, p2, p3⟩
      dsimp only at p1 p2 p3
      subst p1
      right
      have e2 : f_X0_placeSlips_27 (k2 + 1) S3 (nI b) (nI i) = f_X0_placeSlips_27_s (f_X0_placeSlips_27 k2) S3 (nI b) (nI i) := rfl
      dsimp only
      rw [e2]
      unfold f_X0_placeSlips_27_s f_X0_placeSlips_58
      have hC3 := fr_CN p2 (by decide) hC2
      have hD3 : MD S3 M md od lm := MD_fr hD2 (by rw [p2.1]) (by rw [p2.1]) (p2.2 8 (by decide)) rfl rfl
      have hoi := ow_lt hn hi
      rw [hC3.1, if_neg (show ¬ (2 * nI n) ≤ nI i by rw [n_2, pk_mul]; exact ngt hi (by omega)), ld_n _ _ (by omega) (by omega), Option.bind_some, hC3.2.1 i hi, nI_1]
      by_cases ho : ow T i = b
      · obtain ⟨S4, t1, t2, t3⟩ := placeOver_spec (S := S) hn hC3 hD3 (by rw [p2.2 5 (by decide), q2.2 5 (by decide), hf.2 5 (by decide)]) hcn2 hi (fun c hc => by rw [p2.2 10 (by decide), ho]; exact q3 c hc)
        rw [if_pos (by rw [ho]), t1, Option.bind_some]
        refine ⟨(S4, nI (i + 1)), ⟨rfl, fr_tr p2 t2, fun s c hs hc => ?_⟩, rfl⟩
        dsimp only
        rw [t3]
        by_cases e : s = i
        · rw [if_pos (by omega), if_pos ⟨by omega, by rw [e]; exact ho⟩, e, show i * 4 + c - i * 4 = c by omega]
        · rw [if_neg (by omega), p3 s c hs hc]
          by_cases f : s < i ∧ ow T s = b
          · rw [if_pos f, if_pos ⟨by omega, f.2⟩]
          · rw [if_neg f, if_neg (fun g => f ⟨by omega, g.2⟩)]
      · rw [if_neg (by rw [n_eq (by omega) (by omega)]; exact ho)]
        refine ⟨(S3, nI (i + 1)), ⟨rfl, p2, fun s c hs hc => ?_⟩, rfl⟩
        dsimp only
        rw [p3 s c hs hc]
        by_cases f : s < i ∧ ow T s = b
        · rw [if_pos f, if_pos ⟨by omega, f.2⟩]
        · rw [if_neg f, if_neg (fun g => f ⟨by rcases (show s < i ∨ s = i by omega) with z | z; exact z; exact absurd (z ▸ g.2) ho, g.2⟩)]
    · rintro k2 ⟨S3, y⟩ ⟨p1, p2, p3⟩
      dsimp only at p1 p2 p3
      subst p1
      refine ⟨S3, ?_, fr_tr (fr_mono q2 (by decide)) (fr_mono p2 (by decide)), fun s c hs hc => ?_⟩
      · show f_X0_placeSlips_27_s (f_X0_placeSlips_27 k2) S3 (nI b) (nI (2 * n)) = _
        unfold f_X0_placeSlips_27_s
        rw [(fr_CN p2 (by decide) hC2).1, if_pos (show (2 * nI n) ≤ nI (2 * n) by rw [n_2, pk_mul]; exact nle (Nat.le_refl _) (by omega))]
      · rw [p3 s c hs hc]
        by_cases f : ow T s = b
        · rw [if_pos ⟨hs, f⟩, if_pos f]
        · rw [if_neg (fun g => f g.2), if_neg f]
end TL
