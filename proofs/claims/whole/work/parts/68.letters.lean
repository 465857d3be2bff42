theorem lp_tw2 {σ τ R R' : Type} (F : Nat → σ → Option R) (G : Nat → τ → Option R') (I : Nat → σ → τ → Prop) (N : Nat) (P : Option R → Option R' → Prop)
    (hs : ∀ n i s t, i < N → N - i < n + 1 → I i s t → P (F (n + 1) s) (G (n + 1) t) ∨ ∃ s' t', I (i + 1) s' t' ∧ F (n + 1) s = F n s' ∧ G (n + 1) t = G n t') (he : ∀ s t, ¬ I N s t) : ∀ n i s t, i ≤ N → N - i < n → I i s t → P (F n s) (G n t) := by
  intro n
  induction n with
  | zero => intro i s t _ h; omega
  | succ n ih =>
    intro i s t h1 h2 h3
    by_cases h : i = N
    · subst h; exact absurd h3 (he s t)
    · rcases hs n i s t (by omega) h2 h3 with h4 | ⟨s', t', h4, h5, h6⟩
      · exact h4
      · rw [h5, h6]; exact ih (i + 1) s' t' (by omega) (by omega) h4
/-- a LETTER's way: what changes -/
def frS (ri rb rc : Nat) (S S' : HSt) : Prop := (∀ i, i ≠ ri → S'.1 i = S.1 i) ∧ ∀ k, k ≠ rb → k ≠ rc → S'.2 k = S.2 k
def frG (M M' : HSt) : Prop := (∀ i, i ≠ 2 → M'.1 i = M.1 i) ∧ ∀ k, k ∉ [5, 19, 20] → M'.2 k = M.2 k
theorem frS_tr {ri rb rc : Nat} {S S' S'' : HSt} (h : frS ri rb rc S S') (h' : frS ri rb rc S' S'') : frS ri rb rc S S'' := ⟨fun i hi => (h'.1 i hi).trans (h.1 i hi), fun k h1 h2 => (h'.2 k h1 h2).trans (h.2 k h1 h2)⟩
theorem frG_tr {S S' S'' : HSt} (h : frG S S') (h' : frG S' S'') : frG S S'' := ⟨fun i hi => (h'.1 i hi).trans (h.1 i hi), fun k h1 => (h'.2 k h1).trans (h.2 k h1)⟩
theorem frG_5 {M M' : HSt} (h : fr [5] M M') : frG M M' := ⟨fun i _ => by rw [h.1], fun k hk => h.2 k (fun q => hk (by simp at q; simp [q]))⟩
theorem frG_MN {M M' : HSt} {n : Nat} {T : Nat → Nat → Nat} {en : Nat → Int32} (h : frG M M') (hM : MN M n T en) : MN M' n T en := by
  unfold MN
  rw [h.1 0 (by omega), h.2 0 (by decide), h.2 1 (by decide), h.2 2 (by decide), h.2 3 (by decide), h.2 4 (by decide)]
  exact hM
theorem frG_HL {S M S' M' : HSt} {n : Nat} {T : Nat → Nat → Nat} {i j k : Nat} {hl hk : Nat → Nat → Nat} (h : HL S M n T i j k hl hk) (hS : S'.2 i = S.2 i) (hM : frG M M') (hj : j ∉ [5, 19, 20]) (hk' : k ∉ [5, 19, 20]) : HL S' M' n T i j k hl hk := HL_fr h hS (hM.2 j hj) (hM.2 k hk') (fun _ => rfl)
section WTT
variable {S M : HSt} {n : Nat} {T : Nat → Nat → Nat} {en : Nat → Int32} {md : Nat → Nat} {od lm : Nat} {hl hk kl kk : Nat → Nat → Nat}
theorem walkT_spec (h1 : NetR S M n T en) (h2 : LabR S M n T md od lm hl hk kl kk) {b0 c0 : Nat} (hb0 : b0 < 7) (hc0 : c0 < 4) : ∃ (r : Int32) (S' M' : HSt) (t : Nat), f_X2_walkT S (nI b0) (nI c0) = some (r, S') ∧ f_X4_goes M (nI b0) (nI c0) = some (r, M') ∧ frS 4 14 15 S S' ∧ frG M M' ∧ 1 ≤ t ∧ t ≤ 15 ∧ S'.1 4 = nI t ∧ M'.1 2 = nI t ∧ ∀ k, k < t → S'.2 14 k = M'.2 19 k ∧ S'.2 15 k = M'.2 20 k := by
  obtain ⟨hn, hE, hC, hM, hW⟩ := h1
  have h12 := hn.1
  unfold f_X2_walkT f_X4_goes
  rw [Option.bind_some]
  refine lp_tw2 (fun k (q : HSt × Int32 × Int32 × Int32 × Int32) => f_X2_walkT_11 k q.1 (nI c0) q.2.1 q.2.2.1 q.2.2.2.1 q.2.2.2.2) (fun k (q : HSt × Int32 × Int32 × Int32) => f_X4_goes_14 k q.1 (nI c0) q.2.1 q.2.2.1 q.2.2.2) (fun i p q => i ≤ 14 ∧ frS 4 14 15 S p.1 ∧ frG M q.1 ∧ q.1.1 2 = nI i ∧ p.2.2.2.2 = nI i ∧ (∀ k, k < i → p.1.2 14 k = q.1.2 19 k ∧ p.1.2 15 k = q.1.2 20 k) ∧ ∃ b L, b < 7 ∧ LOk L ∧ L ≠ 3 ∧ p.2.1 = nI b ∧ q.2.1 = nI b ∧ p.2.2.1 = nI L ∧ q.2.2.1 = nI L ∧ (L ≠ 0 → ∃ s, s < 2 * n ∧ ow T s = b ∧ p.2.2.2.1 = nI s ∧ q.2.2.2 = nI (s / 2))) 16 (fun o o' => ∃ (r : Int32) (S' M' : HSt) (t : Nat), o = some (r, S') ∧ o' = some (r, M') ∧ frS 4 14 15 S S' ∧ frG M M' ∧ 1 ≤ t ∧ t ≤ 15 ∧ S'.1 4 = nI t ∧ M'.1 2 = nI t ∧ ∀ k, k < t → S'.2 14 k = M'.2 19 k ∧ S'.2 15 k = M'.2 20 k) ?_ ?_ h_fu 0 (S, nI b0, 0, -1, 0) (h_put M 2 0, nI b0, 0, -9) (Nat.zero_le _) (by have := fu_big; omega) ⟨by omega, ⟨fun _ _ => rfl, fun _ _ _ => rfl⟩, ⟨fun i hi => if_neg hi, fun _ _ => rfl⟩, rfl, rfl, fun k hk => by omega, b0, 0, hb0, Or.inl rfl, by omega, rfl, rfl, rfl, rfl, fun q => absurd rfl q⟩
  · rintro k i ⟨S1, x3, x4, x5, x6⟩ ⟨M1, y3, y4, y5⟩ hi hfuel ⟨hi14, hf, hg, hcnt, p6, hrec, b, L, hb, hLO, hL3, p3, q3, p4, q4, hcame⟩
    dsimp only at hf hg hcnt p6 hrec p3 q3 p4 q4 hcame
    subst p6; subst p3; subst q3; subst p4; subst q4
    have hLlt := LOk_lt hLO
    have e1 : f_X2_walkT_11 (k + 1) S1 (nI c0) (nI b) (nI L) x5 (nI i) = f_X2_walkT_11_s (f_X2_walkT_11 k) S1 (nI c0) (nI b) (nI L) x5 (nI i) := rfl
    have e2 : f_X4_goes_14 (k + 1) M1 (nI c0) (nI b) (nI L) y5 = f_X4_goes_14_s (f_X4_goes_14 k) M1 (nI c0) (nI b) (nI L) y5 := rfl
    dsimp only
    rw [e1, e2]
    unfold f_X2_walkT_11_s f_X4_goes_14_s
    rw [if_neg (show ¬ (14 : Int32) < nI i from nnlt (a := 14) (by omega) (by omega)), hcnt, st_n _ _ _ (by omega) (by omega), Option.bind_some, st_n _ _ _ (by omega) (by omega), Option.bind_some, Option.bind_some, st_n _ _ _ (by omega) (by omega), Option.bind_some, wr_1, hcnt, st_n _ _ _ (by omega) (by omega), Option.bind_some, wr_1, wr_1, hcnt, Option.bind_some, nI_1]
    generalize hS6 : h_put (wr (wr S1 14 i (nI b)) 15 i (nI L)) 4 (nI (i + 1)) = S6
    generalize hM5 : h_put (wr (wr M1 19 i (nI b)) 20 i (nI L)) 2 (nI (i + 1)) = M5
    have hf6 : frS 4 14 15 S S6 := by
      refine frS_tr hf ⟨fun j hj => ?_, fun j j1 j2 => ?_⟩
      · rw [← hS6]; exact if_neg hj
      · rw [← hS6, put_2, wr_r _ _ j2, wr_r _ _ j1]
    have hg5 : frG M M5 := by
      refine frG_tr hg ⟨fun j hj => ?_, fun j hj => ?_⟩
      · rw [← hM5]; exact if_neg hj
      · rw [← hM5, put_2, wr_r _ _ (fun q => hj (by simp [q])), wr_r _ _ (fun q => hj (by simp [q]))]
    have hc6 : S6.1 4 = nI (i + 1) := by rw [← hS6]; rfl
    have hc5 : M5.1 2 = nI (i + 1) := by rw [← hM5]; rfl
    have hrec6 : ∀ j, j < i + 1 → S6.2 14 j = M5.2 19 j ∧ S6.2 15 j = M5.2 20 j := by
      intro j hj
      rw [← hS6, ← hM5, put_2, put_2, wr_o _ _ _ (show 14 ≠ 15 by decide), wr_o _ _ _ (show 19 ≠ 20 by decide)]
      by_cases e : j = i
      · rw [e, wr_s, wr_s, wr_s, wr_s]; exact ⟨rfl, rfl⟩
      · rw [wr_n _ _ e, wr_n _ _ e, wr_n _ _ e, wr_n _ _ e, wr_o _ _ _ (show 15 ≠ 14 by decide), wr_o _ _ _ (show 20 ≠ 19 by decide)]
        exact hrec j (by omega)
    have hC6 : CN S6 n T en := by
      unfold CN
      rw [hf6.1 0 (by decide), hf6.2 0 (by decide) (by decide), hf6.2 1 (by decide) (by decide), hf6.2 2 (by decide) (by decide), hf6.2 3 (by decide) (by decide)]
      exact hC
    have hM5' : MN M5 n T en := frG_MN hg5 hM
    have hW6 : ∀ c, c < 4 → Ways S6 n T en c := fun c hc => Ways_fr (hf6.2 4 (by decide) (by decide)) (hf6.2 5 (by decide) (by decide)) (hW c hc)
    have hD6 : MD S6 M5 md od lm := MD_fr h2.1 (hf6.1 1 (by decide)) (hf6.1 2 (by decide)) (hf6.2 8 (by decide) (by decide)) (hg5.2 6 (by decide)) (hg5.2 7 (by decide))
    have hH6 : HL S6 M5 n T 6 8 9 hl hk := frG_HL h2.2.1 (hf6.2 6 (by decide) (by decide)) hg5 (by decide) (by decide)
    have hstop : ∀ (r : Int32) (M9 : HSt), fr [5] M5 M9 → ∃ (r' : Int32) (S' M' : HSt) (t : Nat), (some (r, S6) : Option (Int32 × HSt)) = some (r', S') ∧ (some (r, M9) : Option (Int32 × HSt)) = some (r', M') ∧ frS 4 14 15 S S' ∧ frG M M' ∧ 1 ≤ t ∧ t ≤ 15 ∧ S'.1 4 = nI t ∧ M'.1 2 = nI t ∧ ∀ k, k < t → S'.2 14 k = M'.2 19 k ∧ S'.2 15 k = M'.2 20 k := by
      intro r M9 h9
      refine ⟨r, S6, M9, i + 1, rfl, rfl, hf6, frG_tr hg5 (frG_5 h9), by omega, by omega, hc6, by rw [h9.1]; exact hc5, fun j hj => ?_⟩
      rw [h9.2 19 (by decide), h9.2 20 (by decide)]
      exact hrec6 j hj
    have main : ∀ c, c < 4 → (∃ (r : Int32) (S' M' : HSt) (t : Nat), f_X2_walkT_64 (f_X2_walkT_11 k) S6 (nI c0) (nI b) (nI L) (nI i) (nI c) = some (r, S') ∧ f_X4_goes_63 (f_X4_goes_14 k) M5 (nI c0) (nI b) (nI L) (nI c) = some (r, M') ∧ frS 4 14 15 S S' ∧ frG M M' ∧ 1 ≤ t ∧ t ≤ 15 ∧ S'.1 4 = nI t ∧ M'.1 2 = nI t ∧ ∀ k, k < t → S'.2 14 k = M'.2 19 k ∧ S'.2 15 k = M'.2 20 k) ∨ ∃ (p : HSt × Int32 × Int32 × Int32 × Int32) (q : HSt × Int32 × Int32 × Int32), (i + 1 ≤ 14 ∧ frS 4 14 15 S p.1 ∧ frG M q.1 ∧ q.1.1 2 = nI (i + 1) ∧ p.2.2.2.2 = nI (i + 1) ∧ (∀ k, k < i + 1 → p.1.2 14 k = q.1.2 19 k ∧ p.1.2 15 k = q.1.2 20 k) ∧ ∃ b L, b < 7 ∧ LOk L ∧ L ≠ 3 ∧ p.2.1 = nI b ∧ q.2.1 = nI b ∧ p.2.2.1 = nI L ∧ q.2.2.1 = nI L ∧ (L ≠ 0 → ∃ s, s < 2 * n ∧ ow T s = b ∧ p.2.2.2.1 = nI s ∧ q.2.2.2 = nI (s / 2))) ∧ f_X2_walkT_64 (f_X2_walkT_11 k) S6 (nI c0) (nI b) (nI L) (nI i) (nI c) = f_X2_walkT_11 k p.1 (nI c0) p.2.1 p.2.2.1 p.2.2.2.1 p.2.2.2.2 ∧ f_X4_goes_63 (f_X4_goes_14 k) M5 (nI c0) (nI b) (nI L) (nI c) = f_X4_goes_14 k q.1 (nI c0) q.2.1 q.2.2.1 q.2.2.2 := by
      intro c hc
      unfold f_X2_walkT_64 f_X4_goes_63 f_X3_pair
      rw [if_neg (nn1 (by omega)), if_neg (nn9 (by omega)), ld_n _ _ (by omega) (by omega), ld_n _ _ (by omega) (by omega), hC6.2.2.2.2 c hc, hM5'.2.2.2.2.2 c hc]
      repeat rw [Option.bind_some]
      by_cases hend : en c = nI b
      · rw [if_pos hend, if_pos hend]
        exact Or.inl (hstop 0 M5 (fr_rf _ _))
      rw [if_neg hend, if_neg hend, show (nI b * 4 + nI c : Int32) = nI (b * 4 + c) by rw [n_4, pk_mul, nI_add], ld_n _ _ (by omega) (by omega), Option.bind_some]
      obtain ⟨M7, r, m1, -, m3, m4⟩ := nb_spec hn hC6 hM5' hc hb (hW6 c hc)
      rw [m3, bi_s]
      rcases m4 with ⟨m4, m5⟩ | ⟨s, s1, s2, s3, s4, m5⟩
      · rw [m4, m5, if_pos rfl, if_pos rfl]
        exact Or.inl (hstop 1 M7 m1)
      have hfl := fl_lt s1
      have hob := ow_lt hn hfl
      rw [s2, m5, if_neg (nn1 (by omega)), if_neg (nn9 (by omega))]
      have hK7 : HL S6 M7 n T 7 10 11 kl kk := frG_HL h2.2.2.1 (hf6.2 7 (by decide) (by decide)) (frG_tr hg5 (frG_5 m1)) (by decide) (by decide)
      obtain ⟨M9, L', k', u1, u2, u3, u4, u5, -⟩ := used_spec hn (fr_MN m1 no5 hM5') hc hb (hW6 c hc) hK7
      have hL' := LOk_lt u2
      have hsl := sl_lt u2 u3
      have hfr9 : fr [5] M5 M9 := fr_tr m1 u1
      have hM9' : MN M9 n T en := fr_MN hfr9 no5 hM5'
      rw [u4, u5, Option.bind_some, bi_s]
      have cont : (∃ (r : Int32) (S' M' : HSt) (t : Nat), f_X2_walkT_138 (f_X2_walkT_11 k) S6 (nI c0) (nI i) (nI s) (nI (sl L' k')) = some (r, S') ∧ f_X4_goes_126 (f_X4_goes_14 k) M9 (nI c0) (nI b) (nI (ow T (fl s))) (nI L') = some (r, M') ∧ frS 4 14 15 S S' ∧ frG M M' ∧ 1 ≤ t ∧ t ≤ 15 ∧ S'.1 4 = nI t ∧ M'.1 2 = nI t ∧ ∀ k, k < t → S'.2 14 k = M'.2 19 k ∧ S'.2 15 k = M'.2 20 k) ∨ ∃ (p : HSt × Int32 × Int32 × Int32 × Int32) (q : HSt × Int32 × Int32 × Int32), (i + 1 ≤ 14 ∧ frS 4 14 15 S p.1 ∧ frG M q.1 ∧ q.1.1 2 = nI (i + 1) ∧ p.2.2.2.2 = nI (i + 1) ∧ (∀ k, k < i + 1 → p.1.2 14 k = q.1.2 19 k ∧ p.1.2 15 k = q.1.2 20 k) ∧ ∃ b L, b < 7 ∧ LOk L ∧ L ≠ 3 ∧ p.2.1 = nI b ∧ q.2.1 = nI b ∧ p.2.2.1 = nI L ∧ q.2.2.1 = nI L ∧ (L ≠ 0 → ∃ s, s < 2 * n ∧ ow T s = b ∧ p.2.2.2.1 = nI s ∧ q.2.2.2 = nI (s / 2))) ∧ f_X2_walkT_138 (f_X2_walkT_11 k) S6 (nI c0) (nI i) (nI s) (nI (sl L' k')) = f_X2_walkT_11 k p.1 (nI c0) p.2.1 p.2.2.1 p.2.2.2.1 p.2.2.2.2 ∧ f_X4_goes_126 (f_X4_goes_14 k) M9 (nI c0) (nI b) (nI (ow T (fl s))) (nI L') = f_X4_goes_14 k q.1 (nI c0) q.2.1 q.2.2.1 q.2.2.2 := by
        have cls : f_X2_walkT_138 (f_X2_walkT_11 k) S6 (nI c0) (nI i) (nI s) (nI (sl L' k')) = f_X2_walkT_11 k S6 (nI c0) (nI (ow T (fl s))) (nI (if L' = 3 then 0 else L')) (nI (fl s)) (nI (i + 1)) := by
          unfold f_X2_walkT_138 f_X2_walkT_156
          rw [labelOf_sl u2 u3, Option.bind_some, Option.bind_some, show nI s ^^^ 1 = nI (fl s) from n_xor s (by omega), ld_n _ _ (by omega) (by omega), Option.bind_some, hC6.2.1 _ hfl, nI_1]
          by_cases h3 : L' = 3
          · rw [h3, if_pos (show nI 3 = 3 from rfl), if_pos rfl]; rfl
          · rw [if_neg (show ¬ nI L' = 3 by rw [n_3, n_eq (by omega) (by omega)]; exact h3), if_neg h3]; try rfl
        rw [cls]
        unfold f_X4_goes_126 f_X4_goes_149
        rw [hfr9.1, hc5]
        by_cases h14 : i = 14
        · left
          rw [if_neg (show ¬ nI (i + 1) ≤ 14 from ngt (a := 14) (by omega) (by omega))]
          obtain ⟨k2, rfl⟩ : ∃ k2, k = k2 + 1 := ⟨k - 1, by omega⟩
          have e15 : f_X2_walkT_11 (k2 + 1) S6 (nI c0) (nI (ow T (fl s))) (nI (if L' = 3 then 0 else L')) (nI (fl s)) (nI (i + 1)) = f_X2_walkT_11_s (f_X2_walkT_11 k2) S6 (nI c0) (nI (ow T (fl s))) (nI (if L' = 3 then 0 else L')) (nI (fl s)) (nI (i + 1)) := rfl
          rw [e15]
          unfold f_X2_walkT_11_s
          rw [if_pos (show (14 : Int32) < nI (i + 1) from nlt (a := 14) (by omega) (by omega))]
          exact hstop 4 M9 hfr9
        · right
          rw [if_pos (show nI (i + 1) ≤ 14 from nle (b := 14) (by omega) (by omega))]
          have hlb : f_X4_linkBetween M9 (nI b) (nI (ow T (fl s))) = some (nI (s / 2)) := by
            rcases lb_side hn hM9' hb hob with ⟨u, v1, v2, v3, v4⟩ | ⟨v1, v4⟩
            · have : u = s := ow_inj hn v1 s1 (by rw [v2, s3]) v3
              subst this
              exact v4
            · exact absurd rfl (v1 s s1 s3)
          rw [hlb, Option.bind_some]
          refine ⟨(S6, nI (ow T (fl s)), nI (if L' = 3 then 0 else L'), nI (fl s), nI (i + 1)), (M9, nI (ow T (fl s)), nI (if L' = 3 then 0 else L'), nI (s / 2)), ⟨by omega, hf6, frG_tr hg5 (frG_5 hfr9), by rw [hfr9.1]; exact hc5, rfl, fun j hj => ?_, ow T (fl s), if L' = 3 then 0 else L', hob, ?_, ?_, rfl, rfl, rfl, rfl, fun _ => ⟨fl s, hfl, rfl, rfl, by rw [fl_div]⟩⟩, rfl, ?_⟩
          · dsimp only
            rw [hfr9.2 19 (by decide), hfr9.2 20 (by decide)]
            exact hrec6 j hj
          · by_cases h3 : L' = 3
            · rw [if_pos h3]; exact Or.inl rfl
            · rw [if_neg h3]; exact u2
          · by_cases h3 : L' = 3
            · rw [if_pos h3]; omega
            · rw [if_neg h3]; exact h3
          · dsimp only
            by_cases h3 : L' = 3
            · rw [h3, if_pos (show nI 3 = 3 from rfl), if_pos rfl]; rfl
            · rw [if_neg (show ¬ nI L' = 3 by rw [n_3, n_eq (by omega) (by omega)]; exact h3), if_neg h3]; try rfl
      by_cases h0 : L' = 0
      · subst h0
        rw [if_pos (show nI (sl 0 k') = 0 from rfl), if_pos (show nI 0 = 0 from rfl)]
        by_cases hz : L = 0
        · subst hz
          rw [if_pos (show nI 0 = 0 from rfl), if_pos (show nI 0 ≤ 0 by decide)]
          exact cont
        · rw [if_neg (nz hz (by omega)), if_neg (show ¬ nI L ≤ 0 from ngt (a := 0) (by omega) (by omega))]
          exact Or.inl (hstop 3 M9 hfr9)
      · rw [if_neg (nz (fun q => h0 ((sl_0 u2).mp q)) (by omega)), if_neg (nz h0 (by omega))]
        exact cont
    by_cases hz : L = 0
    · subst hz
      rw [if_pos (show nI 0 = 0 from rfl), if_pos (show nI 0 = 0 from rfl)]
      exact main c0 hc0
    · rw [if_neg (nz hz (by omega)), if_neg (nz hz (by omega))]
      obtain ⟨s, s1, s2, s3, s4⟩ := hcame hz
      rw [s3, s4]
      rcases mean_spec hn hC6 hM5' hH6 hD6 hb s1 s2 (show L < 128 by omega) with ⟨c, c1, c2, c3⟩ | ⟨c2, c3⟩
      · rw [c2, c3, Option.bind_some, Option.bind_some]
        exact main c c1
      · rw [c2, c3, Option.bind_some, Option.bind_some]
        left
        unfold f_X2_walkT_64 f_X4_goes_63
        rw [if_pos rfl, if_pos rfl]
        exact hstop 2 M5 (fr_rf _ _)
  · rintro ⟨S1, x3, x4, x5, x6⟩ ⟨M1, y3, y4, y5⟩ ⟨hi14, -⟩
    omega
end WTT
section WTR
variable {S M : HSt} {n : Nat} {T : Nat → Nat → Nat} {en : Nat → Int32} {md : Nat → Nat} {od lm : Nat} {hl hk kl kk : Nat → Nat → Nat}
theorem walkR_spec (h1 : NetR S M n T en) (h2 : LabR S M n T md od lm hl hk kl kk) {b0 c0 : Nat} (hb0 : b0 < 7) (hc0 : c0 < 4) : ∃ (r : Int32) (S' M' : HSt) (t : Nat), f_X2_walkR S (nI b0) (nI c0) = some (r, S') ∧ f_X4_goes M (nI b0) (nI c0) = some (r, M') ∧ frS 5 16 17 S S' ∧ frG M M' ∧ 1 ≤ t ∧ t ≤ 15 ∧ S'.1 5 = nI t ∧ M'.1 2 = nI t ∧ ∀ k, k < t → S'.2 16 k = M'.2 19 k ∧ S'.2 17 k = M'.2 20 k := by
  obtain ⟨hn, hE, hC, hM, hW⟩ := h1
  have h12 := hn.1
  unfold f_X2_walkR f_X4_goes
  rw [Option.bind_some]
  refine lp_tw2 (fun k (q : HSt × Int32 × Int32 × Int32 × Int32) => f_X2_walkR_11 k q.1 (nI c0) q.2.1 q.2.2.1 q.2.2.2.1 q.2.2.2.2) (fun k (q : HSt × Int32 × Int32 × Int32) => f_X4_goes_14 k q.1 (nI c0) q.2.1 q.2.2.1 q.2.2.2) (fun i p q => i ≤ 14 ∧ frS 5 16 17 S p.1 ∧ frG M q.1 ∧ q.1.1 2 = nI i ∧ p.2.2.2.2 = nI i ∧ (∀ k, k < i → p.1.2 16 k = q.1.2 19 k ∧ p.1.2 17 k = q.1.2 20 k) ∧ ∃ b L, b < 7 ∧ LOk L ∧ L ≠ 3 ∧ p.2.1 = nI b ∧ q.2.1 = nI b ∧ p.2.2.1 = nI L ∧ q.2.2.1 = nI L ∧ (L ≠ 0 → ∃ s, s < 2 * n ∧ ow T s = b ∧ p.2.2.2.1 = nI s ∧ q.2.2.2 = nI (s / 2))) 16 (fun o o' => ∃ (r : Int32) (S' M' : HSt) (t : Nat), o = some (r, S') ∧ o' = some (r, M') ∧ frS 5 16 17 S S' ∧ frG M M' ∧ 1 ≤ t ∧ t ≤ 15 ∧ S'.1 5 = nI t ∧ M'.1 2 = nI t ∧ ∀ k, k < t → S'.2 16 k = M'.2 19 k ∧ S'.2 17 k = M'.2 20 k) ?_ ?_ h_fu 0 (S, nI b0, 0, -1, 0) (h_put M 2 0, nI b0, 0, -9) (Nat.zero_le _) (by have := fu_big; omega) ⟨by omega, ⟨fun _ _ => rfl, fun _ _ _ => rfl⟩, ⟨fun i hi => if_neg hi, fun _ _ => rfl⟩, rfl, rfl, fun k hk => by omega, b0, 0, hb0, Or.inl rfl, by omega, rfl, rfl, rfl, rfl, fun q => absurd rfl q⟩
  · rintro k i ⟨S1, x3, x4, x5, x6⟩ ⟨M1, y3, y4, y5⟩ hi hfuel ⟨hi14, hf, hg, hcnt, p6, hrec, b, L, hb, hLO, hL3, p3, q3, p4, q4, hcame⟩
    dsimp only at hf hg hcnt p6 hrec p3 q3 p4 q4 hcame
    subst p6; subst p3; subst q3; subst p4; subst q4
    have hLlt := LOk_lt hLO
    have e1 : f_X2_walkR_11 (k + 1) S1 (nI c0) (nI b) (nI L) x5 (nI i) = f_X2_walkR_11_s (f_X2_walkR_11 k) S1 (nI c0) (nI b) (nI L) x5 (nI i) := rfl
    have e2 : f_X4_goes_14 (k + 1) M1 (nI c0) (nI b) (nI L) y5 = f_X4_goes_14_s (f_X4_goes_14 k) M1 (nI c0) (nI b) (nI L) y5 := rfl
    dsimp only
    rw [e1, e2]
    unfold f_X2_walkR_11_s f_X4_goes_14_s
    rw [if_neg (show ¬ (14 : Int32) < nI i from nnlt (a := 14) (by omega) (by omega)), hcnt, st_n _ _ _ (by omega) (by omega), Option.bind_some, st_n _ _ _ (by omega) (by omega), Option.bind_some, Option.bind_some, st_n _ _ _ (by omega) (by omega), Option.bind_some, wr_1, hcnt, st_n _ _ _ (by omega) (by omega), Option.bind_some, wr_1, wr_1, hcnt, Option.bind_some, nI_1]
    generalize hS6 : h_put (wr (wr S1 16 i (nI b)) 17 i (nI L)) 5 (nI (i + 1)) = S6
    generalize hM5 : h_put (wr (wr M1 19 i (nI b)) 20 i (nI L)) 2 (nI (i + 1)) = M5
    have hf6 : frS 5 16 17 S S6 := by
      refine frS_tr hf ⟨fun j hj => ?_, fun j j1 j2 => ?_⟩
      · rw [← hS6]; exact if_neg hj
      · rw [← hS6, put_2, wr_r _ _ j2, wr_r _ _ j1]
    have hg5 : frG M M5 := by
      refine frG_tr hg ⟨fun j hj => ?_, fun j hj => ?_⟩
      · rw [← hM5]; exact if_neg hj
      · rw [← hM5, put_2, wr_r _ _ (fun q => hj (by simp [q])), wr_r _ _ (fun q => hj (by simp [q]))]
    have hc6 : S6.1 5 = nI (i + 1) := by rw [← hS6]; rfl
    have hc5 : M5.1 2 = nI (i + 1) := by rw [← hM5]; rfl
    have hrec6 : ∀ j, j < i + 1 → S6.2 16 j = M5.2 19 j ∧ S6.2 17 j = M5.2 20 j := by
      intro j hj
      rw [← hS6, ← hM5, put_2, put_2, wr_o _ _ _ (show 16 ≠ 17 by decide), wr_o _ _ _ (show 19 ≠ 20 by decide)]
      by_cases e : j = i
      · rw [e, wr_s, wr_s, wr_s, wr_s]; exact ⟨rfl, rfl⟩
      · rw [wr_n _ _ e, wr_n _ _ e, wr_n _ _ e, wr_n _ _ e, wr_o _ _ _ (show 17 ≠ 16 by decide), wr_o _ _ _ (show 20 ≠ 19 by decide)]
        exact hrec j (by omega)
    have hC6 : CN S6 n T en := by
      unfold CN
      rw [hf6.1 0 (by decide), hf6.2 0 (by decide) (by decide), hf6.2 1 (by decide) (by decide), hf6.2 2 (by decide) (by decide), hf6.2 3 (by decide) (by decide)]
      exact hC
    have hM5' : MN M5 n T en := frG_MN hg5 hM
    have hW6 : ∀ c, c < 4 → Ways S6 n T en c := fun c hc => Ways_fr (hf6.2 4 (by decide) (by decide)) (hf6.2 5 (by decide) (by decide)) (hW c hc)
    have hD6 : MD S6 M5 md od lm := MD_fr h2.1 (hf6.1 1 (by decide)) (hf6.1 2 (by decide)) (hf6.2 8 (by decide) (by decide)) (hg5.2 6 (by decide)) (hg5.2 7 (by decide))
    have hH6 : HL S6 M5 n T 6 8 9 hl hk := frG_HL h2.2.1 (hf6.2 6 (by decide) (by decide)) hg5 (by decide) (by decide)
    have hstop : ∀ (r : Int32) (M9 : HSt), fr [5] M5 M9 → ∃ (r' : Int32) (S' M' : HSt) (t : Nat), (some (r, S6) : Option (Int32 × HSt)) = some (r', S') ∧ (some (r, M9) : Option (Int32 × HSt)) = some (r', M') ∧ frS 5 16 17 S S' ∧ frG M M' ∧ 1 ≤ t ∧ t ≤ 15 ∧ S'.1 5 = nI t ∧ M'.1 2 = nI t ∧ ∀ k, k < t → S'.2 16 k = M'.2 19 k ∧ S'.2 17 k = M'.2 20 k := by
      intro r M9 h9
      refine ⟨r, S6, M9, i + 1, rfl, rfl, hf6, frG_tr hg5 (frG_5 h9), by omega, by omega, hc6, by rw [h9.1]; exact hc5, fun j hj => ?_⟩
      rw [h9.2 19 (by decide), h9.2 20 (by decide)]
      exact hrec6 j hj
    have main : ∀ c, c < 4 → (∃ (r : Int32) (S' M' : HSt) (t : Nat), f_X2_walkR_64 (f_X2_walkR_11 k) S6 (nI c0) (nI b) (nI L) (nI i) (nI c) = some (r, S') ∧ f_X4_goes_63 (f_X4_goes_14 k) M5 (nI c0) (nI b) (nI L) (nI c) = some (r, M') ∧ frS 5 16 17 S S' ∧ frG M M' ∧ 1 ≤ t ∧ t ≤ 15 ∧ S'.1 5 = nI t ∧ M'.1 2 = nI t ∧ ∀ k, k < t → S'.2 16 k = M'.2 19 k ∧ S'.2 17 k = M'.2 20 k) ∨ ∃ (p : HSt × Int32 × Int32 × Int32 × Int32) (q : HSt × Int32 × Int32 × Int32), (i + 1 ≤ 14 ∧ frS 5 16 17 S p.1 ∧ frG M q.1 ∧ q.1.1 2 = nI (i + 1) ∧ p.2.2.2.2 = nI (i + 1) ∧ (∀ k, k < i + 1 → p.1.2 16 k = q.1.2 19 k ∧ p.1.2 17 k = q.1.2 20 k) ∧ ∃ b L, b < 7 ∧ LOk L ∧ L ≠ 3 ∧ p.2.1 = nI b ∧ q.2.1 = nI b ∧ p.2.2.1 = nI L ∧ q.2.2.1 = nI L ∧ (L ≠ 0 → ∃ s, s < 2 * n ∧ ow T s = b ∧ p.2.2.2.1 = nI s ∧ q.2.2.2 = nI (s / 2))) ∧ f_X2_walkR_64 (f_X2_walkR_11 k) S6 (nI c0) (nI b) (nI L) (nI i) (nI c) = f_X2_walkR_11 k p.1 (nI c0) p.2.1 p.2.2.1 p.2.2.2.1 p.2.2.2.2 ∧ f_X4_goes_63 (f_X4_goes_14 k) M5 (nI c0) (nI b) (nI L) (nI c) = f_X4_goes_14 k q.1 (nI c0) q.2.1 q.2.2.1 q.2.2.2 := by
      intro c hc
      unfold f_X2_walkR_64 f_X4_goes_63 f_X3_pair
      rw [if_neg (nn1 (by omega)), if_neg (nn9 (by omega)), ld_n _ _ (by omega) (by omega), ld_n _ _ (by omega) (by omega), hC6.2.2.2.2 c hc, hM5'.2.2.2.2.2 c hc]
      repeat rw [Option.bind_some]
      by_cases hend : en c = nI b
      · rw [if_pos hend, if_pos hend]
        exact Or.inl (hstop 0 M5 (fr_rf _ _))
      rw [if_neg hend, if_neg hend, show (nI b * 4 + nI c : Int32) = nI (b * 4 + c) by rw [n_4, pk_mul, nI_add], ld_n _ _ (by omega) (by omega), Option.bind_some]
      obtain ⟨M7, r, m1, -, m3, m4⟩ := nb_spec hn hC6 hM5' hc hb (hW6 c hc)
      rw [m3, bi_s]
      rcases m4 with ⟨m4, m5⟩ | ⟨s, s1, s2, s3, s4, m5⟩
      · rw [m4, m5, if_pos rfl, if_pos rfl]
        exact Or.inl (hstop 1 M7 m1)
      have hfl := fl_lt s1
      have hob := ow_lt hn hfl
      rw [s2, m5, if_neg (nn1 (by omega)), if_neg (nn9 (by omega))]
      have hK7 : HL S6 M7 n T 7 10 11 kl kk := frG_HL h2.2.2.1 (hf6.2 7 (by decide) (by decide)) (frG_tr hg5 (frG_5 m1)) (by decide) (by decide)
      obtain ⟨M9, L', k', u1, u2, u3, u4, u5, -⟩ := used_spec hn (fr_MN m1 no5 hM5') hc hb (hW6 c hc) hK7
      have hL' := LOk_lt u2
      have hsl := sl_lt u2 u3
      have hfr9 : fr [5] M5 M9 := fr_tr m1 u1
      have hM9' : MN M9 n T en := fr_MN hfr9 no5 hM5'
      rw [u4, u5, Option.bind_some, bi_s]
      have cont : (∃ (r : Int32) (S' M' : HSt) (t : Nat), f_X2_walkR_138 (f_X2_walkR_11 k) S6 (nI c0) (nI i) (nI s) (nI (sl L' k')) = some (r, S') ∧ f_X4_goes_126 (f_X4_goes_14 k) M9 (nI c0) (nI b) (nI (ow T (fl s))) (nI L') = some (r, M') ∧ frS 5 16 17 S S' ∧ frG M M' ∧ 1 ≤ t ∧ t ≤ 15 ∧ S'.1 5 = nI t ∧ M'.1 2 = nI t ∧ ∀ k, k < t → S'.2 16 k = M'.2 19 k ∧ S'.2 17 k = M'.2 20 k) ∨ ∃ (p : HSt × Int32 × Int32 × Int32 × Int32) (q : HSt × Int32 × Int32 × Int32), (i + 1 ≤ 14 ∧ frS 5 16 17 S p.1 ∧ frG M q.1 ∧ q.1.1 2 = nI (i + 1) ∧ p.2.2.2.2 = nI (i + 1) ∧ (∀ k, k < i + 1 → p.1.2 16 k = q.1.2 19 k ∧ p.1.2 17 k = q.1.2 20 k) ∧ ∃ b L, b < 7 ∧ LOk L ∧ L ≠ 3 ∧ p.2.1 = nI b ∧ q.2.1 = nI b ∧ p.2.2.1 = nI L ∧ q.2.2.1 = nI L ∧ (L ≠ 0 → ∃ s, s < 2 * n ∧ ow T s = b ∧ p.2.2.2.1 = nI s ∧ q.2.2.2 = nI (s / 2))) ∧ f_X2_walkR_138 (f_X2_walkR_11 k) S6 (nI c0) (nI i) (nI s) (nI (sl L' k')) = f_X2_walkR_11 k p.1 (nI c0) p.2.1 p.2.2.1 p.2.2.2.1 p.2.2.2.2 ∧ f_X4_goes_126 (f_X4_goes_14 k) M9 (nI c0) (nI b) (nI (ow T (fl s))) (nI L') = f_X4_goes_14 k q.1 (nI c0) q.2.1 q.2.2.1 q.2.2.2 := by
        have cls : f_X2_walkR_138 (f_X2_walkR_11 k) S6 (nI c0) (nI i) (nI s) (nI (sl L' k')) = f_X2_walkR_11 k S6 (nI c0) (nI (ow T (fl s))) (nI (if L' = 3 then 0 else L')) (nI (fl s)) (nI (i + 1)) := by
          unfold f_X2_walkR_138 f_X2_walkR_156
          rw [labelOf_sl u2 u3, Option.bind_some, Option.bind_some, show nI s ^^^ 1 = nI (fl s) from n_xor s (by omega), ld_n _ _ (by omega) (by omega), Option.bind_some, hC6.2.1 _ hfl, nI_1]
          by_cases h3 : L' = 3
          · rw [h3, if_pos (show nI 3 = 3 from rfl), if_pos rfl]; rfl
          · rw [if_neg (show ¬ nI L' = 3 by rw [n_3, n_eq (by omega) (by omega)]; exact h3), if_neg h3]; try rfl
        rw [cls]
        unfold f_X4_goes_126 f_X4_goes_149
        rw [hfr9.1, hc5]
        by_cases h14 : i = 14
        · left
          rw [if_neg (show ¬ nI (i + 1) ≤ 14 from ngt (a := 14) (by omega) (by omega))]
          obtain ⟨k2, rfl⟩ : ∃ k2, k = k2 + 1 := ⟨k - 1, by omega⟩
          have e15 : f_X2_walkR_11 (k2 + 1) S6 (nI c0) (nI (ow T (fl s))) (nI (if L' = 3 then 0 else L')) (nI (fl s)) (nI (i + 1)) = f_X2_walkR_11_s (f_X2_walkR_11 k2) S6 (nI c0) (nI (ow T (fl s))) (nI (if L' = 3 then 0 else L')) (nI (fl s)) (nI (i + 1)) := rfl
          rw [e15]
          unfold f_X2_walkR_11_s
          rw [if_pos (show (14 : Int32) < nI (i + 1) from nlt (a := 14) (by omega) (by omega))]
          exact hstop 4 M9 hfr9
        · right
          rw [if_pos (show nI (i + 1) ≤ 14 from nle (b := 14) (by omega) (by omega))]
          have hlb : f_X4_linkBetween M9 (nI b) (nI (ow T (fl s))) = some (nI (s / 2)) := by
            rcases lb_side hn hM9' hb hob with ⟨u, v1, v2, v3, v4⟩ | ⟨v1, v4⟩
            · have : u = s := ow_inj hn v1 s1 (by rw [v2, s3]) v3
              subst this
              exact v4
            · exact absurd rfl (v1 s s1 s3)
          rw [hlb, Option.bind_some]
          refine ⟨(S6, nI (ow T (fl s)), nI (if L' = 3 then 0 else L'), nI (fl s), nI (i + 1)), (M9, nI (ow T (fl s)), nI (if L' = 3 then 0 else L'), nI (s / 2)), ⟨by omega, hf6, frG_tr hg5 (frG_5 hfr9), by rw [hfr9.1]; exact hc5, rfl, fun j hj => ?_, ow T (fl s), if L' = 3 then 0 else L', hob, ?_, ?_, rfl, rfl, rfl, rfl, fun _ => ⟨fl s, hfl, rfl, rfl, by rw [fl_div]⟩⟩, rfl, ?_⟩
          · dsimp only
            rw [hfr9.2 19 (by decide), hfr9.2 20 (by decide)]
            exact hrec6 j hj
          · by_cases h3 : L' = 3
            · rw [if_pos h3]; exact Or.inl rfl
            · rw [if_neg h3]; exact u2
          · by_cases h3 : L' = 3
            · rw [if_pos h3]; omega
            · rw [if_neg h3]; exact h3
          · dsimp only
            by_cases h3 : L' = 3
            · rw [h3, if_pos (show nI 3 = 3 from rfl), if_pos rfl]; rfl
            · rw [if_neg (show ¬ nI L' = 3 by rw [n_3, n_eq (by omega) (by omega)]; exact h3), if_neg h3]; try rfl
      by_cases h0 : L' = 0
      · subst h0
        rw [if_pos (show nI (sl 0 k') = 0 from rfl), if_pos (show nI 0 = 0 from rfl)]
        by_cases hz : L = 0
        · subst hz
          rw [if_pos (show nI 0 = 0 from rfl), if_pos (show nI 0 ≤ 0 by decide)]
          exact cont
        · rw [if_neg (nz hz (by omega)), if_neg (show ¬ nI L ≤ 0 from ngt (a := 0) (by omega) (by omega))]
          exact Or.inl (hstop 3 M9 hfr9)
      · rw [if_neg (nz (fun q => h0 ((sl_0 u2).mp q)) (by omega)), if_neg (nz h0 (by omega))]
        exact cont
    by_cases hz : L = 0
    · subst hz
      rw [if_pos (show nI 0 = 0 from rfl), if_pos (show nI 0 = 0 from rfl)]
      exact main c0 hc0
    · rw [if_neg (nz hz (by omega)), if_neg (nz hz (by omega))]
      obtain ⟨s, s1, s2, s3, s4⟩ := hcame hz
      rw [s3, s4]
      rcases mean_spec hn hC6 hM5' hH6 hD6 hb s1 s2 (show L < 128 by omega) with ⟨c, c1, c2, c3⟩ | ⟨c2, c3⟩
      · rw [c2, c3, Option.bind_some, Option.bind_some]
        exact main c c1
      · rw [c2, c3, Option.bind_some, Option.bind_some]
        left
        unfold f_X2_walkR_64 f_X4_goes_63
        rw [if_pos rfl, if_pos rfl]
        exact hstop 2 M5 (fr_rf _ _)
  · rintro ⟨S1, x3, x4, x5, x6⟩ ⟨M1, y3, y4, y5⟩ ⟨hi14, -⟩
    omega
end WTR
