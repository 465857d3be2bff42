section TU
variable {S M M1 S1 : HSt} {n : Nat} {T : Nat → Nat → Nat} {en : Nat → Int32} {md : Nat → Nat} {od lm : Nat} {hl hk kl kk : Nat → Nat → Nat} {cn : Nat → Nat → Nat} {b : Nat}
theorem gz_up {s c : Nat} (h : gz S T md cn s c = 1) : T 3 (s / 2) = 1 := by
  unfold gz at h
  split at h
  · omega
  · unfold gq at h
    split at h
    · rename_i q; exact q.1
    · omega
/-- what both sides hold when all BOXES have handed up to i -/
def AllR (S S1 Mb M1 : HSt) (n : Nat) (T : Nat → Nat → Nat) (md : Nat → Nat) (cn g : Nat → Nat → Nat) (i : Nat) : Prop :=
  fr [9, 10, 11] S S1 ∧ fr [8, 9] Mb M1 ∧ (∀ s c, s < 2 * n → ow T s < i → c < 4 → S1.2 9 (s * 4 + c) = nI (sl (if gz S T md cn s c = 1 then g s c else 0) (cn (ow T s) c)) ∧ M1.2 8 (4 * (12 * ow T s + s / 2) + c) = nI (if gz S T md cn s c = 1 then g s c else 0) ∧ (gz S T md cn s c = 1 → M1.2 9 (4 * (12 * ow T s + s / 2) + c) = nI (cn (ow T s) c)) ∧ LOk (g s c) ∧ (gz S T md cn s c = 1 → g s c ≠ 0)) ∧ (∀ s t c, ow T s = ow T t → ow T s < i → md (ow T s * 4 + 2) = 0 → g s c = g t c) ∧ ∀ x, (∀ s c, s < 2 * n → ow T s < i → c < 4 → x ≠ 4 * (12 * ow T s + s / 2) + c) → M1.2 8 x = Mb.2 8 x ∧ M1.2 9 x = Mb.2 9 x
def Lab4 (S M : HSt) (n : Nat) (T : Nat → Nat → Nat) (md : Nat → Nat) (od lm : Nat) (hl hk kl kk : Nat → Nat → Nat) : Prop := MD S M md od lm ∧ HL S M n T 6 8 9 hl hk ∧ HL S M n T 7 10 11 kl kk ∧ Row n T md hl
theorem tick_spec (h1 : NetR S M n T en) (h2 : Lab4 S M n T md od lm hl hk kl kk) : ∃ r S' M' hl' hk' kl' kk', ∃ uH uK : Prop, f_X0_tick S = some (r, S') ∧ f_X4_goesOn M = some M' ∧ fr [6, 7, 9, 10, 11] S S' ∧ fr [5, 8, 9, 10, 11, 12, 13, 14, 15, 16, 17] M M' ∧ Lab4 S' M' n T md od lm hl' hk' kl' kk' ∧ (r &&& 1 = 0 ↔ ¬ uH) ∧ (r = 0 ↔ ¬ uH ∧ ¬ uK) ∧ ((∃ x, x < 336 ∧ cg M' 8 12 9 13 x) ↔ uH) ∧ ((∃ x, x < 336 ∧ cg M' 10 14 11 15 x) ↔ uK) := by
  obtain ⟨hn, hE, hC, hM, hW⟩ := h1
  obtain ⟨hD, hH, hK, hRw⟩ := h2
  have h12 := hn.1
  obtain ⟨cn, hcn⟩ := count_all hn hC hW hD hK hM
  have hcn2 : ∀ b c, b < 7 → c < 4 → cn b c = 99 ∨ cn b c ≤ 9 := fun b c hb hc => (hcn b c hb hc).1
  obtain ⟨Ma, a1, a2, a3⟩ := go_a hn hC hW hM hcn
  obtain ⟨Mb, b1, b2, b3⟩ := go_b Ma
  have hMb : MN Mb n T en := fr_MN b2 (by decide) (fr_MN a2 (by decide) hM)
  have hDb : MD S Mb md od lm := MD_fr hD rfl rfl rfl (by rw [b2.2 6 (by decide), a2.2 6 (by decide)]) (by rw [b2.2 7 (by decide), a2.2 7 (by decide)])
  have hNb : NN S Mb n T cn 28 := by
    unfold NN
    rw [b2.2 16 (by decide), b2.2 17 (by decide)]; exact a3
  have hold : ∀ x, x < 336 → Mb.2 8 x = 0 ∧ Mb.2 12 x = M.2 8 x ∧ Mb.2 13 x = M.2 9 x ∧ Mb.2 14 x = M.2 10 x ∧ Mb.2 15 x = M.2 11 x := fun x hx => by
    have := b3 x hx
    rw [a2.2 8 (by decide), a2.2 9 (by decide), a2.2 10 (by decide), a2.2 11 (by decide)] at this
    exact this
  rw [a1, b1]
  unfold f_X0_tick
  refine lp_two (fun k (q : HSt × Int32) => f_X0_tick_2 k q.1 q.2) (fun k (q : HSt × Int32) => f_X4_goesOn_118 k q.1 q.2) (fun i q q' => q.2 = nI i ∧ q'.2 = nI i ∧ ∃ g, AllR S q.1 Mb q'.1 n T md cn g i) 7 (fun o o' => ∃ r S' M' hl' hk' kl' kk', ∃ uH uK : Prop, o = some (r, S') ∧ o' = some M' ∧ fr [6, 7, 9, 10, 11] S S' ∧ fr [5, 8, 9, 10, 11, 12, 13, 14, 15, 16, 17] M M' ∧ Lab4 S' M' n T md od lm hl' hk' kl' kk' ∧ (r &&& 1 = 0 ↔ ¬ uH) ∧ (r = 0 ↔ ¬ uH ∧ ¬ uK) ∧ ((∃ x, x < 336 ∧ cg M' 8 12 9 13 x) ↔ uH) ∧ ((∃ x, x < 336 ∧ cg M' 10 14 11 15 x) ↔ uK)) ?_ ?_ h_fu 0 (S, 0) (Mb, 0) (Nat.zero_le _) (by have := fu_big; omega) ⟨rfl, rfl, fun _ _ => 0, fr_rf _ _, fr_rf _ _, fun s c _ h => by omega, fun s t c _ h => by omega, fun x _ => ⟨rfl, rfl⟩⟩
  · rintro k i ⟨S1, x⟩ ⟨M1, y⟩ hi ⟨q1, q2, g, g1, g2, g3, g4, g5⟩
    dsimp only at q1 q2 g1 g2 g3 g4 g5
    subst q1 q2
    right
    have e1 : f_X0_tick_2 (k + 1) S1 (nI i) = f_X0_tick_2_s (f_X0_tick_2 k) S1 (nI i) := rfl
    have e2 : f_X4_goesOn_118 (k + 1) M1 (nI i) = f_X4_goesOn_118_s (f_X4_goesOn_118 k) M1 (nI i) := rfl
    dsimp only
    rw [e1, e2]
    unfold f_X0_tick_2_s f_X4_goesOn_118_s
    rw [if_neg (show ¬ (7 : Int32) ≤ nI i from ngt (b := 7) hi (by omega)), if_neg (show ¬ (7 : Int32) ≤ nI i from ngt (b := 7) hi (by omega)), nI_1]
    obtain ⟨S2, p1, p2, p3⟩ := place_spec (S := S) (S1 := S1) hn hC hD g1 (fun b c hb hc => ⟨(hcn b c hb hc).1, (hcn b c hb hc).2.1⟩) hi
    have f2 : fr [9, 10, 11] S S2 := fr_tr g1 (fr_mono p2 (by decide))
    have hC2 := fr_CN f2 (by decide) hC
    have hM1 := fr_MN g2 (by decide) hMb
    have hDS : MD S M1 md od lm := MD_fr hDb rfl rfl rfl (g2.2 6 (by decide)) (g2.2 7 (by decide))
    have hD2 : MD S2 M1 md od lm := MD_fr hDS (by rw [f2.1]) (by rw [f2.1]) (f2.2 8 (by decide)) rfl rfl
    have hN1 : NN S M1 n T cn 28 := by
      unfold NN
      rw [g2.2 16 (by decide), g2.2 17 (by decide)]; exact hNb
    obtain ⟨S3, M3, gg, t1, t2, t3⟩ := box_spec (S := S) (hk := hk) hn hC2 hD2 hDS hM1 hN1 hcn2 (fun s c hs hc => by
      rw [f2.2 6 (by decide)]
      have := hH.1 s c hs hc
      exact ⟨this.1, this.2.1, this.2.2.1⟩) hRw hi (fun s c hs ho hc => by rw [p3 s c hs hc, if_pos ho]) (fun l c hl1 hc => by
      rw [g2.2 12 (by decide), (hold _ (by omega)).2.1]
      exact lab_at hH hn hi hl1 hc) (fun l c hl1 hc => by
      rw [(g5 _ (fun s d hs ho hd z => by omega)).1]
      exact (hold _ (by omega)).1)
    rw [p1, Option.bind_some, t1, t2, Option.bind_some, Option.bind_some]
    obtain ⟨u1, u2, u3, u4, u5, u6, u7, u8⟩ := t3
    refine ⟨(S3, nI (i + 1)), (M3, nI (i + 1)), ⟨rfl, rfl, fun s c => if ow T s = i then gg s c else g s c, fr_tr f2 (fr_mono u1 (by decide)), fr_tr g2 u4, fun s c hs ho hc => ?_, fun s t c hst ho hm => ?_, fun x hx => ?_⟩, rfl, rfl⟩
    · dsimp only
      by_cases z : ow T s = i
      · rw [if_pos z, z]
        have v5 := u5 s c hs z hc
        have v7 := u7 s c hs z hc
        exact ⟨u2 s c hs z hc, v5.1, v5.2, v7.1, v7.2⟩
      · obtain ⟨w1, w2, w3, w4⟩ := g3 s c hs (by omega) hc
        have hx : ∀ t d, t < 2 * n → ow T t = i → d < 4 → 4 * (12 * ow T s + s / 2) + c ≠ 4 * (12 * i + t / 2) + d := fun t d ht hot hd y => by omega
        rw [if_neg z, u3 s c hs z hc, p3 s c hs hc, if_neg z, (u6 _ hx).1, (u6 _ hx).2]
        exact ⟨w1, w2, w3, w4⟩
    · dsimp only
      by_cases z : ow T s = i
      · rw [if_pos z, if_pos (by rw [← hst]; exact z)]
        exact u8 (by rw [← z]; exact hm) s t c
      · rw [if_neg z, if_neg (by rw [← hst]; exact z)]
        exact g4 s t c hst (by omega) hm
    · dsimp only
      have hA : ∀ t d, t < 2 * n → ow T t = i → d < 4 → x ≠ 4 * (12 * i + t / 2) + d := fun t d ht hot hd => by
        have := hx t d ht (by omega) hd
        rw [hot] at this; exact this
      rw [(u6 x hA).1, (u6 x hA).2]
      exact g5 x (fun s c hs ho hc => hx s c hs (by omega) hc)
  · rintro k ⟨S1, x⟩ ⟨M1, y⟩ ⟨q1, q2, g, g1, g2, g3, g4, g5⟩
    dsimp only at q1 q2 g1 g2 g3 g4 g5
    subst q1 q2
    have e1 : f_X0_tick_2 (k + 1) S1 (nI 7) = f_X0_tick_2_s (f_X0_tick_2 k) S1 (nI 7) := rfl
    have e2 : f_X4_goesOn_118 (k + 1) M1 (nI 7) = f_X4_goesOn_118_s (f_X4_goesOn_118 k) M1 (nI 7) := rfl
    dsimp only
    rw [e1, e2]
    unfold f_X0_tick_2_s f_X4_goesOn_118_s f_X0_tick_36
    rw [if_pos (show (7 : Int32) ≤ nI 7 by decide), if_pos (show (7 : Int32) ≤ nI 7 by decide)]
    have hC1 := fr_CN g1 (by decide) hC
    have hM1 := fr_MN g2 (by decide) hMb
    have hDS : MD S M1 md od lm := MD_fr hDb rfl rfl rfl (g2.2 6 (by decide)) (g2.2 7 (by decide))
    have hN1 : NN S M1 n T cn 28 := by
      unfold NN
      rw [g2.2 16 (by decide), g2.2 17 (by decide)]; exact hNb
    obtain ⟨hl', hhl'⟩ : ∃ f : Nat → Nat → Nat, f = fun s c => if gz S T md cn s c = 1 then g s c else 0 := ⟨_, rfl⟩
    obtain ⟨hk', hhk'⟩ : ∃ f : Nat → Nat → Nat, f = fun s c => if gz S T md cn s c = 1 then cn (ow T s) c else 0 := ⟨_, rfl⟩
    have key : ∀ s c, s < 2 * n → c < 4 → LOk (hl' s c) ∧ hk' s c ≤ 9 ∧ S1.2 9 (s * 4 + c) = nI (sl (hl' s c) (hk' s c)) ∧ M1.2 8 (4 * (12 * ow T s + s / 2) + c) = nI (hl' s c) ∧ (hl' s c ≠ 0 → M1.2 9 (4 * (12 * ow T s + s / 2) + c) = nI (hk' s c)) := by
      intro s c hs hc
      have ho := ow_lt hn hs
      obtain ⟨w1, w2, w3, w4, w5⟩ := g3 s c hs ho hc
      rw [hhl', hhk']
      dsimp only
      by_cases z : gz S T md cn s c = 1
      · have := hcn2 (ow T s) c ho hc
        have := gz_cn z
        rw [if_pos z] at w1 w2 ⊢
        rw [if_pos z]
        exact ⟨w4, by omega, w1, w2, fun _ => w3 z⟩
      · rw [if_neg z] at w1 w2 ⊢
        rw [if_neg z]
        exact ⟨Or.inl rfl, by omega, w1, w2, fun h => absurd rfl h⟩
    have hrow' : Row n T md hl' := by
      intro s t c hs ht hc hst hm p1 p2
      rw [hhl'] at p1 p2 ⊢
      dsimp only at p1 p2 ⊢
      by_cases z1 : gz S T md cn s c = 1
      · by_cases z2 : gz S T md cn t c = 1
        · rw [if_pos z1, if_pos z2]
          exact g4 s t c hst (ow_lt hn hs) hm
        · rw [if_neg z2] at p2; omega
      · rw [if_neg z1] at p1; omega
    have hup : ∀ s c, s < 2 * n → c < 4 → T 3 (s / 2) = 0 → hl' s c = 0 := by
      intro s c hs hc h0
      rw [hhl']
      dsimp only
      rw [if_neg]
      intro z
      have := gz_up z
      omega
    have hno8 : ∀ b l c, b < 7 → l < 12 → c < 4 → (∀ s, s < 2 * n → ow T s = b → s / 2 ≠ l) → M1.2 8 (4 * (12 * b + l) + c) = 0 := by
      intro b l c hb hl1 hc hno
      rw [(g5 _ (fun s d hs ho hd z => hno s hs (by omega) (by omega))).1]
      exact (hold _ (by omega)).1
    obtain ⟨r2, S2, t1, t2, t3, t4, t5⟩ := take_spec hn hC1
    have f2 : fr [6, 7, 9, 10, 11] S S2 := fr_tr (fr_mono g1 (by decide)) (fr_mono t2 (by decide))
    have hC2 := fr_CN t2 (by decide) hC1
    have hD2 : MD S2 M md od lm := MD_fr hD (by rw [f2.1]) (by rw [f2.1]) (f2.2 8 (by decide)) rfl rfl
    obtain ⟨r3, S3, k1, k2, k3, k4, k5⟩ := keep_spec hn hC2 hD2
    have f3 : fr [6, 7, 9, 10, 11] S S3 := fr_tr f2 (fr_mono k2 (by decide))
    obtain ⟨M3, m1, m2, m3, m4⟩ := keeps_spec (hl := hl') (hk := hk') hn hM1 hDS hN1 (fun s c hs hc => ⟨(key s c hs hc).2.2.2.1, (key s c hs hc).2.2.2.2⟩) hup
    have F3 : fr [5, 8, 9, 10, 11, 12, 13, 14, 15, 16, 17] M M3 := fr_tr (fr_mono a2 (by decide)) (fr_tr (fr_mono b2 (by decide)) (fr_tr (fr_mono g2 (by decide)) (fr_mono m2 (by decide))))
    obtain ⟨kl', hkl'⟩ : ∃ f : Nat → Nat → Nat, f = fun s c => if md (ow T s * 4 + 1) = 1 ∧ S.2 5 (ow T s * 4 + c) ≠ nI s then 0 else hl' (fl s) c := ⟨_, rfl⟩
    obtain ⟨kk', hkk'⟩ : ∃ f : Nat → Nat → Nat, f = fun s c => hk' (fl s) c := ⟨_, rfl⟩
    have kkey : ∀ s c, s < 2 * n → c < 4 → LOk (kl' s c) ∧ kk' s c ≤ 9 ∧ kv S2 T md s c = nI (sl (kl' s c) (kk' s c)) ∧ M3.2 10 (4 * (12 * ow T s + s / 2) + c) = nI (kl' s c) ∧ (kl' s c ≠ 0 → M3.2 11 (4 * (12 * ow T s + s / 2) + c) = nI (kk' s c)) := by
      intro s c hs hc
      have hfl := fl_lt hs
      have hq := key (fl s) c hfl hc
      have hm := m3 s c hs hc
      have hkv : kv S2 T md s c = nI (sl (if md (ow T s * 4 + 1) = 1 ∧ S.2 5 (ow T s * 4 + c) ≠ nI s then 0 else hl' (fl s) c) (hk' (fl s) c)) := by
        unfold kv
        rw [f2.2 5 (by decide), t3 _ (by omega), hq.2.2.1]
        by_cases z : md (ow T s * 4 + 1) = 1 ∧ S.2 5 (ow T s * 4 + c) ≠ nI s
        · rw [if_pos z, if_pos z]; rfl
        · rw [if_neg z, if_neg z]
      rw [hkl', hkk']
      dsimp only
      refine ⟨?_, hq.2.1, hkv, hm.1, hm.2⟩
      split
      · exact Or.inl rfl
      · exact hq.1
    have hD3 : MD S3 M3 md od lm := MD_fr hD (by rw [f3.1]) (by rw [f3.1]) (f3.2 8 (by decide)) (F3.2 6 (by decide)) (F3.2 7 (by decide))
    have hHL : HL S3 M3 n T 6 8 9 hl' hk' := by
      refine ⟨fun s c hs hc => ?_, fun x hx1 hx2 => ?_, fun b l c hb hl1 hc hno => ?_⟩
      · have hq := key s c hs hc
        rw [k2.2 6 (by decide), t3 _ (by omega), m2.2 8 (by decide), m2.2 9 (by decide)]
        exact hq
      · rw [k2.2 6 (by decide), t4 x hx1, g1.2 6 (by decide)]
        exact hH.2.1 x hx1 hx2
      · rw [m2.2 8 (by decide)]; exact hno8 b l c hb hl1 hc hno
    have hKL : HL S3 M3 n T 7 10 11 kl' kk' := by
      refine ⟨fun s c hs hc => ?_, fun x hx1 hx2 => ?_, m4⟩
      · have hq := kkey s c hs hc
        rw [k3 s c hs hc]
        exact hq
      · rw [k4 x hx1, t2.2 7 (by decide), g1.2 7 (by decide)]
        exact hK.2.1 x hx1 hx2
    have cell : ∀ s c, s < 2 * n → c < 4 → 4 * (12 * ow T s + s / 2) + c < 336 := fun s c hs hc => by have := ow_lt hn hs; omega
    have o12 : ∀ x, x < 336 → M3.2 12 x = M.2 8 x ∧ M3.2 13 x = M.2 9 x ∧ M3.2 14 x = M.2 10 x ∧ M3.2 15 x = M.2 11 x := fun x hx => by
      rw [m2.2 12 (by decide), m2.2 13 (by decide), m2.2 14 (by decide), m2.2 15 (by decide), g2.2 12 (by decide), g2.2 13 (by decide), g2.2 14 (by decide), g2.2 15 (by decide)]
      exact (hold x hx).2
    have cH := cg_iff (M := M3) (i := 8) (j := 12) (k := 9) (m := 13) (hl := hl) (hk := hk) (hl' := hl') (hk' := hk') hn (fun s c hs hc => by
      rw [(o12 _ (cell s c hs hc)).1, (o12 _ (cell s c hs hc)).2.1]
      have := hH.1 s c hs hc
      exact ⟨this.1, this.2.1, this.2.2.2.1, this.2.2.2.2⟩) (fun b l c hb hl1 hc hno => by
      rw [(o12 _ (by omega)).1]
      exact hH.2.2 b l c hb hl1 hc hno) (fun s c hs hc => by
      have := hHL.1 s c hs hc
      exact ⟨this.1, this.2.1, this.2.2.2.1, this.2.2.2.2⟩) hHL.2.2
    have cK := cg_iff (M := M3) (i := 10) (j := 14) (k := 11) (m := 15) (hl := kl) (hk := kk) (hl' := kl') (hk' := kk') hn (fun s c hs hc => by
      rw [(o12 _ (cell s c hs hc)).2.2.1, (o12 _ (cell s c hs hc)).2.2.2]
      have := hK.1 s c hs hc
      exact ⟨this.1, this.2.1, this.2.2.2.1, this.2.2.2.2⟩) (fun b l c hb hl1 hc hno => by
      rw [(o12 _ (by omega)).2.2.1]
      exact hK.2.2 b l c hb hl1 hc hno) (fun s c hs hc => by
      have := hKL.1 s c hs hc
      exact ⟨this.1, this.2.1, this.2.2.2.1, this.2.2.2.2⟩) hKL.2.2
    have nsl : ∀ {L K L' K' : Nat}, LOk L → K ≤ 9 → LOk L' → K' ≤ 9 → (nI (sl L K) = nI (sl L' K') ↔ sl L' K' = sl L K) := by
      intro L K L' K' p1 p2 p3 p4
      have := sl_lt p1 p2
      have := sl_lt p3 p4
      rw [n_eq (by omega) (by omega)]
      exact ⟨fun z => z.symm, fun z => z.symm⟩
    have hr2 : (r2 = 0 ∧ ¬ ∃ s c, s < 2 * n ∧ c < 4 ∧ sl (hl' s c) (hk' s c) ≠ sl (hl s c) (hk s c)) ∨ (r2 = 1 ∧ ∃ s c, s < 2 * n ∧ c < 4 ∧ sl (hl' s c) (hk' s c) ≠ sl (hl s c) (hk s c)) := by
      have hv : ∀ s c, s < 2 * n → c < 4 → (S1.2 6 (s * 4 + c) = S1.2 9 (s * 4 + c) ↔ sl (hl' s c) (hk' s c) = sl (hl s c) (hk s c)) := by
        intro s c hs hc
        have p := hH.1 s c hs hc
        have q := key s c hs hc
        rw [g1.2 6 (by decide), p.2.2.1, q.2.2.1]
        exact nsl p.1 p.2.1 q.1 q.2.1
      rcases t5 with ⟨v1, v2⟩ | ⟨v1, x, v2, v3⟩
      · refine Or.inl ⟨v1, ?_⟩
        rintro ⟨s, c, hs, hc, hne⟩
        exact hne ((hv s c hs hc).mp (v2 _ (by omega)))
      · refine Or.inr ⟨v1, x / 4, x % 4, by omega, by omega, fun z => v3 ?_⟩
        have := (hv (x / 4) (x % 4) (by omega) (by omega)).mpr z
        rw [show x / 4 * 4 + x % 4 = x by omega] at this
        exact this
    have hr3 : (r3 = 0 ∧ ¬ ∃ s c, s < 2 * n ∧ c < 4 ∧ sl (kl' s c) (kk' s c) ≠ sl (kl s c) (kk s c)) ∨ (r3 = 1 ∧ ∃ s c, s < 2 * n ∧ c < 4 ∧ sl (kl' s c) (kk' s c) ≠ sl (kl s c) (kk s c)) := by
      have hv : ∀ s c, s < 2 * n → c < 4 → (S2.2 7 (s * 4 + c) = kv S2 T md s c ↔ sl (kl' s c) (kk' s c) = sl (kl s c) (kk s c)) := by
        intro s c hs hc
        have p := hK.1 s c hs hc
        have q := kkey s c hs hc
        rw [t2.2 7 (by decide), g1.2 7 (by decide), p.2.2.1, q.2.2.1]
        exact nsl p.1 p.2.1 q.1 q.2.1
      rcases k5 with ⟨v1, v2⟩ | ⟨v1, s, c, hs, hc, v3⟩
      · refine Or.inl ⟨v1, ?_⟩
        rintro ⟨s, c, hs, hc, hne⟩
        exact hne ((hv s c hs hc).mp (v2 s c hs hc))
      · exact Or.inr ⟨v1, s, c, hs, hc, fun z => v3 ((hv s c hs hc).mpr z)⟩
    have hLab : Lab4 S3 M3 n T md od lm hl' hk' kl' kk' := ⟨hD3, hHL, hKL, hrow'⟩
    rw [t1, bi_s, m1, Option.bind_some, k1, bi_s]
    rcases hr2 with ⟨v1, v2⟩ | ⟨v1, v2⟩
    · rcases hr3 with ⟨w1, w2⟩ | ⟨w1, w2⟩
      · rw [v1, w1, if_pos (show (0 : Int32) = 0 from rfl)]
        exact ⟨0, S3, M3, hl', hk', kl', kk', _, _, rfl, rfl, f3, F3, hLab, ⟨fun _ => v2, fun _ => rfl⟩, ⟨fun _ => ⟨v2, w2⟩, fun _ => rfl⟩, cH, cK⟩
      · rw [v1, w1, if_pos (show (0 : Int32) = 0 from rfl)]
        exact ⟨2, S3, M3, hl', hk', kl', kk', _, _, rfl, rfl, f3, F3, hLab, ⟨fun _ => v2, fun _ => by decide⟩, ⟨fun z => absurd z (by decide), fun z => absurd w2 z.2⟩, cH, cK⟩
    · rcases hr3 with ⟨w1, w2⟩ | ⟨w1, w2⟩
      · rw [v1, w1, if_neg (show ¬ (1 : Int32) = 0 by decide)]
        exact ⟨1, S3, M3, hl', hk', kl', kk', _, _, rfl, rfl, f3, F3, hLab, ⟨fun z => absurd z (by decide), fun z => absurd v2 z⟩, ⟨fun z => absurd z (by decide), fun z => absurd v2 z.1⟩, cH, cK⟩
      · rw [v1, w1, if_neg (show ¬ (1 : Int32) = 0 by decide)]
        exact ⟨3, S3, M3, hl', hk', kl', kk', _, _, rfl, rfl, f3, F3, hLab, ⟨fun z => absurd z (by decide), fun z => absurd v2 z⟩, ⟨fun z => absurd z (by decide), fun z => absurd v2 z.1⟩, cH, cK⟩
end TU
