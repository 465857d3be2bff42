/-! the reference: LABELS of one row -/
theorem if2 {α : Type} {x y : Int32} (h : x = -9 ∨ x = y) (A B : α) : (if x = -9 then A else if x = y then A else B) = A := by
  rcases h with h | h
  · rw [if_pos h]
  · rw [if_pos h]; split <;> rfl
theorem if2n {α : Type} {x y : Int32} (h : ¬ (x = -9 ∨ x = y)) (A B : α) : (if x = -9 then A else if x = y then A else B) = B := by
  rw [if_neg (fun z => h (Or.inl z)), if_neg (fun z => h (Or.inr z))]
def RS (S : HSt) (T : Nat → Nat → Nat) (md : Nat → Nat) (cn : Nat → Nat → Nat) (b : Nat) (R : Nat → Prop) (M0 M1 : HSt) (g : Nat → Nat) : Prop := fr [8, 9] M0 M1 ∧ (∀ s c, R s → c < 4 → M1.2 8 (4 * (12 * b + s / 2) + c) = nI (if gz S T md cn s c = 1 then g c else 0) ∧ (gz S T md cn s c = 1 → g c ≠ 0 → M1.2 9 (4 * (12 * b + s / 2) + c) = nI (cn b c))) ∧ ∀ x, (∀ s c, R s → c < 4 → x ≠ 4 * (12 * b + s / 2) + c) → M1.2 8 x = M0.2 8 x ∧ M1.2 9 x = M0.2 9 x
section TH
variable {S M M0 M1 : HSt} {n : Nat} {T : Nat → Nat → Nat} {en : Nat → Int32} {md : Nat → Nat} {od lm : Nat} {hl hk : Nat → Nat → Nat} {cn : Nat → Nat → Nat} {R : Nat → Prop} {p e w : Nat → Nat} {b : Nat} {x2 : Int32}
theorem RS_ext {g g' : Nat → Nat} (hp : ∀ c, c < 4 → (p c = 1 ↔ ∃ s, R s ∧ gz S T md cn s c = 1)) (h : RS S T md cn b R M0 M1 g) (he : ∀ c, c < 4 → p c = 1 → g c = g' c) : RS S T md cn b R M0 M1 g' := by
  refine ⟨h.1, fun s c hs hc => ?_, h.2.2⟩
  obtain ⟨h1, h2⟩ := h.2.1 s c hs hc
  by_cases z : gz S T md cn s c = 1
  · rw [← he c hc ((hp c hc).mpr ⟨s, hs, z⟩)]
    exact ⟨h1, h2⟩
  · rw [if_neg z] at h1 ⊢
    exact ⟨h1, fun q => absurd q z⟩
theorem side_1 (hn : NetWf n T) {s t : Nat} (hs : s < 2 * n) (ht : t < 2 * n) (h : ow T s = ow T t) (h2 : s / 2 = t / 2) : s = t := by
  have h3 := ow_ne hn hs
  by_cases z : s = t
  · exact z
  · have : t = fl s := by unfold fl; split <;> omega
    rw [this] at h; exact absurd h h3
theorem was_spec (hn : NetWf n T) (hM : MN M1 n T en) (hb : b < 7) {c : Nat} (hc : c < 4) (hR : ∀ s, R s ↔ s < 2 * n ∧ ow T s = b ∧ (x2 = -9 ∨ x2 = nI (s / 2))) (hO : ∀ l c, l < n → c < 4 → (∃ s, s < 2 * n ∧ ow T s = b ∧ s / 2 = l ∧ M1.2 12 (4 * (12 * b + l) + c) = nI (hl s c)) ∨ ((∀ s, s < 2 * n → ow T s = b → s / 2 ≠ l) ∧ M1.2 12 (4 * (12 * b + l) + c) = 0)) (hlt : ∀ s c, s < 2 * n → c < 4 → hl s c < 20) (hP : RowP S T md cn hl en b R p e w) : f_X4_labelWas M1 (nI b) x2 (nI c) = some (nI (w c)) := by
  have h12 := hn.1
  obtain ⟨hw1, hw2⟩ := hP.2.2 c hc
  unfold f_X4_labelWas
  refine lp_up (fun k (q : Int32) => f_X4_labelWas_3 M1 k (nI b) x2 (nI c) q) (fun i q => q = nI i ∧ ∀ s, R s → s / 2 < i → hl s c < 16) n (fun o => o = some (nI (w c))) ?_ ?_ h_fu 0 0 (Nat.zero_le _) (by have := fu_big; omega) ⟨rfl, fun s _ h => by omega⟩
  · rintro k i x4 hi ⟨q1, q2⟩
    subst q1
    have e1 : f_X4_labelWas_3 M1 (k + 1) (nI b) x2 (nI c) (nI i) = f_X4_labelWas_3_s M1 (f_X4_labelWas_3 M1 k) (nI b) x2 (nI c) (nI i) := rfl
    try dsimp only
    rw [e1]
    unfold f_X4_labelWas_3_s f_X4_labelWas_48 f_X4_at
    rw [hM.1, if_neg (ngt hi (by omega)), Option.bind_some, show (4 * (12 * nI b + nI i) + nI c : Int32) = nI (4 * (12 * b + i) + c) by rw [n_4, n_12, pk_mul, nI_add, pk_mul, nI_add], ld_n _ _ (by omega) (by omega), Option.bind_some, nI_1]
    by_cases hx : x2 = -9 ∨ x2 = nI i
    · rw [if2 hx]
      unfold f_X4_labelWas_38 f_X4_labelWas_48
      rcases hO i c hi hc with ⟨s, s1, s2, s3, s4⟩ | ⟨s1, s2⟩
      · have hRs : R s := (hR s).mpr ⟨s1, s2, by rw [s3]; exact hx⟩
        have hl20 := hlt s c s1 hc
        rw [s4]
        by_cases h16 : hl s c < 16
        · right
          rw [if_pos (show nI (hl s c) < 16 from nlt (b := 16) h16 (by omega)), nI_1]
          refine ⟨nI (i + 1), ⟨rfl, fun t ht h => ?_⟩, rfl⟩
          by_cases z : t / 2 = i
          · have ht' := (hR t).mp ht
            rw [side_1 hn ht'.1 s1 (by rw [ht'.2.1, s2]) (by omega)]; exact h16
          · exact q2 t ht (by omega)
        · left
          rw [if_neg (show ¬ nI (hl s c) < 16 from nnlt (b := 16) h16 (by omega)), hw2 s hRs (by omega)]
      · right
        rw [s2, if_pos (show (0 : Int32) < 16 by decide), nI_1]
        refine ⟨nI (i + 1), ⟨rfl, fun t ht h => ?_⟩, rfl⟩
        have ht' := (hR t).mp ht
        exact q2 t ht (by have := s1 t ht'.1 ht'.2.1; omega)
    · right
      rw [if2n hx]
      refine ⟨nI (i + 1), ⟨rfl, fun t ht h => ?_⟩, rfl⟩
      have ht' := (hR t).mp ht
      exact q2 t ht (by have : t / 2 ≠ i := fun z => hx (z ▸ ht'.2.2); omega)
  · rintro k x4 ⟨q1, q2⟩
    subst q1
    have e1 : f_X4_labelWas_3 M1 (k + 1) (nI b) x2 (nI c) (nI n) = f_X4_labelWas_3_s M1 (f_X4_labelWas_3 M1 k) (nI b) x2 (nI c) (nI n) := rfl
    try dsimp only
    rw [e1]
    unfold f_X4_labelWas_3_s
    rw [hM.1, if_pos (nle (Nat.le_refl _) (by omega))]
    rcases hw1 with z | ⟨z1, z2, s, s1, s2⟩
    · rw [z]; rfl
    · have := q2 s s1 (by have := ((hR s).mp s1).1; omega); omega
theorem new_spec (hn : NetWf n T) (hM : MN M1 n T en) (hD : MD S M1 md od lm) (hb : b < 7) {c : Nat} (hc : c < 4) (hW : f_X4_labelWas M1 (nI b) x2 (nI c) = some (nI (w c))) (hP : RowP S T md cn hl en b R p e w) : f_X4_isNew M1 (nI b) x2 (nI c) = some (if e c = 0 ∧ w c = 0 then 1 else 0) := by
  have hec := hP.2.1 c hc
  have hwc : w c ≤ 19 := by rcases (hP.2.2 c hc).1 with z | ⟨z1, z2, -⟩ <;> omega
  have hm3 := (hD.1 (b * 4 + 3) (by omega)).1
  unfold f_X4_isNew f_X4_isNew_19
  rw [ld_n _ _ (by omega) (by omega), Option.bind_some, hM.2.2.2.2.2 c hc, hW, Option.bind_some]
  have fin : e c = 0 → (if nI (w c) = 0 then some (1 : Int32) else some 0) = some (if e c = 0 ∧ w c = 0 then 1 else 0) := by
    intro h0
    by_cases z : w c = 0
    · rw [z, if_pos (show nI 0 = 0 from rfl), if_pos ⟨h0, rfl⟩]
    · rw [if_neg (nz z (by omega)), if_neg (fun y => z y.2)]
  by_cases hE : en c = nI b
  · rw [if_pos hE, show (3 : Int32) = nI 3 from rfl, is_eq hD hb (by omega), Option.bind_some]
    by_cases hm : md (b * 4 + 3) = 1
    · have := hec.2.mpr ⟨hE, hm⟩
      rw [hm, if_neg (show ¬ nI 1 = 0 by decide), if_neg (fun y => by omega)]
    · have : ¬ e c = 1 := fun z => hm (hec.2.mp z).2
      rw [show md (b * 4 + 3) = 0 by omega, if_pos (show nI 0 = 0 from rfl)]
      exact fin (by omega)
  · have : ¬ e c = 1 := fun z => hE (hec.2.mp z).1
    rw [if_neg hE]
    exact fin (by omega)
theorem inrow_spec (hn : NetWf n T) (hM : MN M1 n T en) (hD : MD S M1 md od lm) (hN : NN S M1 n T cn 28) (hcn : ∀ b c, b < 7 → c < 4 → cn b c = 99 ∨ cn b c ≤ 9) (hb : b < 7) {c : Nat} (hc : c < 4) (hR : ∀ s, R s ↔ s < 2 * n ∧ ow T s = b ∧ (x2 = -9 ∨ x2 = nI (s / 2))) (hp : ∀ c, c < 4 → (p c = 1 ↔ ∃ s, R s ∧ gz S T md cn s c = 1)) : f_X4_handsInRow M1 (nI b) x2 (nI c) = some (if p c = 1 then 1 else 0) := by
  have h12 := hn.1
  unfold f_X4_handsInRow
  refine lp_up (fun k (q : Int32) => f_X4_handsInRow_3 M1 k (nI b) x2 (nI c) q) (fun i q => q = nI i ∧ ∀ s, R s → s / 2 < i → gz S T md cn s c ≠ 1) n (fun o => o = some (if p c = 1 then 1 else 0)) ?_ ?_ h_fu 0 0 (Nat.zero_le _) (by have := fu_big; omega) ⟨rfl, fun s _ h => by omega⟩
  · rintro k i x4 hi ⟨q1, q2⟩
    subst q1
    have e1 : f_X4_handsInRow_3 M1 (k + 1) (nI b) x2 (nI c) (nI i) = f_X4_handsInRow_3_s M1 (f_X4_handsInRow_3 M1 k) (nI b) x2 (nI c) (nI i) := rfl
    try dsimp only
    rw [e1]
    unfold f_X4_handsInRow_3_s f_X4_handsInRow_37
    rw [hM.1, if_neg (ngt hi (by omega)), nI_1]
    by_cases hx : x2 = -9 ∨ x2 = nI i
    · rw [if2 hx]
      unfold f_X4_handsInRow_24 f_X4_handsInRow_37
      rcases hands_eq hn hM hD hN hcn hb hi hc with ⟨s, s1, s2, s3, s4⟩ | ⟨s1, s2⟩
      · have hRs : R s := (hR s).mpr ⟨s1, s2, by rw [s3]; exact hx⟩
        have hg := gz_le S T md cn s c
        rw [s4, Option.bind_some]
        by_cases hg1 : gz S T md cn s c = 1
        · left
          rw [hg1, if_neg (show ¬ nI 1 = 0 by decide), if_pos ((hp c hc).mpr ⟨s, hRs, hg1⟩)]
        · right
          rw [show gz S T md cn s c = 0 by omega, if_pos (show nI 0 = 0 from rfl), nI_1]
          refine ⟨nI (i + 1), ⟨rfl, fun t ht h => ?_⟩, rfl⟩
          by_cases z : t / 2 = i
          · have ht' := (hR t).mp ht
            rw [side_1 hn ht'.1 s1 (by rw [ht'.2.1, s2]) (by omega)]; exact hg1
          · exact q2 t ht (by omega)
      · right
        rw [s2, Option.bind_some, if_pos (show (0 : Int32) = 0 from rfl), nI_1]
        refine ⟨nI (i + 1), ⟨rfl, fun t ht h => ?_⟩, rfl⟩
        have ht' := (hR t).mp ht
        exact q2 t ht (by have := s1 t ht'.1 ht'.2.1; omega)
    · right
      rw [if2n hx]
      refine ⟨nI (i + 1), ⟨rfl, fun t ht h => ?_⟩, rfl⟩
      have ht' := (hR t).mp ht
      exact q2 t ht (by have : t / 2 ≠ i := fun z => hx (z ▸ ht'.2.2); omega)
  · rintro k x4 ⟨q1, q2⟩
    subst q1
    have e1 : f_X4_handsInRow_3 M1 (k + 1) (nI b) x2 (nI c) (nI n) = f_X4_handsInRow_3_s M1 (f_X4_handsInRow_3 M1 k) (nI b) x2 (nI c) (nI n) := rfl
    try dsimp only
    rw [e1]
    unfold f_X4_handsInRow_3_s
    rw [hM.1, if_pos (nle (Nat.le_refl _) (by omega)), if_neg]
    intro z
    obtain ⟨s, s1, s2⟩ := (hp c hc).mp z
    exact q2 s s1 (by have := ((hR s).mp s1).1; omega) s2
theorem labels_spec (hn : NetWf n T) (hM : MN M0 n T en) (hD : MD S M0 md od lm) (hN : NN S M0 n T cn 28) (hcn : ∀ b c, b < 7 → c < 4 → cn b c = 99 ∨ cn b c ≤ 9) (hb : b < 7) {c L : Nat} (hc : c < 4) (hR : ∀ s, R s ↔ s < 2 * n ∧ ow T s = b ∧ (x2 = -9 ∨ x2 = nI (s / 2))) {g : Nat → Nat} (hS : RS S T md cn b R M0 M1 g) : ∃ M2, f_X4_labels M1 (nI b) x2 (nI c) (nI L) = some M2 ∧ RS S T md cn b R M0 M2 (upg g c L) := by
  have h12 := hn.1
  unfold f_X4_labels
  refine lp_up (fun k (q : HSt × Int32) => f_X4_labels_3 k q.1 (nI b) x2 (nI c) (nI L) q.2) (fun i q => q.2 = nI i ∧ fr [8, 9] M0 q.1 ∧ (∀ s d, R s → d < 4 → q.1.2 8 (4 * (12 * b + s / 2) + d) = nI (if gz S T md cn s d = 1 then (if d = c ∧ s / 2 < i then L else g d) else 0) ∧ (gz S T md cn s d = 1 → ((d = c ∧ s / 2 < i) ∨ g d ≠ 0) → q.1.2 9 (4 * (12 * b + s / 2) + d) = nI (cn b d))) ∧ ∀ x, (∀ s c, R s → c < 4 → x ≠ 4 * (12 * b + s / 2) + c) → q.1.2 8 x = M0.2 8 x ∧ q.1.2 9 x = M0.2 9 x) n (fun o => ∃ M2, o = some M2 ∧ RS S T md cn b R M0 M2 (upg g c L)) ?_ ?_ h_fu 0 (M1, 0) (Nat.zero_le _) (by have := fu_big; omega) ⟨rfl, hS.1, fun s d hs hd => ?_, hS.2.2⟩
  · rintro k i ⟨M2, x5⟩ hi ⟨q1, q2, q3, q4⟩
    dsimp only at q1 q2 q3 q4
    subst q1
    right
    have e1 : f_X4_labels_3 (k + 1) M2 (nI b) x2 (nI c) (nI L) (nI i) = f_X4_labels_3_s (f_X4_labels_3 k) M2 (nI b) x2 (nI c) (nI L) (nI i) := rfl
    try dsimp only
    rw [e1]
    unfold f_X4_labels_3_s f_X4_labels_71
    have hM2 := fr_MN q2 (by decide) hM
    have hD2 : MD S M2 md od lm := MD_fr hD rfl rfl rfl (q2.2 6 (by decide)) (q2.2 7 (by decide))
    have hN2 : NN S M2 n T cn 28 := by
      unfold NN
      rw [q2.2 16 (by decide), q2.2 17 (by decide)]; exact hN
    rw [hM2.1, if_neg (ngt hi (by omega)), nI_1]
    have skip : (∀ s, R s → s / 2 = i → gz S T md cn s c ≠ 1) → (∀ s d, R s → d < 4 → M2.2 8 (4 * (12 * b + s / 2) + d) = nI (if gz S T md cn s d = 1 then (if d = c ∧ s / 2 < i + 1 then L else g d) else 0) ∧ (gz S T md cn s d = 1 → ((d = c ∧ s / 2 < i + 1) ∨ g d ≠ 0) → M2.2 9 (4 * (12 * b + s / 2) + d) = nI (cn b d))) := by
      intro hs s d hRs hd
      obtain ⟨a1, a2⟩ := q3 s d hRs hd
      by_cases hg1 : gz S T md cn s d = 1
      · have hne : ¬ (d = c ∧ s / 2 = i) := fun z => hs s hRs z.2 (z.1 ▸ hg1)
        have hiff : (d = c ∧ s / 2 < i + 1) ↔ (d = c ∧ s / 2 < i) := by omega
        rw [if_pos hg1] at a1 ⊢
        refine ⟨?_, fun _ h => a2 hg1 (by rw [hiff] at h; exact h)⟩
        rw [a1]
        by_cases z : d = c ∧ s / 2 < i
        · rw [if_pos z, if_pos (hiff.mpr z)]
        · rw [if_neg z, if_neg (fun y => z (hiff.mp y))]
      · rw [if_neg hg1] at a1 ⊢
        exact ⟨a1, fun z => absurd z hg1⟩
    by_cases hx : x2 = -9 ∨ x2 = nI i
    · rw [if2 hx]
      unfold f_X4_labels_24 f_X4_labels_71 f_X4_at
      rcases hands_eq hn hM2 hD2 hN2 hcn hb hi hc with ⟨s, s1, s2, s3, s4⟩ | ⟨s1, s2⟩
      · have hRs : R s := (hR s).mpr ⟨s1, s2, by rw [s3]; exact hx⟩
        have hg := gz_le S T md cn s c
        rw [s4, Option.bind_some, nI_1]
        by_cases hg1 : gz S T md cn s c = 1
        · have hk9 := hcn b c hb hc
          have hk8 := gz_cn hg1
          rw [s2] at hk8
          have hv : M2.2 17 (4 * b + c) = nI (cn b c) := by
            rw [Nat.mul_comm 4 b, (hN2 b c hb hc (by omega)).1]
            exact if_neg hk8
          rw [hg1, if_neg (show ¬ nI 1 = 0 by decide)]
          repeat rw [Option.bind_some]
          rw [show (4 * (12 * nI b + nI i) + nI c : Int32) = nI (4 * (12 * b + i) + c) by rw [n_4, n_12, pk_mul, nI_add, pk_mul, nI_add], show (4 * nI b + nI c : Int32) = nI (4 * b + c) by rw [n_4, pk_mul, nI_add], st_n _ _ _ (by omega) (by omega), Option.bind_some, Option.bind_some, ld_n _ _ (by omega) (by omega), Option.bind_some, wr_o _ _ _ (show 17 ≠ 8 by decide), hv, st_n _ _ _ (by omega) (by omega), Option.bind_some]
          refine ⟨(wr (wr M2 8 (4 * (12 * b + i) + c) (nI L)) 9 (4 * (12 * b + i) + c) (nI (cn b c)), nI (i + 1)), ⟨rfl, fr_tr q2 (fr_tr (fr_wr (by decide)) (fr_wr (by decide))), fun t d ht hd => ?_, fun x hx' => ?_⟩, rfl⟩
          · dsimp only
            rw [wr_o _ _ _ (show 8 ≠ 9 by decide)]
            have ht' := (hR t).mp ht
            by_cases z : t / 2 = i ∧ d = c
            · have hts : t = s := side_1 hn ht'.1 s1 (by rw [ht'.2.1, s2]) (by omega)
              rw [z.1, z.2, wr_s, wr_s, hts, if_pos hg1, if_pos ⟨rfl, by omega⟩]
              exact ⟨rfl, fun _ _ => rfl⟩
            · rw [wr_n _ _ (by omega), wr_n _ _ (by omega), wr_o _ _ _ (show 9 ≠ 8 by decide)]
              obtain ⟨a1, a2⟩ := q3 t d ht hd
              have hiff : (d = c ∧ t / 2 < i + 1) ↔ (d = c ∧ t / 2 < i) := by omega
              simp only [hiff]
              exact ⟨a1, a2⟩
          · dsimp only
            have := hx' s c hRs hc
            rw [s3] at this
            rw [wr_o _ _ _ (show 8 ≠ 9 by decide), wr_n _ _ this, wr_n _ _ this, wr_o _ _ _ (show 9 ≠ 8 by decide)]
            exact q4 x hx'
        · rw [show gz S T md cn s c = 0 by omega, if_pos (show nI 0 = 0 from rfl)]
          refine ⟨(M2, nI (i + 1)), ⟨rfl, q2, skip (fun t ht h => ?_), q4⟩, rfl⟩
          have ht' := (hR t).mp ht
          rw [side_1 hn ht'.1 s1 (by rw [ht'.2.1, s2]) (by omega)]; exact hg1
      · rw [s2, Option.bind_some, if_pos (show (0 : Int32) = 0 from rfl), nI_1]
        refine ⟨(M2, nI (i + 1)), ⟨rfl, q2, skip (fun t ht h => ?_), q4⟩, rfl⟩
        have ht' := (hR t).mp ht
        exact absurd h (s1 t ht'.1 ht'.2.1)
    · rw [if2n hx]
      refine ⟨(M2, nI (i + 1)), ⟨rfl, q2, skip (fun t ht h => ?_), q4⟩, rfl⟩
      have ht' := (hR t).mp ht
      exact absurd (h ▸ ht'.2.2) hx
  · rintro k ⟨M2, x5⟩ ⟨q1, q2, q3, q4⟩
    dsimp only at q1 q2 q3 q4
    subst q1
    have e1 : f_X4_labels_3 (k + 1) M2 (nI b) x2 (nI c) (nI L) (nI n) = f_X4_labels_3_s (f_X4_labels_3 k) M2 (nI b) x2 (nI c) (nI L) (nI n) := rfl
    try dsimp only
    rw [e1]
    unfold f_X4_labels_3_s
    rw [(fr_MN q2 (by decide) hM).1, if_pos (nle (Nat.le_refl _) (by omega))]
    refine ⟨M2, rfl, q2, fun s d hs hd => ?_, q4⟩
    obtain ⟨a1, a2⟩ := q3 s d hs hd
    have hsn : s / 2 < n := by have := ((hR s).mp hs).1; omega
    unfold upg
    by_cases z : d = c
    · rw [if_pos (show d = c ∧ s / 2 < n from ⟨z, hsn⟩)] at a1
      rw [if_pos z]
      exact ⟨a1, fun h _ => a2 h (Or.inl ⟨z, hsn⟩)⟩
    · rw [if_neg (show ¬ (d = c ∧ s / 2 < n) from fun y => z y.1)] at a1
      rw [if_neg z]
      exact ⟨a1, fun h y => a2 h (Or.inr y)⟩
  · dsimp only
    obtain ⟨a1, a2⟩ := hS.2.1 s d hs hd
    rw [if_neg (show ¬ (d = c ∧ s / 2 < 0) by omega)]
    exact ⟨a1, fun h y => a2 h (by rcases y with y | y; omega; exact y)⟩
theorem isIn_spec (hn : NetWf n T) (hM : MN M0 n T en) (hb : b < 7) (hR : ∀ s, R s ↔ s < 2 * n ∧ ow T s = b ∧ (x2 = -9 ∨ x2 = nI (s / 2))) (hz : ∀ l c, l < 12 → c < 4 → (x2 = -9 ∨ x2 = nI l) → M0.2 8 (4 * (12 * b + l) + c) = 0) (hp : ∀ c, c < 4 → (p c = 1 ↔ ∃ s, R s ∧ gz S T md cn s c = 1)) {g : Nat → Nat} (hg0 : ∀ c, c < 4 → p c ≠ 1 → g c = 0) (hg : ∀ c, c < 4 → LOk (g c)) (hS : RS S T md cn b R M0 M1 g) {L : Nat} (hL : 16 ≤ L) (hL2 : L ≤ 19) : f_X4_isInRow M1 (nI b) x2 (nI L) = some (if pr g L = true then 1 else 0) := by
  have h12 := hn.1
  have hM1 := fr_MN hS.1 (by decide) hM
  unfold f_X4_isInRow
  refine lp_up (fun k (q : Int32) => f_X4_isInRow_3 M1 k (nI b) x2 (nI L) q) (fun i q => q = nI i ∧ ∀ s c, R s → s / 2 < i → c < 4 → gz S T md cn s c = 1 → g c ≠ L) n (fun o => o = some (if pr g L = true then 1 else 0)) ?_ ?_ h_fu 0 0 (Nat.zero_le _) (by have := fu_big; omega) ⟨rfl, fun s c _ h => by omega⟩
  · rintro k i x4 hi ⟨q1, q2⟩
    subst q1
    have e1 : f_X4_isInRow_3 M1 (k + 1) (nI b) x2 (nI L) (nI i) = f_X4_isInRow_3_s M1 (f_X4_isInRow_3 M1 k) (nI b) x2 (nI L) (nI i) := rfl
    try dsimp only
    rw [e1]
    unfold f_X4_isInRow_3_s
    rw [hM1.1, if_neg (ngt hi (by omega))]
    refine lp_up (fun k2 (q : Int32) => f_X4_isInRow_15 M1 (f_X4_isInRow_3 M1 k) k2 (nI b) x2 (nI L) (nI i) q) (fun j q => q = nI j ∧ ∀ s c, R s → s / 2 = i → c < j → gz S T md cn s c = 1 → g c ≠ L) 4 (fun o => o = some (if pr g L = true then 1 else 0) ∨ ∃ q, (q = nI (i + 1) ∧ ∀ s c, R s → s / 2 < i + 1 → c < 4 → gz S T md cn s c = 1 → g c ≠ L) ∧ o = f_X4_isInRow_3 M1 k (nI b) x2 (nI L) q) ?_ ?_ h_fu 0 0 (Nat.zero_le _) (by have := fu_big; omega) ⟨rfl, fun s c _ _ h => by omega⟩
    · rintro k2 j x5 hj ⟨u1, u2⟩
      subst u1
      have e2 : f_X4_isInRow_15 M1 (f_X4_isInRow_3 M1 k) (k2 + 1) (nI b) x2 (nI L) (nI i) (nI j) = f_X4_isInRow_15_s M1 (f_X4_isInRow_3 M1 k) (f_X4_isInRow_15 M1 (f_X4_isInRow_3 M1 k) k2) (nI b) x2 (nI L) (nI i) (nI j) := rfl
      try dsimp only
      rw [e2]
      unfold f_X4_isInRow_15_s f_X4_isInRow_52
      rw [if_neg (show ¬ (4 : Int32) ≤ nI j from ngt (b := 4) hj (by omega)), nI_1]
      by_cases hx : x2 = -9 ∨ x2 = nI i
      · rw [if2 hx]
        unfold f_X4_isInRow_33 f_X4_isInRow_52 f_X4_at
        rw [Option.bind_some, show (4 * (12 * nI b + nI i) + nI j : Int32) = nI (4 * (12 * b + i) + j) by rw [n_4, n_12, pk_mul, nI_add, pk_mul, nI_add], ld_n _ _ (by omega) (by omega), Option.bind_some, nI_1]
        by_cases hs : ∃ s, R s ∧ s / 2 = i
        · obtain ⟨s, s1, s2⟩ := hs
          have h8 := (hS.2.1 s j s1 hj).1
          have hlt := LOk_lt (hg j hj)
          rw [s2] at h8
          rw [h8]
          by_cases hg1 : gz S T md cn s j = 1 ∧ g j = L
          · left; left
            rw [if_pos hg1.1, if_pos (by rw [hg1.2]), if_pos (pr_t.mpr ⟨j, hj, hg1.2⟩)]
          · right
            rw [if_neg (by
              by_cases hg2 : gz S T md cn s j = 1
              · rw [if_pos hg2, n_eq (by omega) (by omega)]; exact fun z => hg1 ⟨hg2, z⟩
              · rw [if_neg hg2, n_eq (by omega) (by omega)]; omega)]
            refine ⟨nI (j + 1), ⟨rfl, fun t c ht h hc hgz hgc => ?_⟩, rfl⟩
            by_cases z : c = j
            · have ht' := (hR t).mp ht
              have hs' := (hR s).mp s1
              have hts : t = s := side_1 hn ht'.1 hs'.1 (by rw [ht'.2.1, hs'.2.1]) (by omega)
              rw [hts, z] at hgz
              rw [z] at hgc
              exact hg1 ⟨hgz, hgc⟩
            · exact u2 t c ht h (by omega) hgz hgc
        · right
          have h8 : M1.2 8 (4 * (12 * b + i) + j) = 0 := by
            rw [(hS.2.2 _ (fun s c s1 hc z => hs ⟨s, s1, by omega⟩)).1]
            exact hz i j (by omega) hj hx
          rw [h8, if_neg (fun z => nz (a := L) (by omega) (by omega) z.symm)]
          exact ⟨nI (j + 1), ⟨rfl, fun t c ht h => absurd ⟨t, ht, h⟩ hs⟩, rfl⟩
      · right
        rw [if2n hx]
        refine ⟨nI (j + 1), ⟨rfl, fun t c ht h => ?_⟩, rfl⟩
        have ht' := (hR t).mp ht
        exact absurd (h ▸ ht'.2.2) hx
    · rintro k2 x5 ⟨u1, u2⟩
      subst u1
      right
      have e2 : f_X4_isInRow_15 M1 (f_X4_isInRow_3 M1 k) (k2 + 1) (nI b) x2 (nI L) (nI i) (nI 4) = f_X4_isInRow_15_s M1 (f_X4_isInRow_3 M1 k) (f_X4_isInRow_15 M1 (f_X4_isInRow_3 M1 k) k2) (nI b) x2 (nI L) (nI i) (nI 4) := rfl
      try dsimp only
      rw [e2]
      unfold f_X4_isInRow_15_s
      rw [if_pos (show (4 : Int32) ≤ nI 4 by decide), nI_1]
      refine ⟨nI (i + 1), ⟨rfl, fun s c hs h hc => ?_⟩, rfl⟩
      by_cases z : s / 2 = i
      · exact u2 s c hs z hc
      · exact q2 s c hs (by omega) hc
  · rintro k x4 ⟨q1, q2⟩
    subst q1
    have e1 : f_X4_isInRow_3 M1 (k + 1) (nI b) x2 (nI L) (nI n) = f_X4_isInRow_3_s M1 (f_X4_isInRow_3 M1 k) (nI b) x2 (nI L) (nI n) := rfl
    try dsimp only
    rw [e1]
    unfold f_X4_isInRow_3_s
    rw [hM1.1, if_pos (nle (Nat.le_refl _) (by omega)), if_neg]
    intro z
    obtain ⟨c, hc, h⟩ := pr_t.mp z
    by_cases hpc : p c = 1
    · obtain ⟨s, s1, s2⟩ := (hp c hc).mp hpc
      exact q2 s c s1 (by have := ((hR s).mp s1).1; omega) hc s2 h
    · have := hg0 c hc hpc; omega
end TH
