/-! LABELS of one BOX -/
section TB
variable {S M M1 S1 : HSt} {n : Nat} {T : Nat → Nat → Nat} {en : Nat → Int32} {md : Nat → Nat} {od lm : Nat} {hl hk : Nat → Nat → Nat} {cn : Nat → Nat → Nat} {b : Nat}
theorem rowP_ex (R : Nat → Prop) (hlk : ∀ s c, R s → c < 4 → LOk (hl s c)) (hu : ∀ s t c, R s → R t → c < 4 → 16 ≤ hl s c → 16 ≤ hl t c → hl s c = hl t c) : ∃ x : (Nat → Nat) × (Nat → Nat) × (Nat → Nat), RowP S T md cn hl en b R x.1 x.2.1 x.2.2 := by
  classical
  have hw : ∀ c, ∃ u, c < 4 → (u = 0 ∨ (16 ≤ u ∧ u ≤ 19 ∧ ∃ s, R s ∧ hl s c = u)) ∧ ∀ s, R s → 16 ≤ hl s c → hl s c = u := by
    intro c
    by_cases hc : c < 4
    · by_cases h : ∃ s, R s ∧ 16 ≤ hl s c
      · obtain ⟨s, s1, s2⟩ := h
        have := LOk_lt (hlk s c s1 hc)
        exact ⟨hl s c, fun _ => ⟨Or.inr ⟨s2, by omega, s, s1, rfl⟩, fun t ht h2 => hu t s c ht s1 hc h2 s2⟩⟩
      · exact ⟨0, fun _ => ⟨Or.inl rfl, fun t ht h2 => absurd ⟨t, ht, h2⟩ h⟩⟩
    · exact ⟨0, fun h => absurd h hc⟩
  obtain ⟨w, hw⟩ := Classical.axiomOfChoice hw
  refine ⟨(fun c => if (∃ s, R s ∧ gz S T md cn s c = 1) then 1 else 0, fun c => if (en c = nI b ∧ md (b * 4 + 3) = 1) then 1 else 0, w), fun c hc => ?_, fun c hc => ?_, fun c hc => hw c hc⟩
  · dsimp only
    by_cases h : ∃ s, R s ∧ gz S T md cn s c = 1
    · rw [if_pos h]; exact ⟨fun _ => h, fun _ => rfl⟩
    · rw [if_neg h]; exact ⟨fun z => absurd z (by decide), fun z => absurd z h⟩
  · dsimp only
    by_cases h : en c = nI b ∧ md (b * 4 + 3) = 1
    · rw [if_pos h]; exact ⟨by omega, fun _ => h, fun _ => rfl⟩
    · rw [if_neg h]; exact ⟨by omega, fun z => absurd z (by decide), fun z => absurd z h⟩
/-- both sides' answers for one BOX -/
def BoxR (S : HSt) (n : Nat) (T : Nat → Nat → Nat) (md : Nat → Nat) (cn : Nat → Nat → Nat) (b : Nat) (S1 S' M1 M' : HSt) (g : Nat → Nat → Nat) : Prop :=
  fr [9, 11] S1 S' ∧ (∀ s c, s < 2 * n → ow T s = b → c < 4 → S'.2 9 (s * 4 + c) = nI (sl (if gz S T md cn s c = 1 then g s c else 0) (cn b c))) ∧ (∀ s c, s < 2 * n → ow T s ≠ b → c < 4 → S'.2 9 (s * 4 + c) = S1.2 9 (s * 4 + c)) ∧
  fr [8, 9] M1 M' ∧ (∀ s c, s < 2 * n → ow T s = b → c < 4 → M'.2 8 (4 * (12 * b + s / 2) + c) = nI (if gz S T md cn s c = 1 then g s c else 0) ∧ (gz S T md cn s c = 1 → M'.2 9 (4 * (12 * b + s / 2) + c) = nI (cn b c))) ∧ (∀ x, (∀ s c, s < 2 * n → ow T s = b → c < 4 → x ≠ 4 * (12 * b + s / 2) + c) → M'.2 8 x = M1.2 8 x ∧ M'.2 9 x = M1.2 9 x) ∧
  (∀ s c, s < 2 * n → ow T s = b → c < 4 → LOk (g s c) ∧ (gz S T md cn s c = 1 → g s c ≠ 0)) ∧ (md (b * 4 + 2) = 0 → ∀ s t c, g s c = g t c)
theorem box_spec (hn : NetWf n T) (hC : CN S1 n T en) (hD : MD S1 M1 md od lm) (hDS : MD S M1 md od lm) (hM : MN M1 n T en) (hN : NN S M1 n T cn 28) (hcn : ∀ b c, b < 7 → c < 4 → cn b c = 99 ∨ cn b c ≤ 9) (hH : ∀ s c, s < 2 * n → c < 4 → LOk (hl s c) ∧ hk s c ≤ 9 ∧ S1.2 6 (s * 4 + c) = nI (sl (hl s c) (hk s c))) (hRw : Row n T md hl) (hb : b < 7) (h9 : ∀ s c, s < 2 * n → ow T s = b → c < 4 → S1.2 9 (s * 4 + c) = nI (hd S T md cn s c)) (hO : ∀ l c, l < n → c < 4 → (∃ s, s < 2 * n ∧ ow T s = b ∧ s / 2 = l ∧ M1.2 12 (4 * (12 * b + l) + c) = nI (hl s c)) ∨ ((∀ s, s < 2 * n → ow T s = b → s / 2 ≠ l) ∧ M1.2 12 (4 * (12 * b + l) + c) = 0)) (hz : ∀ l c, l < 12 → c < 4 → M1.2 8 (4 * (12 * b + l) + c) = 0) : ∃ S' M' g, f_X0_fillRows S1 (nI b) = some S' ∧ f_X4_handsAll M1 (nI b) = some M' ∧ BoxR S n T md cn b S1 S' M1 M' g := by
  have h12 := hn.1
  have hlt : ∀ s c, s < 2 * n → c < 4 → hl s c < 20 := fun s c hs hc => LOk_lt (hH s c hs hc).1
  have hm2 := (hD.1 (b * 4 + 2) (by omega)).1
  unfold f_X0_fillRows f_X4_handsAll
  rw [show (2 : Int32) = nI 2 from rfl, has_eq hD hb (by omega), is_eq hD hb (by omega), Option.bind_some, Option.bind_some]
  have key : ∀ {p e w : Nat → Nat} {R : Nat → Prop}, RowP S T md cn hl en b R p e w → (∀ c, c < 4 → LOk (Gs p e w 4 c)) ∧ ∀ s c, R s → c < 4 → gz S T md cn s c = 1 → Gs p e w 4 c ≠ 0 := by
    intro p e w R hP
    refine ⟨Gs_ok (fun c hc => ?_) 4, fun s c hs hc hg => Gs_nz (hP.2.1 c hc).1 ((hP.1 c hc).mpr ⟨s, hs, hg⟩) 4 hc⟩
    rcases (hP.2.2 c hc).1 with z | ⟨z1, z2, -⟩
    · exact Or.inl z
    · exact Or.inr ⟨z1, z2⟩
  by_cases hm : md (b * 4 + 2) = 0
  · rw [hm, if_pos (show nI 0 = 0 from rfl), if_pos (show nI 0 = 0 from rfl)]
    obtain ⟨⟨p, e, w⟩, hP⟩ := rowP_ex (S := S) (T := T) (md := md) (cn := cn) (hl := hl) (en := en) (b := b) (fun s => s < 2 * n ∧ ow T s = b) (fun s c hs hc => (hH s c hs.1 hc).1) (fun s t c hs ht hc h1 h2 => hRw s t c hs.1 ht.1 hc (by rw [hs.2, ht.2]) (by rw [hs.2]; exact hm) h1 h2)
    dsimp only at hP
    obtain ⟨k1, k2⟩ := key hP
    obtain ⟨S', c1, c2, c3, c4⟩ := fillRow_spec (S := S) (fm := 0) (tt := 2 * n) hn hC hD hcn hH hb (Nat.le_refl _) (Nat.zero_le _) (R := fun s => s < 2 * n ∧ ow T s = b) (fun s => ⟨fun h => ⟨h.1, h.2, Nat.zero_le _, h.1⟩, fun h => ⟨h.1, h.2.1⟩⟩) (fun s c hs hc => h9 s c hs.1 hs.2 hc) hP
    obtain ⟨M', m1, m2⟩ := handsRow_spec (S := S) (x2 := -9) hn hM hDS hN hcn hb (R := fun s => s < 2 * n ∧ ow T s = b) (fun s => ⟨fun h => ⟨h.1, h.2, Or.inl rfl⟩, fun h => ⟨h.1, h.2.1⟩⟩) hO hlt (fun l c hl hc _ => hz l c hl hc) hP
    rw [hC.1, show (nI 2 * nI n : Int32) = nI (2 * n) from pk_mul _ _, show (0 : Int32) = nI 0 from rfl, c1, m1, Option.bind_some, Option.bind_some]
    refine ⟨S', M', fun _ c => Gs p e w 4 c, rfl, rfl, c2, fun s c hs ho hc => c3 s c ⟨hs, ho⟩ hc, fun s c hs ho hc => c4 s c hs (fun h => ho h.2) hc, m2.1, fun s c hs ho hc => ?_, fun x hx => m2.2.2 x (fun s c hs hc => hx s c hs.1 hs.2 hc), fun s c hs ho hc => ⟨k1 c hc, fun hg => k2 s c ⟨hs, ho⟩ hc hg⟩, fun _ _ _ _ => rfl⟩
    obtain ⟨a1, a2⟩ := m2.2.1 s c ⟨hs, ho⟩ hc
    exact ⟨a1, fun hg => a2 hg (k2 s c ⟨hs, ho⟩ hc hg)⟩
  · have hm1 : md (b * 4 + 2) = 1 := by omega
    rw [hm1, if_neg (show ¬ nI 1 = 0 by decide), if_neg (show ¬ nI 1 = 0 by decide)]
    have hex : ∀ s, ∃ x : (Nat → Nat) × (Nat → Nat) × (Nat → Nat), RowP S T md cn hl en b (fun t => t < 2 * n ∧ ow T t = b ∧ t = s) x.1 x.2.1 x.2.2 := fun s => rowP_ex (fun t => t < 2 * n ∧ ow T t = b ∧ t = s) (fun s c hs hc => (hH s c hs.1 hc).1) (fun u t c hu ht hc h1 h2 => by rw [hu.2.2, ht.2.2])
    obtain ⟨f, hf⟩ := Classical.axiomOfChoice hex
    have hcl : ∃ S', f_X0_fillRows_27 h_fu S1 (nI b) 0 = some S' ∧ fr [9, 11] S1 S' ∧ (∀ s c, s < 2 * n → ow T s = b → c < 4 → S'.2 9 (s * 4 + c) = nI (sl (if gz S T md cn s c = 1 then Gs (f s).1 (f s).2.1 (f s).2.2 4 c else 0) (cn b c))) ∧ (∀ s c, s < 2 * n → ow T s ≠ b → c < 4 → S'.2 9 (s * 4 + c) = S1.2 9 (s * 4 + c)) := by
      refine lp_up (fun k (q : HSt × Int32) => f_X0_fillRows_27 k q.1 (nI b) q.2) (fun i q => q.2 = nI i ∧ fr [9, 11] S1 q.1 ∧ (∀ s c, s < i → ow T s = b → c < 4 → q.1.2 9 (s * 4 + c) = nI (sl (if gz S T md cn s c = 1 then Gs (f s).1 (f s).2.1 (f s).2.2 4 c else 0) (cn b c))) ∧ (∀ s c, s < 2 * n → ¬ (s < i ∧ ow T s = b) → c < 4 → q.1.2 9 (s * 4 + c) = S1.2 9 (s * 4 + c))) (2 * n) (fun o => ∃ S', o = some S' ∧ fr [9, 11] S1 S' ∧ (∀ s c, s < 2 * n → ow T s = b → c < 4 → S'.2 9 (s * 4 + c) = nI (sl (if gz S T md cn s c = 1 then Gs (f s).1 (f s).2.1 (f s).2.2 4 c else 0) (cn b c))) ∧ (∀ s c, s < 2 * n → ow T s ≠ b → c < 4 → S'.2 9 (s * 4 + c) = S1.2 9 (s * 4 + c))) ?_ ?_ h_fu 0 (S1, 0) (Nat.zero_le _) (by have := fu_big; omega) ⟨rfl, fr_rf _ _, fun s c h => by omega, fun s c _ _ _ => rfl⟩
      · rintro k i ⟨S2, x⟩ hi ⟨q1, q2, q3, q4⟩
        dsimp only at q1 q2 q3 q4
        subst q1
        right
        have e1 : f_X0_fillRows_27 (k + 1) S2 (nI b) (nI i) = f_X0_fillRows_27_s (f_X0_fillRows_27 k) S2 (nI b) (nI i) := rfl
        dsimp only
        rw [e1]
        unfold f_X0_fillRows_27_s f_X0_fillRows_62
        have hC2 := fr_CN q2 (by decide) hC
        have hD2 : MD S2 M1 md od lm := MD_fr hD (by rw [q2.1]) (by rw [q2.1]) (q2.2 8 (by decide)) rfl rfl
        have hoi := ow_lt hn hi
        rw [hC2.1, if_neg (show ¬ (2 * nI n) ≤ nI i by rw [n_2, pk_mul]; exact ngt hi (by omega)), ld_n _ _ (by omega) (by omega), Option.bind_some, hC2.2.1 i hi, nI_1]
        by_cases ho : ow T i = b
        · obtain ⟨S', c1, c2, c3, c4⟩ := fillRow_spec (S := S) (fm := i) (tt := i + 1) (S1 := S2) hn hC2 hD2 hcn (by rw [q2.2 6 (by decide)]; exact hH) hb (by omega) (by omega) (R := fun t => t < 2 * n ∧ ow T t = b ∧ t = i) (fun s => ⟨fun h => ⟨h.1, h.2.1, by omega, by omega⟩, fun h => ⟨h.1, h.2.1, by omega⟩⟩) (fun s c hs hc => by rw [q4 s c hs.1 (by omega) hc]; exact h9 s c hs.1 hs.2.1 hc) (hf i)
          rw [if_pos (by rw [ho]), c1, Option.bind_some]
          refine ⟨(S', nI (i + 1)), ⟨rfl, fr_tr q2 c2, fun s c hs hos hc => ?_, fun s c hs h hc => ?_⟩, rfl⟩
          · dsimp only
            by_cases z : s = i
            · rw [z]; exact c3 i c ⟨hi, ho, rfl⟩ hc
            · rw [c4 s c (by omega) (fun y => z y.2.2) hc]; exact q3 s c (by omega) hos hc
          · dsimp only
            rw [c4 s c hs (fun y => h ⟨by omega, y.2.1⟩) hc]
            exact q4 s c hs (fun y => h ⟨by omega, y.2⟩) hc
        · rw [if_neg (by rw [n_eq (by omega) (by omega)]; exact ho)]
          refine ⟨(S2, nI (i + 1)), ⟨rfl, q2, fun s c hs hos hc => ?_, fun s c hs h hc => ?_⟩, rfl⟩
          · have : s ≠ i := fun z => ho (z ▸ hos)
            exact q3 s c (by omega) hos hc
          · exact q4 s c hs (fun y => h ⟨by omega, y.2⟩) hc
      · rintro k ⟨S2, x⟩ ⟨q1, q2, q3, q4⟩
        dsimp only at q1 q2 q3 q4
        subst q1
        refine ⟨S2, ?_, q2, q3, fun s c hs h hc => q4 s c hs (fun y => h y.2) hc⟩
        show f_X0_fillRows_27_s (f_X0_fillRows_27 k) S2 (nI b) (nI (2 * n)) = _
        unfold f_X0_fillRows_27_s
        rw [(fr_CN q2 (by decide) hC).1, if_pos (show (2 * nI n) ≤ nI (2 * n) by rw [n_2, pk_mul]; exact nle (Nat.le_refl _) (by omega))]
    have hml : ∃ M', f_X4_handsAll_19 h_fu M1 (nI b) 0 = some M' ∧ fr [8, 9] M1 M' ∧ (∀ s c, s < 2 * n → ow T s = b → c < 4 → M'.2 8 (4 * (12 * b + s / 2) + c) = nI (if gz S T md cn s c = 1 then Gs (f s).1 (f s).2.1 (f s).2.2 4 c else 0) ∧ (gz S T md cn s c = 1 → M'.2 9 (4 * (12 * b + s / 2) + c) = nI (cn b c))) ∧ (∀ x, (∀ s c, s < 2 * n → ow T s = b → c < 4 → x ≠ 4 * (12 * b + s / 2) + c) → M'.2 8 x = M1.2 8 x ∧ M'.2 9 x = M1.2 9 x) := by
      refine lp_up (fun k (q : HSt × Int32) => f_X4_handsAll_19 k q.1 (nI b) q.2) (fun i q => q.2 = nI i ∧ fr [8, 9] M1 q.1 ∧ (∀ s c, s < 2 * n → s / 2 < i → ow T s = b → c < 4 → q.1.2 8 (4 * (12 * b + s / 2) + c) = nI (if gz S T md cn s c = 1 then Gs (f s).1 (f s).2.1 (f s).2.2 4 c else 0) ∧ (gz S T md cn s c = 1 → q.1.2 9 (4 * (12 * b + s / 2) + c) = nI (cn b c))) ∧ (∀ x, (∀ s c, s < 2 * n → s / 2 < i → ow T s = b → c < 4 → x ≠ 4 * (12 * b + s / 2) + c) → q.1.2 8 x = M1.2 8 x ∧ q.1.2 9 x = M1.2 9 x)) n (fun o => ∃ M', o = some M' ∧ fr [8, 9] M1 M' ∧ (∀ s c, s < 2 * n → ow T s = b → c < 4 → M'.2 8 (4 * (12 * b + s / 2) + c) = nI (if gz S T md cn s c = 1 then Gs (f s).1 (f s).2.1 (f s).2.2 4 c else 0) ∧ (gz S T md cn s c = 1 → M'.2 9 (4 * (12 * b + s / 2) + c) = nI (cn b c))) ∧ (∀ x, (∀ s c, s < 2 * n → ow T s = b → c < 4 → x ≠ 4 * (12 * b + s / 2) + c) → M'.2 8 x = M1.2 8 x ∧ M'.2 9 x = M1.2 9 x)) ?_ ?_ h_fu 0 (M1, 0) (Nat.zero_le _) (by have := fu_big; omega) ⟨rfl, fr_rf _ _, fun s c _ h => by omega, fun x _ => ⟨rfl, rfl⟩⟩
      · rintro k i ⟨M2, x⟩ hi ⟨q1, q2, q3, q4⟩
        dsimp only at q1 q2 q3 q4
        subst q1
        right
        have e1 : f_X4_handsAll_19 (k + 1) M2 (nI b) (nI i) = f_X4_handsAll_19_s (f_X4_handsAll_19 k) M2 (nI b) (nI i) := rfl
        dsimp only
        rw [e1]
        unfold f_X4_handsAll_19_s
        have hM2 := fr_MN q2 (by decide) hM
        have hD2 : MD S M2 md od lm := MD_fr hDS rfl rfl rfl (q2.2 6 (by decide)) (q2.2 7 (by decide))
        have hN2 : NN S M2 n T cn 28 := by
          unfold NN
          rw [q2.2 16 (by decide), q2.2 17 (by decide)]; exact hN
        rw [hM2.1, if_neg (ngt hi (by omega)), nI_1]
        have hsd : ∃ u, ∀ s, (s < 2 * n ∧ ow T s = b ∧ s = u) ↔ s < 2 * n ∧ ow T s = b ∧ (nI i = -9 ∨ nI i = nI (s / 2)) := by
          by_cases h : ∃ s, s < 2 * n ∧ ow T s = b ∧ s / 2 = i
          · obtain ⟨u, u1, u2, u3⟩ := h
            refine ⟨u, fun s => ⟨fun z => ⟨z.1, z.2.1, Or.inr (by rw [z.2.2, u3])⟩, fun z => ⟨z.1, z.2.1, ?_⟩⟩⟩
            rcases z.2.2 with y | y
            · exact absurd y (nn9 (by omega))
            · rw [n_eq (by omega) (by omega)] at y
              exact side_1 hn z.1 u1 (by rw [z.2.1, u2]) (by omega)
          · refine ⟨2 * n, fun s => ⟨fun z => by omega, fun z => ?_⟩⟩
            rcases z.2.2 with y | y
            · exact absurd y (nn9 (by omega))
            · rw [n_eq (by omega) (by omega)] at y
              exact absurd ⟨s, z.1, z.2.1, y.symm⟩ h
        obtain ⟨u, hu⟩ := hsd
        obtain ⟨k1, k2⟩ := key (hf u)
        obtain ⟨M', m1, m2⟩ := handsRow_spec (S := S) (x2 := nI i) hn hM2 hD2 hN2 hcn hb (R := fun s => s < 2 * n ∧ ow T s = b ∧ s = u) hu (by rw [q2.2 12 (by decide)]; exact hO) hlt (fun l c hl hc h => by
          rw [(q4 _ (fun s d hs hsi hos hd z => ?_)).1]
          · exact hz l c hl hc
          · rcases h with y | y
            · exact absurd y (nn9 (by omega))
            · rw [n_eq (by omega) (by omega)] at y
              omega) (hf u)
        rw [m1, Option.bind_some]
        refine ⟨(M', nI (i + 1)), ⟨rfl, fr_tr q2 m2.1, fun s c hs hsi hos hc => ?_, fun x hx => ?_⟩, rfl⟩
        · dsimp only
          by_cases z : s / 2 = i
          · have hsu : s = u := ((hu s).mpr ⟨hs, hos, Or.inr (by rw [z])⟩).2.2
            obtain ⟨a1, a2⟩ := m2.2.1 s c ⟨hs, hos, hsu⟩ hc
            rw [hsu] at a1 a2 ⊢
            exact ⟨a1, fun hg => a2 hg (k2 u c ⟨by omega, by rw [← hsu]; exact hos, rfl⟩ hc hg)⟩
          · rw [(m2.2.2 _ (fun t d ht hd y => ?_)).1, (m2.2.2 _ (fun t d ht hd y => ?_)).2]
            · exact q3 s c hs (by omega) hos hc
            · have hst : s = t := side_1 hn hs ht.1 (by rw [hos, ht.2.1]) (by omega)
              have := (hu t).mp ht
              rcases this.2.2 with v | v
              · exact nn9 (by omega) v
              · rw [n_eq (by omega) (by omega)] at v; omega
            · have hst : s = t := side_1 hn hs ht.1 (by rw [hos, ht.2.1]) (by omega)
              have := (hu t).mp ht
              rcases this.2.2 with v | v
              · exact nn9 (by omega) v
              · rw [n_eq (by omega) (by omega)] at v; omega
        · dsimp only
          have hA : ∀ t d, (t < 2 * n ∧ ow T t = b ∧ t = u) → d < 4 → x ≠ 4 * (12 * b + t / 2) + d := by
            intro t d ht hd
            have := (hu t).mp ht
            rcases this.2.2 with v | v
            · exact absurd v (nn9 (by omega))
            · rw [n_eq (by omega) (by omega)] at v
              exact hx t d ht.1 (by omega) ht.2.1 hd
          obtain ⟨b1, b2⟩ := m2.2.2 x hA
          rw [b1, b2]
          exact q4 x (fun t d ht hti hot hd => hx t d ht (by omega) hot hd)
      · rintro k ⟨M2, x⟩ ⟨q1, q2, q3, q4⟩
        dsimp only at q1 q2 q3 q4
        subst q1
        refine ⟨M2, ?_, q2, fun s c hs => q3 s c hs (by omega), fun x hx => q4 x (fun s c hs _ => hx s c hs)⟩
        show f_X4_handsAll_19_s (f_X4_handsAll_19 k) M2 (nI b) (nI n) = _
        unfold f_X4_handsAll_19_s
        rw [(fr_MN q2 (by decide) hM).1, if_pos (nle (Nat.le_refl _) (by omega))]
    obtain ⟨S', c1, c2, c3, c4⟩ := hcl
    obtain ⟨M', m1, m2, m3, m4⟩ := hml
    refine ⟨S', M', fun s c => Gs (f s).1 (f s).2.1 (f s).2.2 4 c, c1, m1, c2, c3, c4, m2, m3, m4, fun s c hs ho hc => ⟨(key (hf s)).1 c hc, fun hg => (key (hf s)).2 s c ⟨hs, ho, rfl⟩ hc hg⟩, fun z => absurd z hm⟩
end TB
