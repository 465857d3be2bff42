def un (D g : Nat → Nat) : Nat := sm7 (fun b => if g b = D b then 0 else 1)
theorem un_0 {D g : Nat → Nat} (h : un D g = 0) {b : Nat} (hb : b < 7) : g b = D b := by
  by_cases e : g b = D b
  · exact e
  · have := sm7_lt (f := fun _ => 0) (g := fun b => if g b = D b then 0 else 1) (fun _ _ => Nat.zero_le _) hb (by rw [if_neg e]; omega)
    unfold un at h; omega
def NX (n : Nat) (T : Nat → Nat → Nat) (d : Nat → Nat) (b : Nat) (r : Int32) : Prop := (r = -1 ∧ (d b = 0 ∨ d b = 1000)) ∨ (0 < d b ∧ d b < 1000 ∧ ∃ s, s < 2 * n ∧ r = nI s ∧ ow T s = b ∧ T 3 (s / 2) = 1 ∧ d (ow T (fl s)) + T 2 (s / 2) = d b ∧ ∀ t, t < 2 * n → ow T t = b → T 3 (t / 2) = 1 → d (ow T (fl t)) + T 2 (t / 2) = d b → ow T (fl s) ≤ ow T (fl t))
section NS
variable {S M : HSt} {n : Nat} {T : Nat → Nat → Nat} {en : Nat → Int32} {e : Int32} {c : Nat} {D : Nat → Nat}
theorem J_ge (hn : NetWf n T) (hD : IsD n T e D) {g : Nat → Nat} (h : IsJ n T e g) : ∀ (v b : Nat), b < 7 → g b = v → D b ≤ v := by
  intro v
  induction v using Nat.strongRecOn with
  | _ v ih =>
    intro b hb e1
    by_cases h1 : v = 1000
    · rw [h1]; exact hD.1 b hb
    · have := h.1 b hb
      by_cases h2 : v = 0
      · have := (hD.2.1 b hb).mpr ((h.2.1 b hb).mp (by omega)); omega
      · obtain ⟨s, q1, q2, q3, q4⟩ := h.2.2 b hb (by omega) (by omega)
        have hc := (hn.2.1 (s / 2) (by omega)).2.2.1
        have h5 := ih (g (ow T (fl s))) (by omega) _ (ow_lt hn (fl_lt q1)) rfl
        have h6 := hD.2.2.1 s q1 q2
        rw [q3] at h6
        omega
theorem settle (hn : NetWf n T) (hD : IsD n T e D) {g g1 : Nat → Nat} (hJ : IsJ n T e g) (hJ1 : IsJ n T e g1) (hr : ∀ t, t < 2 * n → T 3 (t / 2) = 1 → g1 (ow T t) ≤ g (ow T (fl t)) + T 2 (t / 2)) : ∀ (m v : Nat), v < 7 → D v = m → g v ≠ D v → ∃ u, u < 7 ∧ g u ≠ D u ∧ g1 u = D u := by
  intro m
  induction m using Nat.strongRecOn with
  | _ m ih =>
    intro v hv e1 hne
    have h1 := J_ge hn hD hJ _ v hv rfl
    have h2 := hJ.1 v hv
    have h3 : D v ≠ 0 := fun q => hne (by rw [q]; exact (hJ.2.1 v hv).mpr ((hD.2.1 v hv).mp q))
    obtain ⟨s, q1, q2, q3, q4⟩ := hD.2.2.2 v hv (by omega) h3
    have hc := (hn.2.1 (s / 2) (by omega)).2.2.1
    by_cases h4 : g (ow T (fl s)) = D (ow T (fl s))
    · have h5 := hr s q1 q2
      have h6 := J_ge hn hD hJ1 _ v hv rfl
      rw [q3] at h5
      exact ⟨v, hv, hne, by omega⟩
    · exact ih (D (ow T (fl s))) (by omega) _ (ow_lt hn (fl_lt q1)) rfl h4
theorem un_dec (hn : NetWf n T) (hD : IsD n T e D) {g g1 : Nat → Nat} (hJ : IsJ n T e g) (hJ1 : IsJ n T e g1) (hle : ∀ b, b < 7 → g1 b ≤ g b) (hr : ∀ t, t < 2 * n → T 3 (t / 2) = 1 → g1 (ow T t) ≤ g (ow T (fl t)) + T 2 (t / 2)) {k : Nat} (h : un D g ≤ k) : un D g1 ≤ k - 1 := by
  have mono : ∀ b, b < 7 → (if g1 b = D b then 0 else 1) ≤ (if g b = D b then 0 else 1) := by
    intro b hb
    have h1 := J_ge hn hD hJ1 _ b hb rfl
    have h2 := hle b hb
    split
    · omega
    · split
      · omega
      · omega
  by_cases h0 : un D g = 0
  · have := sm7_le (f := fun b => if g1 b = D b then 0 else 1) (g := fun b => if g b = D b then 0 else 1) mono
    unfold un at h0 ⊢
    omega
  · have hx : ∃ v, v < 7 ∧ g v ≠ D v := by
      by_cases hx : ∃ v, v < 7 ∧ g v ≠ D v
      · exact hx
      · exfalso
        apply h0
        have h9 : ∀ b, b < 7 → g b = D b := fun b hb => by
          by_cases e1 : g b = D b
          · exact e1
          · exact absurd ⟨b, hb, e1⟩ hx
        unfold un sm7
        simp [h9]
    obtain ⟨v, hv, hne⟩ := hx
    obtain ⟨u, hu, q1, q2⟩ := settle hn hD hJ hJ1 hr _ v hv rfl hne
    have := sm7_lt (f := fun b => if g1 b = D b then 0 else 1) (g := fun b => if g b = D b then 0 else 1) mono hu (by rw [if_pos q2, if_neg q1]; omega)
    unfold un at h ⊢
    omega
theorem CF_eq {g : Nat → Nat} (h : CF S c g) (he : ∀ b, b < 7 → g b = D b) : CF S c D := fun b hb => by rw [h b hb, he b hb]
theorem rounds (hn : NetWf n T) (hC : CN S n T en) (hc : c < 4) (hD : IsD n T e D) {g : Nat → Nat} (hF : CF S c g) (hJ : IsJ n T e g) (hB : Bd g) (hu : un D g ≤ 6) (x : Int32) (hx : x = 1 ∨ (x = 0 ∧ ∀ b, b < 7 → g b = D b)) : ∃ S1, f_X1_findWaysOf_59 h_fu S (nI c) x 0 = f_X1_findWaysOf_81 S1 (nI c) ∧ fc c S S1 ∧ CF S1 c D := by
  refine lp_up (fun k (q : HSt × Int32 × Int32) => f_X1_findWaysOf_59 k q.1 (nI c) q.2.1 q.2.2) (fun i q => q.2.2 = nI i ∧ fc c S q.1 ∧ ∃ g, CF q.1 c g ∧ IsJ n T e g ∧ Bd g ∧ un D g ≤ 6 - i ∧ (q.2.1 = 1 ∨ (q.2.1 = 0 ∧ ∀ b, b < 7 → g b = D b))) 7 (fun o => ∃ S1, o = f_X1_findWaysOf_81 S1 (nI c) ∧ fc c S S1 ∧ CF S1 c D) ?_ ?_ h_fu 0 (S, x, 0) (Nat.zero_le _) (by have := fu_big; omega) ⟨rfl, fc_rf _ _, g, hF, hJ, hB, hu, hx⟩
  · rintro k i ⟨S1, x1, y⟩ hi ⟨hy, hf, g1, q1, q2, q3, q4, q5⟩
    dsimp only at hy hf q1 q5
    subst hy
    have e1 : f_X1_findWaysOf_59 (k + 1) S1 (nI c) x1 (nI i) = f_X1_findWaysOf_59_s (f_X1_findWaysOf_59 k) S1 (nI c) x1 (nI i) := rfl
    dsimp only
    rw [e1]
    unfold f_X1_findWaysOf_59_s
    rcases q5 with rfl | ⟨rfl, q5⟩
    · right
      rw [if_neg (by decide), if_neg (show ¬ (7 : Int32) ≤ nI i from ngt (b := 7) hi (by omega))]
      obtain ⟨S2, x2, g2, r1, r2, r3, r4⟩ := sh_spec hn (fc_CN hf hC) hc q1 q2 q3
      obtain ⟨t1, t2, t3, t4, t5⟩ := r4
      rw [r1, bi_s, nI_1]
      refine ⟨(S2, x2, nI (i + 1)), ⟨rfl, fc_tr hf r2, g2, r3, t2, t3, ?_, ?_⟩, rfl⟩
      · have := un_dec hn hD q2 t2 t1 t4 q4; omega
      · rcases t5 with ⟨t5, t6⟩ | t5
        · right
          refine ⟨t5, fun b hb => ?_⟩
          have hD2 : IsD n T e g2 := J_D hn t2 (fun s hs hus => by
            have := t4 s hs hus
            rw [← t6 _ (ow_lt hn (fl_lt hs))] at this
            exact this)
          exact D_uniq hn hD2 hD hb
        · exact Or.inl t5
    · left
      rw [if_pos rfl]
      exact ⟨S1, rfl, hf, CF_eq q1 q5⟩
  · rintro k ⟨S1, x1, y⟩ ⟨hy, hf, g1, q1, q2, q3, q4, q5⟩
    dsimp only at hy hf q1 q5
    subst hy
    have e1 : f_X1_findWaysOf_59 (k + 1) S1 (nI c) x1 (nI 7) = f_X1_findWaysOf_59_s (f_X1_findWaysOf_59 k) S1 (nI c) x1 (nI 7) := rfl
    dsimp only
    rw [e1]
    unfold f_X1_findWaysOf_59_s
    refine ⟨S1, ?_, hf, CF_eq q1 ?_⟩
    · rcases q5 with rfl | ⟨rfl, q5⟩
      · rw [if_neg (by decide), if_pos (by decide)]
      · rw [if_pos rfl]
    · rcases q5 with rfl | ⟨rfl, q5⟩
      · exact fun b hb => un_0 (by omega) hb
      · exact q5
theorem leadsOn_eq (hn : NetWf n T) (hC : CN S n T en) (hc : c < 4) (hF : CF S c D) (hD : IsD n T e D) {s : Nat} (hs : s < 2 * n) (hlt : D (ow T s) < 1000) : f_X1_leadsOn S (nI s) (nI c) = some (if T 3 (s / 2) = 1 ∧ D (ow T (fl s)) + T 2 (s / 2) = D (ow T s) then 1 else 0) := by
  have h12 := hn.1
  have hw := hn.2.1 (s / 2) (by omega)
  have hv := ow_lt hn hs
  have hw7 := ow_lt hn (fl_lt hs)
  have hfl := fl_lt hs
  have j2 := hD.1 _ hw7
  have a1 : nI s ^^^ 1 = nI (fl s) := n_xor s (by omega)
  have a2 : nI s >>> (1 &&& 31) = nI (s / 2) := n_shr1 s (by omega)
  unfold f_X1_leadsOn f_X3_pair
  rw [isUpSide_eq hn hC hs]
  simp (disch := omega) only [a1, a2, ld_n, Option.bind_some, hC.2.1, hC.2.2.1, n_4, pk_mul, nI_add]
  rw [hF _ hv, hF _ hw7]
  by_cases hu : T 3 (s / 2) = 0
  · rw [hu, if_pos (show nI 0 = 0 from rfl), if_neg (by omega)]
  · have hu1 : T 3 (s / 2) = 1 := by omega
    rw [hu1, if_neg (show ¬ nI 1 = 0 by decide)]
    by_cases hb : D (ow T (fl s)) = 1000
    · rw [hb, if_pos (show e9 1000 = -9 from rfl), if_neg (by omega)]
    · rw [e9_n hb, if_neg (nn9 (by omega)), e9_n (by omega), nI_add]
      by_cases h : D (ow T (fl s)) + T 2 (s / 2) = D (ow T s)
      · rw [if_pos (by rw [h]), if_pos ⟨rfl, h⟩]
      · rw [if_neg (by rw [n_eq (by omega) (by omega)]; exact h), if_neg (fun q => h q.2)]
theorem fns_spec (hn : NetWf n T) (hC : CN S n T en) (hc : c < 4) (hF : CF S c D) (hD : IsD n T (en c) D) {b : Nat} (hb : b < 7) : ∃ r, f_X1_findNextSide S (nI b) (nI c) = some r ∧ NX n T D b r := by
  have h12 := hn.1
  unfold f_X1_findNextSide f_X3_pair
  simp (disch := omega) only [ld_n, Option.bind_some, hC.2.2.2.2, n_4, pk_mul, nI_add]
  by_cases he : nI b = en c
  · rw [if_pos he]
    exact ⟨-1, rfl, Or.inl ⟨rfl, Or.inl ((hD.2.1 b hb).mpr he.symm)⟩⟩
  · rw [if_neg he, hF b hb]
    have h0 : D b ≠ 0 := fun q => he ((hD.2.1 b hb).mp q).symm
    by_cases h1 : D b = 1000
    · rw [h1, if_pos (show e9 1000 = -9 from rfl)]
      exact ⟨-1, rfl, Or.inl ⟨rfl, Or.inr h1⟩⟩
    · have hle := hD.1 b hb
      rw [e9_n h1, if_neg (nn9 (by omega))]
      obtain ⟨s0, p1, p2, p3, p4⟩ := hD.2.2.2 b hb (by omega) h0
      refine lp_up (fun k (q : Int32 × Int32) => f_X1_findNextSide_32 S k (nI b) (nI c) q.1 q.2) (fun i q => q.2 = nI i ∧ ((q.1 = -1 ∧ ∀ t, t < i → ow T t = b → T 3 (t / 2) = 1 → D (ow T (fl t)) + T 2 (t / 2) ≠ D b) ∨ ∃ s, s < i ∧ q.1 = nI s ∧ ow T s = b ∧ T 3 (s / 2) = 1 ∧ D (ow T (fl s)) + T 2 (s / 2) = D b ∧ ∀ t, t < i → ow T t = b → T 3 (t / 2) = 1 → D (ow T (fl t)) + T 2 (t / 2) = D b → ow T (fl s) ≤ ow T (fl t))) (2 * n) (fun o => ∃ r, o = some r ∧ NX n T D b r) ?_ ?_ h_fu 0 (-1, 0) (Nat.zero_le _) (by have := fu_big; omega) ⟨rfl, Or.inl ⟨rfl, fun t ht => by omega⟩⟩
      · rintro k i ⟨x, y⟩ hi ⟨hy, hx⟩
        dsimp only at hy hx
        subst hy
        right
        have e1 : f_X1_findNextSide_32 S (k + 1) (nI b) (nI c) x (nI i) = f_X1_findNextSide_32_s S (f_X1_findNextSide_32 S k) (nI b) (nI c) x (nI i) := rfl
        dsimp only
        rw [e1]
        unfold f_X1_findNextSide_32_s f_X1_findNextSide_92 f_X1_findNextSide_89 f_X1_findNextSide_92
        rw [hC.1, if_neg (show ¬ (2 * nI n) ≤ nI i by rw [n_2, pk_mul]; exact ngt hi (by omega))]
        have a1 : nI i ^^^ 1 = nI (fl i) := n_xor i (by omega)
        have hoi := ow_lt hn hi
        have hfi := ow_lt hn (fl_lt hi)
        have hfl := fl_lt hi
        simp (disch := omega) only [a1, ld_n, Option.bind_some, hC.2.1, nI_1]
        have keep : (ow T i = b → T 3 (i / 2) = 1 → D (ow T (fl i)) + T 2 (i / 2) = D b → False) → ∃ s' : Int32 × Int32, (s'.2 = nI (i + 1) ∧ ((s'.1 = -1 ∧ ∀ t, t < i + 1 → ow T t = b → T 3 (t / 2) = 1 → D (ow T (fl t)) + T 2 (t / 2) ≠ D b) ∨ ∃ s, s < i + 1 ∧ s'.1 = nI s ∧ ow T s = b ∧ T 3 (s / 2) = 1 ∧ D (ow T (fl s)) + T 2 (s / 2) = D b ∧ ∀ t, t < i + 1 → ow T t = b → T 3 (t / 2) = 1 → D (ow T (fl t)) + T 2 (t / 2) = D b → ow T (fl s) ≤ ow T (fl t))) ∧ f_X1_findNextSide_32 S k (nI b) (nI c) x (nI (i + 1)) = f_X1_findNextSide_32 S k (nI b) (nI c) s'.1 s'.2 := by
          intro hno
          refine ⟨(x, nI (i + 1)), ⟨rfl, ?_⟩, rfl⟩
          rcases hx with ⟨hx1, hx2⟩ | ⟨s, z1, z2, z3, z4, z5, z6⟩
          · refine Or.inl ⟨hx1, fun t ht t1 t2 t3 => ?_⟩
            by_cases e2 : t = i
            · subst e2; exact hno t1 t2 t3
            · exact hx2 t (by omega) t1 t2 t3
          · refine Or.inr ⟨s, by omega, z2, z3, z4, z5, fun t ht t1 t2 t3 => ?_⟩
            by_cases e2 : t = i
            · subst e2; exact (hno t1 t2 t3).elim
            · exact z6 t (by omega) t1 t2 t3
        by_cases ho : ow T i = b
        · rw [if_pos (by rw [ho]), leadsOn_eq hn hC hc hF hD hi (by rw [ho]; omega), Option.bind_some]
          by_cases hl : T 3 (i / 2) = 1 ∧ D (ow T (fl i)) + T 2 (i / 2) = D (ow T i)
          · rw [if_pos hl, if_neg (show ¬ (1 : Int32) = 0 by decide)]
            have hl2 := hl.2
            rw [ho] at hl2
            have take : (∀ t, t < i → ow T t = b → T 3 (t / 2) = 1 → D (ow T (fl t)) + T 2 (t / 2) = D b → ow T (fl i) ≤ ow T (fl t)) → ∃ s' : Int32 × Int32, (s'.2 = nI (i + 1) ∧ ((s'.1 = -1 ∧ ∀ t, t < i + 1 → ow T t = b → T 3 (t / 2) = 1 → D (ow T (fl t)) + T 2 (t / 2) ≠ D b) ∨ ∃ s, s < i + 1 ∧ s'.1 = nI s ∧ ow T s = b ∧ T 3 (s / 2) = 1 ∧ D (ow T (fl s)) + T 2 (s / 2) = D b ∧ ∀ t, t < i + 1 → ow T t = b → T 3 (t / 2) = 1 → D (ow T (fl t)) + T 2 (t / 2) = D b → ow T (fl s) ≤ ow T (fl t))) ∧ f_X1_findNextSide_32 S k (nI b) (nI c) (nI i) (nI (i + 1)) = f_X1_findNextSide_32 S k (nI b) (nI c) s'.1 s'.2 := by
              intro hmin
              refine ⟨(nI i, nI (i + 1)), ⟨rfl, Or.inr ⟨i, by omega, rfl, ho, hl.1, hl2, fun t ht t1 t2 t3 => ?_⟩⟩, rfl⟩
              by_cases e2 : t = i
              · subst e2; exact Nat.le_refl _
              · exact hmin t (by omega) t1 t2 t3
            rcases hx with ⟨hx1, hx2⟩ | ⟨s, z1, z2, z3, z4, z5, z6⟩
            · rw [if_pos hx1]
              exact take (fun t ht t1 t2 t3 => absurd t3 (hx2 t ht t1 t2))
            · have a3 : nI s ^^^ 1 = nI (fl s) := n_xor s (by omega)
              have hfs := fl_lt (s := s) (n := n) (by omega)
              have hos := ow_lt hn hfs
              rw [z2, if_neg (nn1 (by omega)), a3, ld_n _ _ (by omega) (by omega), Option.bind_some, hC.2.1 _ hfs]
              by_cases hcmp : ow T (fl s) ≤ ow T (fl i)
              · rw [if_pos (nle hcmp (by omega))]
                rw [← z2]
                refine ⟨(x, nI (i + 1)), ⟨rfl, Or.inr ⟨s, by omega, z2, z3, z4, z5, fun t ht t1 t2 t3 => ?_⟩⟩, rfl⟩
                by_cases e2 : t = i
                · subst e2; exact hcmp
                · exact z6 t (by omega) t1 t2 t3
              · rw [if_neg (ngt (by omega) (by omega))]
                exact take (fun t ht t1 t2 t3 => by have := z6 t ht t1 t2 t3; omega)
          · rw [if_neg hl, if_pos rfl]
            exact keep (fun t1 t2 t3 => hl ⟨t2, by rw [t1]; exact t3⟩)
        · rw [if_neg (by rw [n_eq (by omega) (by omega)]; exact ho)]
          exact keep (fun t1 _ _ => ho t1)
      · rintro k ⟨x, y⟩ ⟨hy, hx⟩
        dsimp only at hy hx
        subst hy
        show ∃ r, f_X1_findNextSide_32_s S (f_X1_findNextSide_32 S k) (nI b) (nI c) x (nI (2 * n)) = some r ∧ NX n T D b r
        unfold f_X1_findNextSide_32_s
        rw [hC.1, if_pos (show (2 * nI n) ≤ nI (2 * n) by rw [n_2, pk_mul]; exact nle (Nat.le_refl _) (by omega))]
        refine ⟨x, rfl, ?_⟩
        rcases hx with ⟨hx1, hx2⟩ | ⟨s, z1, z2, z3, z4, z5, z6⟩
        · exact absurd p4 (hx2 s0 p1 p3 p2)
        · exact Or.inr ⟨by omega, by omega, s, z1, z2, z3, z4, z5, z6⟩
end NS
