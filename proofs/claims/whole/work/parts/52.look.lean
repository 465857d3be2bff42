/-! looking links up -/
def jn (T : Nat → Nat → Nat) (l a b : Nat) : Prop := (T 0 l = a ∧ T 1 l = b) ∨ (T 0 l = b ∧ T 1 l = a)
theorem nn1 {a : Nat} (h : a < 2147483648) : ¬ nI a = -1 := n_neg (-1) (by decide) h
theorem nn9 {a : Nat} (h : a < 2147483648) : ¬ nI a = -9 := n_neg (-9) (by decide) h
theorem ngt {a b : Nat} (h : a < b) (hb : b < 2147483648) : ¬ nI b ≤ nI a := nI_ge h (by omega)
theorem nle {a b : Nat} (h : a ≤ b) (hb : b < 2147483648) : nI a ≤ nI b := nI_le h (by omega)
section LK
variable {S M : HSt} {n : Nat} {T : Nat → Nat → Nat} {en : Nat → Int32}
theorem lb_spec (hn : NetWf n T) (hM : MN M n T en) {a b : Nat} (ha : a < 7) (hb : b < 7) : (∃ l, l < n ∧ jn T l a b ∧ f_X4_linkBetween M (nI a) (nI b) = some (nI l)) ∨ ((∀ l, l < n → ¬ jn T l a b) ∧ f_X4_linkBetween M (nI a) (nI b) = some (-9)) := by
  have h12 := hn.1
  unfold f_X4_linkBetween
  refine lp_up (fun k x => f_X4_linkBetween_2 M k (nI a) (nI b) x) (fun i x => x = nI i ∧ ∀ l, l < i → ¬ jn T l a b) n (fun o => (∃ l, l < n ∧ jn T l a b ∧ o = some (nI l)) ∨ ((∀ l, l < n → ¬ jn T l a b) ∧ o = some (-9))) ?_ ?_ h_fu 0 0 (Nat.zero_le _) (by have := fu_big; omega) ⟨rfl, by intro l h; omega⟩
  · rintro k i x hi ⟨rfl, hI⟩
    have hw := hn.2.1 i hi
    have e : f_X4_linkBetween_2 M (k + 1) (nI a) (nI b) (nI i) = f_X4_linkBetween_2_s M (f_X4_linkBetween_2 M k) (nI a) (nI b) (nI i) := rfl
    rw [e]
    unfold f_X4_linkBetween_2_s f_X4_linkBetween_30 f_X4_linkBetween_52
    rw [hM.1]
    simp (disch := omega) only [n_1, nI_add, n_le, n_eq, ld_n, Option.bind_some, hM.2.1, hM.2.2.1]
    rw [if_neg (by omega)]
    by_cases hj : jn T i a b
    · left; left
      refine ⟨i, hi, hj, ?_⟩
      rcases hj with ⟨h1, h2⟩ | ⟨h1, h2⟩
      · rw [if_pos h1, if_pos h2]
      · rw [if_neg (by omega), if_pos h1, if_pos h2]
    · right
      refine ⟨nI (i + 1), ⟨rfl, lt_s hI hj⟩, ?_⟩
      unfold jn at hj
      (repeat' split) <;> first | rfl | (exfalso; omega)
  · rintro k x ⟨rfl, hI⟩
    right
    refine ⟨hI, ?_⟩
    show f_X4_linkBetween_2_s M (f_X4_linkBetween_2 M k) (nI a) (nI b) (nI n) = _
    unfold f_X4_linkBetween_2_s
    rw [hM.1, if_pos (by rw [n_le (by omega) (by omega)]; omega)]
/-- by sides -/
theorem lb_side (hn : NetWf n T) (hM : MN M n T en) {a b : Nat} (ha : a < 7) (hb : b < 7) : (∃ s, s < 2 * n ∧ ow T s = a ∧ ow T (fl s) = b ∧ f_X4_linkBetween M (nI a) (nI b) = some (nI (s / 2))) ∨ ((∀ s, s < 2 * n → ow T s = a → ow T (fl s) ≠ b) ∧ f_X4_linkBetween M (nI a) (nI b) = some (-9)) := by
  rcases lb_spec hn hM ha hb with ⟨l, hl, hj, e⟩ | ⟨h, e⟩
  · left
    rcases hj with ⟨h1, h2⟩ | ⟨h1, h2⟩
    · refine ⟨2 * l, by omega, by rw [ow_2]; exact h1, ?_, by rw [e, show 2 * l / 2 = l by omega]⟩
      rw [show fl (2 * l) = 2 * l + 1 by unfold fl; rw [if_pos (by omega)], ow_21]; exact h2
    · refine ⟨2 * l + 1, by omega, by rw [ow_21]; exact h2, ?_, by rw [e, show (2 * l + 1) / 2 = l by omega]⟩
      rw [show fl (2 * l + 1) = 2 * l by unfold fl; rw [if_neg (by omega)]; omega, ow_2]; exact h1
  · right
    refine ⟨fun s hs h1 h2 => h (s / 2) (by omega) ?_, e⟩
    unfold ow at h1 h2
    rw [fl_div, fl_mod] at h2
    unfold jn
    rcases (show s % 2 = 0 ∨ s % 2 = 1 by omega) with f | f <;> rw [f] at h1 h2 <;> simp at h2
    · left; exact ⟨h1, h2⟩
    · right; exact ⟨h2, h1⟩
theorem sideAt_eq (hn : NetWf n T) (hC : CN S n T en) {l b : Nat} (hl : l < n) (hb : b < 7) : f_X1_sideAt S (nI l) (nI b) = some (if T 0 l = b then nI (2 * l) else if T 1 l = b then nI (2 * l + 1) else -1) := by
  have h12 := hn.1
  have hw := hn.2.1 l hl
  unfold f_X1_sideAt
  simp (disch := omega) only [n_1, n_2, pk_mul, nI_add, ld_n, Option.bind_some, hC.2.1, ow_2, ow_21, n_eq]
  (repeat' split) <;> rfl
theorem isAt_eq (hn : NetWf n T) (hM : MN M n T en) {l b : Nat} (hl : l < n) (hb : b < 7) : f_X4_isAt M (nI l) (nI b) = some (if T 0 l = b ∨ T 1 l = b then 1 else 0) := by
  have h12 := hn.1
  have hw := hn.2.1 l hl
  unfold f_X4_isAt f_X4_isAt_20
  simp (disch := omega) only [ld_n, Option.bind_some, hM.2.1, hM.2.2.1, n_eq]
  (repeat' split) <;> first | rfl | (exfalso; omega)
theorem otherOf_eq (hn : NetWf n T) (hM : MN M n T en) {l b : Nat} (hl : l < n) (hb : b < 7) : f_X4_otherOf M (nI l) (nI b) = some (nI (if T 0 l = b then T 1 l else T 0 l)) := by
  have h12 := hn.1
  have hw := hn.2.1 l hl
  unfold f_X4_otherOf
  simp (disch := omega) only [ld_n, Option.bind_some, hM.2.1, hM.2.2.1, n_eq]
  (repeat' split) <;> rfl
theorem isUpSide_eq (hn : NetWf n T) (hC : CN S n T en) {s : Nat} (hs : s < 2 * n) : f_X1_isUpSide S (nI s) = some (nI (T 3 (s / 2))) := by
  have h12 := hn.1
  have hw := hn.2.1 (s / 2) (by omega)
  unfold f_X1_isUpSide
  simp (disch := omega) only [n_1, n_0, n_shr1, ld_n, Option.bind_some, hC.2.2.2.1, n_eq]
  rcases (show T 3 (s / 2) = 0 ∨ T 3 (s / 2) = 1 by omega) with e | e <;> rw [e] <;> rfl
theorem joined_spec (hn : NetWf n T) (hC : CN S n T en) {a b : Nat} (ha : a < 7) (hb : b < 7) (hab : a ≠ b) : ((∃ l, l < n ∧ jn T l a b) ∧ f_X1_joined S (nI a) (nI b) = some 1) ∨ ((∀ l, l < n → ¬ jn T l a b) ∧ f_X1_joined S (nI a) (nI b) = some 0) := by
  have h12 := hn.1
  unfold f_X1_joined
  refine lp_up (fun k x => f_X1_joined_2 S k (nI a) (nI b) x) (fun i x => x = nI i ∧ ∀ l, l < i → ¬ jn T l a b) n (fun o => ((∃ l, l < n ∧ jn T l a b) ∧ o = some 1) ∨ ((∀ l, l < n → ¬ jn T l a b) ∧ o = some 0)) ?_ ?_ h_fu 0 0 (Nat.zero_le _) (by have := fu_big; omega) ⟨rfl, by intro l h; omega⟩
  · rintro k i x hi ⟨rfl, hI⟩
    have hw := hn.2.1 i hi
    have e : f_X1_joined_2 S (k + 1) (nI a) (nI b) (nI i) = f_X1_joined_2_s S (f_X1_joined_2 S k) (nI a) (nI b) (nI i) := rfl
    rw [e]
    unfold f_X1_joined_2_s f_X1_joined_32
    rw [hC.1, sideAt_eq hn hC hi ha, sideAt_eq hn hC hi hb, if_neg (ngt hi (by omega))]
    simp only [Option.bind_some, nI_1]
    by_cases hj : jn T i a b
    · left; left
      refine ⟨⟨i, hi, hj⟩, ?_⟩
      rcases hj with ⟨h1, h2⟩ | ⟨h1, h2⟩
      · rw [if_pos h1, if_neg (nn1 (by omega)), if_neg (show ¬ T 0 i = b by omega), if_pos h2, if_neg (nn1 (by omega))]
      · rw [if_neg (show ¬ T 0 i = a by omega), if_pos h2, if_neg (nn1 (by omega)), if_pos h1, if_neg (nn1 (by omega))]
    · right
      refine ⟨nI (i + 1), ⟨rfl, lt_s hI hj⟩, ?_⟩
      unfold jn at hj
      by_cases h1 : T 0 i = a
      · rw [if_pos h1, if_neg (nn1 (by omega)), if_neg (show ¬ T 0 i = b by omega), if_neg (show ¬ T 1 i = b by omega)]; rfl
      · rw [if_neg h1]
        by_cases h2 : T 1 i = a
        · rw [if_pos h2, if_neg (nn1 (by omega)), if_neg (show ¬ T 0 i = b by omega), if_neg (show ¬ T 1 i = b by omega)]; rfl
        · rw [if_neg h2]; rfl
  · rintro k x ⟨rfl, hI⟩
    right
    refine ⟨hI, ?_⟩
    show f_X1_joined_2_s S (f_X1_joined_2 S k) (nI a) (nI b) (nI n) = _
    unfold f_X1_joined_2_s
    rw [hC.1, if_pos (by rw [n_le (by omega) (by omega)]; omega)]
/-- which side a BOX has of a LINK -/
theorem sideFor_spec (hn : NetWf n T) (hC : CN S n T en) (hM : MN M n T en) (x y : Int32) : (f_X3_sideFor S x y = some (-1) ∧ f_X4_isThere M x y = some 0) ∨ ∃ b s, b < 7 ∧ s < 2 * n ∧ ow T s = b ∧ x = nI b ∧ y = nI (s / 2) ∧ f_X3_sideFor S x y = some (nI s) ∧ f_X4_isThere M x y = some 1 := by
  have h12 := hn.1
  unfold f_X3_sideFor f_X4_isThere
  rcases q_box x with ⟨e1, e2⟩ | ⟨b, hb, rfl, e1, e2⟩
  · left; rw [e1, e2]; exact ⟨rfl, rfl⟩
  · rcases q_link hn hC hM y with ⟨f1, f2⟩ | ⟨l, hl, rfl, f1, f2⟩
    · left; rw [e1, e2, f1, f2]; exact ⟨rfl, rfl⟩
    · have hw := hn.2.1 l hl
      rw [e1, e2, f1, f2]
      simp only [Option.bind_some, i10, if_false, sideAt_eq hn hC hl hb, isAt_eq hn hM hl hb]
      by_cases h1 : T 0 l = b
      · right
        refine ⟨b, 2 * l, hb, by omega, by rw [ow_2]; exact h1, rfl, by rw [show 2 * l / 2 = l by omega], ?_, ?_⟩
        · rw [if_pos h1]
        · rw [if_pos (Or.inl h1)]; rfl
      · by_cases h2 : T 1 l = b
        · right
          refine ⟨b, 2 * l + 1, hb, by omega, by rw [ow_21]; exact h2, rfl, by rw [show (2 * l + 1) / 2 = l by omega], ?_, ?_⟩
          · rw [if_neg h1, if_pos h2]
          · rw [if_pos (Or.inr h2)]; rfl
        · left
          refine ⟨by rw [if_neg h1, if_neg h2], by rw [if_neg (show ¬ (T 0 l = b ∨ T 1 l = b) by omega)]; rfl⟩
end LK
