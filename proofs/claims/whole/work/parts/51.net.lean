/-! the net, as both sides hold it: n LINKS; T 0 lesser, T 1 greater, T 2 COST, T 3 UP; en the ENDS -/
theorem i10 : ((1 : Int32) = 0) = False := by decide
theorem i01 : ((0 : Int32) = 1) = False := by decide
theorem i00 : ((0 : Int32) = 0) = True := by decide
theorem i11 : ((1 : Int32) = 1) = True := by decide
def ow (T : Nat → Nat → Nat) (s : Nat) : Nat := T (s % 2) (s / 2)
def NetWf (n : Nat) (T : Nat → Nat → Nat) : Prop := n ≤ 12 ∧ (∀ l, l < n → T 0 l < T 1 l ∧ T 1 l < 7 ∧ 1 ≤ T 2 l ∧ T 2 l ≤ 9 ∧ T 3 l ≤ 1) ∧ ∀ l l', l < n → l' < n → T 0 l = T 0 l' → T 1 l = T 1 l' → l = l'
def EnOk (en : Nat → Int32) : Prop := ∀ c, c < 4 → en c = -9 ∨ ∃ b, b < 7 ∧ en c = nI b
def CN (S : HSt) (n : Nat) (T : Nat → Nat → Nat) (en : Nat → Int32) : Prop := S.1 0 = nI n ∧ (∀ s, s < 2 * n → S.2 0 s = nI (ow T s)) ∧ (∀ l, l < n → S.2 1 l = nI (T 2 l)) ∧ (∀ l, l < n → S.2 2 l = nI (T 3 l)) ∧ ∀ c, c < 4 → S.2 3 c = en c
def MN (M : HSt) (n : Nat) (T : Nat → Nat → Nat) (en : Nat → Int32) : Prop := M.1 0 = nI n ∧ (∀ l, l < n → M.2 0 l = nI (T 0 l)) ∧ (∀ l, l < n → M.2 1 l = nI (T 1 l)) ∧ (∀ l, l < n → M.2 2 l = nI (T 2 l)) ∧ (∀ l, l < n → M.2 3 l = nI (T 3 l)) ∧ ∀ c, c < 4 → M.2 4 c = en c
theorem ow_lt {n : Nat} {T : Nat → Nat → Nat} (h : NetWf n T) {s : Nat} (hs : s < 2 * n) : ow T s < 7 := by
  have h1 := h.2.1 (s / 2) (by omega)
  unfold ow
  rcases (show s % 2 = 0 ∨ s % 2 = 1 by omega) with e | e <;> rw [e] <;> omega
theorem ow_ne {n : Nat} {T : Nat → Nat → Nat} (h : NetWf n T) {s : Nat} (hs : s < 2 * n) : ow T s ≠ ow T (fl s) := by
  have h1 := h.2.1 (s / 2) (by omega)
  unfold ow
  rw [fl_div, fl_mod]
  rcases (show s % 2 = 0 ∨ s % 2 = 1 by omega) with e | e <;> rw [e] <;> simp <;> omega
theorem ow_2 (T : Nat → Nat → Nat) (l : Nat) : ow T (2 * l) = T 0 l := by
  unfold ow
  rw [show 2 * l % 2 = 0 by omega, show 2 * l / 2 = l by omega]
theorem ow_21 (T : Nat → Nat → Nat) (l : Nat) : ow T (2 * l + 1) = T 1 l := by
  unfold ow
  rw [show (2 * l + 1) % 2 = 1 by omega, show (2 * l + 1) / 2 = l by omega]
/-- a side is known by its BOX and the BOX beyond -/
theorem ow_inj {n : Nat} {T : Nat → Nat → Nat} (h : NetWf n T) {s t : Nat} (hs : s < 2 * n) (ht : t < 2 * n) (h1 : ow T s = ow T t) (h2 : ow T (fl s) = ow T (fl t)) : s = t := by
  have a := h.2.1 (s / 2) (by omega)
  have b := h.2.1 (t / 2) (by omega)
  unfold ow at h1 h2
  rw [fl_div, fl_div, fl_mod, fl_mod] at h2
  rcases (show s % 2 = 0 ∨ s % 2 = 1 by omega) with e | e <;> rcases (show t % 2 = 0 ∨ t % 2 = 1 by omega) with f | f <;> rw [e, f] at h1 h2 <;> simp at h1 h2
  · have := h.2.2 (s / 2) (t / 2) (by omega) (by omega) h1 h2; omega
  · omega
  · omega
  · have := h.2.2 (s / 2) (t / 2) (by omega) (by omega) h2 h1; omega
/-! arguments -/
theorem q_box (x : Int32) : (f_X3_isBox x = some 0 ∧ f_X4_isBox x = some 0) ∨ ∃ b, b < 7 ∧ x = nI b ∧ f_X3_isBox x = some 1 ∧ f_X4_isBox x = some 1 := by
  rcases pk_ix x (n := 7) (by decide) with h | h | ⟨j, hj, rfl⟩
  · left
    refine ⟨by unfold f_X3_isBox; rw [if_pos h], by unfold f_X4_isBox f_X4_within; rw [if_pos h]; rfl⟩
  · left
    have h0 : ¬ x < 0 := fun q => by
      have a := Int32.lt_iff_toInt_lt.mp q
      have b := Int32.le_iff_toInt_le.mp h
      have c : (nI 7).toInt = 7 := rfl
      have d : (0 : Int32).toInt = 0 := rfl
      omega
    have h6 : 6 < x := by
      have b := Int32.le_iff_toInt_le.mp h
      have c : (nI 7).toInt = 7 := rfl
      have d : (6 : Int32).toInt = 6 := rfl
      exact Int32.lt_iff_toInt_lt.mpr (by omega)
    refine ⟨by unfold f_X3_isBox; rw [if_neg h0, if_pos (show (7 : Int32) ≤ x from h)], by unfold f_X4_isBox f_X4_within; rw [if_neg h0, if_pos h6]; rfl⟩
  · right
    exact ⟨j, hj, rfl, by unfold f_X3_isBox; simp (disch := omega) only [n_0, n_7, n_le, n_lt]; rw [if_neg (by omega), if_neg (by omega)], by unfold f_X4_isBox f_X4_within; simp (disch := omega) only [n_0, n_6, n_le, n_lt]; rw [if_neg (by omega), if_neg (by omega)]; rfl⟩
theorem q_cls (x : Int32) : (f_X3_isClass x = some 0 ∧ f_X4_isClass x = some 0) ∨ ∃ b, b < 4 ∧ x = nI b ∧ f_X3_isClass x = some 1 ∧ f_X4_isClass x = some 1 := by
  rcases pk_ix x (n := 4) (by decide) with h | h | ⟨j, hj, rfl⟩
  · left
    refine ⟨by unfold f_X3_isClass; rw [if_pos h], by unfold f_X4_isClass f_X4_within; rw [if_pos h]; rfl⟩
  · left
    have b := Int32.le_iff_toInt_le.mp h
    have c : (nI 4).toInt = 4 := rfl
    have d : (0 : Int32).toInt = 0 := rfl
    have e : (3 : Int32).toInt = 3 := rfl
    have h0 : ¬ x < 0 := fun q => by
      have a := Int32.lt_iff_toInt_lt.mp q
      omega
    have h6 : 3 < x := Int32.lt_iff_toInt_lt.mpr (by omega)
    refine ⟨by unfold f_X3_isClass; rw [if_neg h0, if_pos (show (4 : Int32) ≤ x from h)], by unfold f_X4_isClass f_X4_within; rw [if_neg h0, if_pos h6]; rfl⟩
  · right
    exact ⟨j, hj, rfl, by unfold f_X3_isClass; simp (disch := omega) only [n_0, n_4, n_le, n_lt]; rw [if_neg (by omega), if_neg (by omega)], by unfold f_X4_isClass f_X4_within; simp (disch := omega) only [n_0, n_3, n_le, n_lt]; rw [if_neg (by omega), if_neg (by omega)]; rfl⟩
theorem q_cost (x : Int32) : (f_X3_isCost x = some 0 ∧ f_X4_within x 1 9 = some 0) ∨ ∃ b, 1 ≤ b ∧ b ≤ 9 ∧ x = nI b ∧ f_X3_isCost x = some 1 ∧ f_X4_within x 1 9 = some 1 := by
  by_cases h1 : x < 1
  · left; exact ⟨by unfold f_X3_isCost; rw [if_pos h1], by unfold f_X4_within; rw [if_pos h1]⟩
  · by_cases h2 : 9 < x
    · left; exact ⟨by unfold f_X3_isCost; rw [if_neg h1, if_pos h2], by unfold f_X4_within; rw [if_neg h1, if_pos h2]⟩
    · right
      have a : ¬ x.toInt < 1 := fun q => h1 (Int32.lt_iff_toInt_lt.mpr q)
      have b : ¬ 9 < x.toInt := fun q => h2 (Int32.lt_iff_toInt_lt.mpr q)
      obtain ⟨j, hj, rfl⟩ := nI_of (x := x) (fun q => by have := Int32.lt_iff_toInt_lt.mp q; have d : (0 : Int32).toInt = 0 := rfl; omega)
      rw [nI_toInt hj] at a b
      exact ⟨j, by omega, by omega, rfl, by unfold f_X3_isCost; rw [if_neg h1, if_neg h2], by unfold f_X4_within; rw [if_neg h1, if_neg h2]⟩
theorem q_in (x : Int32) (m : Nat) (hm : m < 2147483648) : ((x < 0 ∨ nI m < x) ∧ f_X4_within x 0 (nI m) = some 0) ∨ ∃ b, b ≤ m ∧ x = nI b ∧ f_X4_within x 0 (nI m) = some 1 := by
  unfold f_X4_within
  by_cases h1 : x < 0
  · left; exact ⟨Or.inl h1, by rw [if_pos h1]⟩
  · by_cases h2 : nI m < x
    · left; exact ⟨Or.inr h2, by rw [if_neg h1, if_pos h2]⟩
    · right
      obtain ⟨j, hj, rfl⟩ := nI_of h1
      rw [n_lt (by omega) (by omega)] at h2
      exact ⟨j, by omega, rfl, by rw [if_neg h1, if_neg (by rw [n_lt (by omega) (by omega)]; exact h2)]⟩
theorem q_yes (x : Int32) : (f_X3_isYesNo x = some 0 ∧ f_X4_within x 0 1 = some 0) ∨ ∃ b, b ≤ 1 ∧ x = nI b ∧ f_X3_isYesNo x = some 1 ∧ f_X4_within x 0 1 = some 1 := by
  rcases q_in x 1 (by decide) with ⟨h, e⟩ | ⟨b, hb, rfl, e⟩
  · left
    refine ⟨?_, e⟩
    unfold f_X3_isYesNo
    rw [if_neg (fun q => by rw [q] at h; revert h; decide), if_neg (fun q => by rw [q] at h; revert h; decide)]
  · right
    refine ⟨b, hb, rfl, ?_, e⟩
    rcases (show b = 0 ∨ b = 1 by omega) with rfl | rfl <;> rfl
theorem q_link {S M : HSt} {n : Nat} {T : Nat → Nat → Nat} {en : Nat → Int32} (hn : NetWf n T) (hC : CN S n T en) (hM : MN M n T en) (x : Int32) : (f_X1_isLink S x = some 0 ∧ f_X4_isLink M x = some 0) ∨ ∃ l, l < n ∧ x = nI l ∧ f_X1_isLink S x = some 1 ∧ f_X4_isLink M x = some 1 := by
  have h12 := hn.1
  unfold f_X1_isLink f_X4_isLink
  rw [hC.1, hM.1]
  rcases (show n = 0 ∨ 0 < n by omega) with rfl | h0
  · left
    by_cases h1 : x < 0
    · exact ⟨by rw [if_pos h1], by unfold f_X4_within; rw [if_pos h1]; rfl⟩
    · obtain ⟨j, hj, rfl⟩ := nI_of h1
      refine ⟨by rw [if_neg h1, if_pos (by rw [n_le (by omega) (by omega)]; omega)], ?_⟩
      unfold f_X4_within
      rw [if_neg h1, if_pos (by
        have e : (nI 0 - 1) = -1 := by decide
        rw [e]
        exact Int32.lt_iff_toInt_lt.mpr (by rw [nI_toInt hj]; have : (-1 : Int32).toInt = -1 := rfl; omega))]
      rfl
  · have e : nI n - 1 = nI (n - 1) := n_sub (b := 1) h0
    rw [e]
    rcases q_in x (n - 1) (by omega) with ⟨h, e⟩ | ⟨b, hb, rfl, e⟩
    · left
      refine ⟨?_, by rw [e]; rfl⟩
      rcases h with h | h
      · rw [if_pos h]
      · by_cases h1 : x < 0
        · rw [if_pos h1]
        · obtain ⟨j, hj, rfl⟩ := nI_of h1
          rw [n_lt (by omega) (by omega)] at h
          rw [if_neg h1, if_pos (by rw [n_le (by omega) (by omega)]; omega)]
    · right
      refine ⟨b, by omega, rfl, ?_, by rw [e]; rfl⟩
      rw [if_neg (nI_pos (by omega)), if_neg (by rw [n_le (by omega) (by omega)]; omega)]
