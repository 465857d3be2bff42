/-! a row of LABELS: what is taken, the least that is not -/
def upg (g : Nat → Nat) (c L : Nat) : Nat → Nat := fun d => if d = c then L else g d
def pr (g : Nat → Nat) (L : Nat) : Bool := decide (g 0 = L ∨ g 1 = L ∨ g 2 = L ∨ g 3 = L)
theorem pr_t {g : Nat → Nat} {L : Nat} : pr g L = true ↔ ∃ c, c < 4 ∧ g c = L := by
  unfold pr
  rw [decide_eq_true_iff]
  constructor
  · rintro (h | h | h | h)
    · exact ⟨0, by omega, h⟩
    · exact ⟨1, by omega, h⟩
    · exact ⟨2, by omega, h⟩
    · exact ⟨3, by omega, h⟩
  · rintro ⟨c, hc, h⟩
    rcases (show c = 0 ∨ c = 1 ∨ c = 2 ∨ c = 3 by omega) with rfl | rfl | rfl | rfl
    · exact Or.inl h
    · exact Or.inr (Or.inl h)
    · exact Or.inr (Or.inr (Or.inl h))
    · exact Or.inr (Or.inr (Or.inr h))
def lf (g : Nat → Nat) : Nat := if pr g 16 = true then (if pr g 17 = true then (if pr g 18 = true then 19 else 18) else 17) else 16
def mk4 (a b c d : Bool) : Nat := (if a = true then 1 else 0) + (if b = true then 2 else 0) + (if c = true then 4 else 0) + if d = true then 8 else 0
def mk (g : Nat → Nat) : Nat := mk4 (pr g 16) (pr g 17) (pr g 18) (pr g 19)
theorem pr_up {g : Nat → Nat} {c L : Nat} (hc : c < 4) (h0 : g c < 16) {K : Nat} (hK : 16 ≤ K) : pr (upg g c L) K = (pr g K || decide (L = K)) := by
  rw [Bool.eq_iff_iff, pr_t, Bool.or_eq_true, pr_t, decide_eq_true_iff]
  constructor
  · rintro ⟨d, hd, h⟩
    unfold upg at h
    by_cases e : d = c
    · rw [if_pos e] at h; exact Or.inr h
    · rw [if_neg e] at h; exact Or.inl ⟨d, hd, h⟩
  · rintro (⟨d, hd, h⟩ | h)
    · refine ⟨d, hd, ?_⟩
      unfold upg
      rw [if_neg (by rintro rfl; omega)]; exact h
    · exact ⟨c, hc, by unfold upg; rw [if_pos rfl]; exact h⟩
theorem bitOf_or {g : Nat → Nat} {c L : Nat} (hc : c < 4) (h0 : g c < 16) (hL : LOk L) : ∃ r, f_X0_bitOf (nI L) = some r ∧ nI (mk g) ||| r = nI (mk (upg g c L)) := by
  unfold mk
  rw [pr_up hc h0 (by omega), pr_up hc h0 (by omega), pr_up hc h0 (by omega), pr_up hc h0 (by omega)]
  rcases (show L = 0 ∨ L = 3 ∨ L = 16 ∨ L = 17 ∨ L = 18 ∨ L = 19 by unfold LOk at hL; omega) with rfl | rfl | rfl | rfl | rfl | rfl
  · exact ⟨0, rfl, by generalize pr g 16 = x; generalize pr g 17 = y; generalize pr g 18 = z; generalize pr g 19 = u; revert x y z u; decide⟩
  · exact ⟨0, rfl, by generalize pr g 16 = x; generalize pr g 17 = y; generalize pr g 18 = z; generalize pr g 19 = u; revert x y z u; decide⟩
  · exact ⟨1, rfl, by generalize pr g 16 = x; generalize pr g 17 = y; generalize pr g 18 = z; generalize pr g 19 = u; revert x y z u; decide⟩
  · exact ⟨2, rfl, by generalize pr g 16 = x; generalize pr g 17 = y; generalize pr g 18 = z; generalize pr g 19 = u; revert x y z u; decide⟩
  · exact ⟨4, rfl, by generalize pr g 16 = x; generalize pr g 17 = y; generalize pr g 18 = z; generalize pr g 19 = u; revert x y z u; decide⟩
  · exact ⟨8, rfl, by generalize pr g 16 = x; generalize pr g 17 = y; generalize pr g 18 = z; generalize pr g 19 = u; revert x y z u; decide⟩
theorem lf_in (g : Nat → Nat) : 16 ≤ lf g ∧ lf g ≤ 19 := by
  unfold lf
  split
  · split
    · split <;> omega
    · omega
  · omega
theorem pr_full {g : Nat → Nat} {c : Nat} (hc : c < 4) (h0 : g c < 16) : ¬ (pr g 16 = true ∧ pr g 17 = true ∧ pr g 18 = true ∧ pr g 19 = true) := by
  unfold pr
  simp only [decide_eq_true_iff]
  rcases (show c = 0 ∨ c = 1 ∨ c = 2 ∨ c = 3 by omega) with rfl | rfl | rfl | rfl <;> omega
theorem lf_free {g : Nat → Nat} {c : Nat} (hc : c < 4) (h0 : g c < 16) : pr g (lf g) = false := by
  have h := pr_full hc h0
  rw [← Bool.not_eq_true]
  unfold lf
  intro q
  by_cases h1 : pr g 16 = true
  · rw [if_pos h1] at q
    by_cases h2 : pr g 17 = true
    · rw [if_pos h2] at q
      by_cases h3 : pr g 18 = true
      · rw [if_pos h3] at q; exact h ⟨h1, h2, h3, q⟩
      · rw [if_neg h3] at q; exact h3 q
    · rw [if_neg h2] at q; exact h2 q
  · rw [if_neg h1] at q; exact h1 q
theorem lf_least {g : Nat → Nat} {L : Nat} (h : 16 ≤ L) (h2 : L < lf g) : pr g L = true := by
  unfold lf at h2
  by_cases h1 : pr g 16 = true
  · rw [if_pos h1] at h2
    by_cases h3 : pr g 17 = true
    · rw [if_pos h3] at h2
      by_cases h4 : pr g 18 = true
      · rw [if_pos h4] at h2
        rcases (show L = 16 ∨ L = 17 ∨ L = 18 by omega) with rfl | rfl | rfl <;> assumption
      · rw [if_neg h4] at h2
        rcases (show L = 16 ∨ L = 17 by omega) with rfl | rfl <;> assumption
    · rw [if_neg h3] at h2
      rw [show L = 16 by omega]; exact h1
  · rw [if_neg h1] at h2; omega
theorem lfs (k : Nat) (t x : Int32) : f_X0_leastFree_3 (k + 1) t x = f_X0_leastFree_3_s (f_X0_leastFree_3 k) t x := rfl
theorem bt (x y z u : Bool) : (nI (mk4 x y z u) &&& 1 = 0 ↔ x = false) ∧ (nI (mk4 x y z u) &&& 2 = 0 ↔ y = false) ∧ (nI (mk4 x y z u) &&& 4 = 0 ↔ z = false) ∧ (nI (mk4 x y z u) &&& 8 = 0 ↔ u = false) := by
  revert x y z u; decide
theorem leastFree_eq {g : Nat → Nat} {c : Nat} (hc : c < 4) (h0 : g c < 16) : f_X0_leastFree (nI (mk g)) = some (nI (lf g)) := by
  have hf := pr_full hc h0
  obtain ⟨m, hm⟩ : ∃ m, h_fu = m + 5 := ⟨h_fu - 5, by have := fu_big; omega⟩
  unfold f_X0_leastFree mk lf
  obtain ⟨b1, b2, b3, b4⟩ := bt (pr g 16) (pr g 17) (pr g 18) (pr g 19)
  rw [hm, lfs]
  unfold f_X0_leastFree_3_s
  rw [if_neg (by decide), show f_X0_bitOf 16 = some 1 from rfl, Option.bind_some]
  by_cases h1 : pr g 16 = true
  · rw [if_neg (fun q => by rw [b1.mp q] at h1; cases h1), if_pos h1, lfs]
    unfold f_X0_leastFree_3_s
    rw [if_neg (by decide), show f_X0_bitOf (16 + 1) = some 2 from rfl, Option.bind_some]
    by_cases h2 : pr g 17 = true
    · rw [if_neg (fun q => by rw [b2.mp q] at h2; cases h2), if_pos h2, lfs]
      unfold f_X0_leastFree_3_s
      rw [if_neg (by decide), show f_X0_bitOf (16 + 1 + 1) = some 4 from rfl, Option.bind_some]
      by_cases h3 : pr g 18 = true
      · have h4 : pr g 19 = false := by rw [← Bool.not_eq_true]; exact fun q => hf ⟨h1, h2, h3, q⟩
        rw [if_neg (fun q => by rw [b3.mp q] at h3; cases h3), if_pos h3, lfs]
        unfold f_X0_leastFree_3_s
        rw [if_neg (by decide), show f_X0_bitOf (16 + 1 + 1 + 1) = some 8 from rfl, Option.bind_some, if_pos (b4.mpr h4)]
        rfl
      · rw [if_pos (b3.mpr (by rw [← Bool.not_eq_true]; exact h3)), if_neg h3]; rfl
    · rw [if_pos (b2.mpr (by rw [← Bool.not_eq_true]; exact h2)), if_neg h2]; rfl
  · rw [if_pos (b1.mpr (by rw [← Bool.not_eq_true]; exact h1)), if_neg h1]; rfl
/-- CLASS by CLASS: who goes over, whose label is 3, what was -/
def Gs (p e w : Nat → Nat) : Nat → Nat → Nat
  | 0 => fun c => if p c = 1 then (if e c = 1 then 3 else w c) else 0
  | i + 1 => if p i = 1 ∧ e i = 0 ∧ w i = 0 then upg (Gs p e w i) i (lf (Gs p e w i)) else Gs p e w i
theorem Gs_s (p e w : Nat → Nat) (i : Nat) : Gs p e w (i + 1) = if p i = 1 ∧ e i = 0 ∧ w i = 0 then upg (Gs p e w i) i (lf (Gs p e w i)) else Gs p e w i := rfl
theorem Gs_ge (p e w : Nat → Nat) : ∀ i c, i ≤ c → Gs p e w i c = if p c = 1 then (if e c = 1 then 3 else w c) else 0 := by
  intro i
  induction i with
  | zero => intro c _; rfl
  | succ i ih =>
    intro c h
    rw [Gs_s]
    split
    · unfold upg
      rw [if_neg (by omega)]; exact ih c (by omega)
    · exact ih c (by omega)
theorem Gs_np {p e w : Nat → Nat} {c : Nat} (h : p c ≠ 1) : ∀ i, Gs p e w i c = 0 := by
  intro i
  induction i with
  | zero => show (if p c = 1 then _ else _) = _; rw [if_neg h]
  | succ i ih =>
    rw [Gs_s]
    split
    · rename_i q
      unfold upg
      rw [if_neg (by rintro rfl; exact h q.1)]; exact ih
    · exact ih
theorem Gs_ok {p e w : Nat → Nat} (hw : ∀ c, c < 4 → w c = 0 ∨ (16 ≤ w c ∧ w c ≤ 19)) : ∀ i c, c < 4 → LOk (Gs p e w i c) := by
  intro i
  induction i with
  | zero =>
    intro c hc
    show LOk (if p c = 1 then (if e c = 1 then 3 else w c) else 0)
    have := hw c hc
    unfold LOk
    split
    · split <;> omega
    · omega
  | succ i ih =>
    intro c hc
    rw [Gs_s]
    split
    · unfold upg
      split
      · exact Or.inr (Or.inr (lf_in _))
      · exact ih c hc
    · exact ih c hc
theorem Gs_nz {p e w : Nat → Nat} {c : Nat} (he : e c ≤ 1) (h : p c = 1) : ∀ i, c < i → Gs p e w i c ≠ 0 := by
  intro i
  induction i with
  | zero => intro q; omega
  | succ i ih =>
    intro q
    rw [Gs_s]
    by_cases hi : c = i
    · subst hi
      split
      · unfold upg
        rw [if_pos rfl]; have := lf_in (Gs p e w c); omega
      · rename_i z
        rw [Gs_ge p e w c c (Nat.le_refl _), if_pos h]
        split
        · omega
        · intro y; exact z ⟨h, by omega, y⟩
    · split
      · unfold upg
        rw [if_neg hi]; exact ih (by omega)
      · exact ih (by omega)
