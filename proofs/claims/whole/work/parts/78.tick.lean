/-! a TICK, whole -/
def cg (M : HSt) (i j k m x : Nat) : Prop := M.2 i x ≠ M.2 j x ∨ (¬ M.2 i x ≤ 0 ∧ M.2 k x ≠ M.2 m x)
section TT
variable {S M M1 S1 : HSt} {n : Nat} {T : Nat → Nat → Nat} {en : Nat → Int32} {md : Nat → Nat} {od lm : Nat} {hl hk kl kk : Nat → Nat → Nat} {cn : Nat → Nat → Nat} {b : Nat}
theorem changed_spec (M : HSt) (a : Nat) (ha : a ≤ 1) : ∃ r, f_X4_isChanged M (nI a) = some r ∧ ((r = 0 ∧ ∀ x, x < 336 → ¬ cg M 8 12 9 13 x ∧ (a = 1 → ¬ cg M 10 14 11 15 x)) ∨ (r = 1 ∧ ∃ x, x < 336 ∧ (cg M 8 12 9 13 x ∨ (a = 1 ∧ cg M 10 14 11 15 x)))) := by
  unfold f_X4_isChanged
  refine lp_up (fun k (q : Int32) => f_X4_isChanged_2 M k (nI a) q) (fun i q => q = nI i ∧ ∀ x, x < i → ¬ cg M 8 12 9 13 x ∧ (a = 1 → ¬ cg M 10 14 11 15 x)) 336 (fun o => ∃ r, o = some r ∧ ((r = 0 ∧ ∀ x, x < 336 → ¬ cg M 8 12 9 13 x ∧ (a = 1 → ¬ cg M 10 14 11 15 x)) ∨ (r = 1 ∧ ∃ x, x < 336 ∧ (cg M 8 12 9 13 x ∨ (a = 1 ∧ cg M 10 14 11 15 x))))) ?_ ?_ h_fu 0 0 (Nat.zero_le _) (by have := fu_big; omega) ⟨rfl, fun x h => by omega⟩
  · rintro k i x1 hi ⟨q1, q2⟩
    subst q1
    have e1 : f_X4_isChanged_2 M (k + 1) (nI a) (nI i) = f_X4_isChanged_2_s M (f_X4_isChanged_2 M k) (nI a) (nI i) := rfl
    try dsimp only
    rw [e1]
    unfold f_X4_isChanged_2_s f_X4_isChanged_52 f_X4_isChanged_48
    have nxt : ¬ cg M 8 12 9 13 i ∧ (a = 1 → ¬ cg M 10 14 11 15 i) → (∃ r, f_X4_isChanged_2 M k (nI a) (nI (i + 1)) = some r ∧ ((r = 0 ∧ ∀ x, x < 336 → ¬ cg M 8 12 9 13 x ∧ (a = 1 → ¬ cg M 10 14 11 15 x)) ∨ (r = 1 ∧ ∃ x, x < 336 ∧ (cg M 8 12 9 13 x ∨ (a = 1 ∧ cg M 10 14 11 15 x))))) ∨ ∃ s', (s' = nI (i + 1) ∧ ∀ x, x < i + 1 → ¬ cg M 8 12 9 13 x ∧ (a = 1 → ¬ cg M 10 14 11 15 x)) ∧ f_X4_isChanged_2 M k (nI a) (nI (i + 1)) = f_X4_isChanged_2 M k (nI a) s' := by
      intro h
      right
      refine ⟨nI (i + 1), ⟨rfl, fun x hx => ?_⟩, rfl⟩
      by_cases z : x = i
      · rw [z]; exact h
      · exact q2 x (by omega)
    have fin : ∀ t0 : Int32, ((t0 = 0 ∧ ¬ cg M 8 12 9 13 i) ∨ (t0 = 1 ∧ cg M 8 12 9 13 i)) → (∃ r, f_X4_isChanged_53 M (f_X4_isChanged_2 M k) (nI a) (nI i) t0 = some r ∧ ((r = 0 ∧ ∀ x, x < 336 → ¬ cg M 8 12 9 13 x ∧ (a = 1 → ¬ cg M 10 14 11 15 x)) ∨ (r = 1 ∧ ∃ x, x < 336 ∧ (cg M 8 12 9 13 x ∨ (a = 1 ∧ cg M 10 14 11 15 x))))) ∨ ∃ s', (s' = nI (i + 1) ∧ ∀ x, x < i + 1 → ¬ cg M 8 12 9 13 x ∧ (a = 1 → ¬ cg M 10 14 11 15 x)) ∧ f_X4_isChanged_53 M (f_X4_isChanged_2 M k) (nI a) (nI i) t0 = f_X4_isChanged_2 M k (nI a) s' := by
      intro t0 h0
      have f98 : ∀ t1 : Int32, ((t1 = 0 ∧ ¬ cg M 10 14 11 15 i) ∨ (t1 = 1 ∧ cg M 10 14 11 15 i)) → (∃ r, f_X4_isChanged_98 M (f_X4_isChanged_2 M k) (nI a) (nI i) t0 t1 = some r ∧ ((r = 0 ∧ ∀ x, x < 336 → ¬ cg M 8 12 9 13 x ∧ (a = 1 → ¬ cg M 10 14 11 15 x)) ∨ (r = 1 ∧ ∃ x, x < 336 ∧ (cg M 8 12 9 13 x ∨ (a = 1 ∧ cg M 10 14 11 15 x))))) ∨ ∃ s', (s' = nI (i + 1) ∧ ∀ x, x < i + 1 → ¬ cg M 8 12 9 13 x ∧ (a = 1 → ¬ cg M 10 14 11 15 x)) ∧ f_X4_isChanged_98 M (f_X4_isChanged_2 M k) (nI a) (nI i) t0 t1 = f_X4_isChanged_2 M k (nI a) s' := by
        intro t1 h1
        unfold f_X4_isChanged_98 f_X4_isChanged_115
        rw [nI_1]
        rcases h0 with ⟨a1, a2⟩ | ⟨a1, a2⟩
        · rw [a1, if_pos (show (0 : Int32) = 0 from rfl)]
          rcases (show a = 0 ∨ a = 1 by omega) with rfl | rfl
          · rw [if_pos (show nI 0 = 0 from rfl)]
            exact nxt ⟨a2, fun z => absurd z (by decide)⟩
          · rw [if_neg (show ¬ nI 1 = 0 by decide)]
            rcases h1 with ⟨b1, b2⟩ | ⟨b1, b2⟩
            · rw [b1, if_pos (show (0 : Int32) = 0 from rfl)]
              exact nxt ⟨a2, fun _ => b2⟩
            · rw [b1, if_neg (show ¬ (1 : Int32) = 0 by decide)]
              exact Or.inl ⟨1, rfl, Or.inr ⟨rfl, i, hi, Or.inr ⟨rfl, b2⟩⟩⟩
        · rw [a1, if_neg (show ¬ (1 : Int32) = 0 by decide)]
          exact Or.inl ⟨1, rfl, Or.inr ⟨rfl, i, hi, Or.inl a2⟩⟩
      unfold f_X4_isChanged_53 f_X4_isChanged_97 f_X4_isChanged_93
      repeat rw [ld_n _ _ (by omega) (by omega), Option.bind_some]
      by_cases z1 : M.2 10 i = M.2 14 i
      · rw [if_pos z1]
        by_cases z2 : M.2 10 i ≤ 0
        · rw [if_pos z2]
          exact f98 0 (Or.inl ⟨rfl, fun y => by rcases y with y | y; exact y z1; exact y.1 z2⟩)
        · rw [if_neg z2]
          by_cases z3 : M.2 11 i = M.2 15 i
          · rw [Option.bind_some, if_pos z3]
            exact f98 0 (Or.inl ⟨rfl, fun y => by rcases y with y | y; exact y z1; exact y.2 z3⟩)
          · rw [Option.bind_some, if_neg z3]
            exact f98 1 (Or.inr ⟨rfl, Or.inr ⟨z2, z3⟩⟩)
      · rw [if_neg z1]
        exact f98 1 (Or.inr ⟨rfl, Or.inl z1⟩)
    rw [if_neg (show ¬ (336 : Int32) ≤ nI i from ngt (b := 336) hi (by omega))]
    repeat rw [ld_n _ _ (by omega) (by omega), Option.bind_some]
    by_cases z1 : M.2 8 i = M.2 12 i
    · rw [if_pos z1]
      by_cases z2 : M.2 8 i ≤ 0
      · rw [if_pos z2]
        exact fin 0 (Or.inl ⟨rfl, fun y => by rcases y with y | y; exact y z1; exact y.1 z2⟩)
      · rw [if_neg z2]
        by_cases z3 : M.2 9 i = M.2 13 i
        · rw [Option.bind_some, if_pos z3]
          exact fin 0 (Or.inl ⟨rfl, fun y => by rcases y with y | y; exact y z1; exact y.2 z3⟩)
        · rw [Option.bind_some, if_neg z3]
          exact fin 1 (Or.inr ⟨rfl, Or.inr ⟨z2, z3⟩⟩)
    · rw [if_neg z1]
      exact fin 1 (Or.inr ⟨rfl, Or.inl z1⟩)
  · rintro k x1 ⟨q1, q2⟩
    subst q1
    exact ⟨0, rfl, Or.inl ⟨rfl, q2⟩⟩
/-- a change of slips is a change of LABELS or COUNTS -/
theorem sl_eq {L K L' K' : Nat} (h : LOk L) (hK : K ≤ 9) (h' : LOk L') (hK' : K' ≤ 9) : sl L' K' ≠ sl L K ↔ L' ≠ L ∨ (L' ≠ 0 ∧ K' ≠ K) := by
  unfold sl LOk at *
  split <;> split <;> omega
theorem cg_iff (hn : NetWf n T) {i j k m : Nat} {hl hk hl' hk' : Nat → Nat → Nat} (h0 : ∀ s c, s < 2 * n → c < 4 → LOk (hl s c) ∧ hk s c ≤ 9 ∧ M.2 j (4 * (12 * ow T s + s / 2) + c) = nI (hl s c) ∧ (hl s c ≠ 0 → M.2 m (4 * (12 * ow T s + s / 2) + c) = nI (hk s c))) (z0 : ∀ b l c, b < 7 → l < 12 → c < 4 → (∀ s, s < 2 * n → ow T s = b → s / 2 ≠ l) → M.2 j (4 * (12 * b + l) + c) = 0) (h1 : ∀ s c, s < 2 * n → c < 4 → LOk (hl' s c) ∧ hk' s c ≤ 9 ∧ M.2 i (4 * (12 * ow T s + s / 2) + c) = nI (hl' s c) ∧ (hl' s c ≠ 0 → M.2 k (4 * (12 * ow T s + s / 2) + c) = nI (hk' s c))) (z1 : ∀ b l c, b < 7 → l < 12 → c < 4 → (∀ s, s < 2 * n → ow T s = b → s / 2 ≠ l) → M.2 i (4 * (12 * b + l) + c) = 0) : (∃ x, x < 336 ∧ cg M i j k m x) ↔ ∃ s c, s < 2 * n ∧ c < 4 ∧ sl (hl' s c) (hk' s c) ≠ sl (hl s c) (hk s c) := by
  have h12 := hn.1
  have at_s : ∀ s c, s < 2 * n → c < 4 → (cg M i j k m (4 * (12 * ow T s + s / 2) + c) ↔ sl (hl' s c) (hk' s c) ≠ sl (hl s c) (hk s c)) := by
    intro s c hs hc
    obtain ⟨a1, a2, a3, a4⟩ := h0 s c hs hc
    obtain ⟨b1, b2, b3, b4⟩ := h1 s c hs hc
    have ha := LOk_lt a1
    have hb := LOk_lt b1
    rw [sl_eq a1 a2 b1 b2]
    unfold cg
    rw [a3, b3, Ne, n_eq (by omega) (by omega)]
    by_cases e : hl' s c = hl s c
    · by_cases e0 : hl' s c = 0
      · rw [e0]
        constructor
        · rintro (y | y)
          · exact Or.inl y
          · exact absurd (show nI 0 ≤ 0 by decide) y.1
        · rintro (y | y)
          · exact Or.inl y
          · exact absurd rfl y.1
      · rw [b4 e0, a4 (by omega), Ne, n_eq (by omega) (by omega)]
        constructor
        · rintro (y | y)
          · exact Or.inl y
          · exact Or.inr ⟨e0, y.2⟩
        · rintro (y | y)
          · exact Or.inl y
          · exact Or.inr ⟨show ¬ nI (hl' s c) ≤ nI 0 from ngt (by omega) (by omega), y.2⟩
    · exact ⟨fun _ => Or.inl e, fun _ => Or.inl e⟩
  constructor
  · rintro ⟨x, hx, hc⟩
    obtain ⟨b, l, c, hb, hl, hc4, rfl⟩ : ∃ b l c, b < 7 ∧ l < 12 ∧ c < 4 ∧ x = 4 * (12 * b + l) + c := ⟨x / 48, x / 4 % 12, x % 4, by omega, by omega, by omega, by omega⟩
    by_cases h : ∃ s, s < 2 * n ∧ ow T s = b ∧ s / 2 = l
    · obtain ⟨s, s1, s2, s3⟩ := h
      rw [← s2, ← s3] at hc
      exact ⟨s, c, s1, hc4, (at_s s c s1 hc4).mp hc⟩
    · have hno : ∀ s, s < 2 * n → ow T s = b → s / 2 ≠ l := fun s h1 h2 h3 => h ⟨s, h1, h2, h3⟩
      unfold cg at hc
      rw [z0 b l c hb hl hc4 hno, z1 b l c hb hl hc4 hno] at hc
      rcases hc with y | y
      · exact absurd rfl y
      · exact absurd (show (0 : Int32) ≤ 0 by decide) y.1
  · rintro ⟨s, c, hs, hc, h⟩
    have := ow_lt hn hs
    exact ⟨4 * (12 * ow T s + s / 2) + c, by omega, (at_s s c hs hc).mpr h⟩
end TT
