/-! numbers -/
theorem n_0 : (0 : Int32) = nI 0 := rfl
theorem n_1 : (1 : Int32) = nI 1 := rfl
theorem n_2 : (2 : Int32) = nI 2 := rfl
theorem n_3 : (3 : Int32) = nI 3 := rfl
theorem n_4 : (4 : Int32) = nI 4 := rfl
theorem n_5 : (5 : Int32) = nI 5 := rfl
theorem n_6 : (6 : Int32) = nI 6 := rfl
theorem n_7 : (7 : Int32) = nI 7 := rfl
theorem n_9 : (9 : Int32) = nI 9 := rfl
theorem n_12 : (12 : Int32) = nI 12 := rfl
theorem n_14 : (14 : Int32) = nI 14 := rfl
theorem n_15 : (15 : Int32) = nI 15 := rfl
theorem n_16 : (16 : Int32) = nI 16 := rfl
theorem n_20 : (20 : Int32) = nI 20 := rfl
theorem n_28 : (28 : Int32) = nI 28 := rfl
theorem n_30 : (30 : Int32) = nI 30 := rfl
theorem n_48 : (48 : Int32) = nI 48 := rfl
theorem n_96 : (96 : Int32) = nI 96 := rfl
theorem n_99 : (99 : Int32) = nI 99 := rfl
theorem n_336 : (336 : Int32) = nI 336 := rfl
theorem n_1000 : (1000 : Int32) = nI 1000 := rfl
def wr (S : HSt) (k i : Nat) (x : Int32) : HSt := (S.1, va_up S.2 k (upd (S.2 k) i x))
theorem wr_1 (S : HSt) (k i : Nat) (x : Int32) : (wr S k i x).1 = S.1 := rfl
theorem wr_2 (S : HSt) (k i : Nat) (x : Int32) (k' j : Nat) : (wr S k i x).2 k' j = if k' = k ∧ j = i then x else S.2 k' j := by
  show (if k' = k then upd (S.2 k) i x else S.2 k') j = _
  by_cases h : k' = k
  · subst h
    by_cases h2 : j = i
    · subst h2; simp [upd]
    · simp [upd, h2]
  · simp [h]
theorem wr_o (S : HSt) {k i : Nat} (x : Int32) {k' : Nat} (j : Nat) (h : k' ≠ k) : (wr S k i x).2 k' j = S.2 k' j := by rw [wr_2, if_neg (fun e => h e.1)]
theorem wr_r (S : HSt) {k i : Nat} (x : Int32) {k' : Nat} (h : k' ≠ k) : (wr S k i x).2 k' = S.2 k' := funext fun j => wr_o S x j h
theorem wr_s (S : HSt) (k i : Nat) (x : Int32) : (wr S k i x).2 k i = x := by rw [wr_2, if_pos ⟨rfl, rfl⟩]
theorem wr_n (S : HSt) {k i : Nat} (x : Int32) {j : Nat} (h : j ≠ i) : (wr S k i x).2 k j = S.2 k j := by rw [wr_2, if_neg (fun e => h e.2)]
theorem put_1 (S : HSt) (k : Nat) (x : Int32) (j : Nat) : (h_put S k x).1 j = if j = k then x else S.1 j := rfl
theorem put_2 (S : HSt) (k : Nat) (x : Int32) : (h_put S k x).2 = S.2 := rfl
theorem cp_1 (S : HSt) (j k n : Nat) : (h_cp S j k n).1 = S.1 := rfl
theorem cp_o (S : HSt) {j k n k' : Nat} (h : k' ≠ k) : (h_cp S j k n).2 k' = S.2 k' := by
  show (if k' = k then _ else _) = _
  rw [if_neg h]
theorem cp_s (S : HSt) {j k n i : Nat} (h : i < n) : (h_cp S j k n).2 k i = S.2 j i := by
  show (if k = k then va_cpy (S.2 j) (S.2 k) 0 0 n else _) i = _
  rw [if_pos rfl]
  show (if 0 ≤ i ∧ i < 0 + n then S.2 j (0 + (i - 0)) else _) = _
  rw [if_pos ⟨Nat.zero_le _, by omega⟩]
  simp
theorem ld_n (S : HSt) (k : Nat) {n i : Nat} (h : i < n) (hn : n < 2147483648) : h_ld S k n (nI i) = some (S.2 k i) := by
  have h1 : (nI i).toNatClampNeg = i := nI_clamp (by omega)
  have h2 := nI_in h (by omega : n < 2 ^ 31)
  unfold h_ld
  rw [h1] at h2 ⊢
  rw [if_neg h2]
theorem st_n (S : HSt) (k : Nat) {n i : Nat} (x : Int32) (h : i < n) (hn : n < 2147483648) : h_st S k n (nI i) x = some (wr S k i x) := by
  have h1 : (nI i).toNatClampNeg = i := nI_clamp (by omega)
  have h2 := nI_in h (by omega : n < 2 ^ 31)
  unfold h_st
  rw [h1] at h2 ⊢
  rw [if_neg h2]
  rfl
theorem stz_n (S : HSt) (k : Nat) {n i u : Nat} (hu : u ≤ 1) (h : i < n) (hn : n < 2147483648) : h_stz S k n (nI i) (nI u) = some (wr S k i (nI u)) := by
  have h1 : (nI i).toNatClampNeg = i := nI_clamp (by omega)
  have h2 := nI_in h (by omega : n < 2 ^ 31)
  have h3 : vp_nar .boolean (nI u) = nI u := by
    rcases (show u = 0 ∨ u = 1 by omega) with rfl | rfl <;> rfl
  unfold h_stz
  rw [h1] at h2 ⊢
  rw [if_neg h2, h3]
  rfl
theorem b_0' {α : Type} (x : Option α) : h_b (nI 0) x = x := rfl
theorem b_1' {α : Type} (x : Option α) : h_b (nI 1) x = x := rfl
theorem b_n {α : Type} (x : Option α) {u : Nat} (h : u ≤ 1) : h_b (nI u) x = x := by
  rcases (show u = 0 ∨ u = 1 by omega) with rfl | rfl <;> rfl
theorem bi_s {β : Type} (r : Int32) (S : HSt) (k : Int32 → HSt → Option β) : h_bi (some (r, S)) k = k r S := rfl
theorem n_le {a b : Nat} (ha : a < 2147483648) (hb : b < 2147483648) : (nI a ≤ nI b) = (a ≤ b) := propext (nI_leI (by omega) (by omega))
theorem n_lt {a b : Nat} (ha : a < 2147483648) (hb : b < 2147483648) : (nI a < nI b) = (a < b) := propext (nI_ltI (by omega) (by omega))
theorem n_eq {a b : Nat} (ha : a < 2147483648) (hb : b < 2147483648) : (nI a = nI b) = (a = b) := propext (nI_eq (by omega) (by omega))
theorem n_neg {a : Nat} (k : Int32) (hk : k.toInt < 0) (ha : a < 2147483648) : ¬ nI a = k := fun e => by
  have h := nI_toInt (n := a) (by omega)
  rw [e] at h
  omega
theorem n_ne1 {a : Nat} (ha : a < 2147483648) : (nI a = -1) = False := eq_false (n_neg (-1) (by decide) ha)
theorem n_ne9 {a : Nat} (ha : a < 2147483648) : (nI a = -9) = False := eq_false (n_neg (-9) (by decide) ha)
theorem n_1ne {a : Nat} (ha : a < 2147483648) : (-1 = nI a) = False := eq_false (fun e => n_neg (-1) (by decide) ha e.symm)
theorem n_9ne {a : Nat} (ha : a < 2147483648) : (-9 = nI a) = False := eq_false (fun e => n_neg (-9) (by decide) ha e.symm)
theorem n_sub {a b : Nat} (h : b ≤ a) : nI a - nI b = nI (a - b) := pk_sub h
theorem n_div {a d : Nat} (ha : a < 2147483648) (h0 : 0 < d) (hd : d < 2147483648) : nI a / nI d = nI (a / d) := pk_div (by omega) h0 (by omega)
/-- the other end of a LINK -/
def fl (s : Nat) : Nat := if s % 2 = 0 then s + 1 else s - 1
theorem fl_lt {s n : Nat} (h : s < 2 * n) : fl s < 2 * n := by unfold fl; split <;> omega
theorem fl_fl (s : Nat) : fl (fl s) = s := by unfold fl; split <;> split <;> omega
theorem fl_div (s : Nat) : fl s / 2 = s / 2 := by unfold fl; split <;> omega
theorem fl_mod (s : Nat) : fl s % 2 = 1 - s % 2 := by unfold fl; split <;> omega
theorem n_xor : ∀ s, s < 24 → nI s ^^^ nI 1 = nI (fl s) := by decide +kernel
theorem n_shr1 : ∀ s, s < 24 → nI s >>> (nI 1 &&& 31) = nI (s / 2) := by decide +kernel
theorem n_shr4 {a : Nat} (h : a < 2147483648) : nI a >>> (nI 4 &&& 31) = nI (a / 16) := pk_shrN (by omega) _ 4 (by decide)
theorem n_and15 {a : Nat} (h : a < 2147483648) : nI a &&& nI 15 = nI (a % 16) := pk_andN (k := 4) (by omega) (by decide)
/-- loops that count -/
theorem lp_up {σ R : Type} (F : Nat → σ → Option R) (I : Nat → σ → Prop) (N : Nat) (P : Option R → Prop)
    (hs : ∀ n i s, i < N → I i s → P (F (n + 1) s) ∨ ∃ s', I (i + 1) s' ∧ F (n + 1) s = F n s') (he : ∀ n s, I N s → P (F (n + 1) s)) : ∀ n i s, i ≤ N → N - i < n → I i s → P (F n s) := by
  intro n
  induction n with
  | zero => intro i s _ h; omega
  | succ n ih =>
    intro i s h1 h2 h3
    by_cases h : i = N
    · subst h; exact he n s h3
    · rcases hs n i s (by omega) h3 with h4 | ⟨s', h4, h5⟩
      · exact h4
      · rw [h5]; exact ih (i + 1) s' (by omega) (by omega) h4
/-- loops with a measure -/
theorem lp_m {σ R : Type} (F : Nat → σ → Option R) (I : σ → Prop) (μ : σ → Nat) (P : Option R → Prop)
    (hs : ∀ n s, I s → P (F (n + 1) s) ∨ ∃ s', I s' ∧ μ s' < μ s ∧ F (n + 1) s = F n s') : ∀ n s, μ s < n → I s → P (F n s) := by
  intro n
  induction n with
  | zero => intro s h; omega
  | succ n ih =>
    intro s h1 h3
    rcases hs n s h3 with h4 | ⟨s', h4, h5, h6⟩
    · exact h4
    · rw [h6]; exact ih s' (by omega) h4
theorem fu_big : 100000 ≤ h_fu := Nat.le_refl _
