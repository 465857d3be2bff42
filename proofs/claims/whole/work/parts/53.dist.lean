/-! least ways -/
def sm7 (f : Nat → Nat) : Nat := f 0 + f 1 + f 2 + f 3 + f 4 + f 5 + f 6
def up1 (f : Nat → Nat) (k x : Nat) : Nat → Nat := fun j => if j = k then x else f j
theorem up1_s (f : Nat → Nat) (k x : Nat) : up1 f k x k = x := if_pos rfl
theorem up1_n (f : Nat → Nat) {k x j : Nat} (h : j ≠ k) : up1 f k x j = f j := if_neg h
theorem sm7_up (f : Nat → Nat) {k : Nat} (x : Nat) (h : k < 7) : sm7 (up1 f k x) + f k = sm7 f + x := by
  rcases (show k = 0 ∨ k = 1 ∨ k = 2 ∨ k = 3 ∨ k = 4 ∨ k = 5 ∨ k = 6 by omega) with rfl | rfl | rfl | rfl | rfl | rfl | rfl <;> simp [sm7, up1] <;> omega
theorem sm7_le {f g : Nat → Nat} (h : ∀ b, b < 7 → f b ≤ g b) : sm7 f ≤ sm7 g := by
  have h0 := h 0 (by omega); have h1 := h 1 (by omega); have h2 := h 2 (by omega); have h3 := h 3 (by omega); have h4 := h 4 (by omega); have h5 := h 5 (by omega); have h6 := h 6 (by omega)
  unfold sm7; omega
theorem sm7_lt {f g : Nat → Nat} (h : ∀ b, b < 7 → f b ≤ g b) {k : Nat} (hk : k < 7) (hs : f k < g k) : sm7 f < sm7 g := by
  have h0 := h 0 (by omega); have h1 := h 1 (by omega); have h2 := h 2 (by omega); have h3 := h 3 (by omega); have h4 := h 4 (by omega); have h5 := h 5 (by omega); have h6 := h 6 (by omega)
  unfold sm7
  rcases (show k = 0 ∨ k = 1 ∨ k = 2 ∨ k = 3 ∨ k = 4 ∨ k = 5 ∨ k = 6 by omega) with rfl | rfl | rfl | rfl | rfl | rfl | rfl <;> omega
def IsD (n : Nat) (T : Nat → Nat → Nat) (e : Int32) (d : Nat → Nat) : Prop := (∀ b, b < 7 → d b ≤ 1000) ∧ (∀ b, b < 7 → (d b = 0 ↔ e = nI b)) ∧ (∀ s, s < 2 * n → T 3 (s / 2) = 1 → d (ow T s) ≤ d (ow T (fl s)) + T 2 (s / 2)) ∧ ∀ b, b < 7 → d b < 1000 → d b ≠ 0 → ∃ s, s < 2 * n ∧ T 3 (s / 2) = 1 ∧ ow T s = b ∧ d (ow T (fl s)) + T 2 (s / 2) = d b
def IsJ (n : Nat) (T : Nat → Nat → Nat) (e : Int32) (g : Nat → Nat) : Prop := (∀ b, b < 7 → g b ≤ 1000) ∧ (∀ b, b < 7 → (g b = 0 ↔ e = nI b)) ∧ ∀ b, b < 7 → g b < 1000 → g b ≠ 0 → ∃ s, s < 2 * n ∧ T 3 (s / 2) = 1 ∧ ow T s = b ∧ g (ow T (fl s)) + T 2 (s / 2) ≤ g b
theorem J_D {n : Nat} {T : Nat → Nat → Nat} {e : Int32} {g : Nat → Nat} (hn : NetWf n T) (h : IsJ n T e g) (hr : ∀ s, s < 2 * n → T 3 (s / 2) = 1 → g (ow T s) ≤ g (ow T (fl s)) + T 2 (s / 2)) : IsD n T e g := by
  refine ⟨h.1, h.2.1, hr, fun b hb h1 h2 => ?_⟩
  obtain ⟨s, q1, q2, q3, q4⟩ := h.2.2 b hb h1 h2
  have := hr s q1 q2
  rw [q3] at this
  exact ⟨s, q1, q2, q3, by omega⟩
theorem J_rel {n : Nat} {T : Nat → Nat → Nat} {e : Int32} {g : Nat → Nat} (hn : NetWf n T) (h : IsJ n T e g) {s : Nat} (hs : s < 2 * n) (hu : T 3 (s / 2) = 1) (hlt : g (ow T (fl s)) + T 2 (s / 2) < g (ow T s)) : IsJ n T e (up1 g (ow T s) (g (ow T (fl s)) + T 2 (s / 2))) := by
  have hv := ow_lt hn hs
  have hw := ow_lt hn (fl_lt hs)
  have hne := ow_ne hn hs
  have hc := (hn.2.1 (s / 2) (by omega)).2.2.1
  have h10 := h.1 _ hv
  refine ⟨fun b hb => ?_, fun b hb => ?_, fun b hb h1 h2 => ?_⟩
  · by_cases e1 : b = ow T s
    · rw [e1, up1_s]; omega
    · rw [up1_n _ e1]; exact h.1 b hb
  · by_cases e1 : b = ow T s
    · rw [e1, up1_s]
      refine ⟨fun q => by omega, fun q => ?_⟩
      have := (h.2.1 _ hv).mpr q
      omega
    · rw [up1_n _ e1]; exact h.2.1 b hb
  · by_cases e1 : b = ow T s
    · refine ⟨s, hs, hu, e1.symm, ?_⟩
      rw [e1, up1_s, up1_n _ (fun q => hne q.symm)]
      exact Nat.le_refl _
    · rw [up1_n _ e1] at h1 h2 ⊢
      obtain ⟨t, q1, q2, q3, q4⟩ := h.2.2 b hb h1 h2
      refine ⟨t, q1, q2, q3, ?_⟩
      by_cases e2 : ow T (fl t) = ow T s
      · rw [e2] at q4 ⊢; rw [up1_s]; omega
      · rw [up1_n _ e2]; exact q4
theorem D_le {n : Nat} {T : Nat → Nat → Nat} {e : Int32} {d d' : Nat → Nat} (hn : NetWf n T) (h : IsD n T e d) (h' : IsD n T e d') : ∀ (v b : Nat), b < 7 → d b = v → d' b ≤ v := by
  intro v
  induction v using Nat.strongRecOn with
  | _ v ih =>
    intro b hb e1
    by_cases h1 : v = 1000
    · rw [h1]; exact h'.1 b hb
    · have := h.1 b hb
      by_cases h2 : v = 0
      · have := (h'.2.1 b hb).mpr ((h.2.1 b hb).mp (by omega)); omega
      · obtain ⟨s, q1, q2, q3, q4⟩ := h.2.2.2 b hb (by omega) (by omega)
        have hc := (hn.2.1 (s / 2) (by omega)).2.2.1
        have h5 := ih (d (ow T (fl s))) (by omega) _ (ow_lt hn (fl_lt q1)) rfl
        have h6 := h'.2.2.1 s q1 q2
        rw [q3] at h6
        omega
theorem D_uniq {n : Nat} {T : Nat → Nat → Nat} {e : Int32} {d d' : Nat → Nat} (hn : NetWf n T) (h : IsD n T e d) (h' : IsD n T e d') {b : Nat} (hb : b < 7) : d b = d' b := Nat.le_antisymm (D_le hn h' h _ b hb rfl) (D_le hn h h' _ b hb rfl)
/-! the reference's rows: what changes in a step -/
def fr (ks : List Nat) (M M' : HSt) : Prop := M'.1 = M.1 ∧ ∀ k, k ∉ ks → M'.2 k = M.2 k
theorem fr_rf (ks : List Nat) (M : HSt) : fr ks M M := ⟨rfl, fun _ _ => rfl⟩
theorem fr_tr {ks : List Nat} {M M' M'' : HSt} (h : fr ks M M') (h' : fr ks M' M'') : fr ks M M'' := ⟨h'.1.trans h.1, fun k hk => (h'.2 k hk).trans (h.2 k hk)⟩
theorem fr_wr {ks : List Nat} {M : HSt} {k i : Nat} {x : Int32} (h : k ∈ ks) : fr ks M (wr M k i x) := ⟨rfl, fun k' hk => wr_r M x (fun e => hk (e ▸ h))⟩
theorem fr_mono {ks ks' : List Nat} {M M' : HSt} (h : fr ks M M') (hs : ∀ k ∈ ks, k ∈ ks') : fr ks' M M' := ⟨h.1, fun k hk => h.2 k (fun q => hk (hs k q))⟩
theorem fr_at {ks : List Nat} {M M' : HSt} (h : fr ks M M') {k : Nat} (hk : k ∉ ks) (j : Nat) : M'.2 k j = M.2 k j := by rw [h.2 k hk]
theorem fr_MN {ks : List Nat} {M M' : HSt} {n : Nat} {T : Nat → Nat → Nat} {en : Nat → Int32} (h : fr ks M M') (hk : ∀ k, k < 5 → k ∉ ks) (hM : MN M n T en) : MN M' n T en := by
  refine ⟨by rw [h.1]; exact hM.1, fun l hl => ?_, fun l hl => ?_, fun l hl => ?_, fun l hl => ?_, fun l hl => ?_⟩
  · rw [fr_at h (hk 0 (by omega))]; exact hM.2.1 l hl
  · rw [fr_at h (hk 1 (by omega))]; exact hM.2.2.1 l hl
  · rw [fr_at h (hk 2 (by omega))]; exact hM.2.2.2.1 l hl
  · rw [fr_at h (hk 3 (by omega))]; exact hM.2.2.2.2.1 l hl
  · rw [fr_at h (hk 4 (by omega))]; exact hM.2.2.2.2.2 l hl
/-! the reference's findFar -/
def MF (M : HSt) (g : Nat → Nat) : Prop := ∀ b, b < 7 → M.2 5 b = nI (g b)
theorem MF_wr {M : HSt} {g : Nat → Nat} (h : MF M g) (v x : Nat) : MF (wr M 5 v (nI x)) (up1 g v x) := by
  intro b hb
  by_cases e : b = v
  · rw [e, wr_s, up1_s]
  · rw [wr_n _ _ e, up1_n _ e]; exact h b hb
/-- how far a pass has come -/
def FP (n : Nat) (T : Nat → Nat → Nat) (g0 g : Nat → Nat) (x : Int32) (l : Nat) : Prop := (x = 0 ∧ (∀ b, b < 7 → g b = g0 b) ∧ ∀ s, s < 2 * l → T 3 (s / 2) = 1 → g (ow T s) ≤ g (ow T (fl s)) + T 2 (s / 2)) ∨ (x = 1 ∧ sm7 g < sm7 g0)
theorem ff_iter {M : HSt} {n : Nat} {T : Nat → Nat → Nat} {en : Nat → Int32} {e : Int32} (hn : NetWf n T) (hM : MN M n T en) {g0 g : Nat → Nat} (hF : MF M g) (hJ : IsJ n T e g) {l : Nat} (hl : l < n) {x : Int32} (hP : FP n T g0 g x l) (hle : sm7 g ≤ sm7 g0) (k39 : HSt → Int32 → Option HSt) (k47 : HSt → Int32 → Int32 → Option HSt) : ∃ M' x' g', f_X4_findFar_47_s k39 k47 M x (nI l) = k47 M' x' (nI (l + 1)) ∧ fr [5] M M' ∧ MF M' g' ∧ IsJ n T e g' ∧ FP n T g0 g' x' (l + 1) ∧ sm7 g' ≤ sm7 g0 := by
  have h12 := hn.1
  have hw := hn.2.1 l hl
  have ha := hJ.1 (T 0 l) (by omega)
  have hb := hJ.1 (T 1 l) (by omega)
  have eo : ow T (2 * l) = T 0 l := ow_2 T l
  have eo1 : ow T (2 * l + 1) = T 1 l := ow_21 T l
  have ef : fl (2 * l) = 2 * l + 1 := by unfold fl; rw [if_pos (by omega)]
  have ef1 : fl (2 * l + 1) = 2 * l := by unfold fl; rw [if_neg (by omega)]; omega
  have ed : 2 * l / 2 = l := by omega
  have ed1 : (2 * l + 1) / 2 = l := by omega
  have f0 := hF (T 0 l) (by omega)
  have f1 := hF (T 1 l) (by omega)
  have s6 : ∀ s, s < 2 * (l + 1) → s < 2 * l ∨ s = 2 * l ∨ s = 2 * l + 1 := by intro s hs; omega
  unfold f_X4_findFar_47_s f_X4_findFar_127 f_X4_findFar_183
  rw [hM.1, if_neg (ngt hl (by omega))]
  by_cases hu : T 3 l = 0
  · refine ⟨M, x, g, ?_, fr_rf _ _, hF, hJ, ?_, hle⟩
    · simp (disch := omega) only [ld_n, Option.bind_some, hM.2.1, hM.2.2.1, hM.2.2.2.2.1, hu, ← n_0, if_true, nI_1]
    · rcases hP with ⟨h1, h2, h3⟩ | h1
      · left
        refine ⟨h1, h2, fun s hs hus => ?_⟩
        rcases s6 s hs with h | rfl | rfl
        · exact h3 s h hus
        · rw [ed] at hus; omega
        · rw [ed1] at hus; omega
      · exact Or.inr h1
  · have hu1 : T 3 l = 1 := by omega
    have hz : ¬ nI 1 = 0 := by decide
    by_cases c1 : g (T 0 l) + T 2 l < g (T 1 l)
    · -- the greater one becomes nearer; then the lesser one can't
      refine ⟨wr M 5 (T 1 l) (nI (g (T 0 l) + T 2 l)), 1, up1 g (T 1 l) (g (T 0 l) + T 2 l), ?_, fr_wr (by decide), MF_wr hF _ _, ?_, ?_, ?_⟩
      · simp (disch := omega) only [ld_n, st_n, Option.bind_some, hM.2.1, hM.2.2.1, hM.2.2.2.1, hM.2.2.2.2.1, hu1, if_neg hz, f0, f1, nI_add, nI_1, wr_o, wr_s, wr_n]
        rw [if_neg (ngt c1 (by omega)), if_pos (nle (by omega) (by omega))]
      · have := J_rel hn hJ (s := 2 * l + 1) (by omega) (by rw [ed1]; exact hu1) (by rw [ef1, eo, eo1, ed1]; exact c1)
        rw [ef1, eo, eo1, ed1] at this
        exact this
      · right
        refine ⟨rfl, ?_⟩
        have := sm7_up g (k := T 1 l) (g (T 0 l) + T 2 l) (by omega)
        omega
      · have := sm7_up g (k := T 1 l) (g (T 0 l) + T 2 l) (by omega)
        omega
    · by_cases c2 : g (T 1 l) + T 2 l < g (T 0 l)
      · refine ⟨wr M 5 (T 0 l) (nI (g (T 1 l) + T 2 l)), 1, up1 g (T 0 l) (g (T 1 l) + T 2 l), ?_, fr_wr (by decide), MF_wr hF _ _, ?_, ?_, ?_⟩
        · simp (disch := omega) only [ld_n, st_n, Option.bind_some, hM.2.1, hM.2.2.1, hM.2.2.2.1, hM.2.2.2.2.1, hu1, if_neg hz, f0, f1, nI_add, nI_1, wr_o, wr_s, wr_n]
          rw [if_pos (nle (by omega) (by omega)), if_neg (ngt c2 (by omega))]
        · have := J_rel hn hJ (s := 2 * l) (by omega) (by rw [ed]; exact hu1) (by rw [ef, eo, eo1, ed]; exact c2)
          rw [ef, eo, eo1, ed] at this
          exact this
        · right
          refine ⟨rfl, ?_⟩
          have := sm7_up g (k := T 0 l) (g (T 1 l) + T 2 l) (by omega)
          omega
        · have := sm7_up g (k := T 0 l) (g (T 1 l) + T 2 l) (by omega)
          omega
      · refine ⟨M, x, g, ?_, fr_rf _ _, hF, hJ, ?_, hle⟩
        · simp (disch := omega) only [ld_n, st_n, Option.bind_some, hM.2.1, hM.2.2.1, hM.2.2.2.1, hM.2.2.2.2.1, hu1, if_neg hz, f0, f1, nI_add, nI_1, wr_o, wr_s, wr_n]
          rw [if_pos (nle (by omega) (by omega)), if_pos (nle (by omega) (by omega))]
        · rcases hP with ⟨h1, h2, h3⟩ | h1
          · left
            refine ⟨h1, h2, fun s hs hus => ?_⟩
            rcases s6 s hs with h | rfl | rfl
            · exact h3 s h hus
            · rw [ef, eo, eo1, ed]; omega
            · rw [ef1, eo, eo1, ed1]; omega
          · exact Or.inr h1
