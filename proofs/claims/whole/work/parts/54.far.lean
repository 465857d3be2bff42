section FF
variable {M : HSt} {n : Nat} {T : Nat → Nat → Nat} {en : Nat → Int32} {e : Int32}
theorem no5 : ∀ k, k < 5 → k ∉ [5] := by decide
theorem ff_pass (hn : NetWf n T) (hM : MN M n T en) {g : Nat → Nat} (hF : MF M g) (hJ : IsJ n T e g) (k39 : HSt → Int32 → Option HSt) : ∃ M' x' g', f_X4_findFar_47 k39 h_fu M 0 0 = k39 M' x' ∧ fr [5] M M' ∧ MF M' g' ∧ IsJ n T e g' ∧ FP n T g g' x' n ∧ sm7 g' ≤ sm7 g := by
  have h12 := hn.1
  refine lp_up (fun k (s : HSt × Int32 × Int32) => f_X4_findFar_47 k39 k s.1 s.2.1 s.2.2) (fun i s => s.2.2 = nI i ∧ fr [5] M s.1 ∧ ∃ g', MF s.1 g' ∧ IsJ n T e g' ∧ FP n T g g' s.2.1 i ∧ sm7 g' ≤ sm7 g) n (fun o => ∃ M' x' g', o = k39 M' x' ∧ fr [5] M M' ∧ MF M' g' ∧ IsJ n T e g' ∧ FP n T g g' x' n ∧ sm7 g' ≤ sm7 g) ?_ ?_ h_fu 0 (M, 0, 0) (Nat.zero_le _) (by have := fu_big; omega) ⟨rfl, fr_rf _ _, g, hF, hJ, Or.inl ⟨rfl, fun _ _ => rfl, fun s hs => by omega⟩, Nat.le_refl _⟩
  · rintro k i ⟨S, x, y⟩ hi ⟨hy, hf, g1, q1, q2, q3, q4⟩
    dsimp only at hy hf q1 q3
    subst hy
    right
    obtain ⟨M', x', g', r1, r2, r3, r4, r5, r6⟩ := ff_iter hn (fr_MN hf no5 hM) q1 q2 hi q3 q4 k39 (f_X4_findFar_47 k39 k)
    exact ⟨(M', x', nI (i + 1)), ⟨rfl, fr_tr hf r2, g', r3, r4, r5, r6⟩, r1⟩
  · rintro k ⟨S, x, y⟩ ⟨hy, hf, g1, q1, q2, q3, q4⟩
    dsimp only at hy hf q1 q3
    subst hy
    refine ⟨S, x, g1, ?_, hf, q1, q2, q3, q4⟩
    show f_X4_findFar_47_s k39 (f_X4_findFar_47 k39 k) S x (nI n) = _
    unfold f_X4_findFar_47_s
    rw [(fr_MN hf no5 hM).1, if_pos (nle (Nat.le_refl _) (by omega))]
theorem ff_loop (hn : NetWf n T) (hM : MN M n T en) {g : Nat → Nat} (hF : MF M g) (hJ : IsJ n T e g) : ∃ M' d, f_X4_findFar_39 h_fu M 1 = some M' ∧ fr [5] M M' ∧ MF M' d ∧ IsD n T e d := by
  have hg : sm7 g ≤ 7000 := by
    have h0 := hJ.1 0 (by omega); have h1 := hJ.1 1 (by omega); have h2 := hJ.1 2 (by omega); have h3 := hJ.1 3 (by omega); have h4 := hJ.1 4 (by omega); have h5 := hJ.1 5 (by omega); have h6 := hJ.1 6 (by omega)
    unfold sm7; omega
  refine lp_m (fun k (s : HSt × Int32 × (Nat → Nat)) => f_X4_findFar_39 k s.1 s.2.1) (fun s => fr [5] M s.1 ∧ MF s.1 s.2.2 ∧ ((s.2.1 = 1 ∧ IsJ n T e s.2.2) ∨ (s.2.1 = 0 ∧ IsD n T e s.2.2))) (fun s => if s.2.1 = 0 then 0 else sm7 s.2.2 + 1) (fun o => ∃ M' d, o = some M' ∧ fr [5] M M' ∧ MF M' d ∧ IsD n T e d) ?_ h_fu (M, 1, g) ?_ ⟨fr_rf _ _, hF, Or.inl ⟨rfl, hJ⟩⟩
  · rintro k ⟨S, x, g1⟩ ⟨hf, hF1, h⟩
    dsimp only at hf hF1 h
    have e1 : f_X4_findFar_39 (k + 1) S x = f_X4_findFar_39_s (f_X4_findFar_39 k) S x := rfl
    dsimp only
    rw [e1]
    unfold f_X4_findFar_39_s
    rcases h with ⟨rfl, h⟩ | ⟨rfl, h⟩
    · right
      rw [if_neg (by decide)]
      obtain ⟨M', x', g', r1, r2, r3, r4, r5, r6⟩ := ff_pass hn (fr_MN hf no5 hM) hF1 h (f_X4_findFar_39 k)
      refine ⟨(M', x', g'), ⟨fr_tr hf r2, r3, ?_⟩, ?_, r1⟩
      · rcases r5 with ⟨r7, r8, r9⟩ | ⟨r7, r8⟩
        · exact Or.inr ⟨r7, J_D hn r4 r9⟩
        · exact Or.inl ⟨r7, r4⟩
      · rcases r5 with ⟨r7, r8, r9⟩ | ⟨r7, r8⟩
        · dsimp only; rw [r7, if_pos rfl]; simp
        · dsimp only; rw [r7, if_neg (show ¬ (1 : Int32) = 0 by decide)]; omega
    · left
      rw [if_pos rfl]
      exact ⟨S, g1, rfl, hf, hF1, h⟩
  · dsimp only; rw [if_neg (by decide)]; have := fu_big; omega
theorem findFar_spec (hn : NetWf n T) (hM : MN M n T en) {c : Nat} (hc : c < 4) : ∃ M' d, f_X4_findFar M (nI c) = some M' ∧ fr [5] M M' ∧ MF M' d ∧ IsD n T (en c) d := by
  unfold f_X4_findFar
  refine lp_up (fun k (s : HSt × Int32) => f_X4_findFar_2 k s.1 (nI c) s.2) (fun i s => s.2 = nI i ∧ fr [5] M s.1 ∧ ∀ b, b < i → s.1.2 5 b = nI (if en c = nI b then 0 else 1000)) 7 (fun o => ∃ M' d, o = some M' ∧ fr [5] M M' ∧ MF M' d ∧ IsD n T (en c) d) ?_ ?_ h_fu 0 (M, 0) (Nat.zero_le _) (by have := fu_big; omega) ⟨rfl, fr_rf _ _, fun b hb => by omega⟩
  · rintro k i ⟨S, x⟩ hi ⟨hx, hf, hv⟩
    dsimp only at hx hf hv
    subst hx
    right
    have e1 : f_X4_findFar_2 (k + 1) S (nI c) (nI i) = f_X4_findFar_2_s (f_X4_findFar_2 k) S (nI c) (nI i) := rfl
    dsimp only
    rw [e1]
    unfold f_X4_findFar_2_s f_X4_findFar_30
    have hM' := fr_MN hf no5 hM
    rw [if_neg (show ¬ (7 : Int32) ≤ nI i from ngt (b := 7) hi (by omega))]
    simp (disch := omega) only [ld_n, st_n, Option.bind_some, hM'.2.2.2.2.2, nI_1]
    by_cases h : en c = nI i
    · rw [if_pos h]
      refine ⟨(wr S 5 i 0, nI (i + 1)), ⟨rfl, fr_tr hf (fr_wr (by decide)), fun b hb => ?_⟩, rfl⟩
      dsimp only
      by_cases hbi : b = i
      · rw [hbi, wr_s, if_pos h]; rfl
      · rw [wr_n _ _ hbi]; exact hv b (by omega)
    · rw [if_neg h]
      refine ⟨(wr S 5 i 1000, nI (i + 1)), ⟨rfl, fr_tr hf (fr_wr (by decide)), fun b hb => ?_⟩, rfl⟩
      dsimp only
      by_cases hbi : b = i
      · rw [hbi, wr_s, if_neg h]; rfl
      · rw [wr_n _ _ hbi]; exact hv b (by omega)
  · rintro k ⟨S, x⟩ ⟨hx, hf, hv⟩
    dsimp only at hx hf hv
    subst hx
    have e1 : f_X4_findFar_2 (k + 1) S (nI c) (nI 7) = f_X4_findFar_2_s (f_X4_findFar_2 k) S (nI c) (nI 7) := rfl
    dsimp only
    rw [e1]
    unfold f_X4_findFar_2_s
    rw [if_pos (show (7 : Int32) ≤ nI 7 from by decide)]
    obtain ⟨M', d, r1, r2, r3, r4⟩ := ff_loop (e := en c) (g := fun b => if en c = nI b then 0 else 1000) hn (fr_MN hf no5 hM) hv ⟨fun b hb => by dsimp only; split <;> omega, fun b hb => by dsimp only; split <;> simp_all, fun b hb h1 h2 => by dsimp only at h1 h2; split at h1 <;> simp_all⟩
    exact ⟨M', d, r1, fr_tr hf r2, r3, r4⟩
end FF
