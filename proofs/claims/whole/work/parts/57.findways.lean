def gE (e : Int32) : Nat → Nat := fun b => if e = nI b then 0 else 1000
theorem gE_J (n : Nat) (T : Nat → Nat → Nat) (e : Int32) : IsJ n T e (gE e) := by
  refine ⟨fun b hb => ?_, fun b hb => ?_, fun b hb h1 h2 => ?_⟩
  · unfold gE; split <;> omega
  · unfold gE; split <;> simp_all
  · unfold gE at h1 h2; split at h1 <;> simp_all
theorem gE_B (e : Int32) : Bd (gE e) := by
  intro b hb h1
  have h2 : e = nI b := by
    unfold gE at h1
    split at h1
    · assumption
    · omega
  have h0 : gE e b = 0 := if_pos h2
  have := sm7_lt (f := fun _ => 0) (g := fun b => if gE e b < 1000 then 1 else 0) (fun _ _ => Nat.zero_le _) hb (by rw [h0]; decide)
  have e0 : sm7 (fun _ => 0) = 0 := rfl
  unfold cf
  omega
section FW
variable {S M : HSt} {n : Nat} {T : Nat → Nat → Nat} {en : Nat → Int32} {c : Nat} {D : Nat → Nat}
theorem fw3 (hn : NetWf n T) (hC : CN S n T en) (hc : c < 4) (hF : CF S c D) (hD : IsD n T (en c) D) : ∃ S', f_X1_findWaysOf_83 h_fu S (nI c) 0 = some S' ∧ fc c S S' ∧ CF S' c D ∧ ∀ b, b < 7 → NX n T D b (S'.2 5 (b * 4 + c)) := by
  refine lp_up (fun k (q : HSt × Int32) => f_X1_findWaysOf_83 k q.1 (nI c) q.2) (fun i q => q.2 = nI i ∧ fc c S q.1 ∧ CF q.1 c D ∧ ∀ b, b < i → NX n T D b (q.1.2 5 (b * 4 + c))) 7 (fun o => ∃ S', o = some S' ∧ fc c S S' ∧ CF S' c D ∧ ∀ b, b < 7 → NX n T D b (S'.2 5 (b * 4 + c))) ?_ ?_ h_fu 0 (S, 0) (Nat.zero_le _) (by have := fu_big; omega) ⟨rfl, fc_rf _ _, hF, fun b hb => by omega⟩
  · rintro k i ⟨S1, y⟩ hi ⟨hy, hf, q1, q2⟩
    dsimp only at hy hf q1 q2
    subst hy
    right
    have e1 : f_X1_findWaysOf_83 (k + 1) S1 (nI c) (nI i) = f_X1_findWaysOf_83_s (f_X1_findWaysOf_83 k) S1 (nI c) (nI i) := rfl
    dsimp only
    rw [e1]
    unfold f_X1_findWaysOf_83_s f_X3_pair
    obtain ⟨r, r1, r2⟩ := fns_spec hn (fc_CN hf hC) hc q1 hD hi
    rw [if_neg (show ¬ (7 : Int32) ≤ nI i from ngt (b := 7) hi (by omega)), r1]
    simp (disch := omega) only [Option.bind_some, st_n, n_4, pk_mul, nI_add, nI_1]
    refine ⟨(wr S1 5 (i * 4 + c) r, nI (i + 1)), ⟨rfl, fc_tr hf (fc_wr (Or.inr rfl) (by omega)), fun b hb => ?_, fun b hb => ?_⟩, rfl⟩
    · show (wr S1 5 (i * 4 + c) r).2 4 (b * 4 + c) = _
      rw [wr_o _ _ _ (by omega)]; exact q1 b hb
    · show NX n T D b ((wr S1 5 (i * 4 + c) r).2 5 (b * 4 + c))
      by_cases e2 : b = i
      · rw [e2, wr_s]; exact r2
      · rw [wr_n _ _ (by omega)]; exact q2 b (by omega)
  · rintro k ⟨S1, y⟩ ⟨hy, hf, q1, q2⟩
    dsimp only at hy hf q1 q2
    subst hy
    exact ⟨S1, rfl, hf, q1, q2⟩
theorem fw_spec (hn : NetWf n T) (hC : CN S n T en) (hE : EnOk en) (hc : c < 4) (hD : IsD n T (en c) D) : ∃ S', f_X1_findWaysOf S (nI c) = some S' ∧ fc c S S' ∧ CF S' c D ∧ ∀ b, b < 7 → NX n T D b (S'.2 5 (b * 4 + c)) := by
  unfold f_X1_findWaysOf
  refine lp_up (fun k (q : HSt × Int32) => f_X1_findWaysOf_2 k q.1 (nI c) q.2) (fun i q => q.2 = nI i ∧ fc c S q.1 ∧ ∀ b, b < i → q.1.2 4 (b * 4 + c) = e9 (if en c = nI b then 0 else 1000)) 7 (fun o => ∃ S', o = some S' ∧ fc c S S' ∧ CF S' c D ∧ ∀ b, b < 7 → NX n T D b (S'.2 5 (b * 4 + c))) ?_ ?_ h_fu 0 (S, 0) (Nat.zero_le _) (by have := fu_big; omega) ⟨rfl, fc_rf _ _, fun b hb => by omega⟩
  · rintro k i ⟨S1, y⟩ hi ⟨hy, hf, q1⟩
    dsimp only at hy hf q1
    subst hy
    right
    have e1 : f_X1_findWaysOf_2 (k + 1) S1 (nI c) (nI i) = f_X1_findWaysOf_2_s (f_X1_findWaysOf_2 k) S1 (nI c) (nI i) := rfl
    dsimp only
    rw [e1]
    unfold f_X1_findWaysOf_2_s f_X1_findWaysOf_33 f_X3_pair
    have hC1 := fc_CN hf hC
    rw [if_neg (show ¬ (7 : Int32) ≤ nI i from ngt (b := 7) hi (by omega))]
    simp (disch := omega) only [Option.bind_some, ld_n, st_n, n_4, pk_mul, nI_add, nI_1, hC1.2.2.2.2]
    by_cases h : nI i = en c
    · rw [if_pos h]
      refine ⟨(wr S1 4 (i * 4 + c) 0, nI (i + 1)), ⟨rfl, fc_tr hf (fc_wr (Or.inl rfl) (by omega)), fun b hb => ?_⟩, rfl⟩
      show (wr S1 4 (i * 4 + c) 0).2 4 (b * 4 + c) = _
      by_cases e2 : b = i
      · rw [e2, wr_s, if_pos h.symm]; rfl
      · rw [wr_n _ _ (by omega)]; exact q1 b (by omega)
    · rw [if_neg h]
      refine ⟨(wr S1 4 (i * 4 + c) (-9), nI (i + 1)), ⟨rfl, fc_tr hf (fc_wr (Or.inl rfl) (by omega)), fun b hb => ?_⟩, rfl⟩
      show (wr S1 4 (i * 4 + c) (-9)).2 4 (b * 4 + c) = _
      by_cases e2 : b = i
      · rw [e2, wr_s, if_neg (fun q => h q.symm)]; rfl
      · rw [wr_n _ _ (by omega)]; exact q1 b (by omega)
  · rintro k ⟨S1, y⟩ ⟨hy, hf, q1⟩
    dsimp only at hy hf q1
    subst hy
    have e1 : f_X1_findWaysOf_2 (k + 1) S1 (nI c) (nI 7) = f_X1_findWaysOf_2_s (f_X1_findWaysOf_2 k) S1 (nI c) (nI 7) := rfl
    dsimp only
    rw [e1]
    unfold f_X1_findWaysOf_2_s f_X1_findWaysOf_56
    have hC1 := fc_CN hf hC
    rw [if_pos (show (7 : Int32) ≤ nI 7 by decide), ld_n _ _ (by omega) (by omega), Option.bind_some, hC1.2.2.2.2 c hc]
    have q1 : CF S1 c (gE (en c)) := q1
    have fin : ∀ x : Int32, un D (gE (en c)) ≤ 6 → (x = 1 ∨ (x = 0 ∧ ∀ b, b < 7 → gE (en c) b = D b)) → ∃ S', f_X1_findWaysOf_59 h_fu S1 (nI c) x 0 = some S' ∧ fc c S S' ∧ CF S' c D ∧ ∀ b, b < 7 → NX n T D b (S'.2 5 (b * 4 + c)) := by
      intro x hu hx
      obtain ⟨S2, r1, r2, r3⟩ := rounds hn hC1 hc hD q1 (gE_J n T (en c)) (gE_B (en c)) hu x hx
      rw [r1]
      unfold f_X1_findWaysOf_81
      obtain ⟨S3, t1, t2, t3, t4⟩ := fw3 hn (fc_CN r2 hC1) hc r3 hD
      exact ⟨S3, t1, fc_tr hf (fc_tr r2 t2), t3, t4⟩
    rcases hE c hc with h9 | ⟨b0, hb0, h9⟩
    · rw [if_pos h9]
      have hall : ∀ b, b < 7 → gE (en c) b = D b := by
        intro b hb
        have hD' : IsD n T (en c) (gE (en c)) := J_D hn (gE_J n T (en c)) (fun s hs hus => by
          have : ∀ b, b < 7 → gE (en c) b = 1000 := fun b hb => if_neg (fun q => nn9 (a := b) (by omega) (q.symm.trans h9))
          rw [this _ (ow_lt hn hs), this _ (ow_lt hn (fl_lt hs))]; omega)
        exact D_uniq hn hD' hD hb
      refine fin 0 ?_ (Or.inr ⟨rfl, hall⟩)
      have e0 : sm7 (fun b => if gE (en c) b = D b then 0 else 1) ≤ sm7 (fun _ => 0) := sm7_le (fun b hb => by rw [if_pos (hall b hb)]; exact Nat.le_refl _)
      have e1 : sm7 (fun _ => 0) = 0 := rfl
      unfold un
      omega
    · rw [if_neg (by rw [h9]; exact nn9 (by omega))]
      refine fin 1 ?_ (Or.inl rfl)
      have h0 : gE (en c) b0 = 0 := if_pos h9
      have := sm7_lt (f := fun b => if gE (en c) b = D b then 0 else 1) (g := fun _ => 1) (fun b _ => by split <;> omega) hb0 (by
        rw [h0, (hD.2.1 b0 hb0).mpr h9]; decide)
      have e0 : sm7 (fun _ => 1) = 7 := rfl
      unfold un
      omega
/-- ways of all CLASSES -/
def Ways (S : HSt) (n : Nat) (T : Nat → Nat → Nat) (en : Nat → Int32) (c : Nat) : Prop := ∃ D, IsD n T (en c) D ∧ CF S c D ∧ ∀ b, b < 7 → NX n T D b (S.2 5 (b * 4 + c))
theorem Ways_fc {S S' : HSt} {c c' : Nat} (h : fc c S S') (hcc : c' ≠ c) (hc' : c' < 4) (hw : Ways S n T en c') : Ways S' n T en c' := by
  obtain ⟨D, h1, h2, h3⟩ := hw
  refine ⟨D, h1, fun b hb => ?_, fun b hb => ?_⟩
  · rw [h.2.2 4 _ (by omega)]; exact h2 b hb
  · rw [h.2.2 5 _ (by omega)]; exact h3 b hb
theorem findWays_spec (hn : NetWf n T) (hC : CN S n T en) (hM : MN M n T en) (hE : EnOk en) : ∃ S', f_X1_findWays S = some S' ∧ fr [4, 5] S S' ∧ ∀ c, c < 4 → Ways S' n T en c := by
  unfold f_X1_findWays
  refine lp_up (fun k (q : HSt × Int32) => f_X1_findWays_2 k q.1 q.2) (fun i q => q.2 = nI i ∧ fr [4, 5] S q.1 ∧ CN q.1 n T en ∧ ∀ c, c < i → Ways q.1 n T en c) 4 (fun o => ∃ S', o = some S' ∧ fr [4, 5] S S' ∧ ∀ c, c < 4 → Ways S' n T en c) ?_ ?_ h_fu 0 (S, 0) (Nat.zero_le _) (by have := fu_big; omega) ⟨rfl, fr_rf _ _, hC, fun b hb => by omega⟩
  · rintro k i ⟨S1, y⟩ hi ⟨hy, hf, q0, q1⟩
    dsimp only at hy hf q0 q1
    subst hy
    right
    have e1 : f_X1_findWays_2 (k + 1) S1 (nI i) = f_X1_findWays_2_s (f_X1_findWays_2 k) S1 (nI i) := rfl
    dsimp only
    rw [e1]
    unfold f_X1_findWays_2_s
    obtain ⟨M', D, -, -, -, hD⟩ := findFar_spec hn hM hi
    obtain ⟨S2, r1, r2, r3, r4⟩ := fw_spec hn q0 hE hi hD
    rw [if_neg (show ¬ (4 : Int32) ≤ nI i from ngt (b := 4) hi (by omega)), r1]
    simp only [Option.bind_some, nI_1]
    refine ⟨(S2, nI (i + 1)), ⟨rfl, fr_tr hf ⟨r2.1, r2.2.1⟩, fc_CN r2 q0, fun c hc => ?_⟩, rfl⟩
    by_cases e2 : c = i
    · subst e2; exact ⟨D, hD, r3, r4⟩
    · exact Ways_fc r2 e2 (by omega) (q1 c (by omega))
  · rintro k ⟨S1, y⟩ ⟨hy, hf, q0, q1⟩
    dsimp only at hy hf q0 q1
    subst hy
    exact ⟨S1, rfl, hf, q1⟩
end FW
