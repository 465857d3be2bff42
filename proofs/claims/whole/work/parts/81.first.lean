/-! how both begin -/
theorem first_C : ∃ S9, f_X1_init hS0 = some S9 ∧ fr [3, 4, 5] hS0 S9 ∧ (∀ c, c < 4 → S9.2 3 c = -9) ∧ ∀ x, x < 28 → S9.2 4 x = -9 ∧ S9.2 5 x = -1 := by
  unfold f_X1_init
  refine lp_up (fun k (q : HSt × Int32) => f_X1_init_53 k q.1 q.2) (fun i q => q.2 = nI i ∧ fr [3] hS0 q.1 ∧ ∀ c, c < i → q.1.2 3 c = -9) 4 (fun o => ∃ S9, o = some S9 ∧ fr [3, 4, 5] hS0 S9 ∧ (∀ c, c < 4 → S9.2 3 c = -9) ∧ ∀ x, x < 28 → S9.2 4 x = -9 ∧ S9.2 5 x = -1) ?_ ?_ h_fu 0 (hS0, 0) (Nat.zero_le _) (by have := fu_big; omega) ⟨rfl, fr_rf _ _, fun x h => by omega⟩
  · rintro k i ⟨M1, y⟩ hi ⟨q1, q2, q3⟩
    dsimp only at q1 q2 q3
    subst q1
    right
    have e1 : f_X1_init_53 (k + 1) M1 (nI i) = f_X1_init_53_s (f_X1_init_53 k) M1 (nI i) := rfl
    dsimp only
    rw [e1]
    unfold f_X1_init_53_s
    rw [if_neg (show ¬ (4 : Int32) ≤ nI i from ngt (b := 4) hi (by omega)), st_n _ _ _ (by omega) (by omega), Option.bind_some, nI_1]
    refine ⟨(wr M1 3 i (-9), nI (i + 1)), ⟨rfl, fr_tr q2 (fr_wr (by decide)), fun c hc => ?_⟩, rfl⟩
    dsimp only
    by_cases e : c = i
    · rw [e, wr_s]
    · rw [wr_n _ _ e]; exact q3 c (by omega)
  · rintro k ⟨M1, y⟩ ⟨q1, q2, q3⟩
    dsimp only at q1 q2 q3
    subst q1
    have e1 : f_X1_init_53 (k + 1) M1 (nI 4) = f_X1_init_53_s (f_X1_init_53 k) M1 (nI 4) := rfl
    dsimp only
    rw [e1]
    unfold f_X1_init_53_s
    rw [if_pos (show (4 : Int32) ≤ nI 4 by decide)]
    refine lp_up (fun k (q : HSt × Int32) => f_X1_init_74 k q.1 q.2) (fun i q => q.2 = nI i ∧ fr [3, 4, 5] hS0 q.1 ∧ (∀ c, c < 4 → q.1.2 3 c = -9) ∧ ∀ x, x < i → q.1.2 4 x = -9 ∧ q.1.2 5 x = -1) 28 (fun o => ∃ S9, o = some S9 ∧ fr [3, 4, 5] hS0 S9 ∧ (∀ c, c < 4 → S9.2 3 c = -9) ∧ ∀ x, x < 28 → S9.2 4 x = -9 ∧ S9.2 5 x = -1) ?_ ?_ h_fu 0 (M1, 0) (Nat.zero_le _) (by have := fu_big; omega) ⟨rfl, fr_mono q2 (by decide), q3, fun x h => by omega⟩
    · rintro k2 i ⟨M2, y⟩ hi ⟨u1, u2, u3, u4⟩
      dsimp only at u1 u2 u3 u4
      subst u1
      right
      have e2 : f_X1_init_74 (k2 + 1) M2 (nI i) = f_X1_init_74_s (f_X1_init_74 k2) M2 (nI i) := rfl
      dsimp only
      rw [e2]
      unfold f_X1_init_74_s
      rw [if_neg (show ¬ (28 : Int32) ≤ nI i from ngt (b := 28) hi (by omega)), st_n _ _ _ (by omega) (by omega), Option.bind_some, st_n _ _ _ (by omega) (by omega), Option.bind_some, nI_1]
      refine ⟨(wr (wr M2 4 i (-9)) 5 i (-1), nI (i + 1)), ⟨rfl, fr_tr u2 (fr_tr (fr_wr (by decide)) (fr_wr (by decide))), fun c hc => ?_, fun x hx => ?_⟩, rfl⟩
      · dsimp only
        rw [wr_o _ _ _ (show 3 ≠ 5 by decide), wr_o _ _ _ (show 3 ≠ 4 by decide)]; exact u3 c hc
      · dsimp only
        rw [wr_o _ _ _ (show 4 ≠ 5 by decide)]
        by_cases e : x = i
        · rw [e, wr_s, wr_s]; exact ⟨rfl, rfl⟩
        · rw [wr_n _ _ e, wr_n _ _ e, wr_o _ _ _ (show 5 ≠ 4 by decide)]; exact u4 x (by omega)
    · rintro k2 ⟨M2, y⟩ ⟨u1, u2, u3, u4⟩
      dsimp only at u1 u2 u3 u4
      subst u1
      exact ⟨M2, rfl, u2, u3, u4⟩
theorem first_M : ∃ M9, f_X4_init hS0 = some M9 ∧ fr [4, 7] hS0 M9 ∧ (∀ c, c < 4 → M9.2 4 c = -9) ∧ M9.2 7 0 = 1 ∧ M9.2 7 1 = 7 := by
  unfold f_X4_init
  refine lp_up (fun k (q : HSt × Int32) => f_X4_init_197 k q.1 q.2) (fun i q => q.2 = nI i ∧ fr [4] hS0 q.1 ∧ ∀ c, c < i → q.1.2 4 c = -9) 4 (fun o => ∃ M9, o = some M9 ∧ fr [4, 7] hS0 M9 ∧ (∀ c, c < 4 → M9.2 4 c = -9) ∧ M9.2 7 0 = 1 ∧ M9.2 7 1 = 7) ?_ ?_ h_fu 0 (hS0, 0) (Nat.zero_le _) (by have := fu_big; omega) ⟨rfl, fr_rf _ _, fun x h => by omega⟩
  · rintro k i ⟨M1, y⟩ hi ⟨q1, q2, q3⟩
    dsimp only at q1 q2 q3
    subst q1
    right
    have e1 : f_X4_init_197 (k + 1) M1 (nI i) = f_X4_init_197_s (f_X4_init_197 k) M1 (nI i) := rfl
    dsimp only
    rw [e1]
    unfold f_X4_init_197_s
    rw [if_neg (show ¬ (4 : Int32) ≤ nI i from ngt (b := 4) hi (by omega)), st_n _ _ _ (by omega) (by omega), Option.bind_some, nI_1]
    refine ⟨(wr M1 4 i (-9), nI (i + 1)), ⟨rfl, fr_tr q2 (fr_wr (by decide)), fun c hc => ?_⟩, rfl⟩
    dsimp only
    by_cases e : c = i
    · rw [e, wr_s]
    · rw [wr_n _ _ e]; exact q3 c (by omega)
  · rintro k ⟨M1, y⟩ ⟨q1, q2, q3⟩
    dsimp only at q1 q2 q3
    subst q1
    have e1 : f_X4_init_197 (k + 1) M1 (nI 4) = f_X4_init_197_s (f_X4_init_197 k) M1 (nI 4) := rfl
    dsimp only
    rw [e1]
    unfold f_X4_init_197_s
    have z0 : h_st M1 7 2 0 1 = some (wr M1 7 0 1) := st_n (i := 0) _ _ _ (by omega) (by omega)
    have z1 : h_st (wr M1 7 0 1) 7 2 1 7 = some (wr (wr M1 7 0 1) 7 1 7) := st_n (i := 1) _ _ _ (by omega) (by omega)
    rw [if_pos (show (4 : Int32) ≤ nI 4 by decide), z0, Option.bind_some, z1, Option.bind_some]
    refine ⟨_, rfl, fr_tr (fr_mono q2 (by decide)) (fr_tr (fr_wr (by decide)) (fr_wr (by decide))), fun c hc => ?_, ?_, ?_⟩
    · rw [wr_o _ _ _ (show 4 ≠ 7 by decide), wr_o _ _ _ (show 4 ≠ 7 by decide)]; exact q3 c hc
    · rw [wr_n _ _ (by omega), wr_s]
    · rw [wr_s]
theorem first_rel : ∃ S9 M9, f_X1_init hS0 = some S9 ∧ f_X4_init hS0 = some M9 ∧ Rel (hSC S9) M9 := by
  obtain ⟨S9, s1, s2, s3, s4⟩ := first_C
  obtain ⟨M9, m1, m2, m3, m4, m5⟩ := first_M
  have hz : ∀ k x, k ∉ [4, 7] → M9.2 k x = 0 := fun k x hk => by rw [m2.2 k hk]; rfl
  have hHL : ∀ i j k, 6 ≤ i → j ∉ [4, 7] → HL (hSC S9) M9 0 (fun _ _ => 0) i j k (fun _ _ => 0) (fun _ _ => 0) := fun i j k hi hj => by
    refine ⟨fun s c hs => absurd hs (by omega), fun x _ _ => ?_, fun b l c _ _ _ _ => hz j _ hj⟩
    show (if i < 6 then S9.2 i else fun _ => 0) x = 0
    rw [if_neg (by omega)]
  refine ⟨S9, M9, s1, m1, 0, fun _ _ => 0, fun _ => -9, fun _ => 0, 1, 7, fun _ _ => 0, fun _ _ => 0, fun _ _ => 0, fun _ _ => 0, ⟨⟨by omega, fun l h => absurd h (by omega), fun l l' h => absurd h (by omega)⟩, fun c _ => Or.inl rfl, ⟨?_, fun s h => absurd h (by omega), fun s h => absurd h (by omega), fun s h => absurd h (by omega), fun c hc => s3 c hc⟩, ⟨?_, fun s h => absurd h (by omega), fun s h => absurd h (by omega), fun s h => absurd h (by omega), fun s h => absurd h (by omega), m3⟩, fun c hc => ⟨fun _ => 1000, ⟨fun _ _ => Nat.le_refl _, fun b hb => ⟨fun h => absurd (show 1000 = 0 from h) (by decide), fun h => absurd h.symm (nn9 (by omega))⟩, fun s h => absurd h (by omega), fun b _ h => absurd (show 1000 < 1000 from h) (by decide)⟩, fun b hb => ?_, fun b hb => Or.inl ⟨?_, Or.inr rfl⟩⟩⟩, ⟨⟨fun j hj => ⟨Nat.zero_le _, rfl, hz 6 j (by decide)⟩, by omega, rfl, m4, by omega, by omega, rfl, m5⟩, hHL 6 8 9 (by omega) (by decide), hHL 7 10 11 (by omega) (by decide), fun s t c hs => absurd hs (by omega), ?_⟩, 0, by omega, rfl, ?_, fun k hk => absurd hk (by omega)⟩
  · show S9.1 0 = nI 0
    rw [s2.1]; rfl
  · rw [m2.1]; rfl
  · exact (s4 (b * 4 + c) (by omega)).1
  · exact (s4 (b * 4 + c) (by omega)).2
  · rw [m2.1]; rfl
  · rw [m2.1]; rfl
