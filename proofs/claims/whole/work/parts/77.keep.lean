/-! a TICK, (c): what is handed is taken; what is kept -/
section TE
variable {S M M1 S1 : HSt} {n : Nat} {T : Nat → Nat → Nat} {en : Nat → Int32} {md : Nat → Nat} {od lm : Nat} {hl hk : Nat → Nat → Nat} {cn : Nat → Nat → Nat} {b : Nat}
theorem take_spec (hn : NetWf n T) (hC : CN S1 n T en) : ∃ r S', f_X0_takeFresh S1 = some (r, S') ∧ fr [6] S1 S' ∧ (∀ x, x < 8 * n → S'.2 6 x = S1.2 9 x) ∧ (∀ x, 8 * n ≤ x → S'.2 6 x = S1.2 6 x) ∧ ((r = 0 ∧ ∀ x, x < 8 * n → S1.2 6 x = S1.2 9 x) ∨ (r = 1 ∧ ∃ x, x < 8 * n ∧ S1.2 6 x ≠ S1.2 9 x)) := by
  have h12 := hn.1
  unfold f_X0_takeFresh
  refine lp_up (fun k (q : HSt × Int32 × Int32) => f_X0_takeFresh_4 k q.1 q.2.1 q.2.2) (fun i q => q.2.2 = nI i ∧ fr [6] S1 q.1 ∧ (∀ x, x < i → q.1.2 6 x = S1.2 9 x) ∧ (∀ x, i ≤ x → q.1.2 6 x = S1.2 6 x) ∧ ((q.2.1 = 0 ∧ ∀ x, x < i → S1.2 6 x = S1.2 9 x) ∨ (q.2.1 = 1 ∧ ∃ x, x < 8 * n ∧ S1.2 6 x ≠ S1.2 9 x))) (8 * n) (fun o => ∃ r S', o = some (r, S') ∧ fr [6] S1 S' ∧ (∀ x, x < 8 * n → S'.2 6 x = S1.2 9 x) ∧ (∀ x, 8 * n ≤ x → S'.2 6 x = S1.2 6 x) ∧ ((r = 0 ∧ ∀ x, x < 8 * n → S1.2 6 x = S1.2 9 x) ∨ (r = 1 ∧ ∃ x, x < 8 * n ∧ S1.2 6 x ≠ S1.2 9 x))) ?_ ?_ h_fu 0 (S1, 0, 0) (Nat.zero_le _) (by have := fu_big; omega) ⟨rfl, fr_rf _ _, fun x h => by omega, fun x _ => rfl, Or.inl ⟨rfl, fun x h => by omega⟩⟩
  · rintro k i ⟨S2, x1, x2⟩ hi ⟨q1, q2, q3, q4, q5⟩
    dsimp only at q1 q2 q3 q4 q5
    subst q1
    right
    have e1 : f_X0_takeFresh_4 (k + 1) S2 x1 (nI i) = f_X0_takeFresh_4_s (f_X0_takeFresh_4 k) S2 x1 (nI i) := rfl
    dsimp only
    rw [e1]
    unfold f_X0_takeFresh_4_s f_X3_slot
    have hC2 := fr_CN q2 (by decide) hC
    rw [Option.bind_some, hC2.1, if_neg (show ¬ (2 * nI n * 4 + 0 : Int32) ≤ nI i by rw [n_2, n_4, n_0, pk_mul, pk_mul, nI_add]; exact ngt (by omega) (by omega))]
    have fin : ∀ t0 : Int32, ((t0 = 0 ∧ ∀ x, x < i + 1 → S1.2 6 x = S1.2 9 x) ∨ (t0 = 1 ∧ ∃ x, x < 8 * n ∧ S1.2 6 x ≠ S1.2 9 x)) → ∃ q : HSt × Int32 × Int32, (q.2.2 = nI (i + 1) ∧ fr [6] S1 q.1 ∧ (∀ x, x < i + 1 → q.1.2 6 x = S1.2 9 x) ∧ (∀ x, i + 1 ≤ x → q.1.2 6 x = S1.2 6 x) ∧ ((q.2.1 = 0 ∧ ∀ x, x < i + 1 → S1.2 6 x = S1.2 9 x) ∨ (q.2.1 = 1 ∧ ∃ x, x < 8 * n ∧ S1.2 6 x ≠ S1.2 9 x))) ∧ f_X0_takeFresh_45 (f_X0_takeFresh_4 k) S2 (nI i) t0 = f_X0_takeFresh_4 k q.1 q.2.1 q.2.2 := by
      intro t0 h0
      unfold f_X0_takeFresh_45
      rw [ld_n _ _ (by omega) (by omega), Option.bind_some, st_n _ _ _ (by omega) (by omega), Option.bind_some, nI_1]
      refine ⟨(wr S2 6 i (S2.2 9 i), t0, nI (i + 1)), ⟨rfl, fr_tr q2 (fr_wr (by decide)), fun x hx => ?_, fun x hx => ?_, h0⟩, rfl⟩
      · dsimp only
        by_cases z : x = i
        · rw [z, wr_s, q2.2 9 (by decide)]
        · rw [wr_n _ _ z]; exact q3 x (by omega)
      · dsimp only
        rw [wr_n _ _ (by omega)]; exact q4 x (by omega)
    rcases q5 with ⟨a1, a2⟩ | ⟨a1, a2⟩
    · rw [a1, if_pos rfl, ld_n _ _ (by omega) (by omega), Option.bind_some, ld_n _ _ (by omega) (by omega), Option.bind_some, q4 i (by omega), q2.2 9 (by decide)]
      by_cases z : S1.2 6 i = S1.2 9 i
      · rw [if_pos z]
        refine fin 0 (Or.inl ⟨rfl, fun x hx => ?_⟩)
        by_cases y : x = i
        · rw [y]; exact z
        · exact a2 x (by omega)
      · rw [if_neg z]
        exact fin 1 (Or.inr ⟨rfl, i, hi, z⟩)
    · rw [a1, if_neg (show ¬ (1 : Int32) = 0 by decide)]
      exact fin 1 (Or.inr ⟨rfl, a2⟩)
  · rintro k ⟨S2, x1, x2⟩ ⟨q1, q2, q3, q4, q5⟩
    dsimp only at q1 q2 q3 q4 q5
    subst q1
    have e1 : f_X0_takeFresh_4 (k + 1) S2 x1 (nI (8 * n)) = f_X0_takeFresh_4_s (f_X0_takeFresh_4 k) S2 x1 (nI (8 * n)) := rfl
    dsimp only
    rw [e1]
    unfold f_X0_takeFresh_4_s f_X3_slot
    have hC2 := fr_CN q2 (by decide) hC
    rw [Option.bind_some, hC2.1, if_pos (show (2 * nI n * 4 + 0 : Int32) ≤ nI (8 * n) by rw [n_2, n_4, n_0, pk_mul, pk_mul, nI_add]; exact nle (by omega) (by omega))]
    refine ⟨x1, S2, ?_, q2, q3, q4, q5⟩
    rcases q5 with ⟨a1, -⟩ | ⟨a1, -⟩ <;> rw [a1] <;> rfl
def kv (S1 : HSt) (T : Nat → Nat → Nat) (md : Nat → Nat) (s c : Nat) : Int32 := if md (ow T s * 4 + 1) = 1 ∧ S1.2 5 (ow T s * 4 + c) ≠ nI s then 0 else S1.2 6 (fl s * 4 + c)
theorem toKeep_eq {S2 : HSt} (hn : NetWf n T) (hC : CN S2 n T en) (hD : MD S2 M md od lm) (h5 : S2.2 5 = S1.2 5) (h6 : S2.2 6 = S1.2 6) {s c : Nat} (hs : s < 2 * n) (hc : c < 4) : f_X0_slipToKeep S2 (nI s) (nI c) = some (kv S1 T md s c) := by
  have h12 := hn.1
  have ho := ow_lt hn hs
  have hfl := fl_lt hs
  have hm := (hD.1 (ow T s * 4 + 1) (by omega)).1
  unfold f_X0_slipToKeep f_X0_slipToKeep_38 f_X3_slot f_X3_pair kv
  rw [ld_n _ _ (by omega) (by omega), Option.bind_some, hC.2.1 s hs, show nI s ^^^ 1 = nI (fl s) from n_xor s (by omega), show (1 : Int32) = nI 1 from rfl, has_eq hD ho (by omega)]
  repeat rw [Option.bind_some]
  rw [show (nI (ow T s) * 4 + nI c : Int32) = nI (ow T s * 4 + c) by rw [n_4, pk_mul, nI_add], show (nI (fl s) * 4 + nI c : Int32) = nI (fl s * 4 + c) by rw [n_4, pk_mul, nI_add], ld_n _ _ (by omega) (by omega), ld_n _ _ (by omega) (by omega)]
  repeat rw [Option.bind_some]
  rw [h5, h6]
  by_cases hm1 : md (ow T s * 4 + 1) = 1
  · rw [hm1, if_neg (show ¬ nI 1 = 0 by decide)]
    by_cases z : S1.2 5 (ow T s * 4 + c) = nI s
    · rw [if_pos z, if_neg (fun y => y.2 z)]
    · rw [if_neg z, if_pos ⟨rfl, z⟩]
  · rw [show md (ow T s * 4 + 1) = 0 by omega, if_pos (show nI 0 = 0 from rfl), if_neg (fun y => by omega)]
theorem keep_spec (hn : NetWf n T) (hC : CN S1 n T en) (hD : MD S1 M md od lm) : ∃ r S', f_X0_keepAll S1 = some (r, S') ∧ fr [7] S1 S' ∧ (∀ s c, s < 2 * n → c < 4 → S'.2 7 (s * 4 + c) = kv S1 T md s c) ∧ (∀ x, 8 * n ≤ x → S'.2 7 x = S1.2 7 x) ∧ ((r = 0 ∧ ∀ s c, s < 2 * n → c < 4 → S1.2 7 (s * 4 + c) = kv S1 T md s c) ∨ (r = 1 ∧ ∃ s c, s < 2 * n ∧ c < 4 ∧ S1.2 7 (s * 4 + c) ≠ kv S1 T md s c)) := by
  have h12 := hn.1
  unfold f_X0_keepAll
  refine lp_up (fun k (q : HSt × Int32 × Int32) => f_X0_keepAll_4 k q.1 q.2.1 q.2.2) (fun i q => q.2.2 = nI i ∧ fr [7] S1 q.1 ∧ (∀ s c, s < i → c < 4 → q.1.2 7 (s * 4 + c) = kv S1 T md s c) ∧ (∀ x, 4 * i ≤ x → q.1.2 7 x = S1.2 7 x) ∧ ((q.2.1 = 0 ∧ ∀ s c, s < i → c < 4 → S1.2 7 (s * 4 + c) = kv S1 T md s c) ∨ (q.2.1 = 1 ∧ ∃ s c, s < 2 * n ∧ c < 4 ∧ S1.2 7 (s * 4 + c) ≠ kv S1 T md s c))) (2 * n) (fun o => ∃ r S', o = some (r, S') ∧ fr [7] S1 S' ∧ (∀ s c, s < 2 * n → c < 4 → S'.2 7 (s * 4 + c) = kv S1 T md s c) ∧ (∀ x, 8 * n ≤ x → S'.2 7 x = S1.2 7 x) ∧ ((r = 0 ∧ ∀ s c, s < 2 * n → c < 4 → S1.2 7 (s * 4 + c) = kv S1 T md s c) ∨ (r = 1 ∧ ∃ s c, s < 2 * n ∧ c < 4 ∧ S1.2 7 (s * 4 + c) ≠ kv S1 T md s c))) ?_ ?_ h_fu 0 (S1, 0, 0) (Nat.zero_le _) (by have := fu_big; omega) ⟨rfl, fr_rf _ _, fun s c h => by omega, fun x _ => rfl, Or.inl ⟨rfl, fun s c h => by omega⟩⟩
  · rintro k i ⟨S2, x1, x2⟩ hi ⟨q1, q2, q3, q4, q5⟩
    dsimp only at q1 q2 q3 q4 q5
    subst q1
    right
    have e1 : f_X0_keepAll_4 (k + 1) S2 x1 (nI i) = f_X0_keepAll_4_s (f_X0_keepAll_4 k) S2 x1 (nI i) := rfl
    dsimp only
    rw [e1]
    unfold f_X0_keepAll_4_s
    have hC2 := fr_CN q2 (by decide) hC
    rw [hC2.1, if_neg (show ¬ (2 * nI n) ≤ nI i by rw [n_2, pk_mul]; exact ngt hi (by omega))]
    refine lp_up (fun k2 (q : HSt × Int32 × Int32) => f_X0_keepAll_19 (f_X0_keepAll_4 k) k2 q.1 q.2.1 (nI i) q.2.2) (fun j q => q.2.2 = nI j ∧ fr [7] S1 q.1 ∧ (∀ s c, s < 2 * n → c < 4 → s * 4 + c < i * 4 + j → q.1.2 7 (s * 4 + c) = kv S1 T md s c) ∧ (∀ x, i * 4 + j ≤ x → q.1.2 7 x = S1.2 7 x) ∧ ((q.2.1 = 0 ∧ ∀ s c, s < 2 * n → c < 4 → s * 4 + c < i * 4 + j → S1.2 7 (s * 4 + c) = kv S1 T md s c) ∨ (q.2.1 = 1 ∧ ∃ s c, s < 2 * n ∧ c < 4 ∧ S1.2 7 (s * 4 + c) ≠ kv S1 T md s c))) 4 (fun o => ∃ q : HSt × Int32 × Int32, (q.2.2 = nI (i + 1) ∧ fr [7] S1 q.1 ∧ (∀ s c, s < i + 1 → c < 4 → q.1.2 7 (s * 4 + c) = kv S1 T md s c) ∧ (∀ x, 4 * (i + 1) ≤ x → q.1.2 7 x = S1.2 7 x) ∧ ((q.2.1 = 0 ∧ ∀ s c, s < i + 1 → c < 4 → S1.2 7 (s * 4 + c) = kv S1 T md s c) ∨ (q.2.1 = 1 ∧ ∃ s c, s < 2 * n ∧ c < 4 ∧ S1.2 7 (s * 4 + c) ≠ kv S1 T md s c))) ∧ o = f_X0_keepAll_4 k q.1 q.2.1 q.2.2) ?_ ?_ h_fu 0 (S2, x1, 0) (Nat.zero_le _) (by have := fu_big; omega) ⟨rfl, q2, fun s c _ hc h => q3 s c (by omega) hc, fun x h => q4 x (by omega), ?_⟩
    · rintro k2 j ⟨S3, y1, y2⟩ hj ⟨u1, u2, u3, u4, u5⟩
      dsimp only at u1 u2 u3 u4 u5
      subst u1
      right
      have e2 : f_X0_keepAll_19 (f_X0_keepAll_4 k) (k2 + 1) S3 y1 (nI i) (nI j) = f_X0_keepAll_19_s (f_X0_keepAll_4 k) (f_X0_keepAll_19 (f_X0_keepAll_4 k) k2) S3 y1 (nI i) (nI j) := rfl
      dsimp only
      rw [e2]
      unfold f_X0_keepAll_19_s
      have hC3 := fr_CN u2 (by decide) hC
      have hD3 : MD S3 M md od lm := MD_fr hD (by rw [u2.1]) (by rw [u2.1]) (u2.2 8 (by decide)) rfl rfl
      rw [if_neg (show ¬ (4 : Int32) ≤ nI j from ngt (b := 4) hj (by omega)), toKeep_eq (S1 := S1) hn hC3 hD3 (u2.2 5 (by decide)) (u2.2 6 (by decide)) hi hj, Option.bind_some]
      have fin : ∀ t0 : Int32, ((t0 = 0 ∧ ∀ s c, s < 2 * n → c < 4 → s * 4 + c < i * 4 + (j + 1) → S1.2 7 (s * 4 + c) = kv S1 T md s c) ∨ (t0 = 1 ∧ ∃ s c, s < 2 * n ∧ c < 4 ∧ S1.2 7 (s * 4 + c) ≠ kv S1 T md s c)) → ∃ q : HSt × Int32 × Int32, (q.2.2 = nI (j + 1) ∧ fr [7] S1 q.1 ∧ (∀ s c, s < 2 * n → c < 4 → s * 4 + c < i * 4 + (j + 1) → q.1.2 7 (s * 4 + c) = kv S1 T md s c) ∧ (∀ x, i * 4 + (j + 1) ≤ x → q.1.2 7 x = S1.2 7 x) ∧ ((q.2.1 = 0 ∧ ∀ s c, s < 2 * n → c < 4 → s * 4 + c < i * 4 + (j + 1) → S1.2 7 (s * 4 + c) = kv S1 T md s c) ∨ (q.2.1 = 1 ∧ ∃ s c, s < 2 * n ∧ c < 4 ∧ S1.2 7 (s * 4 + c) ≠ kv S1 T md s c))) ∧ f_X0_keepAll_56 (f_X0_keepAll_19 (f_X0_keepAll_4 k) k2) S3 (nI i) (nI j) (kv S1 T md i j) t0 = f_X0_keepAll_19 (f_X0_keepAll_4 k) k2 q.1 q.2.1 (nI i) q.2.2 := by
        intro t0 h0
        unfold f_X0_keepAll_56 f_X3_slot
        rw [Option.bind_some, show (nI i * 4 + nI j : Int32) = nI (i * 4 + j) by rw [n_4, pk_mul, nI_add], st_n _ _ _ (by omega) (by omega), Option.bind_some, nI_1]
        refine ⟨(wr S3 7 (i * 4 + j) (kv S1 T md i j), t0, nI (j + 1)), ⟨rfl, fr_tr u2 (fr_wr (by decide)), fun s c hs hc h => ?_, fun x h => ?_, h0⟩, rfl⟩
        · dsimp only
          by_cases z : s * 4 + c = i * 4 + j
          · have z1 : s = i := by omega
            have z2 : c = j := by omega
            rw [z1, z2, wr_s]
          · rw [wr_n _ _ z]; exact u3 s c hs hc (by omega)
        · dsimp only
          rw [wr_n _ _ (by omega)]; exact u4 x (by omega)
      rcases u5 with ⟨a1, a2⟩ | ⟨a1, a2⟩
      · unfold f_X3_slot
        rw [a1, if_pos rfl, Option.bind_some, show (nI i * 4 + nI j : Int32) = nI (i * 4 + j) by rw [n_4, pk_mul, nI_add], ld_n _ _ (by omega) (by omega), Option.bind_some, u4 (i * 4 + j) (by omega)]
        by_cases z : S1.2 7 (i * 4 + j) = kv S1 T md i j
        · rw [if_pos z]
          refine fin 0 (Or.inl ⟨rfl, fun s c hs hc h => ?_⟩)
          by_cases y : s * 4 + c = i * 4 + j
          · have z1 : s = i := by omega
            have z2 : c = j := by omega
            rw [z1, z2]; exact z
          · exact a2 s c hs hc (by omega)
        · rw [if_neg z]
          exact fin 1 (Or.inr ⟨rfl, i, j, hi, hj, z⟩)
      · rw [a1, if_neg (show ¬ (1 : Int32) = 0 by decide)]
        exact fin 1 (Or.inr ⟨rfl, a2⟩)
    · rintro k2 ⟨S3, y1, y2⟩ ⟨u1, u2, u3, u4, u5⟩
      dsimp only at u1 u2 u3 u4 u5
      subst u1
      have e2 : f_X0_keepAll_19 (f_X0_keepAll_4 k) (k2 + 1) S3 y1 (nI i) (nI 4) = f_X0_keepAll_19_s (f_X0_keepAll_4 k) (f_X0_keepAll_19 (f_X0_keepAll_4 k) k2) S3 y1 (nI i) (nI 4) := rfl
      dsimp only
      rw [e2]
      unfold f_X0_keepAll_19_s
      rw [if_pos (show (4 : Int32) ≤ nI 4 by decide), nI_1]
      refine ⟨(S3, y1, nI (i + 1)), ⟨rfl, u2, fun s c hs hc => u3 s c (by omega) hc (by omega), fun x h => u4 x (by omega), ?_⟩, rfl⟩
      rcases u5 with ⟨a1, a2⟩ | a
      · exact Or.inl ⟨a1, fun s c hs hc => a2 s c (by omega) hc (by omega)⟩
      · exact Or.inr a
    · dsimp only
      rcases q5 with ⟨a1, a2⟩ | a
      · exact Or.inl ⟨a1, fun s c _ hc h => a2 s c (by omega) hc⟩
      · exact Or.inr a
  · rintro k ⟨S2, x1, x2⟩ ⟨q1, q2, q3, q4, q5⟩
    dsimp only at q1 q2 q3 q4 q5
    subst q1
    have e1 : f_X0_keepAll_4 (k + 1) S2 x1 (nI (2 * n)) = f_X0_keepAll_4_s (f_X0_keepAll_4 k) S2 x1 (nI (2 * n)) := rfl
    dsimp only
    rw [e1]
    unfold f_X0_keepAll_4_s
    have hC2 := fr_CN q2 (by decide) hC
    rw [hC2.1, if_pos (show (2 * nI n) ≤ nI (2 * n) by rw [n_2, pk_mul]; exact nle (Nat.le_refl _) (by omega))]
    refine ⟨x1, S2, ?_, q2, q3, fun x h => q4 x (by omega), q5⟩
    rcases q5 with ⟨a1, -⟩ | ⟨a1, -⟩ <;> rw [a1] <;> rfl
/-- the reference: LINKS at a BOX -/
theorem side_at (hn : NetWf n T) {l b : Nat} (hl1 : l < n) : ((T 0 l = b ∨ T 1 l = b) ∧ ∃ s, s < 2 * n ∧ ow T s = b ∧ s / 2 = l ∧ (if T 0 l = b then T 1 l else T 0 l) = ow T (fl s)) ∨ (¬ (T 0 l = b ∨ T 1 l = b) ∧ ∀ s, s < 2 * n → ow T s = b → s / 2 ≠ l) := by
  by_cases hat : T 0 l = b ∨ T 1 l = b
  · refine Or.inl ⟨hat, ?_⟩
    by_cases h0 : T 0 l = b
    · refine ⟨2 * l, by omega, by rw [ow_2]; exact h0, by omega, ?_⟩
      rw [if_pos h0, show fl (2 * l) = 2 * l + 1 by unfold fl; rw [if_pos (by omega)], ow_21]
    · have h1 : T 1 l = b := by omega
      refine ⟨2 * l + 1, by omega, by rw [ow_21]; exact h1, by omega, ?_⟩
      rw [if_neg h0, show fl (2 * l + 1) = 2 * l by unfold fl; rw [if_neg (by omega)]; omega, ow_2]
  · refine Or.inr ⟨hat, fun s hs h2 h3 => hat ?_⟩
    unfold ow at h2
    rw [h3] at h2
    rcases (show s % 2 = 0 ∨ s % 2 = 1 by omega) with f | f <;> rw [f] at h2
    · exact Or.inl h2
    · exact Or.inr h2
theorem isLink_eq (hn : NetWf n T) (hM : MN M n T en) {l : Nat} (hl : l < 12) : f_X4_isLink M (nI l) = some (if l < n then 1 else 0) := by
  have h12 := hn.1
  unfold f_X4_isLink f_X4_within
  rw [hM.1, if_neg (nI_pos (by omega))]
  by_cases h : l < n
  · rw [if_pos h, show (nI n - 1 : Int32) = nI (n - 1) from n_sub (b := 1) (by omega), if_neg (by rw [n_lt (by omega) (by omega)]; omega)]
    rfl
  · rw [if_neg h, if_pos]
    · rfl
    · rcases (show n = 0 ∨ 0 < n by omega) with rfl | h0
      · rw [show (nI 0 - 1 : Int32) = -1 by decide]
        exact Int32.lt_iff_toInt_lt.mpr (by rw [nI_toInt (by omega)]; have : (-1 : Int32).toInt = -1 := rfl; omega)
      · rw [show (nI n - 1 : Int32) = nI (n - 1) from n_sub (b := 1) h0, n_lt (by omega) (by omega)]; omega
theorem keeps_spec (hn : NetWf n T) (hM : MN M1 n T en) (hD : MD S M1 md od lm) (hN : NN S M1 n T cn 28) (hH : ∀ s c, s < 2 * n → c < 4 → M1.2 8 (4 * (12 * ow T s + s / 2) + c) = nI (hl s c) ∧ (hl s c ≠ 0 → M1.2 9 (4 * (12 * ow T s + s / 2) + c) = nI (hk s c))) (hup : ∀ s c, s < 2 * n → c < 4 → T 3 (s / 2) = 0 → hl s c = 0) : ∃ M', f_X4_keeps M1 = some M' ∧ fr [10, 11] M1 M' ∧ (∀ s c, s < 2 * n → c < 4 → M'.2 10 (4 * (12 * ow T s + s / 2) + c) = nI (if md (ow T s * 4 + 1) = 1 ∧ S.2 5 (ow T s * 4 + c) ≠ nI s then 0 else hl (fl s) c) ∧ ((if md (ow T s * 4 + 1) = 1 ∧ S.2 5 (ow T s * 4 + c) ≠ nI s then 0 else hl (fl s) c) ≠ 0 → M'.2 11 (4 * (12 * ow T s + s / 2) + c) = nI (hk (fl s) c))) ∧ ∀ b l c, b < 7 → l < 12 → c < 4 → (∀ s, s < 2 * n → ow T s = b → s / 2 ≠ l) → M'.2 10 (4 * (12 * b + l) + c) = 0 := by
  have h12 := hn.1
  unfold f_X4_keeps
  refine lp_up (fun k (q : HSt × Int32) => f_X4_keeps_2 k q.1 q.2) (fun i q => q.2 = nI i ∧ fr [10, 11] M1 q.1 ∧ (∀ s c, s < 2 * n → c < 4 → 4 * (12 * ow T s + s / 2) + c < i → q.1.2 10 (4 * (12 * ow T s + s / 2) + c) = nI (if md (ow T s * 4 + 1) = 1 ∧ S.2 5 (ow T s * 4 + c) ≠ nI s then 0 else hl (fl s) c) ∧ ((if md (ow T s * 4 + 1) = 1 ∧ S.2 5 (ow T s * 4 + c) ≠ nI s then 0 else hl (fl s) c) ≠ 0 → q.1.2 11 (4 * (12 * ow T s + s / 2) + c) = nI (hk (fl s) c))) ∧ ∀ b l c, b < 7 → l < 12 → c < 4 → (∀ s, s < 2 * n → ow T s = b → s / 2 ≠ l) → 4 * (12 * b + l) + c < i → q.1.2 10 (4 * (12 * b + l) + c) = 0) 336 (fun o => ∃ M', o = some M' ∧ fr [10, 11] M1 M' ∧ (∀ s c, s < 2 * n → c < 4 → M'.2 10 (4 * (12 * ow T s + s / 2) + c) = nI (if md (ow T s * 4 + 1) = 1 ∧ S.2 5 (ow T s * 4 + c) ≠ nI s then 0 else hl (fl s) c) ∧ ((if md (ow T s * 4 + 1) = 1 ∧ S.2 5 (ow T s * 4 + c) ≠ nI s then 0 else hl (fl s) c) ≠ 0 → M'.2 11 (4 * (12 * ow T s + s / 2) + c) = nI (hk (fl s) c))) ∧ ∀ b l c, b < 7 → l < 12 → c < 4 → (∀ s, s < 2 * n → ow T s = b → s / 2 ≠ l) → M'.2 10 (4 * (12 * b + l) + c) = 0) ?_ ?_ h_fu 0 (M1, 0) (Nat.zero_le _) (by have := fu_big; omega) ⟨rfl, fr_rf _ _, fun s c _ _ h => by omega, fun b l c _ _ _ _ h => by omega⟩
  · rintro k i ⟨M2, x1⟩ hi ⟨q1, q2, q3, q4⟩
    dsimp only at q1 q2 q3 q4
    subst q1
    right
    have e1 : f_X4_keeps_2 (k + 1) M2 (nI i) = f_X4_keeps_2_s (f_X4_keeps_2 k) M2 (nI i) := rfl
    dsimp only
    rw [e1]
    unfold f_X4_keeps_2_s f_X4_keeps_146
    have ed : nI i / 4 = nI (i / 4) := n_div (d := 4) (by omega) (by omega) (by omega)
    have em : nI i - nI (i / 4) * 4 = nI (i % 4) := by rw [← ed]; exact pk_rem (a := i) (d := 4) (by omega) (by omega) (by omega)
    have ed2 : nI (i / 4) / 12 = nI (i / 4 / 12) := n_div (d := 12) (by omega) (by omega) (by omega)
    have em2 : nI (i / 4) - nI (i / 4 / 12) * 12 = nI (i / 4 % 12) := by rw [← ed2]; exact pk_rem (a := i / 4) (d := 12) (by omega) (by omega) (by omega)
    have ed3 : nI i / 48 = nI (i / 48) := n_div (d := 48) (by omega) (by omega) (by omega)
    obtain ⟨l, hl1⟩ : ∃ l, i / 4 % 12 = l := ⟨_, rfl⟩
    obtain ⟨b, hb1⟩ : ∃ b, i / 48 = b := ⟨_, rfl⟩
    obtain ⟨c, hc1⟩ : ∃ c, i % 4 = c := ⟨_, rfl⟩
    have hli : l < 12 := by omega
    have hb : b < 7 := by omega
    have hc : c < 4 := by omega
    have hi2 : i = 4 * (12 * b + l) + c := by omega
    rw [if_neg (show ¬ (336 : Int32) ≤ nI i from ngt (b := 336) hi (by omega)), st_n _ _ _ (by omega) (by omega), Option.bind_some, ed, ed3, em, ed2, em2, hl1, hb1, hc1, nI_1]
    have f3 : fr [10, 11] M1 (wr M2 10 i 0) := fr_tr q2 (fr_wr (by decide))
    have hM3 := fr_MN f3 (by decide) hM
    have hD3 : MD S (wr M2 10 i 0) md od lm := MD_fr hD rfl rfl rfl (f3.2 6 (by decide)) (f3.2 7 (by decide))
    have zero : (∀ s, s < 2 * n → ow T s = b → s / 2 = l → (if md (ow T s * 4 + 1) = 1 ∧ S.2 5 (ow T s * 4 + c) ≠ nI s then 0 else hl (fl s) c) = 0) → ∃ s' : HSt × Int32, (s'.2 = nI (i + 1) ∧ fr [10, 11] M1 s'.1 ∧ (∀ s c, s < 2 * n → c < 4 → 4 * (12 * ow T s + s / 2) + c < i + 1 → s'.1.2 10 (4 * (12 * ow T s + s / 2) + c) = nI (if md (ow T s * 4 + 1) = 1 ∧ S.2 5 (ow T s * 4 + c) ≠ nI s then 0 else hl (fl s) c) ∧ ((if md (ow T s * 4 + 1) = 1 ∧ S.2 5 (ow T s * 4 + c) ≠ nI s then 0 else hl (fl s) c) ≠ 0 → s'.1.2 11 (4 * (12 * ow T s + s / 2) + c) = nI (hk (fl s) c))) ∧ ∀ b l c, b < 7 → l < 12 → c < 4 → (∀ s, s < 2 * n → ow T s = b → s / 2 ≠ l) → 4 * (12 * b + l) + c < i + 1 → s'.1.2 10 (4 * (12 * b + l) + c) = 0) ∧ f_X4_keeps_2 k (wr M2 10 i 0) (nI (i + 1)) = f_X4_keeps_2 k s'.1 s'.2 := by
      intro h0
      refine ⟨(wr M2 10 i 0, nI (i + 1)), ⟨rfl, f3, fun s d hs hd h => ?_, fun b' l' d hb' hl' hd hno h => ?_⟩, rfl⟩
      · dsimp only
        have hos := ow_lt hn hs
        by_cases z : 4 * (12 * ow T s + s / 2) + d = i
        · have z0 : d = c := by omega
          have z3 := h0 s hs (by omega) (by omega)
          rw [z, wr_s, z0, z3]
          exact ⟨rfl, fun y => absurd rfl y⟩
        · rw [wr_n _ _ z, wr_o _ _ _ (show 11 ≠ 10 by decide)]
          exact q3 s d hs hd (by omega)
      · dsimp only
        by_cases z : 4 * (12 * b' + l') + d = i
        · rw [z, wr_s]
        · rw [wr_n _ _ z]
          exact q4 b' l' d hb' hl' hd hno (by omega)
    rw [isLink_eq hn hM3 hli, Option.bind_some]
    by_cases hln : l < n
    · rw [if_pos hln, if_neg (show ¬ (1 : Int32) = 0 by decide), isAt_eq hn hM3 hln hb, Option.bind_some]
      rcases side_at (b := b) hn hln with ⟨hat, s, s1, s2, s3, s4⟩ | ⟨hat, hno⟩
      · have hw := hn.2.1 l hln
        have hfl := fl_lt s1
        have hof := ow_lt hn hfl
        have hm := (hD.1 (b * 4 + 1) (by omega)).1
        rw [if_pos hat, if_neg (show ¬ (1 : Int32) = 0 by decide), ld_n _ _ (by omega) (by omega), Option.bind_some, hM3.2.2.2.2.1 l hln]
        have huniq : ∀ t, t < 2 * n → ow T t = b → t / 2 = l → t = s := fun t ht h1 h2 => side_1 hn ht s1 (by rw [h1, s2]) (by omega)
        by_cases hu : T 3 l = 0
        · rw [hu, if_pos (show nI 0 = 0 from rfl)]
          refine zero (fun t ht h1 h2 => ?_)
          rw [hup (fl t) c (fl_lt ht) hc (by rw [fl_div, h2]; exact hu)]
          split <;> rfl
        · rw [if_neg (nz hu (by omega)), otherOf_eq hn hM3 hln hb, Option.bind_some, s4, show (1 : Int32) = nI 1 from rfl, is_eq hD3 hb (by omega), Option.bind_some, show (4 * nI b + nI c : Int32) = nI (b * 4 + c) by rw [n_4, pk_mul, nI_add]; congr 1; omega, ld_n _ _ (by omega) (by omega), Option.bind_some]
          have hq := hH (fl s) c hfl hc
          rw [fl_div, s3] at hq
          have h16 : (wr M2 10 i 0).2 16 (b * 4 + c) = nI (ow T (fl s)) ↔ S.2 5 (b * 4 + c) = nI s := by
            rw [f3.2 16 (by decide)]
            rcases (hN b c hb hc (by omega)).2 with ⟨y1, y2⟩ | ⟨u, u1, u2, u3, u4, u5⟩
            · rw [y1, y2]
              exact ⟨fun z => absurd z.symm (nn9 (by omega)), fun z => absurd z.symm (nn1 (by omega))⟩
            · have hou := ow_lt hn (fl_lt u1)
              rw [u5, u2, n_eq (by omega) (by omega), n_eq (by omega) (by omega)]
              exact ⟨fun z => ow_inj hn u1 s1 (by rw [u3, s2]) z, fun z => by rw [z]⟩
          have fin : ∀ t0 v : Int32, v = nI (if md (ow T s * 4 + 1) = 1 ∧ S.2 5 (ow T s * 4 + c) ≠ nI s then 0 else hl (fl s) c) → ∃ s' : HSt × Int32, (s'.2 = nI (i + 1) ∧ fr [10, 11] M1 s'.1 ∧ (∀ s c, s < 2 * n → c < 4 → 4 * (12 * ow T s + s / 2) + c < i + 1 → s'.1.2 10 (4 * (12 * ow T s + s / 2) + c) = nI (if md (ow T s * 4 + 1) = 1 ∧ S.2 5 (ow T s * 4 + c) ≠ nI s then 0 else hl (fl s) c) ∧ ((if md (ow T s * 4 + 1) = 1 ∧ S.2 5 (ow T s * 4 + c) ≠ nI s then 0 else hl (fl s) c) ≠ 0 → s'.1.2 11 (4 * (12 * ow T s + s / 2) + c) = nI (hk (fl s) c))) ∧ ∀ b l c, b < 7 → l < 12 → c < 4 → (∀ s, s < 2 * n → ow T s = b → s / 2 ≠ l) → 4 * (12 * b + l) + c < i + 1 → s'.1.2 10 (4 * (12 * b + l) + c) = 0) ∧ f_X4_keeps_126 (f_X4_keeps_2 k) (wr M2 10 i 0) (nI i) (nI l) (nI c) (nI (ow T (fl s))) v (nI i) = f_X4_keeps_2 k s'.1 s'.2 := by
            intro t0 v hv
            unfold f_X4_keeps_126 f_X4_keeps_146 f_X4_at
            rw [st_n _ _ _ (by omega) (by omega), Option.bind_some, Option.bind_some, show (4 * (12 * nI (ow T (fl s)) + nI l) + nI c : Int32) = nI (4 * (12 * ow T (fl s) + l) + c) by rw [n_4, n_12, pk_mul, nI_add, pk_mul, nI_add], ld_n _ _ (by omega) (by omega), Option.bind_some, wr_o _ _ _ (show 9 ≠ 10 by decide), f3.2 9 (by decide), st_n _ _ _ (by omega) (by omega), Option.bind_some, nI_1]
            refine ⟨(wr (wr (wr M2 10 i 0) 10 i v) 11 i (M1.2 9 (4 * (12 * ow T (fl s) + l) + c)), nI (i + 1)), ⟨rfl, fr_tr f3 (fr_tr (fr_wr (by decide)) (fr_wr (by decide))), fun t d ht hd h => ?_, fun b' l' d hb' hl' hd hno h => ?_⟩, rfl⟩
            · dsimp only
              have hot := ow_lt hn ht
              rw [wr_o _ _ _ (show 10 ≠ 11 by decide)]
              by_cases z : 4 * (12 * ow T t + t / 2) + d = i
              · have z0 : d = c := by omega
                have z1 : t = s := huniq t ht (by omega) (by omega)
                rw [z, wr_s, wr_s, z0, z1]
                refine ⟨hv, fun y => ?_⟩
                apply hq.2
                intro y2
                rw [y2] at y
                apply y
                split <;> rfl
              · rw [wr_n _ _ z, wr_n _ _ z, wr_n _ _ z, wr_o _ _ _ (show 11 ≠ 10 by decide), wr_o _ _ _ (show 11 ≠ 10 by decide)]
                exact q3 t d ht hd (by omega)
            · dsimp only
              rw [wr_o _ _ _ (show 10 ≠ 11 by decide)]
              by_cases z : 4 * (12 * b' + l') + d = i
              · exact absurd (show s / 2 = l' by omega) (hno s s1 (by omega))
              · rw [wr_n _ _ z, wr_n _ _ z]
                exact q4 b' l' d hb' hl' hd hno (by omega)
          have kept : ¬ (md (ow T s * 4 + 1) = 1 ∧ S.2 5 (ow T s * 4 + c) ≠ nI s) → ∃ s' : HSt × Int32, (s'.2 = nI (i + 1) ∧ fr [10, 11] M1 s'.1 ∧ (∀ s c, s < 2 * n → c < 4 → 4 * (12 * ow T s + s / 2) + c < i + 1 → s'.1.2 10 (4 * (12 * ow T s + s / 2) + c) = nI (if md (ow T s * 4 + 1) = 1 ∧ S.2 5 (ow T s * 4 + c) ≠ nI s then 0 else hl (fl s) c) ∧ ((if md (ow T s * 4 + 1) = 1 ∧ S.2 5 (ow T s * 4 + c) ≠ nI s then 0 else hl (fl s) c) ≠ 0 → s'.1.2 11 (4 * (12 * ow T s + s / 2) + c) = nI (hk (fl s) c))) ∧ ∀ b l c, b < 7 → l < 12 → c < 4 → (∀ s, s < 2 * n → ow T s = b → s / 2 ≠ l) → 4 * (12 * b + l) + c < i + 1 → s'.1.2 10 (4 * (12 * b + l) + c) = 0) ∧ f_X4_keeps_92 (f_X4_keeps_2 k) (wr M2 10 i 0) (nI i) (nI l) (nI c) (nI (ow T (fl s))) = f_X4_keeps_2 k s'.1 s'.2 := by
            intro hk1
            unfold f_X4_keeps_92 f_X4_keeps_97 f_X4_at
            rw [if_neg (show ¬ (1 : Int32) = 0 by decide), Option.bind_some, show (4 * (12 * nI (ow T (fl s)) + nI l) + nI c : Int32) = nI (4 * (12 * ow T (fl s) + l) + c) by rw [n_4, n_12, pk_mul, nI_add, pk_mul, nI_add], ld_n _ _ (by omega) (by omega), Option.bind_some, f3.2 8 (by decide), hq.1]
            exact fin 1 _ (by rw [if_neg hk1])
          by_cases hm1 : md (b * 4 + 1) = 1
          · rw [hm1, if_neg (show ¬ nI 1 = 0 by decide)]
            by_cases h5 : S.2 5 (b * 4 + c) = nI s
            · rw [if_pos (h16.mpr h5)]
              exact kept (by rw [s2]; exact fun y => y.2 h5)
            · rw [if_neg (fun z => h5 (h16.mp z))]
              unfold f_X4_keeps_97
              rw [if_pos (show (0 : Int32) = 0 from rfl)]
              exact fin 0 0 (by rw [s2, if_pos ⟨hm1, h5⟩]; rfl)
          · rw [show md (b * 4 + 1) = 0 by omega, if_pos (show nI 0 = 0 from rfl)]
            exact kept (by rw [s2]; exact fun y => hm1 y.1)
      · rw [if_neg hat, if_pos (show (0 : Int32) = 0 from rfl)]
        exact zero (fun t ht h1 h2 => absurd h2 (hno t ht h1))
    · rw [if_neg hln, if_pos (show (0 : Int32) = 0 from rfl)]
      exact zero (fun t ht h1 h2 => by omega)
  · rintro k ⟨M2, x1⟩ ⟨q1, q2, q3, q4⟩
    dsimp only at q1 q2 q3 q4
    subst q1
    refine ⟨M2, rfl, q2, fun s c hs hc => ?_, fun b l c hb hl hc hno => q4 b l c hb hl hc hno (by omega)⟩
    have := ow_lt hn hs
    exact q3 s c hs hc (by omega)
end TE
