section NO
variable {S M : HSt} {n : Nat} {T : Nat → Nat → Nat} {en : Nat → Int32} {c : Nat} {D : Nat → Nat}
theorem nextOf_spec (hn : NetWf n T) (hM : MN M n T en) (hc : c < 4) {b : Nat} (hb : b < 7) (hD : IsD n T (en c) D) {r : Int32} (hx : NX n T D b r) : ∃ M', fr [5] M M' ∧ ((r = -1 ∧ f_X4_nextOf M (nI b) (nI c) = some (-9, M')) ∨ ∃ s, s < 2 * n ∧ r = nI s ∧ ow T s = b ∧ T 3 (s / 2) = 1 ∧ f_X4_nextOf M (nI b) (nI c) = some (nI (ow T (fl s)), M')) := by
  have h12 := hn.1
  obtain ⟨M', d, r1, r2, r3, r4⟩ := findFar_spec hn hM hc
  have hM' := fr_MN r2 no5 hM
  have hd : ∀ b, b < 7 → d b = D b := fun b hb => D_uniq hn r4 hD hb
  refine ⟨M', r2, ?_⟩
  unfold f_X4_nextOf
  rw [r1, Option.bind_some]
  have hbd := hd b hb
  have hle := r4.1 b hb
  rcases hx with ⟨rfl, h0⟩ | ⟨h1, h2, s, z1, rfl, z3, z4, z5, z6⟩
  · left
    refine ⟨rfl, ?_⟩
    have e1 : f_X4_nextOf_7 h_fu M' (nI b) 0 = f_X4_nextOf_7_s (f_X4_nextOf_7 99999) M' (nI b) (nI 0) := rfl
    rw [e1]
    unfold f_X4_nextOf_7_s
    rw [if_neg (by decide), ld_n _ _ hb (by omega), Option.bind_some, r3 b hb, hbd]
    rcases h0 with h0 | h0
    · rw [h0, if_pos (by decide)]
    · rw [h0, if_neg (by decide), Option.bind_some, if_pos (by decide)]
  · right
    refine ⟨s, z1, rfl, z3, z4, ?_⟩
    have hos := ow_lt hn (fl_lt z1)
    refine lp_up (fun k (y : Int32) => f_X4_nextOf_7 k M' (nI b) y) (fun i y => y = nI i ∧ ∀ t, t < 2 * n → ow T t = b → T 3 (t / 2) = 1 → D (ow T (fl t)) + T 2 (t / 2) = D b → i ≤ ow T (fl t)) 7 (fun o => o = some (nI (ow T (fl s)), M')) ?_ ?_ h_fu 0 0 (Nat.zero_le _) (by have := fu_big; omega) ⟨rfl, fun _ _ _ _ _ => Nat.zero_le _⟩
    · rintro k i y hi ⟨rfl, hI⟩
      have e1 : f_X4_nextOf_7 (k + 1) M' (nI b) (nI i) = f_X4_nextOf_7_s (f_X4_nextOf_7 k) M' (nI b) (nI i) := rfl
      rw [e1]
      unfold f_X4_nextOf_7_s f_X4_nextOf_84
      rw [if_neg (show ¬ (7 : Int32) ≤ nI i from ngt (b := 7) hi (by omega)), ld_n _ _ hb (by omega)]
      simp only [Option.bind_some]
      rw [r3 b hb, if_neg (show ¬ nI (d b) ≤ 0 from ngt (a := 0) (by omega) (by omega)), if_neg (show ¬ (1000 : Int32) ≤ nI (d b) from ngt (b := 1000) (by omega) (by omega)), nI_1]
      have next : (∀ t, t < 2 * n → ow T t = b → T 3 (t / 2) = 1 → D (ow T (fl t)) + T 2 (t / 2) = D b → ow T (fl t) ≠ i) → ∃ s', (s' = nI (i + 1) ∧ ∀ t, t < 2 * n → ow T t = b → T 3 (t / 2) = 1 → D (ow T (fl t)) + T 2 (t / 2) = D b → i + 1 ≤ ow T (fl t)) ∧ f_X4_nextOf_7 k M' (nI b) (nI (i + 1)) = f_X4_nextOf_7 k M' (nI b) s' := by
        intro h
        refine ⟨nI (i + 1), ⟨rfl, fun t t1 t2 t3 t4 => ?_⟩, rfl⟩
        have a := hI t t1 t2 t3 t4
        have b := h t t1 t2 t3 t4
        omega
      rcases lb_side hn hM' hb hi with ⟨u, u1, u2, u3, u4⟩ | ⟨u1, u4⟩
      · have hwu := hn.2.1 (u / 2) (by omega)
        have hdi := r4.1 i hi
        rw [u4, Option.bind_some, if_neg (nn9 (by omega)), ld_n _ _ (by omega) (by omega), Option.bind_some, hM'.2.2.2.2.1 _ (by omega)]
        have same : ∀ t, t < 2 * n → ow T t = b → ow T (fl t) = i → t = u := fun t t1 t2 t3 => ow_inj hn t1 u1 (by rw [t2, u2]) (by rw [t3, u3])
        by_cases hu : T 3 (u / 2) = 0
        · right
          rw [hu, if_pos (show nI 0 = 0 from rfl)]
          refine next (fun t t1 t2 t3 t4 t5 => ?_)
          rw [same t t1 t2 t5] at t3
          omega
        · have hu1 : T 3 (u / 2) = 1 := by omega
          rw [hu1, if_neg (show ¬ nI 1 = 0 by decide), ld_n _ _ (by omega) (by omega), Option.bind_some, ld_n _ _ (by omega) (by omega), Option.bind_some, hM'.2.2.2.1 _ (by omega), r3 i hi, nI_add]
          by_cases hl : d i + T 2 (u / 2) = d b
          · left
            rw [if_pos (by rw [hl])]
            have a := hI s z1 z3 z4 z5
            have b' := z6 u u1 u2 hu1 (by rw [u3, ← hd i hi, ← hbd]; exact hl)
            rw [show i = ow T (fl s) by omega]
          · right
            rw [if_neg (by rw [n_eq (by omega) (by omega)]; exact hl)]
            refine next (fun t t1 t2 t3 t4 t5 => ?_)
            rw [t5, same t t1 t2 t5, ← hd i hi, ← hbd] at t4
            exact hl t4
      · right
        rw [u4, Option.bind_some, if_pos rfl]
        exact next (fun t t1 t2 t3 t4 t5 => u1 t t1 t2 t5)
    · rintro k y ⟨rfl, hI⟩
      have a := hI s z1 z3 z4 z5
      omega
/-- the LINK to the NEXT -/
theorem usedAt_spec (hn : NetWf n T) (hM : MN M n T en) (hc : c < 4) {b : Nat} (hb : b < 7) (hD : IsD n T (en c) D) {r : Int32} (hx : NX n T D b r) : ∃ M', fr [5] M M' ∧ ((r = -1 ∧ f_X4_usedAt M (nI b) (nI c) = some (-9, M')) ∨ ∃ s, s < 2 * n ∧ r = nI s ∧ ow T s = b ∧ f_X4_usedAt M (nI b) (nI c) = some (nI (4 * (12 * b + s / 2) + c), M')) := by
  have h12 := hn.1
  obtain ⟨M', h1, h2⟩ := nextOf_spec hn hM hc hb hD hx
  refine ⟨M', h1, ?_⟩
  unfold f_X4_usedAt
  rcases h2 with ⟨e, h2⟩ | ⟨s, s1, e, s2, s3, h2⟩
  · left
    rw [h2, bi_s, if_pos rfl]
    exact ⟨e, rfl⟩
  · right
    refine ⟨s, s1, e, s2, ?_⟩
    have hM' := fr_MN h1 no5 hM
    have hos := ow_lt hn (fl_lt s1)
    rw [h2, bi_s, if_neg (nn9 (by omega))]
    rcases lb_side hn hM' hb hos with ⟨u, u1, u2, u3, u4⟩ | ⟨u1, u4⟩
    · have : u = s := ow_inj hn u1 s1 (by rw [u2, s2]) u3
      subst this
      rw [u4, Option.bind_some]
      unfold f_X4_at
      simp only [Option.bind_some, n_4, n_12, pk_mul, nI_add]
    · exact absurd rfl (u1 s s1 s2)
end NO
