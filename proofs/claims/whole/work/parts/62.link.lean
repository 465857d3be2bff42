def rz (p : Nat → Bool) (f : Nat → Nat → Nat) : Nat → Nat → Nat := fun s c => if p s = true then f s c else 0
theorem rz_t {p : Nat → Bool} {f : Nat → Nat → Nat} {s : Nat} (c : Nat) (h : p s = true) : rz p f s c = f s c := if_pos h
theorem rz_f {p : Nat → Bool} {f : Nat → Nat → Nat} {s : Nat} (c : Nat) (h : p s = false) : rz p f s c = 0 := if_neg (by rw [h]; decide)
def tl (T : Nat → Nat → Nat) (n lo hi co : Nat) : Nat → Nat → Nat := fun i j => if j = n then (if i = 0 then lo else if i = 1 then hi else if i = 2 then co else 1) else T i j
theorem tl_o (T : Nat → Nat → Nat) {n lo hi co j : Nat} (i : Nat) (h : j ≠ n) : tl T n lo hi co i j = T i j := if_neg h
theorem tl_0 (T : Nat → Nat → Nat) (n lo hi co : Nat) : tl T n lo hi co 0 n = lo := by simp [tl]
theorem tl_1 (T : Nat → Nat → Nat) (n lo hi co : Nat) : tl T n lo hi co 1 n = hi := by simp [tl]
theorem tl_2 (T : Nat → Nat → Nat) (n lo hi co : Nat) : tl T n lo hi co 2 n = co := by simp [tl]
theorem tl_3 (T : Nat → Nat → Nat) (n lo hi co : Nat) : tl T n lo hi co 3 n = 1 := by simp [tl]
theorem tl_ow (T : Nat → Nat → Nat) {n lo hi co s : Nat} (h : s < 2 * n) : ow (tl T n lo hi co) s = ow T s := tl_o T _ (by omega)
theorem HL_link {S M S' M' : HSt} {n : Nat} {T : Nat → Nat → Nat} {i j k : Nat} {hl hk : Nat → Nat → Nat} {lo hi co : Nat} (h : HL S M n T i j k hl hk) (hn : n < 12) (hlo : lo < 7) (hhi : hi < 7) (a : S'.2 i = S.2 i) (b : M'.2 j = M.2 j) (c : M'.2 k = M.2 k) : HL S' M' (n + 1) (tl T n lo hi co) i j k (rz (fun s => decide (s < 2 * n)) hl) (rz (fun s => decide (s < 2 * n)) hk) := by
  refine ⟨fun s q hs hq => ?_, fun x h1 h2 => ?_, fun x l q hx hl1 hq hno => ?_⟩
  · rw [a, b, c]
    by_cases h1 : s < 2 * n
    · rw [rz_t q (decide_eq_true h1), rz_t q (decide_eq_true h1), tl_ow T h1]; exact h.1 s q h1 hq
    · rw [rz_f q (decide_eq_false h1), rz_f q (decide_eq_false h1)]
      refine ⟨Or.inl rfl, by omega, ?_, ?_, fun e => absurd rfl e⟩
      · exact h.2.1 _ (by omega) (by omega)
      · have e : s / 2 = n := by omega
        have ho : ow (tl T n lo hi co) s < 7 := by
          unfold ow
          rw [e]
          rcases (show s % 2 = 0 ∨ s % 2 = 1 by omega) with f | f <;> rw [f]
          · rw [tl_0]; exact hlo
          · rw [tl_1]; exact hhi
        exact h.2.2 _ _ _ ho (by omega) hq (fun t ht _ => by omega)
  · rw [a]; exact h.2.1 x (by omega) h2
  · rw [b]; exact h.2.2 x l q hx hl1 hq (fun s hs e => hno s (by omega) (by rw [tl_ow T hs]; exact e))
theorem link_go {S M : HSt} {n : Nat} {T : Nat → Nat → Nat} {en : Nat → Int32} {md : Nat → Nat} {od lm : Nat} {hl hk kl kk : Nat → Nat → Nat} (h1 : NetR S M n T en) (h2 : LabR S M n T md od lm hl hk kl kk) (h3 : Told S M) (hn12 : n < 12) {lo hi co : Nat} (hlt : lo < hi) (hhi : hi < 7) (hc1 : 1 ≤ co) (hc9 : co ≤ 9) (hno : ∀ l, l < n → ¬ (T 0 l = lo ∧ T 1 l = hi)) : ∃ S', f_X1_addLink S (nI lo) (nI hi) (nI co) = some (nI n, S') ∧ Rel S' (h_put (wr (wr (wr (wr M 0 n (nI lo)) 1 n (nI hi)) 2 n (nI co)) 3 n (nI 1)) 0 (nI (n + 1))) := by
  obtain ⟨hn, hE, hC, hM, hW⟩ := id h1
  unfold f_X1_addLink
  rw [hC.1]
  simp (disch := omega) only [Option.bind_some, n_2, n_1, pk_mul, nI_add, st_n]
  have hn' : NetWf (n + 1) (tl T n lo hi co) := by
    refine ⟨by omega, fun l hl1 => ?_, fun l l' hl1 hl2 q1 q2 => ?_⟩
    · by_cases e : l = n
      · rw [e, tl_0, tl_1, tl_2, tl_3]; omega
      · rw [tl_o T 0 e, tl_o T 1 e, tl_o T 2 e, tl_o T 3 e]; exact hn.2.1 l (by omega)
    · by_cases e : l = n
      · by_cases e' : l' = n
        · omega
        · rw [e, tl_0, tl_o T 0 e'] at q1
          rw [e, tl_1, tl_o T 1 e'] at q2
          exact absurd ⟨q1.symm, q2.symm⟩ (hno l' (by omega))
      · by_cases e' : l' = n
        · rw [e', tl_0, tl_o T 0 e] at q1
          rw [e', tl_1, tl_o T 1 e] at q2
          exact absurd ⟨q1, q2⟩ (hno l (by omega))
        · rw [tl_o T 0 e, tl_o T 0 e'] at q1
          rw [tl_o T 1 e, tl_o T 1 e'] at q2
          exact hn.2.2 l l' (by omega) (by omega) q1 q2
  generalize hS9 : wr (wr (wr (wr (h_put S 0 (nI (n + 1))) 0 (2 * n) (nI lo)) 0 (2 * n + 1) (nI hi)) 1 n (nI co)) 2 n (nI 1) = S9
  have r0 : ∀ j, S9.2 0 j = if j = 2 * n + 1 then nI hi else if j = 2 * n then nI lo else S.2 0 j := by
    intro j
    rw [← hS9, wr_o _ _ _ (by omega), wr_o _ _ _ (by omega)]
    by_cases e : j = 2 * n + 1
    · rw [e, wr_s, if_pos rfl]
    · rw [wr_n _ _ e, if_neg e]
      by_cases e' : j = 2 * n
      · rw [e', wr_s, if_pos rfl]
      · rw [wr_n _ _ e', if_neg e']; rfl
  have r1 : ∀ j, S9.2 1 j = if j = n then nI co else S.2 1 j := by
    intro j
    rw [← hS9, wr_o _ _ _ (by omega)]
    by_cases e : j = n
    · rw [e, wr_s, if_pos rfl]
    · rw [wr_n _ _ e, if_neg e, wr_o _ _ _ (by omega), wr_o _ _ _ (by omega)]; rfl
  have r2 : ∀ j, S9.2 2 j = if j = n then nI 1 else S.2 2 j := by
    intro j
    rw [← hS9]
    by_cases e : j = n
    · rw [e, wr_s, if_pos rfl]
    · rw [wr_n _ _ e, if_neg e, wr_o _ _ _ (by omega), wr_o _ _ _ (by omega), wr_o _ _ _ (by omega)]; rfl
  have rk : ∀ k, 3 ≤ k → S9.2 k = S.2 k := by
    intro k hk3
    rw [← hS9, wr_r _ _ (by omega), wr_r _ _ (by omega), wr_r _ _ (by omega), wr_r _ _ (by omega)]; rfl
  have rn : S9.1 = fun j => if j = 0 then nI (n + 1) else S.1 j := by rw [← hS9]; rfl
  have hC' : CN S9 (n + 1) (tl T n lo hi co) en := by
    refine ⟨by rw [rn]; rfl, fun s hs => ?_, fun l hl1 => ?_, fun l hl1 => ?_, fun l hl1 => ?_⟩
    · rw [r0]
      by_cases e : s = 2 * n + 1
      · rw [if_pos e, e, ow_21, tl_1]
      · by_cases e' : s = 2 * n
        · rw [if_neg e, if_pos e', e', ow_2, tl_0]
        · rw [if_neg e, if_neg e', tl_ow T (by omega)]; exact hC.2.1 s (by omega)
    · rw [r1]
      by_cases e : l = n
      · rw [if_pos e, e, tl_2]
      · rw [if_neg e, tl_o T 2 e]; exact hC.2.2.1 l (by omega)
    · rw [r2]
      by_cases e : l = n
      · rw [if_pos e, e, tl_3]
      · rw [if_neg e, tl_o T 3 e]; exact hC.2.2.2.1 l (by omega)
    · rw [rk 3 (by omega)]; exact hC.2.2.2.2 l hl1
  generalize hM9 : h_put (wr (wr (wr (wr M 0 n (nI lo)) 1 n (nI hi)) 2 n (nI co)) 3 n (nI 1)) 0 (nI (n + 1)) = M9
  have m0 : ∀ j, M9.2 0 j = if j = n then nI lo else M.2 0 j := by
    intro j
    rw [← hM9, put_2, wr_o _ _ _ (by omega), wr_o _ _ _ (by omega), wr_o _ _ _ (by omega)]
    by_cases e : j = n
    · rw [e, wr_s, if_pos rfl]
    · rw [wr_n _ _ e, if_neg e]
  have m1 : ∀ j, M9.2 1 j = if j = n then nI hi else M.2 1 j := by
    intro j
    rw [← hM9, put_2, wr_o _ _ _ (by omega), wr_o _ _ _ (by omega)]
    by_cases e : j = n
    · rw [e, wr_s, if_pos rfl]
    · rw [wr_n _ _ e, if_neg e, wr_o _ _ _ (by omega)]
  have m2 : ∀ j, M9.2 2 j = if j = n then nI co else M.2 2 j := by
    intro j
    rw [← hM9, put_2, wr_o _ _ _ (by omega)]
    by_cases e : j = n
    · rw [e, wr_s, if_pos rfl]
    · rw [wr_n _ _ e, if_neg e, wr_o _ _ _ (by omega), wr_o _ _ _ (by omega)]
  have m3 : ∀ j, M9.2 3 j = if j = n then nI 1 else M.2 3 j := by
    intro j
    rw [← hM9, put_2]
    by_cases e : j = n
    · rw [e, wr_s, if_pos rfl]
    · rw [wr_n _ _ e, if_neg e, wr_o _ _ _ (by omega), wr_o _ _ _ (by omega), wr_o _ _ _ (by omega)]
  have mk : ∀ k, 4 ≤ k → M9.2 k = M.2 k := by
    intro k hk3
    rw [← hM9, put_2, wr_r _ _ (by omega), wr_r _ _ (by omega), wr_r _ _ (by omega), wr_r _ _ (by omega)]
  have mn : M9.1 = fun j => if j = 0 then nI (n + 1) else M.1 j := by rw [← hM9]; rfl
  have hM' : MN M9 (n + 1) (tl T n lo hi co) en := by
    refine ⟨by rw [mn]; rfl, fun l hl1 => ?_, fun l hl1 => ?_, fun l hl1 => ?_, fun l hl1 => ?_, fun l hl1 => ?_⟩
    · rw [m0]
      by_cases e : l = n
      · rw [if_pos e, e, tl_0]
      · rw [if_neg e, tl_o T 0 e]; exact hM.2.1 l (by omega)
    · rw [m1]
      by_cases e : l = n
      · rw [if_pos e, e, tl_1]
      · rw [if_neg e, tl_o T 1 e]; exact hM.2.2.1 l (by omega)
    · rw [m2]
      by_cases e : l = n
      · rw [if_pos e, e, tl_2]
      · rw [if_neg e, tl_o T 2 e]; exact hM.2.2.2.1 l (by omega)
    · rw [m3]
      by_cases e : l = n
      · rw [if_pos e, e, tl_3]
      · rw [if_neg e, tl_o T 3 e]; exact hM.2.2.2.2.1 l (by omega)
    · rw [mk 4 (by omega)]; exact hM.2.2.2.2.2 l hl1
  obtain ⟨S', s1, s2, s3⟩ := findWays_spec hn' hC' hM' hE
  rw [s1]
  have q6 : ∀ k, 6 ≤ k → S'.2 k = S.2 k := fun k hk6 => by rw [s2.2 k (in45 hk6), rk k (by omega)]
  have qn : ∀ k, k ≠ 0 → S'.1 k = S.1 k := fun k hk0 => by rw [s2.1, rn]; exact if_neg hk0
  have qm : ∀ k, k ≠ 0 → M9.1 k = M.1 k := fun k hk0 => by rw [mn]; exact if_neg hk0
  refine ⟨S', rfl, n + 1, tl T n lo hi co, en, md, od, lm, _, _, _, _, ⟨hn', hE, fr_CN s2 no45 hC', hM', s3⟩, ⟨MD_fr h2.1 (qn 1 (by omega)) (qn 2 (by omega)) (q6 8 (by omega)) (mk 6 (by omega)) (mk 7 (by omega)), HL_link h2.2.1 hn12 (by omega) hhi (q6 6 (by omega)) (mk 8 (by omega)) (mk 9 (by omega)), HL_link h2.2.2.1 hn12 (by omega) hhi (q6 7 (by omega)) (mk 10 (by omega)) (mk 11 (by omega)), fun s t c hs ht hc e1 e2 e3 e4 => ?_, by rw [qn 3 (by omega), qm 1 (by omega)]; exact h2.2.2.2.2⟩, Told_fr h3 (qn 4 (by omega)) (qm 3 (by omega)) (q6 14 (by omega)) (q6 15 (by omega)) (mk 21 (by omega)) (mk 22 (by omega))⟩
  by_cases f1 : s < 2 * n
  · by_cases f2 : t < 2 * n
    · rw [rz_t c (decide_eq_true f1)] at e3 ⊢
      rw [rz_t c (decide_eq_true f2)] at e4 ⊢
      rw [tl_ow T f1] at e1 e2
      rw [tl_ow T f2] at e1
      exact h2.2.2.2.1 s t c f1 f2 hc e1 e2 e3 e4
    · rw [rz_f c (decide_eq_false f2)] at e4; omega
  · rw [rz_f c (decide_eq_false f1)] at e3; omega
theorem op_link : Op_link Rel := by
  intro S M hR a1 a2 a3
  obtain ⟨n, T, en, md, od, lm, hl, hk, kl, kk, h1, h2, h3⟩ := id hR
  obtain ⟨hn, hE, hC, hM, hW⟩ := id h1
  have h12 := hn.1
  unfold f_X3_link f_X4_link
  rcases q_box a1 with ⟨e1, e2⟩ | ⟨a, ha, rfl, e1, e2⟩
  · rw [e1, e2]; exact ⟨-1, S, M, rfl, rfl, hR⟩
  rcases q_box a2 with ⟨f1, f2⟩ | ⟨b, hb, rfl, f1, f2⟩
  · rw [e1, e2, f1, f2]; exact ⟨-1, S, M, rfl, rfl, hR⟩
  rcases q_cost a3 with ⟨g1, g2⟩ | ⟨co, hc1, hc9, rfl, g1, g2⟩
  · rw [e1, e2, f1, f2, g1, g2]; exact ⟨-2, S, M, rfl, rfl, hR⟩
  rw [e1, e2, f1, f2, g1, g2]
  simp only [Option.bind_some, i10, if_false]
  by_cases hab : a = b
  · rw [if_pos (by rw [hab]), if_pos (by rw [hab])]; exact ⟨-3, S, M, rfl, rfl, hR⟩
  have hne : ¬ nI a = nI b := by rw [n_eq (by omega) (by omega)]; exact hab
  rw [if_neg hne, if_neg hne]
  rcases joined_spec hn hC ha hb hab with ⟨⟨l0, hl0, hj0⟩, jr⟩ | ⟨hno, jr⟩
  · rcases lb_spec hn hM ha hb with ⟨l, hl1, hj, lr⟩ | ⟨hno, lr⟩
    · rw [jr, lr]
      simp only [Option.bind_some, i10, if_false]
      rw [if_neg (nn9 (by omega))]
      exact ⟨-3, S, M, rfl, rfl, hR⟩
    · exact absurd hj0 (hno l0 hl0)
  · rcases lb_spec hn hM ha hb with ⟨l, hl1, hj, lr⟩ | ⟨hno2, lr⟩
    · exact absurd hj (hno l hl1)
    · rw [jr, lr]
      simp only [Option.bind_some, i00, if_true]
      rw [hC.1, hM.1]
      by_cases h0 : n = 12
      · rw [h0, if_neg (by decide), if_pos (by decide)]
        exact ⟨-4, S, M, rfl, rfl, hR⟩
      · rw [if_pos (show nI n < 12 by rw [n_12, n_lt (by omega) (by omega)]; omega), if_neg (show ¬ nI n = 12 by rw [n_12, n_eq (by omega) (by omega)]; exact h0)]
        have key : ∀ lo hi : Nat, lo < hi → hi < 7 → f_X4_link_97 (wr M 0 n (nI lo)) (nI co) (nI hi) (nI n) = some (nI n, h_put (wr (wr (wr (wr M 0 n (nI lo)) 1 n (nI hi)) 2 n (nI co)) 3 n (nI 1)) 0 (nI (n + 1))) := by
          intro lo hi h5 h6
          unfold f_X4_link_97
          rw [st_n _ _ _ (by omega) (by omega)]
          simp only [Option.bind_some, wr_1, hM.1]
          rw [st_n _ _ _ (by omega) (by omega)]
          simp only [Option.bind_some, wr_1, hM.1, n_1]
          rw [stz_n _ _ (by omega) (by omega) (by omega)]
          simp only [Option.bind_some, wr_1, hM.1, nI_add]
          show some (nI (n + 1) - nI 1, _) = _
          rw [n_sub (by omega)]
          rfl
        by_cases hlt : a < b
        · rw [if_neg (show ¬ nI b < nI a by rw [n_lt (by omega) (by omega)]; omega), if_pos (show nI a < nI b by rw [n_lt (by omega) (by omega)]; exact hlt), if_neg (ngt hlt (by omega))]
          obtain ⟨S', s1, s2⟩ := link_go h1 h2 h3 (by omega) hlt hb hc1 hc9 (fun l hl1 q => hno l hl1 (Or.inl q))
          rw [s1]
          refine ⟨nI n, S', _, rfl, ?_, s2⟩
          unfold f_X4_link_78
          rw [st_n _ _ _ (by omega) (by omega), Option.bind_some, if_neg (ngt hlt (by omega)), wr_1, hM.1]
          exact key a b hlt hb
        · rw [if_pos (show nI b < nI a by rw [n_lt (by omega) (by omega)]; omega), if_neg (show ¬ nI a < nI b by rw [n_lt (by omega) (by omega)]; exact hlt), if_pos (nle (by omega) (by omega))]
          obtain ⟨S', s1, s2⟩ := link_go h1 h2 h3 (by omega) (show b < a by omega) ha hc1 hc9 (fun l hl1 q => hno l hl1 (Or.inr q))
          rw [s1]
          refine ⟨nI n, S', _, rfl, ?_, s2⟩
          unfold f_X4_link_78
          rw [st_n _ _ _ (by omega) (by omega), Option.bind_some, if_pos (nle (by omega) (by omega)), wr_1, hM.1]
          exact key b a (by omega) ha
