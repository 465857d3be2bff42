/-! the class's ways -/
def e9 (d : Nat) : Int32 := if d = 1000 then -9 else nI d
def CF (S : HSt) (c : Nat) (g : Nat → Nat) : Prop := ∀ b, b < 7 → S.2 4 (b * 4 + c) = e9 (g b)
def cf (g : Nat → Nat) : Nat := sm7 (fun b => if g b < 1000 then 1 else 0)
def Bd (g : Nat → Nat) : Prop := ∀ b, b < 7 → g b < 1000 → g b + 9 ≤ 9 * cf g
theorem cf_le (g : Nat → Nat) : cf g ≤ 7 := by
  have := sm7_le (f := fun b => if g b < 1000 then 1 else 0) (g := fun _ => 1) (fun b _ => by split <;> omega)
  exact this
theorem Bd_up {g : Nat → Nat} (h : Bd g) {v x y : Nat} (hv : v < 7) (hy : y < 7) (hyf : g y < 1000) {co : Nat} (hco : co ≤ 9) (hx : x = g y + co) (hlt : x < g v) (hv1 : g v ≤ 1000) : Bd (up1 g v x) := by
  have e : (fun b => if up1 g v x b < 1000 then 1 else 0) = up1 (fun b => if g b < 1000 then 1 else 0) v 1 := by
    funext b
    by_cases hb : b = v
    · rw [hb, up1_s, up1_s, if_pos (by omega)]
    · rw [up1_n _ hb, up1_n _ hb]
  have hs := sm7_up (fun b => if g b < 1000 then 1 else 0) (k := v) 1 hv
  rw [← e] at hs
  change cf (up1 g v x) + _ = cf g + 1 at hs
  have hyb := h y hy hyf
  intro b hb hb1
  by_cases hbv : b = v
  · rw [hbv, up1_s]
    by_cases h1 : g v < 1000
    · rw [if_pos h1] at hs; have := h v hv h1; omega
    · rw [if_neg h1] at hs; omega
  · rw [up1_n _ hbv] at hb1 ⊢
    have := h b hb hb1
    split at hs <;> omega
def fc (c : Nat) (S S' : HSt) : Prop := S'.1 = S.1 ∧ (∀ k, k ∉ [4, 5] → S'.2 k = S.2 k) ∧ ∀ k j, j % 4 ≠ c → S'.2 k j = S.2 k j
theorem fc_rf (c : Nat) (S : HSt) : fc c S S := ⟨rfl, fun _ _ => rfl, fun _ _ _ => rfl⟩
theorem fc_tr {c : Nat} {S S' S'' : HSt} (h : fc c S S') (h' : fc c S' S'') : fc c S S'' := ⟨h'.1.trans h.1, fun k hk => (h'.2.1 k hk).trans (h.2.1 k hk), fun k j hj => (h'.2.2 k j hj).trans (h.2.2 k j hj)⟩
theorem fc_wr {c : Nat} {S : HSt} {k i : Nat} {x : Int32} (hk : k = 4 ∨ k = 5) (hi : i % 4 = c) : fc c S (wr S k i x) := ⟨rfl, fun k' h => wr_r S x (fun e => h (by rw [e]; rcases hk with rfl | rfl <;> simp)), fun k' j hj => by rw [wr_2, if_neg (fun e => hj (by rw [e.2]; exact hi))]⟩
theorem fc_CN {c : Nat} {S S' : HSt} {n : Nat} {T : Nat → Nat → Nat} {en : Nat → Int32} (h : fc c S S') (hC : CN S n T en) : CN S' n T en := by
  refine ⟨by rw [h.1]; exact hC.1, fun s hs => ?_, fun s hs => ?_, fun s hs => ?_, fun s hs => ?_⟩
  · rw [h.2.1 0 (by decide)]; exact hC.2.1 s hs
  · rw [h.2.1 1 (by decide)]; exact hC.2.2.1 s hs
  · rw [h.2.1 2 (by decide)]; exact hC.2.2.2.1 s hs
  · rw [h.2.1 3 (by decide)]; exact hC.2.2.2.2 s hs
theorem CF_wr {S : HSt} {c : Nat} {g : Nat → Nat} (h : CF S c g) (hc : c < 4) {v : Nat} {x : Nat} (hx : x ≠ 1000) : CF (wr S 4 (v * 4 + c) (nI x)) c (up1 g v x) := by
  intro b hb
  by_cases e : b = v
  · rw [e, wr_s, up1_s]; unfold e9; rw [if_neg hx]
  · rw [wr_n _ _ (by omega), up1_n _ e]; exact h b hb
def RI (n : Nat) (T : Nat → Nat → Nat) (e : Int32) (g0 : Nat → Nat) (s : Nat) (g : Nat → Nat) (x : Int32) : Prop := (∀ b, b < 7 → g b ≤ g0 b) ∧ IsJ n T e g ∧ Bd g ∧ (∀ t, t < s → T 3 (t / 2) = 1 → g (ow T t) ≤ g0 (ow T (fl t)) + T 2 (t / 2)) ∧ ((x = 0 ∧ ∀ b, b < 7 → g b = g0 b) ∨ x = 1)
theorem e9_n {d : Nat} (h : d ≠ 1000) : e9 d = nI d := if_neg h
section SH
variable {S : HSt} {n : Nat} {T : Nat → Nat → Nat} {en : Nat → Int32} {e : Int32} {c : Nat}
theorem sh_iter (hn : NetWf n T) (hC : CN S n T en) (hc : c < 4) {g0 g : Nat → Nat} (hF : CF S c g) {s : Nat} (hs : s < 2 * n) {x : Int32} (hR : RI n T e g0 s g x) (k4 : HSt → Int32 → Int32 → Int32 → Option (Int32 × HSt)) : ∃ S' x' g', f_X1_shorten_4_s k4 S (nI c) x (nI s) = k4 S' (nI c) x' (nI (s + 1)) ∧ fc c S S' ∧ CF S' c g' ∧ RI n T e g0 (s + 1) g' x' := by
  have h12 := hn.1
  have hw := hn.2.1 (s / 2) (by omega)
  have hv := ow_lt hn hs
  have hw7 := ow_lt hn (fl_lt hs)
  have hfl := fl_lt hs
  obtain ⟨hle, hJ, hB, hrel, hx⟩ := hR
  have j1 := hJ.1 _ hv
  have j2 := hJ.1 _ hw7
  have l2 := hle _ hw7
  have c7 := cf_le g
  unfold f_X1_shorten_4_s f_X1_shorten_97 f_X1_shorten_108 f_X3_pair
  rw [hC.1]
  rw [if_neg (show ¬ (2 * nI n) ≤ nI s by rw [n_2, pk_mul]; exact ngt hs (by omega))]
  have skip : g (ow T s) ≤ g0 (ow T (fl s)) + T 2 (s / 2) ∨ T 3 (s / 2) = 0 → RI n T e g0 (s + 1) g x := by
    intro h
    refine ⟨hle, hJ, hB, fun t ht hu => ?_, hx⟩
    by_cases e1 : t = s
    · subst e1
      rcases h with h | h
      · exact h
      · omega
    · exact hrel t (by omega) hu
  have a1 : nI s ^^^ 1 = nI (fl s) := n_xor s (by omega)
  have a2 : nI s >>> (1 &&& 31) = nI (s / 2) := n_shr1 s (by omega)
  rw [isUpSide_eq hn hC hs]
  simp (disch := omega) only [a1, a2, ld_n, Option.bind_some, hC.2.1, hC.2.2.1, n_4, pk_mul, nI_add, nI_1]
  rw [hF _ hv, hF _ hw7]
  by_cases hu : T 3 (s / 2) = 0
  · refine ⟨S, x, g, ?_, fc_rf _ _, hF, skip (Or.inr hu)⟩
    rw [hu]; rfl
  · have hu1 : T 3 (s / 2) = 1 := by omega
    rw [hu1, if_neg (show ¬ nI 1 = 0 by decide)]
    by_cases hb : g (ow T (fl s)) = 1000
    · refine ⟨S, x, g, ?_, fc_rf _ _, hF, skip (Or.inl (by omega))⟩
      rw [hb, if_pos (show e9 1000 = -9 from rfl)]
    · rw [e9_n hb, if_neg (nn9 (by omega))]
      have hbb := hB _ hw7 (by omega)
      have upd_ok : g (ow T (fl s)) + T 2 (s / 2) < g (ow T s) → RI n T e g0 (s + 1) (up1 g (ow T s) (g (ow T (fl s)) + T 2 (s / 2))) 1 := by
        intro hlt
        refine ⟨fun b hb7 => ?_, J_rel hn hJ hs hu1 hlt, Bd_up hB hv hw7 (by omega) (co := T 2 (s / 2)) (by omega) rfl hlt j1, fun t ht hut => ?_, Or.inr rfl⟩
        · by_cases e1 : b = ow T s
          · rw [e1, up1_s]; have := hle _ hv; omega
          · rw [up1_n _ e1]; exact hle b hb7
        · have key : up1 g (ow T s) (g (ow T (fl s)) + T 2 (s / 2)) (ow T t) ≤ g (ow T t) := by
            by_cases e1 : ow T t = ow T s
            · rw [e1, up1_s]; omega
            · rw [up1_n _ e1]; exact Nat.le_refl _
          by_cases e1 : t = s
          · subst e1; rw [up1_s]; omega
          · have := hrel t (by omega) hut; omega
      by_cases hm : g (ow T s) = 1000
      · refine ⟨wr S 4 (ow T s * 4 + c) (nI (g (ow T (fl s)) + T 2 (s / 2))), 1, _, ?_, fc_wr (Or.inl rfl) (by omega), CF_wr hF hc (by omega), upd_ok (by omega)⟩
        rw [hm, if_pos (show e9 1000 = -9 from rfl), nI_add, st_n _ _ _ (by omega) (by omega)]
        rfl
      · rw [e9_n hm, if_neg (nn9 (by omega))]
        rw [nI_add]
        by_cases hlt : g (ow T (fl s)) + T 2 (s / 2) < g (ow T s)
        · refine ⟨wr S 4 (ow T s * 4 + c) (nI (g (ow T (fl s)) + T 2 (s / 2))), 1, _, ?_, fc_wr (Or.inl rfl) (by omega), CF_wr hF hc (by omega), upd_ok hlt⟩
          rw [if_neg (ngt hlt (by omega)), st_n _ _ _ (by omega) (by omega)]
          rfl
        · refine ⟨S, x, g, ?_, fc_rf _ _, hF, skip (Or.inl (by omega))⟩
          rw [if_pos (nle (by omega) (by omega))]
theorem sh_spec (hn : NetWf n T) (hC : CN S n T en) (hc : c < 4) {g : Nat → Nat} (hF : CF S c g) (hJ : IsJ n T e g) (hB : Bd g) : ∃ S' x' g', f_X1_shorten S (nI c) = some (x', S') ∧ fc c S S' ∧ CF S' c g' ∧ RI n T e g (2 * n) g' x' := by
  have h12 := hn.1
  unfold f_X1_shorten
  refine lp_up (fun k (q : HSt × Int32 × Int32) => f_X1_shorten_4 k q.1 (nI c) q.2.1 q.2.2) (fun i q => q.2.2 = nI i ∧ fc c S q.1 ∧ ∃ g', CF q.1 c g' ∧ RI n T e g i g' q.2.1) (2 * n) (fun o => ∃ S' x' g', o = some (x', S') ∧ fc c S S' ∧ CF S' c g' ∧ RI n T e g (2 * n) g' x') ?_ ?_ h_fu 0 (S, 0, 0) (Nat.zero_le _) (by have := fu_big; omega) ⟨rfl, fc_rf _ _, g, hF, fun _ _ => Nat.le_refl _, hJ, hB, fun t ht => by omega, Or.inl ⟨rfl, fun _ _ => rfl⟩⟩
  · rintro k i ⟨S1, x, y⟩ hi ⟨hy, hf, g1, q1, q2⟩
    dsimp only at hy hf q1 q2
    subst hy
    right
    obtain ⟨S', x', g', r1, r2, r3, r4⟩ := sh_iter hn (fc_CN hf hC) hc q1 hi q2 (f_X1_shorten_4 k)
    exact ⟨(S', x', nI (i + 1)), ⟨rfl, fc_tr hf r2, g', r3, r4⟩, r1⟩
  · rintro k ⟨S1, x, y⟩ ⟨hy, hf, g1, q1, q2⟩
    dsimp only at hy hf q1 q2
    subst hy
    refine ⟨S1, x, g1, ?_, hf, q1, q2⟩
    show f_X1_shorten_4_s (f_X1_shorten_4 k) S1 (nI c) x (nI (2 * n)) = _
    unfold f_X1_shorten_4_s
    rw [(fc_CN hf hC).1, if_pos (show (2 * nI n) ≤ nI (2 * n) by rw [n_2, pk_mul]; exact nle (Nat.le_refl _) (by omega))]
    rcases q2.2.2.2.2 with ⟨rfl, -⟩ | rfl <;> rfl
end SH
