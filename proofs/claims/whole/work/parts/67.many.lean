theorem lp_two {σ τ R R' : Type} (F : Nat → σ → Option R) (G : Nat → τ → Option R') (I : Nat → σ → τ → Prop) (N : Nat) (P : Option R → Option R' → Prop)
    (hs : ∀ n i s t, i < N → I i s t → P (F (n + 1) s) (G (n + 1) t) ∨ ∃ s' t', I (i + 1) s' t' ∧ F (n + 1) s = F n s' ∧ G (n + 1) t = G n t') (he : ∀ n s t, I N s t → P (F (n + 1) s) (G (n + 1) t)) : ∀ n i s t, i ≤ N → N - i < n → I i s t → P (F n s) (G n t) := by
  intro n
  induction n with
  | zero => intro i s t _ h; omega
  | succ n ih =>
    intro i s t h1 h2 h3
    by_cases h : i = N
    · subst h; exact he n s t h3
    · rcases hs n i s t (by omega) h3 with h4 | ⟨s', t', h4, h5, h6⟩
      · exact h4
      · rw [h5, h6]; exact ih (i + 1) s' t' (by omega) (by omega) h4
theorem or_0 (x : Int32) : x ||| 0 = x := by simp
/-- NEXT, on both sides -/
theorem nb_spec {S M : HSt} {n : Nat} {T : Nat → Nat → Nat} {en : Nat → Int32} (hn : NetWf n T) (hC : CN S n T en) (hM : MN M n T en) {c b : Nat} (hc : c < 4) (hb : b < 7) (hW : Ways S n T en c) : ∃ M' r, fr [5] M M' ∧ f_X1_nextBox S (nI b) (nI c) = some r ∧ f_X4_nextOf M (nI b) (nI c) = some (r, M') ∧ ((S.2 5 (b * 4 + c) = -1 ∧ r = -9) ∨ ∃ s, s < 2 * n ∧ S.2 5 (b * 4 + c) = nI s ∧ ow T s = b ∧ T 3 (s / 2) = 1 ∧ r = nI (ow T (fl s))) := by
  have h12 := hn.1
  obtain ⟨D, d1, d2, d3⟩ := hW
  obtain ⟨M', m1, m2⟩ := nextOf_spec hn hM hc hb d1 (d3 b hb)
  unfold f_X1_nextBox f_X3_pair
  rw [Option.bind_some, show (nI b * 4 + nI c : Int32) = nI (b * 4 + c) by rw [n_4, pk_mul, nI_add], ld_n _ _ (by omega) (by omega), Option.bind_some]
  rcases m2 with ⟨e, m2⟩ | ⟨s, s1, e, s2, s3, m2⟩
  · exact ⟨M', -9, m1, by rw [e, if_pos rfl], m2, Or.inl ⟨e, rfl⟩⟩
  · have hfl := fl_lt s1
    refine ⟨M', _, m1, ?_, m2, Or.inr ⟨s, s1, e, s2, s3, rfl⟩⟩
    rw [e, if_neg (nn1 (by omega)), show nI s ^^^ 1 = nI (fl s) from n_xor s (by omega), ld_n _ _ (by omega) (by omega), hC.2.1 _ hfl]
    rfl
theorem op_merged : Op_merged Rel := by
  intro S M hR a1 a2
  obtain ⟨n, T, en, md, od, lm, hl, hk, kl, kk, h1, h2, h3⟩ := id hR
  obtain ⟨hn, hE, hC, hM, hW⟩ := id h1
  have h12 := hn.1
  unfold f_X3_merged f_X4_merged
  rcases q_box a1 with ⟨e1, e2⟩ | ⟨b, hb, rfl, e1, e2⟩
  · rw [e1, e2]; exact ⟨-1, M, rfl, rfl, hR⟩
  rcases q_cls a2 with ⟨f1, f2⟩ | ⟨c, hc, rfl, f1, f2⟩
  · rw [e1, e2, f1, f2]; exact ⟨-1, M, rfl, rfl, hR⟩
  rw [e1, e2, f1, f2]
  repeat rw [Option.bind_some]
  rw [if_neg (show ¬ (1 : Int32) = 0 by decide), if_neg (show ¬ (1 : Int32) = 0 by decide)]
  repeat rw [Option.bind_some]
  rw [if_neg (show ¬ (1 : Int32) = 0 by decide), if_neg (show ¬ (1 : Int32) = 0 by decide)]
  refine lp_two (fun k (q : Int32 × Int32) => f_X3_merged_21 S k (nI b) (nI c) q.1 q.2) (fun k (q : HSt × Int32 × Int32) => f_X4_merged_21 k q.1 (nI b) (nI c) q.2.1 q.2.2) (fun i p q => p.2 = nI i ∧ q.2.2 = nI i ∧ p.1 = q.2.1 ∧ fr [5] M q.1) 7 (fun o o' => ∃ (r : Int32) (M1 : HSt), o = some r ∧ o' = some (r, M1) ∧ Rel S M1) ?_ ?_ h_fu 0 (0, 0) (M, 0, 0) (Nat.zero_le _) (by have := fu_big; omega) ⟨rfl, rfl, rfl, fr_rf _ _⟩
  · rintro k i ⟨x, y⟩ ⟨M1, x', y'⟩ hi ⟨p1, p2, p3, p4⟩
    dsimp only at p1 p2 p3 p4
    subst p1; subst p2; subst p3
    right
    have e3 : f_X3_merged_21 S (k + 1) (nI b) (nI c) x (nI i) = f_X3_merged_21_s S (f_X3_merged_21 S k) (nI b) (nI c) x (nI i) := rfl
    have e4 : f_X4_merged_21 (k + 1) M1 (nI b) (nI c) x (nI i) = f_X4_merged_21_s (f_X4_merged_21 k) M1 (nI b) (nI c) x (nI i) := rfl
    dsimp only
    rw [e3, e4]
    unfold f_X3_merged_21_s f_X4_merged_21_s f_X3_merged_62 f_X4_merged_57 f_X4_merged_58
    rw [if_neg (show ¬ (7 : Int32) ≤ nI i from ngt (b := 7) hi (by omega)), if_neg (show ¬ (7 : Int32) ≤ nI i from ngt (b := 7) hi (by omega))]
    obtain ⟨M2, r, m1, m2, m3, -⟩ := nb_spec hn hC (fr_MN p4 no5 hM) hc hi (hW c hc)
    rw [m2, m3, Option.bind_some, bi_s, nI_1, or_0]
    by_cases g : r = nI b
    · rw [if_pos g, if_pos g]
      have hK : HL S M2 n T 7 10 11 kl kk := HL_fr h2.2.2.1 rfl (by rw [m1.2 10 (by decide), p4.2 10 (by decide)]) (by rw [m1.2 11 (by decide), p4.2 11 (by decide)]) (fun _ => rfl)
      obtain ⟨M3, L, kc, u1, u2, u3, u4, u5, -⟩ := used_spec hn (fr_MN m1 no5 (fr_MN p4 no5 hM)) hc hi (hW c hc) hK
      have hsl := sl_lt u2 u3
      have hL := LOk_lt u2
      rw [u4, u5, Option.bind_some, bi_s]
      by_cases h0 : L = 0
      · subst h0
        rw [if_pos (show nI (sl 0 kc) = 0 from rfl), if_pos (show nI 0 ≤ 0 by decide)]
        exact ⟨(x, nI (i + 1)), (M3, x, nI (i + 1)), ⟨rfl, rfl, rfl, fr_tr p4 (fr_tr m1 u1)⟩, rfl, rfl⟩
      · rw [if_neg (nz (fun q => h0 ((sl_0 u2).mp q)) (by omega)), if_neg (show ¬ nI L ≤ 0 from ngt (a := 0) (by omega) (by omega))]
        exact ⟨(_, nI (i + 1)), (M3, _, nI (i + 1)), ⟨rfl, rfl, rfl, fr_tr p4 (fr_tr m1 u1)⟩, rfl, rfl⟩
    · rw [if_neg g, if_neg g]
      exact ⟨(x, nI (i + 1)), (M2, x, nI (i + 1)), ⟨rfl, rfl, rfl, fr_tr p4 m1⟩, rfl, rfl⟩
  · rintro k ⟨x, y⟩ ⟨M1, x', y'⟩ ⟨p1, p2, p3, p4⟩
    dsimp only at p1 p2 p3 p4
    subst p1; subst p2; subst p3
    exact ⟨x, M1, rfl, rfl, Rel_5 hR p4⟩
/-! counting -/
def sm : Nat → (Nat → Nat) → Nat
  | 0, _ => 0
  | n + 1, f => sm n f + f n
theorem sm_eq : ∀ (n : Nat) {f g : Nat → Nat}, (∀ i, i < n → f i = g i) → sm n f = sm n g := by
  intro n
  induction n with
  | zero => intro f g _; rfl
  | succ n ih => intro f g h; show sm n f + f n = sm n g + g n; rw [ih (fun i hi => h i (by omega)), h n (by omega)]
theorem sm_le1 : ∀ (n : Nat) {f : Nat → Nat}, (∀ i, f i ≤ 1) → sm n f ≤ n := by
  intro n
  induction n with
  | zero => intro f _; exact Nat.le_refl _
  | succ n ih => intro f h; have a := ih h; have b := h n; show sm n f + f n ≤ n + 1; omega
theorem sm_0 : ∀ (n : Nat) {f : Nat → Nat}, (∀ i, i < n → f i = 0) → sm n f = 0 := by
  intro n
  induction n with
  | zero => intro f _; rfl
  | succ n ih => intro f h; show sm n f + f n = 0; rw [ih (fun i hi => h i (by omega)), h n (by omega)]
theorem sm_up : ∀ (n : Nat) (f : Nat → Nat) {k : Nat} (x : Nat), k < n → sm n (up1 f k x) + f k = sm n f + x := by
  intro n
  induction n with
  | zero => intro f k x h; omega
  | succ n ih =>
    intro f k x h
    show sm n (up1 f k x) + up1 f k x n + f k = sm n f + f n + x
    by_cases e : k = n
    · subst e
      rw [up1_s, sm_eq k (g := f) (fun i hi => up1_n f (by omega))]; omega
    · rw [up1_n f (fun q => e q.symm)]
      have := ih f x (show k < n by omega)
      omega
theorem sm_pad : ∀ (d n : Nat) {f : Nat → Nat}, (∀ i, n ≤ i → i < n + d → f i = 0) → sm (n + d) f = sm n f := by
  intro d
  induction d with
  | zero => intro n f _; rfl
  | succ d ih => intro n f h; show sm (n + d) f + f (n + d) = sm n f; rw [ih n (fun i h1 h2 => h i h1 (by omega)), h (n + d) (by omega) (by omega)]; rfl
theorem sm_inj (N : Nat) (idx : Nat → Nat) : ∀ (K : Nat) (g : Nat → Nat), (∀ i, i < K → idx i < N) → (∀ i j, i < K → j < K → idx i = idx j → i = j) → (∀ x, x < N → g x ≠ 0 → ∃ i, i < K ∧ x = idx i) → sm N g = sm K (fun i => g (idx i)) := by
  intro K
  induction K with
  | zero =>
    intro g _ _ h
    rw [sm_0 N (fun x hx => ?_)]
    · rfl
    · by_cases e : g x = 0
      · exact e
      · obtain ⟨i, hi, -⟩ := h x hx e; omega
  | succ K ih =>
    intro g h1 h2 h3
    have e1 := sm_up N g (k := idx K) 0 (h1 K (by omega))
    have e2 := ih (up1 g (idx K) 0) (fun i hi => h1 i (by omega)) (fun i j hi hj => h2 i j (by omega) (by omega)) (fun x hx hne => by
      by_cases e : x = idx K
      · rw [e, up1_s] at hne; exact absurd rfl hne
      · rw [up1_n _ e] at hne
        obtain ⟨i, hi, hxi⟩ := h3 x hx hne
        refine ⟨i, ?_, hxi⟩
        rcases (show i < K ∨ i = K by omega) with z | z
        · exact z
        · rw [z] at hxi; exact absurd hxi e)
    have e3 : sm K (fun i => up1 g (idx K) 0 (idx i)) = sm K (fun i => g (idx i)) := sm_eq K (fun i hi => up1_n _ (fun q => by have := h2 i K (by omega) (by omega) q; omega))
    show sm N g = sm K (fun i => g (idx i)) + g (idx K)
    omega
/-- both sides hold as many -/
theorem cnt_eq {S M : HSt} {n : Nat} {T : Nat → Nat → Nat} {i j k : Nat} {hl hk : Nat → Nat → Nat} (hn : NetWf n T) (hH : HL S M n T i j k hl hk) : sm 96 (fun x => if S.2 i x = 0 then 0 else 1) = sm 336 (fun x => if M.2 j x ≤ 0 then 0 else 1) := by
  have h12 := hn.1
  have a1 : sm 96 (fun x => if S.2 i x = 0 then 0 else 1) = sm (8 * n) (fun x => if S.2 i x = 0 then 0 else 1) := by
    have := sm_pad (96 - 8 * n) (8 * n) (f := fun x => if S.2 i x = 0 then 0 else 1) (fun x h1 h2 => by rw [if_pos (hH.2.1 x h1 (by omega))])
    rw [← this]; congr 1; omega
  rw [a1]
  have a2 := sm_inj 336 (fun x => 4 * (12 * ow T (x / 4) + x / 4 / 2) + x % 4) (8 * n) (fun x => if M.2 j x ≤ 0 then 0 else 1) (fun x hx => by have := ow_lt hn (s := x / 4) (by omega); omega) (fun x y hx hy e => by
    have o1 := ow_lt hn (s := x / 4) (by omega)
    have o2 := ow_lt hn (s := y / 4) (by omega)
    have e1 : ow T (x / 4) = ow T (y / 4) := by omega
    have e2 : x / 4 / 2 = y / 4 / 2 := by omega
    have e3 : x % 4 = y % 4 := by omega
    by_cases e4 : x / 4 = y / 4
    · omega
    · exfalso
      have e5 : y / 4 = fl (x / 4) := by unfold fl; split <;> omega
      exact ow_ne hn (s := x / 4) (by omega) (by rw [← e5]; exact e1)) (fun x hx hne => by
    by_cases hex : ∃ s, s < 2 * n ∧ ow T s = x / 48 ∧ s / 2 = x / 4 % 12
    · obtain ⟨s, s1, s2, s3⟩ := hex
      refine ⟨s * 4 + x % 4, by omega, ?_⟩
      rw [show (s * 4 + x % 4) / 4 = s by omega, show (s * 4 + x % 4) % 4 = x % 4 by omega, s2, s3]
      omega
    · exfalso
      have h0 := hH.2.2 (x / 48) (x / 4 % 12) (x % 4) (by omega) (by omega) (by omega) (fun s hs e1 e2 => hex ⟨s, hs, e1, e2⟩)
      rw [show 4 * (12 * (x / 48) + x / 4 % 12) + x % 4 = x by omega] at h0
      rw [h0, if_pos (show (0 : Int32) ≤ 0 by decide)] at hne
      exact hne rfl)
  rw [a2]
  refine sm_eq (8 * n) (fun x hx => ?_)
  have hq := hH.1 (x / 4) (x % 4) (by omega) (by omega)
  rw [show x / 4 * 4 + x % 4 = x by omega] at hq
  have hlt := LOk_lt hq.1
  have hsl := sl_lt hq.1 hq.2.1
  rw [hq.2.2.1, hq.2.2.2.1]
  by_cases h0 : hl (x / 4) (x % 4) = 0
  · rw [h0]; rfl
  · rw [if_neg (nz (fun q => h0 ((sl_0 hq.1).mp q)) (by omega)), if_neg (show ¬ nI (hl (x / 4) (x % 4)) ≤ 0 from ngt (a := 0) (by omega) (by omega))]
theorem csH {S : HSt} : f_X3_countSlipsH S = some (nI (sm 96 (fun x => if S.2 6 x = 0 then 0 else 1))) := by
  unfold f_X3_countSlipsH
  refine lp_up (fun k (q : Int32 × Int32) => f_X3_countSlipsH_4 S k q.1 q.2) (fun i q => q.2 = nI i ∧ q.1 = nI (sm i (fun x => if S.2 6 x = 0 then 0 else 1))) 96 (fun o => o = some (nI (sm 96 (fun x => if S.2 6 x = 0 then 0 else 1)))) ?_ ?_ h_fu 0 (0, 0) (Nat.zero_le _) (by have := fu_big; omega) ⟨rfl, rfl⟩
  · rintro k i ⟨x, y⟩ hi ⟨q1, q2⟩
    dsimp only at q1 q2
    subst q1; subst q2
    right
    have e1 : f_X3_countSlipsH_4 S (k + 1) (nI (sm i (fun x => if S.2 6 x = 0 then 0 else 1))) (nI i) = f_X3_countSlipsH_4_s S (f_X3_countSlipsH_4 S k) (nI (sm i (fun x => if S.2 6 x = 0 then 0 else 1))) (nI i) := rfl
    refine ⟨(nI (sm (i + 1) (fun x => if S.2 6 x = 0 then 0 else 1)), nI (i + 1)), ⟨rfl, rfl⟩, ?_⟩
    dsimp only
    rw [e1]
    unfold f_X3_countSlipsH_4_s f_X3_countSlipsH_19
    rw [if_neg (show ¬ (96 : Int32) ≤ nI i from ngt (b := 96) hi (by omega)), ld_n _ _ (by omega) (by omega), Option.bind_some, nI_1, nI_1]
    show _ = f_X3_countSlipsH_4 S k (nI (sm i (fun x => if S.2 6 x = 0 then 0 else 1) + (if S.2 6 i = 0 then 0 else 1))) (nI (i + 1))
    by_cases h : S.2 6 i = 0
    · rw [if_pos h, if_pos h]; rfl
    · rw [if_neg h, if_neg h]
  · rintro k ⟨x, y⟩ ⟨q1, q2⟩
    dsimp only at q1 q2
    subst q1; subst q2
    rfl
theorem csK {S : HSt} : f_X3_countSlipsK S = some (nI (sm 96 (fun x => if S.2 7 x = 0 then 0 else 1))) := by
  unfold f_X3_countSlipsK
  refine lp_up (fun k (q : Int32 × Int32) => f_X3_countSlipsK_4 S k q.1 q.2) (fun i q => q.2 = nI i ∧ q.1 = nI (sm i (fun x => if S.2 7 x = 0 then 0 else 1))) 96 (fun o => o = some (nI (sm 96 (fun x => if S.2 7 x = 0 then 0 else 1)))) ?_ ?_ h_fu 0 (0, 0) (Nat.zero_le _) (by have := fu_big; omega) ⟨rfl, rfl⟩
  · rintro k i ⟨x, y⟩ hi ⟨q1, q2⟩
    dsimp only at q1 q2
    subst q1; subst q2
    right
    have e1 : f_X3_countSlipsK_4 S (k + 1) (nI (sm i (fun x => if S.2 7 x = 0 then 0 else 1))) (nI i) = f_X3_countSlipsK_4_s S (f_X3_countSlipsK_4 S k) (nI (sm i (fun x => if S.2 7 x = 0 then 0 else 1))) (nI i) := rfl
    refine ⟨(nI (sm (i + 1) (fun x => if S.2 7 x = 0 then 0 else 1)), nI (i + 1)), ⟨rfl, rfl⟩, ?_⟩
    dsimp only
    rw [e1]
    unfold f_X3_countSlipsK_4_s f_X3_countSlipsK_19
    rw [if_neg (show ¬ (96 : Int32) ≤ nI i from ngt (b := 96) hi (by omega)), ld_n _ _ (by omega) (by omega), Option.bind_some, nI_1, nI_1]
    show _ = f_X3_countSlipsK_4 S k (nI (sm i (fun x => if S.2 7 x = 0 then 0 else 1) + (if S.2 7 i = 0 then 0 else 1))) (nI (i + 1))
    by_cases h : S.2 7 i = 0
    · rw [if_pos h, if_pos h]; rfl
    · rw [if_neg h, if_neg h]
  · rintro k ⟨x, y⟩ ⟨q1, q2⟩
    dsimp only at q1 q2
    subst q1; subst q2
    rfl
theorem miL {S : HSt} : f_X4_manyInL S = some (nI (sm 336 (fun x => if S.2 8 x ≤ 0 then 0 else 1))) := by
  unfold f_X4_manyInL
  refine lp_up (fun k (q : Int32 × Int32) => f_X4_manyInL_4 S k q.1 q.2) (fun i q => q.2 = nI i ∧ q.1 = nI (sm i (fun x => if S.2 8 x ≤ 0 then 0 else 1))) 336 (fun o => o = some (nI (sm 336 (fun x => if S.2 8 x ≤ 0 then 0 else 1)))) ?_ ?_ h_fu 0 (0, 0) (Nat.zero_le _) (by have := fu_big; omega) ⟨rfl, rfl⟩
  · rintro k i ⟨x, y⟩ hi ⟨q1, q2⟩
    dsimp only at q1 q2
    subst q1; subst q2
    right
    have e1 : f_X4_manyInL_4 S (k + 1) (nI (sm i (fun x => if S.2 8 x ≤ 0 then 0 else 1))) (nI i) = f_X4_manyInL_4_s S (f_X4_manyInL_4 S k) (nI (sm i (fun x => if S.2 8 x ≤ 0 then 0 else 1))) (nI i) := rfl
    refine ⟨(nI (sm (i + 1) (fun x => if S.2 8 x ≤ 0 then 0 else 1)), nI (i + 1)), ⟨rfl, rfl⟩, ?_⟩
    dsimp only
    rw [e1]
    unfold f_X4_manyInL_4_s f_X4_manyInL_23
    rw [if_neg (show ¬ (336 : Int32) ≤ nI i from ngt (b := 336) hi (by omega)), ld_n _ _ (by omega) (by omega), Option.bind_some, nI_1]
    show _ = f_X4_manyInL_4 S k (nI (sm i (fun x => if S.2 8 x ≤ 0 then 0 else 1) + (if S.2 8 i ≤ 0 then 0 else 1))) (nI (i + 1))
    by_cases h : S.2 8 i ≤ 0
    · rw [if_pos h, if_pos h, n_0, nI_add]
    · rw [if_neg h, if_neg h, nI_1]
  · rintro k ⟨x, y⟩ ⟨q1, q2⟩
    dsimp only at q1 q2
    subst q1; subst q2
    rfl
theorem miK {S : HSt} : f_X4_manyInK S = some (nI (sm 336 (fun x => if S.2 10 x ≤ 0 then 0 else 1))) := by
  unfold f_X4_manyInK
  refine lp_up (fun k (q : Int32 × Int32) => f_X4_manyInK_4 S k q.1 q.2) (fun i q => q.2 = nI i ∧ q.1 = nI (sm i (fun x => if S.2 10 x ≤ 0 then 0 else 1))) 336 (fun o => o = some (nI (sm 336 (fun x => if S.2 10 x ≤ 0 then 0 else 1)))) ?_ ?_ h_fu 0 (0, 0) (Nat.zero_le _) (by have := fu_big; omega) ⟨rfl, rfl⟩
  · rintro k i ⟨x, y⟩ hi ⟨q1, q2⟩
    dsimp only at q1 q2
    subst q1; subst q2
    right
    have e1 : f_X4_manyInK_4 S (k + 1) (nI (sm i (fun x => if S.2 10 x ≤ 0 then 0 else 1))) (nI i) = f_X4_manyInK_4_s S (f_X4_manyInK_4 S k) (nI (sm i (fun x => if S.2 10 x ≤ 0 then 0 else 1))) (nI i) := rfl
    refine ⟨(nI (sm (i + 1) (fun x => if S.2 10 x ≤ 0 then 0 else 1)), nI (i + 1)), ⟨rfl, rfl⟩, ?_⟩
    dsimp only
    rw [e1]
    unfold f_X4_manyInK_4_s f_X4_manyInK_23
    rw [if_neg (show ¬ (336 : Int32) ≤ nI i from ngt (b := 336) hi (by omega)), ld_n _ _ (by omega) (by omega), Option.bind_some, nI_1]
    show _ = f_X4_manyInK_4 S k (nI (sm i (fun x => if S.2 10 x ≤ 0 then 0 else 1) + (if S.2 10 i ≤ 0 then 0 else 1))) (nI (i + 1))
    by_cases h : S.2 10 i ≤ 0
    · rw [if_pos h, if_pos h, n_0, nI_add]
    · rw [if_neg h, if_neg h, nI_1]
  · rintro k ⟨x, y⟩ ⟨q1, q2⟩
    dsimp only at q1 q2
    subst q1; subst q2
    rfl
/-- the greatest LABEL: what bounds all and is met (or 0) -/
theorem gl_spec {S M : HSt} {n : Nat} {T : Nat → Nat → Nat} {hl hk : Nat → Nat → Nat} (hn : NetWf n T) (hH : HL S M n T 6 8 9 hl hk) : ∃ g, f_X0_greatestLabel S = some (nI g) ∧ g < 20 ∧ (∀ s c, s < 2 * n → c < 4 → hl s c ≤ g) ∧ (g = 0 ∨ ∃ s c, s < 2 * n ∧ c < 4 ∧ hl s c = g) := by
  have h12 := hn.1
  unfold f_X0_greatestLabel
  refine lp_up (fun k (q : Int32 × Int32) => f_X0_greatestLabel_4 S k q.1 q.2) (fun i q => q.2 = nI i ∧ ∃ g, q.1 = nI g ∧ g < 20 ∧ (∀ s c, s < 2 * n → c < 4 → s * 4 + c < i → hl s c ≤ g) ∧ (g = 0 ∨ ∃ s c, s < 2 * n ∧ c < 4 ∧ hl s c = g)) 96 (fun o => ∃ g, o = some (nI g) ∧ g < 20 ∧ (∀ s c, s < 2 * n → c < 4 → hl s c ≤ g) ∧ (g = 0 ∨ ∃ s c, s < 2 * n ∧ c < 4 ∧ hl s c = g)) ?_ ?_ h_fu 0 (0, 0) (Nat.zero_le _) (by have := fu_big; omega) ⟨rfl, 0, rfl, by omega, fun s c _ _ h => by omega, Or.inl rfl⟩
  · rintro k i ⟨x, y⟩ hi ⟨q1, g, q2, q3, q4, q5⟩
    dsimp only at q1 q2
    subst q1; subst q2
    right
    have e1 : f_X0_greatestLabel_4 S (k + 1) (nI g) (nI i) = f_X0_greatestLabel_4_s S (f_X0_greatestLabel_4 S k) (nI g) (nI i) := rfl
    dsimp only
    rw [e1]
    unfold f_X0_greatestLabel_4_s
    rw [if_neg (show ¬ (96 : Int32) ≤ nI i from ngt (b := 96) hi (by omega)), ld_n _ _ (by omega) (by omega), Option.bind_some, nI_1]
    by_cases hb : i < 8 * n
    · have hq := hH.1 (i / 4) (i % 4) (by omega) (by omega)
      rw [show i / 4 * 4 + i % 4 = i by omega] at hq
      have hlt := LOk_lt hq.1
      rw [hq.2.2.1, labelOf_sl hq.1 hq.2.1, Option.bind_some]
      by_cases hc : g < hl (i / 4) (i % 4)
      · rw [if_pos (nlt hc (by omega))]
        refine ⟨(nI (hl (i / 4) (i % 4)), nI (i + 1)), ⟨rfl, _, rfl, hlt, fun s c hs hc4 hsc => ?_, Or.inr ⟨i / 4, i % 4, by omega, by omega, rfl⟩⟩, rfl⟩
        by_cases e : s * 4 + c = i
        · rw [show i / 4 = s by omega, show i % 4 = c by omega]; exact Nat.le_refl _
        · have := q4 s c hs hc4 (by omega); omega
      · rw [if_neg (nnlt hc (by omega))]
        refine ⟨(nI g, nI (i + 1)), ⟨rfl, g, rfl, q3, fun s c hs hc4 hsc => ?_, q5⟩, rfl⟩
        by_cases e : s * 4 + c = i
        · rw [show i / 4 = s by omega, show i % 4 = c by omega] at hc; omega
        · exact q4 s c hs hc4 (by omega)
    · rw [hH.2.1 i (by omega) hi, show f_X3_labelOf 0 = some (nI 0) from rfl, Option.bind_some, if_neg (nnlt (by omega) (by omega))]
      exact ⟨(nI g, nI (i + 1)), ⟨rfl, g, rfl, q3, fun s c hs hc4 hsc => q4 s c hs hc4 (by omega), q5⟩, rfl⟩
  · rintro k ⟨x, y⟩ ⟨q1, g, q2, q3, q4, q5⟩
    dsimp only at q1 q2
    subst q1; subst q2
    exact ⟨g, rfl, q3, fun s c hs hc => q4 s c hs hc (by omega), q5⟩
theorem gm_spec {S M : HSt} {n : Nat} {T : Nat → Nat → Nat} {hl hk : Nat → Nat → Nat} (hn : NetWf n T) (hH : HL S M n T 6 8 9 hl hk) : ∃ g, f_X4_many_141 M h_fu 0 0 = some (nI g) ∧ g < 20 ∧ (∀ s c, s < 2 * n → c < 4 → hl s c ≤ g) ∧ (g = 0 ∨ ∃ s c, s < 2 * n ∧ c < 4 ∧ hl s c = g) := by
  have h12 := hn.1
  refine lp_up (fun k (q : Int32 × Int32) => f_X4_many_141 M k q.1 q.2) (fun i q => q.2 = nI i ∧ ∃ g, q.1 = nI g ∧ g < 20 ∧ (∀ s c, s < 2 * n → c < 4 → 4 * (12 * ow T s + s / 2) + c < i → hl s c ≤ g) ∧ (g = 0 ∨ ∃ s c, s < 2 * n ∧ c < 4 ∧ hl s c = g)) 336 (fun o => ∃ g, o = some (nI g) ∧ g < 20 ∧ (∀ s c, s < 2 * n → c < 4 → hl s c ≤ g) ∧ (g = 0 ∨ ∃ s c, s < 2 * n ∧ c < 4 ∧ hl s c = g)) ?_ ?_ h_fu 0 (0, 0) (Nat.zero_le _) (by have := fu_big; omega) ⟨rfl, 0, rfl, by omega, fun s c _ _ h => by omega, Or.inl rfl⟩
  · rintro k i ⟨x, y⟩ hi ⟨q1, g, q2, q3, q4, q5⟩
    dsimp only at q1 q2
    subst q1; subst q2
    right
    have e1 : f_X4_many_141 M (k + 1) (nI g) (nI i) = f_X4_many_141_s M (f_X4_many_141 M k) (nI g) (nI i) := rfl
    dsimp only
    rw [e1]
    unfold f_X4_many_141_s f_X4_many_168
    rw [if_neg (show ¬ (336 : Int32) ≤ nI i from ngt (b := 336) hi (by omega)), ld_n _ _ (by omega) (by omega), Option.bind_some, nI_1]
    by_cases hex : ∃ s, s < 2 * n ∧ ow T s = i / 48 ∧ s / 2 = i / 4 % 12
    · obtain ⟨s, s1, s2, s3⟩ := hex
      have hq := hH.1 s (i % 4) s1 (by omega)
      rw [s2, s3, show 4 * (12 * (i / 48) + i / 4 % 12) + i % 4 = i by omega] at hq
      have hlt := LOk_lt hq.1
      have same : ∀ t c, t < 2 * n → c < 4 → 4 * (12 * ow T t + t / 2) + c = i → t = s ∧ c = i % 4 := by
        intro t c ht hc e
        have o1 := ow_lt hn ht
        have e1 : ow T t = ow T s := by omega
        have e2 : t / 2 = s / 2 := by omega
        refine ⟨?_, by omega⟩
        by_cases e4 : t = s
        · exact e4
        · exfalso
          have e5 : s = fl t := by unfold fl; split <;> omega
          exact ow_ne hn ht (by rw [← e5]; exact e1)
      rw [hq.2.2.2.1]
      by_cases hc : hl s (i % 4) ≤ g
      · rw [if_pos (nle hc (by omega))]
        refine ⟨(nI g, nI (i + 1)), ⟨rfl, g, rfl, q3, fun t c ht hc4 htc => ?_, q5⟩, rfl⟩
        by_cases e : 4 * (12 * ow T t + t / 2) + c = i
        · obtain ⟨z1, z2⟩ := same t c ht hc4 e; rw [z1, z2]; exact hc
        · exact q4 t c ht hc4 (by omega)
      · rw [if_neg (ngt (by omega) (by omega)), Option.bind_some]
        refine ⟨(nI (hl s (i % 4)), nI (i + 1)), ⟨rfl, _, rfl, hlt, fun t c ht hc4 htc => ?_, Or.inr ⟨s, i % 4, s1, by omega, rfl⟩⟩, rfl⟩
        by_cases e : 4 * (12 * ow T t + t / 2) + c = i
        · obtain ⟨z1, z2⟩ := same t c ht hc4 e; rw [z1, z2]; exact Nat.le_refl _
        · have := q4 t c ht hc4 (by omega); omega
    · have h0 := hH.2.2 (i / 48) (i / 4 % 12) (i % 4) (by omega) (by omega) (by omega) (fun s hs e1 e2 => hex ⟨s, hs, e1, e2⟩)
      rw [show 4 * (12 * (i / 48) + i / 4 % 12) + i % 4 = i by omega] at h0
      rw [h0, if_pos (show (0 : Int32) ≤ nI g from nle (a := 0) (by omega) (by omega))]
      refine ⟨(nI g, nI (i + 1)), ⟨rfl, g, rfl, q3, fun t c ht hc4 htc => ?_, q5⟩, rfl⟩
      by_cases e : 4 * (12 * ow T t + t / 2) + c = i
      · exfalso
        have o1 := ow_lt hn ht
        exact hex ⟨t, ht, by omega, by omega⟩
      · exact q4 t c ht hc4 (by omega)
  · rintro k ⟨x, y⟩ ⟨q1, g, q2, q3, q4, q5⟩
    dsimp only at q1 q2
    subst q1; subst q2
    exact ⟨g, rfl, q3, fun s c hs hc => q4 s c hs hc (by have := ow_lt hn hs; omega), q5⟩
theorem op_many : Op_many Rel := by
  intro S M hR a1
  obtain ⟨n, T, en, md, od, lm, hl, hk, kl, kk, h1, h2, h3⟩ := id hR
  obtain ⟨hn, hE, hC, hM, hW⟩ := id h1
  have h12 := hn.1
  unfold f_X3_many f_X4_many
  by_cases c0 : a1 = 0
  · rw [if_pos c0, if_pos c0, hC.1, hM.1]; exact ⟨_, rfl, rfl, hR⟩
  rw [if_neg c0, if_neg c0]
  by_cases c1 : a1 = 1
  · rw [if_pos c1, if_pos c1]
    unfold f_X1_linksUp
    have key : ∃ r, f_X1_linksUp_4 S h_fu 0 0 = some r ∧ f_X4_many_51 M h_fu 0 0 = some r := by
      refine lp_two (fun k (q : Int32 × Int32) => f_X1_linksUp_4 S k q.1 q.2) (fun k (q : Int32 × Int32) => f_X4_many_51 M k q.1 q.2) (fun i p q => p.2 = nI i ∧ q = p) n (fun o o' => ∃ r, o = some r ∧ o' = some r) ?_ ?_ h_fu 0 (0, 0) (0, 0) (Nat.zero_le _) (by have := fu_big; omega) ⟨rfl, rfl⟩
      · rintro k i ⟨x, y⟩ q hi ⟨p1, rfl⟩
        dsimp only at p1
        subst p1
        right
        have hw := hn.2.1 i hi
        have e3 : f_X1_linksUp_4 S (k + 1) x (nI i) = f_X1_linksUp_4_s S (f_X1_linksUp_4 S k) x (nI i) := rfl
        have e4 : f_X4_many_51 M (k + 1) x (nI i) = f_X4_many_51_s M (f_X4_many_51 M k) x (nI i) := rfl
        dsimp only
        rw [e3, e4]
        unfold f_X1_linksUp_4_s f_X4_many_51_s f_X4_many_74
        rw [hC.1, hM.1, if_neg (ngt hi (by omega)), if_neg (ngt hi (by omega)), ld_n _ _ (by omega) (by omega), ld_n _ _ (by omega) (by omega), Option.bind_some, Option.bind_some, hC.2.2.2.1 i hi, hM.2.2.2.2.1 i hi, nI_1]
        refine ⟨(x + nI (T 3 i), nI (i + 1)), (x + nI (T 3 i), nI (i + 1)), ⟨rfl, rfl⟩, rfl, ?_⟩
        rcases (show T 3 i = 0 ∨ T 3 i = 1 by omega) with e | e
        · rw [e, if_pos (show nI 0 = 0 from rfl)]; rfl
        · rw [e, if_neg (show ¬ nI 1 = 0 by decide)]; rfl
      · rintro k ⟨x, y⟩ q ⟨p1, rfl⟩
        dsimp only at p1
        subst p1
        have e3 : f_X1_linksUp_4 S (k + 1) x (nI n) = f_X1_linksUp_4_s S (f_X1_linksUp_4 S k) x (nI n) := rfl
        have e4 : f_X4_many_51 M (k + 1) x (nI n) = f_X4_many_51_s M (f_X4_many_51 M k) x (nI n) := rfl
        dsimp only
        rw [e3, e4]
        unfold f_X1_linksUp_4_s f_X4_many_51_s
        rw [hC.1, hM.1, if_pos (nle (Nat.le_refl _) (by omega)), if_pos (nle (Nat.le_refl _) (by omega))]
        exact ⟨x, rfl, rfl⟩
    obtain ⟨r, r1, r2⟩ := key
    rw [r1, r2, Option.bind_some]
    exact ⟨r, rfl, rfl, hR⟩
  rw [if_neg c1, if_neg c1]
  by_cases c2 : a1 = 2
  · rw [if_pos c2, if_pos c2, csH, miL, Option.bind_some, Option.bind_some, cnt_eq hn h2.2.1]; exact ⟨_, rfl, rfl, hR⟩
  rw [if_neg c2, if_neg c2]
  by_cases c3 : a1 = 3
  · rw [if_pos c3, if_pos c3, csK, miK, Option.bind_some, Option.bind_some, cnt_eq hn h2.2.2.1]; exact ⟨_, rfl, rfl, hR⟩
  rw [if_neg c3, if_neg c3]
  by_cases c4 : a1 = 4
  · rw [if_pos c4, if_pos c4]
    unfold f_X1_classesWithEnd
    have key : ∃ r, f_X1_classesWithEnd_4 S h_fu 0 0 = some r ∧ f_X4_many_102 M h_fu 0 0 = some r := by
      refine lp_two (fun k (q : Int32 × Int32) => f_X1_classesWithEnd_4 S k q.1 q.2) (fun k (q : Int32 × Int32) => f_X4_many_102 M k q.1 q.2) (fun i p q => p.2 = nI i ∧ q = p) 4 (fun o o' => ∃ r, o = some r ∧ o' = some r) ?_ ?_ h_fu 0 (0, 0) (0, 0) (Nat.zero_le _) (by have := fu_big; omega) ⟨rfl, rfl⟩
      · rintro k i ⟨x, y⟩ q hi ⟨p1, rfl⟩
        dsimp only at p1
        subst p1
        right
        have e3 : f_X1_classesWithEnd_4 S (k + 1) x (nI i) = f_X1_classesWithEnd_4_s S (f_X1_classesWithEnd_4 S k) x (nI i) := rfl
        have e4 : f_X4_many_102 M (k + 1) x (nI i) = f_X4_many_102_s M (f_X4_many_102 M k) x (nI i) := rfl
        dsimp only
        rw [e3, e4]
        unfold f_X1_classesWithEnd_4_s f_X4_many_102_s f_X4_many_124 f_X1_classesWithEnd_23
        rw [if_neg (show ¬ (4 : Int32) ≤ nI i from ngt (b := 4) hi (by omega)), if_neg (show ¬ (4 : Int32) ≤ nI i from ngt (b := 4) hi (by omega)), ld_n _ _ (by omega) (by omega), ld_n _ _ (by omega) (by omega), Option.bind_some, Option.bind_some, hC.2.2.2.2 i hi, hM.2.2.2.2.2 i hi, nI_1]
        by_cases h9 : en i = -9
        · rw [if_pos h9, if_pos h9]
          exact ⟨(x, nI (i + 1)), (x, nI (i + 1)), ⟨rfl, rfl⟩, rfl, by rw [show x + 0 = x by simp]⟩
        · rw [if_neg h9, if_neg h9]
          exact ⟨(x + 1, nI (i + 1)), (x + 1, nI (i + 1)), ⟨rfl, rfl⟩, rfl, rfl⟩
      · rintro k ⟨x, y⟩ q ⟨p1, rfl⟩
        dsimp only at p1
        subst p1
        exact ⟨x, rfl, rfl⟩
    obtain ⟨r, r1, r2⟩ := key
    rw [r1, r2, Option.bind_some]
    exact ⟨r, rfl, rfl, hR⟩
  rw [if_neg c4, if_neg c4]
  by_cases c5 : a1 = 5
  · rw [if_pos c5, if_pos c5, h2.2.2.2.2]; exact ⟨_, rfl, rfl, hR⟩
  rw [if_neg c5, if_neg c5]
  by_cases c6 : a1 = 6
  · rw [if_pos c6, if_pos c6]
    obtain ⟨g, g1, g2, g3, g4⟩ := gl_spec hn h2.2.1
    obtain ⟨g', g1', g2', g3', g4'⟩ := gm_spec hn h2.2.1
    have e : g = g' := by
      apply Nat.le_antisymm
      · rcases g4 with g4 | ⟨s, c, s1, s2, s3⟩
        · omega
        · rw [← s3]; exact g3' s c s1 s2
      · rcases g4' with g4 | ⟨s, c, s1, s2, s3⟩
        · omega
        · rw [← s3]; exact g3 s c s1 s2
    rw [g1, g1', e, Option.bind_some]
    exact ⟨_, rfl, rfl, hR⟩
  rw [if_neg c6, if_neg c6]
  exact ⟨-2, rfl, rfl, hR⟩
