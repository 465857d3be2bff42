def tu (T : Nat → Nat → Nat) (i0 l x : Nat) : Nat → Nat → Nat := fun i j => if i = i0 ∧ j = l then x else T i j
theorem tu_s (T : Nat → Nat → Nat) (i0 l x : Nat) : tu T i0 l x i0 l = x := if_pos ⟨rfl, rfl⟩
theorem tu_i (T : Nat → Nat → Nat) {i0 l x i : Nat} (j : Nat) (h : i ≠ i0) : tu T i0 l x i j = T i j := if_neg (fun e => h e.1)
theorem tu_j (T : Nat → Nat → Nat) {i0 l x j : Nat} (i : Nat) (h : j ≠ l) : tu T i0 l x i j = T i j := if_neg (fun e => h e.2)
theorem tu_ow (T : Nat → Nat → Nat) {i0 l x : Nat} (h : 2 ≤ i0) (s : Nat) : ow (tu T i0 l x) s = ow T s := by
  unfold ow
  exact tu_i T _ (by omega)
theorem fr_CN {S S' : HSt} {n : Nat} {T : Nat → Nat → Nat} {en : Nat → Int32} {ks : List Nat} (h : fr ks S S') (hk : ∀ k, k < 4 → k ∉ ks) (hC : CN S n T en) : CN S' n T en := by
  refine ⟨by rw [h.1]; exact hC.1, fun s hs => ?_, fun s hs => ?_, fun s hs => ?_, fun s hs => ?_⟩
  · rw [h.2 0 (hk 0 (by omega))]; exact hC.2.1 s hs
  · rw [h.2 1 (hk 1 (by omega))]; exact hC.2.2.1 s hs
  · rw [h.2 2 (hk 2 (by omega))]; exact hC.2.2.2.1 s hs
  · rw [h.2 3 (hk 3 (by omega))]; exact hC.2.2.2.2 s hs
theorem Ways_fr {S S' : HSt} {n : Nat} {T : Nat → Nat → Nat} {en : Nat → Int32} {c : Nat} (a : S'.2 4 = S.2 4) (b : S'.2 5 = S.2 5) (h : Ways S n T en c) : Ways S' n T en c := by
  unfold Ways CF at *
  rw [a, b]
  exact h
theorem no45 : ∀ k, k < 4 → k ∉ [4, 5] := by decide
theorem in45 {k : Nat} (h : 6 ≤ k) : k ∉ [4, 5] := by simp; omega
theorem wf_tu2 {n : Nat} {T : Nat → Nat → Nat} (hn : NetWf n T) {l v : Nat} (hv1 : 1 ≤ v) (hv : v ≤ 9) : NetWf n (tu T 2 l v) := by
  have a0 : ∀ j, tu T 2 l v 0 j = T 0 j := fun j => tu_i T j (by omega)
  have a1 : ∀ j, tu T 2 l v 1 j = T 1 j := fun j => tu_i T j (by omega)
  have a3 : ∀ j, tu T 2 l v 3 j = T 3 j := fun j => tu_i T j (by omega)
  refine ⟨hn.1, fun j hj => ?_, fun j j' hj hj' q1 q2 => ?_⟩
  · have := hn.2.1 j hj
    rw [a0, a1, a3]
    by_cases e : j = l
    · rw [e] at this ⊢; rw [tu_s]; omega
    · rw [tu_j T 2 e]; exact this
  · rw [a0, a0] at q1
    rw [a1, a1] at q2
    exact hn.2.2 j j' hj hj' q1 q2
theorem wf_tu3 {n : Nat} {T : Nat → Nat → Nat} (hn : NetWf n T) {l v : Nat} (hv : v ≤ 1) : NetWf n (tu T 3 l v) := by
  have a0 : ∀ j, tu T 3 l v 0 j = T 0 j := fun j => tu_i T j (by omega)
  have a1 : ∀ j, tu T 3 l v 1 j = T 1 j := fun j => tu_i T j (by omega)
  have a2 : ∀ j, tu T 3 l v 2 j = T 2 j := fun j => tu_i T j (by omega)
  refine ⟨hn.1, fun j hj => ?_, fun j j' hj hj' q1 q2 => ?_⟩
  · have := hn.2.1 j hj
    rw [a0, a1, a2]
    by_cases e : j = l
    · rw [e] at this ⊢; rw [tu_s]; omega
    · rw [tu_j T 3 e]; exact this
  · rw [a0, a0] at q1
    rw [a1, a1] at q2
    exact hn.2.2 j j' hj hj' q1 q2
theorem op_cost : Op_cost Rel := by
  intro S M hR a1 a2
  obtain ⟨n, T, en, md, od, lm, hl, hk, kl, kk, h1, h2, h3⟩ := id hR
  obtain ⟨hn, hE, hC, hM, hW⟩ := id h1
  have h12 := hn.1
  unfold f_X3_cost f_X4_cost f_X1_setCost
  rcases q_link hn hC hM a1 with ⟨e1, e2⟩ | ⟨l, hl1, rfl, e1, e2⟩
  · rw [e1, e2]; exact ⟨-1, S, M, rfl, rfl, hR⟩
  · have hw := hn.2.1 l hl1
    rw [e1, e2]
    simp only [Option.bind_some, i10, if_false]
    rcases q_cost a2 with ⟨f1, f2⟩ | ⟨v, hv1, hv, rfl, f1, f2⟩
    · rw [f1, f2]; exact ⟨-2, S, M, rfl, rfl, hR⟩
    · rw [f1, f2]
      simp (disch := omega) only [Option.bind_some, i10, if_false, ld_n, st_n, hC.2.2.1, hM.2.2.2.1]
      have hn' : NetWf n (tu T 2 l v) := wf_tu2 hn hv1 hv
      have hC' : CN (wr S 1 l (nI v)) n (tu T 2 l v) en := by
        refine ⟨hC.1, fun s hs => ?_, fun j hj => ?_, fun j hj => ?_, fun j hj => ?_⟩
        · rw [wr_o _ _ _ (by omega), tu_ow T (by omega)]; exact hC.2.1 s hs
        · by_cases e : j = l
          · rw [e, wr_s, tu_s]
          · rw [wr_n _ _ e, tu_j T 2 e]; exact hC.2.2.1 j hj
        · rw [wr_o _ _ _ (by omega), tu_i T j (by omega)]; exact hC.2.2.2.1 j hj
        · rw [wr_o _ _ _ (by omega)]; exact hC.2.2.2.2 j hj
      have hM' : MN (wr M 2 l (nI v)) n (tu T 2 l v) en := by
        refine ⟨hM.1, fun j hj => ?_, fun j hj => ?_, fun j hj => ?_, fun j hj => ?_, fun j hj => ?_⟩
        · rw [wr_o _ _ _ (by omega), tu_i T j (by omega)]; exact hM.2.1 j hj
        · rw [wr_o _ _ _ (by omega), tu_i T j (by omega)]; exact hM.2.2.1 j hj
        · by_cases e : j = l
          · rw [e, wr_s, tu_s]
          · rw [wr_n _ _ e, tu_j T 2 e]; exact hM.2.2.2.1 j hj
        · rw [wr_o _ _ _ (by omega), tu_i T j (by omega)]; exact hM.2.2.2.2.1 j hj
        · rw [wr_o _ _ _ (by omega)]; exact hM.2.2.2.2.2 j hj
      obtain ⟨S', s1, s2, s3⟩ := findWays_spec hn' hC' hM' hE
      rw [s1]
      refine ⟨_, S', _, rfl, rfl, n, tu T 2 l v, en, md, od, lm, hl, hk, kl, kk, ⟨hn', hE, fr_CN s2 no45 hC', hM', s3⟩, LabR_fr h2 (fun i _ _ => by rw [s2.1]; rfl) (fun i _ _ => by rw [s2.2 i (in45 (by omega)), wr_r _ _ (by omega)]) rfl (fun i _ _ => wr_r _ _ (by omega)) (tu_ow T (by omega)), Told_fr h3 (by rw [s2.1]; rfl) rfl (by rw [s2.2 14 (in45 (by omega)), wr_r _ _ (by omega)]) (by rw [s2.2 15 (in45 (by omega)), wr_r _ _ (by omega)]) (wr_r _ _ (by omega)) (wr_r _ _ (by omega))⟩
def eu (en : Nat → Int32) (c : Nat) (x : Int32) : Nat → Int32 := fun j => if j = c then x else en j
theorem eu_s (en : Nat → Int32) (c : Nat) (x : Int32) : eu en c x c = x := if_pos rfl
theorem eu_n (en : Nat → Int32) {c j : Nat} {x : Int32} (h : j ≠ c) : eu en c x j = en j := if_neg h
theorem end_go {S M : HSt} (hR : Rel S M) {c : Nat} (hc : c < 4) {x : Int32} (hx : x = -9 ∨ ∃ b, b < 7 ∧ x = nI b) : ∃ (r : Int32) (S1 M1 : HSt), f_X3_end_25 S (nI c) x = some (r, S1) ∧ f_X4_end_25 M (nI c) x = some (r, M1) ∧ Rel S1 M1 := by
  obtain ⟨n, T, en, md, od, lm, hl, hk, kl, kk, h1, h2, h3⟩ := id hR
  obtain ⟨hn, hE, hC, hM, hW⟩ := id h1
  unfold f_X3_end_25 f_X4_end_25 f_X1_setEnd
  simp (disch := omega) only [Option.bind_some, ld_n, st_n, hC.2.2.2.2, hM.2.2.2.2.2]
  have hE' : EnOk (eu en c x) := by
    intro j hj
    unfold eu
    split
    · exact hx
    · exact hE j hj
  have hC' : CN (wr S 3 c x) n T (eu en c x) := by
    refine ⟨hC.1, fun s hs => ?_, fun j hj => ?_, fun j hj => ?_, fun j hj => ?_⟩
    · rw [wr_o _ _ _ (by omega)]; exact hC.2.1 s hs
    · rw [wr_o _ _ _ (by omega)]; exact hC.2.2.1 j hj
    · rw [wr_o _ _ _ (by omega)]; exact hC.2.2.2.1 j hj
    · by_cases e : j = c
      · rw [e, wr_s, eu_s]
      · rw [wr_n _ _ e, eu_n _ e]; exact hC.2.2.2.2 j hj
  have hM' : MN (wr M 4 c x) n T (eu en c x) := by
    refine ⟨hM.1, fun j hj => ?_, fun j hj => ?_, fun j hj => ?_, fun j hj => ?_, fun j hj => ?_⟩
    · rw [wr_o _ _ _ (by omega)]; exact hM.2.1 j hj
    · rw [wr_o _ _ _ (by omega)]; exact hM.2.2.1 j hj
    · rw [wr_o _ _ _ (by omega)]; exact hM.2.2.2.1 j hj
    · rw [wr_o _ _ _ (by omega)]; exact hM.2.2.2.2.1 j hj
    · by_cases e : j = c
      · rw [e, wr_s, eu_s]
      · rw [wr_n _ _ e, eu_n _ e]; exact hM.2.2.2.2.2 j hj
  obtain ⟨M', D, -, -, -, hD⟩ := findFar_spec hn hM' hc
  obtain ⟨S', s1, s2, s3, s4⟩ := fw_spec hn hC' hE' hc hD
  rw [s1]
  refine ⟨_, S', _, rfl, rfl, n, T, _, md, od, lm, hl, hk, kl, kk, ⟨hn, hE', fc_CN s2 hC', hM', fun j hj => ?_⟩, LabR_fr h2 (fun i _ _ => by rw [s2.1]; rfl) (fun i _ _ => by rw [s2.2.1 i (in45 (by omega)), wr_r _ _ (by omega)]) rfl (fun i _ _ => wr_r _ _ (by omega)) (fun _ => rfl), Told_fr h3 (by rw [s2.1]; rfl) rfl (by rw [s2.2.1 14 (in45 (by omega)), wr_r _ _ (by omega)]) (by rw [s2.2.1 15 (in45 (by omega)), wr_r _ _ (by omega)]) (wr_r _ _ (by omega)) (wr_r _ _ (by omega))⟩
  by_cases e : j = c
  · subst e; exact ⟨D, hD, s3, s4⟩
  · refine Ways_fc s2 e hj ?_
    obtain ⟨D', w1, w2, w3⟩ := hW j hj
    refine ⟨D', by rw [eu_n _ e]; exact w1, fun b hb => ?_, fun b hb => ?_⟩
    · rw [wr_o _ _ _ (by omega)]; exact w2 b hb
    · rw [wr_o _ _ _ (by omega)]; exact w3 b hb
theorem op_end : Op_end Rel := by
  intro S M hR a1 a2
  unfold f_X3_end f_X4_end
  rcases q_cls a1 with ⟨e1, e2⟩ | ⟨c, hc, rfl, e1, e2⟩
  · rw [e1, e2]; exact ⟨-1, S, M, rfl, rfl, hR⟩
  · rw [e1, e2]
    simp only [Option.bind_some, i10, if_false]
    rcases q_box a2 with ⟨f1, f2⟩ | ⟨b, hb, rfl, f1, f2⟩
    · rw [f1, f2]
      simp only [Option.bind_some, i00, if_true]
      by_cases h9 : a2 = -9
      · rw [if_pos h9, if_pos h9]
        exact end_go hR hc (Or.inl h9)
      · rw [if_neg h9, if_neg h9]
        exact ⟨-2, S, M, rfl, rfl, hR⟩
    · rw [f1, f2]
      simp only [Option.bind_some, i10, if_false]
      rw [if_neg (nn9 (by omega))]
      exact end_go hR hc (Or.inr ⟨b, hb, rfl⟩)
