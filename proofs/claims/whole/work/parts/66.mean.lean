/-- for a CLASS, somewhere in the row, that LABEL -/
def Mn (n : Nat) (T : Nat → Nat → Nat) (md : Nat → Nat) (hl : Nat → Nat → Nat) (b s L c : Nat) : Prop := ∃ t, t < 2 * n ∧ ow T t = b ∧ (md (b * 4 + 2) = 1 → t = s) ∧ hl t c = L ∧ L ≠ 0
section ME
variable {S M : HSt} {n : Nat} {T : Nat → Nat → Nat} {en : Nat → Int32} {md : Nat → Nat} {od lm : Nat} {hl hk : Nat → Nat → Nat}
theorem has_eq (hD : MD S M md od lm) {b w : Nat} (hb : b < 7) (hw : w < 4) : f_X0_has S (nI b) (nI w) = some (nI (md (b * 4 + w))) := by
  have h := hD.1 (b * 4 + w) (by omega)
  unfold f_X0_has
  rw [show (nI b * 4 + nI w : Int32) = nI (b * 4 + w) by rw [n_4, pk_mul, nI_add], ld_n _ _ (by omega) (by omega), Option.bind_some, h.2.1]
  rcases (show md (b * 4 + w) = 0 ∨ md (b * 4 + w) = 1 by omega) with e | e <;> rw [e] <;> rfl
theorem is_eq (hD : MD S M md od lm) {b w : Nat} (hb : b < 7) (hw : w < 4) : f_X4_is M (nI b) (nI w) = some (nI (md (b * 4 + w))) := by
  have h := hD.1 (b * 4 + w) (by omega)
  unfold f_X4_is
  rw [show (4 * nI b + nI w : Int32) = nI (b * 4 + w) by rw [n_4, pk_mul, nI_add]; congr 1; omega, ld_n _ _ (by omega) (by omega), Option.bind_some, h.2.2]
  rcases (show md (b * 4 + w) = 0 ∨ md (b * 4 + w) = 1 by omega) with e | e <;> rw [e] <;> rfl
theorem cm_in (hn : NetWf n T) (hC : CN S n T en) (hH : HL S M n T 6 8 9 hl hk) {b f t c L : Nat} (hb : b < 7) (hf : f ≤ t) (ht : t ≤ 2 * n) (hc : c < 4) (hL : L < 128) (k45 : Int32 → Int32 → Int32 → Int32 → Int32 → Option Int32) : ((∃ u, f ≤ u ∧ u < t ∧ ow T u = b ∧ hl u c = L ∧ L ≠ 0) ∧ f_X0_classMeant_55 S k45 h_fu (nI b) (nI L) (nI f) (nI t) (nI c) (nI f) = some (nI c)) ∨ ((∀ u, f ≤ u → u < t → ow T u = b → hl u c = L → L = 0) ∧ f_X0_classMeant_55 S k45 h_fu (nI b) (nI L) (nI f) (nI t) (nI c) (nI f) = k45 (nI b) (nI L) (nI f) (nI t) (nI (c + 1))) := by
  have h12 := hn.1
  refine lp_up (fun k y => f_X0_classMeant_55 S k45 k (nI b) (nI L) (nI f) (nI t) (nI c) y) (fun i y => y = nI (f + i) ∧ ∀ u, f ≤ u → u < f + i → ow T u = b → hl u c = L → L = 0) (t - f) (fun o => ((∃ u, f ≤ u ∧ u < t ∧ ow T u = b ∧ hl u c = L ∧ L ≠ 0) ∧ o = some (nI c)) ∨ ((∀ u, f ≤ u → u < t → ow T u = b → hl u c = L → L = 0) ∧ o = k45 (nI b) (nI L) (nI f) (nI t) (nI (c + 1)))) ?_ ?_ h_fu 0 (nI f) (Nat.zero_le _) (by have := fu_big; omega) ⟨rfl, fun u h1 h2 => by omega⟩
  · rintro k i y hi ⟨rfl, hI⟩
    have e1 : f_X0_classMeant_55 S k45 (k + 1) (nI b) (nI L) (nI f) (nI t) (nI c) (nI (f + i)) = f_X0_classMeant_55_s S k45 (f_X0_classMeant_55 S k45 k) (nI b) (nI L) (nI f) (nI t) (nI c) (nI (f + i)) := rfl
    rw [e1]
    have hu : f + i < 2 * n := by omega
    have ho := ow_lt hn hu
    have hq := hH.1 (f + i) c hu hc
    have hsl := sl_lt hq.1 hq.2.1
    have hlt := LOk_lt hq.1
    unfold f_X0_classMeant_55_s f_X0_classMeant_107 f_X3_slot
    rw [if_neg (ngt (by omega) (by omega)), Option.bind_some, show (nI (f + i) * 4 + nI c : Int32) = nI ((f + i) * 4 + c) by rw [n_4, pk_mul, nI_add], ld_n _ _ (by omega) (by omega), Option.bind_some, ld_n _ _ (by omega) (by omega), Option.bind_some, hC.2.1 _ hu, hq.2.2.1, nI_1]
    have go : (ow T (f + i) = b → hl (f + i) c = L → L = 0) → ∃ s', (s' = nI (f + (i + 1)) ∧ ∀ u, f ≤ u → u < f + (i + 1) → ow T u = b → hl u c = L → L = 0) ∧ f_X0_classMeant_55 S k45 k (nI b) (nI L) (nI f) (nI t) (nI c) (nI (f + i + 1)) = f_X0_classMeant_55 S k45 k (nI b) (nI L) (nI f) (nI t) (nI c) s' := by
      intro h
      refine ⟨nI (f + i + 1), ⟨by rw [Nat.add_assoc], fun u h1 h2 h3 h4 => ?_⟩, rfl⟩
      by_cases e : u = f + i
      · subst e; exact h h3 h4
      · exact hI u h1 (by omega) h3 h4
    by_cases h1 : ow T (f + i) = b
    · rw [if_pos (by rw [h1])]
      by_cases h2 : hl (f + i) c = 0
      · rw [if_pos (by rw [h2]; rfl)]
        exact Or.inr (go (fun _ q => by omega))
      · rw [if_neg (nz (fun q => h2 ((sl_0 hq.1).mp q)) (by omega)), labelOf_sl hq.1 hq.2.1, Option.bind_some]
        by_cases h3 : hl (f + i) c = L
        · rw [if_pos (by rw [h3])]
          exact Or.inl (Or.inl ⟨⟨f + i, by omega, by omega, h1, h3, by omega⟩, rfl⟩)
        · rw [if_neg (by rw [n_eq (by omega) (by omega)]; exact h3)]
          exact Or.inr (go (fun _ q => absurd q h3))
    · rw [if_neg (by rw [n_eq (by omega) (by omega)]; exact h1)]
      exact Or.inr (go (fun q => absurd q h1))
  · rintro k y ⟨rfl, hI⟩
    right
    rw [show f + (t - f) = t by omega] at hI ⊢
    refine ⟨hI, ?_⟩
    show f_X0_classMeant_55_s S k45 (f_X0_classMeant_55 S k45 k) (nI b) (nI L) (nI f) (nI t) (nI c) (nI t) = _
    unfold f_X0_classMeant_55_s
    rw [if_pos (nle (Nat.le_refl _) (by omega)), nI_1]
theorem cm_out (hn : NetWf n T) (hC : CN S n T en) (hH : HL S M n T 6 8 9 hl hk) {b f t L : Nat} (hb : b < 7) (hf : f ≤ t) (ht : t ≤ 2 * n) (hL : L < 128) : (∃ c, c < 4 ∧ (∃ u, f ≤ u ∧ u < t ∧ ow T u = b ∧ hl u c = L ∧ L ≠ 0) ∧ (∀ c', c' < c → ¬ ∃ u, f ≤ u ∧ u < t ∧ ow T u = b ∧ hl u c' = L ∧ L ≠ 0) ∧ f_X0_classMeant_45 S h_fu (nI b) (nI L) (nI f) (nI t) 0 = some (nI c)) ∨ ((∀ c, c < 4 → ¬ ∃ u, f ≤ u ∧ u < t ∧ ow T u = b ∧ hl u c = L ∧ L ≠ 0) ∧ f_X0_classMeant_45 S h_fu (nI b) (nI L) (nI f) (nI t) 0 = some (-1)) := by
  refine lp_up (fun k y => f_X0_classMeant_45 S k (nI b) (nI L) (nI f) (nI t) y) (fun i y => y = nI i ∧ ∀ c', c' < i → ¬ ∃ u, f ≤ u ∧ u < t ∧ ow T u = b ∧ hl u c' = L ∧ L ≠ 0) 4 (fun o => (∃ c, c < 4 ∧ (∃ u, f ≤ u ∧ u < t ∧ ow T u = b ∧ hl u c = L ∧ L ≠ 0) ∧ (∀ c', c' < c → ¬ ∃ u, f ≤ u ∧ u < t ∧ ow T u = b ∧ hl u c' = L ∧ L ≠ 0) ∧ o = some (nI c)) ∨ ((∀ c, c < 4 → ¬ ∃ u, f ≤ u ∧ u < t ∧ ow T u = b ∧ hl u c = L ∧ L ≠ 0) ∧ o = some (-1))) ?_ ?_ h_fu 0 0 (Nat.zero_le _) (by have := fu_big; omega) ⟨rfl, fun u h1 => by omega⟩
  · rintro k i y hi ⟨rfl, hI⟩
    have e1 : f_X0_classMeant_45 S (k + 1) (nI b) (nI L) (nI f) (nI t) (nI i) = f_X0_classMeant_45_s S (f_X0_classMeant_45 S k) (nI b) (nI L) (nI f) (nI t) (nI i) := rfl
    rw [e1]
    unfold f_X0_classMeant_45_s
    rw [if_neg (show ¬ (4 : Int32) ≤ nI i from ngt (b := 4) hi (by omega))]
    rcases cm_in hn hC hH hb hf ht hi hL (f_X0_classMeant_45 S k) with ⟨h1, h2⟩ | ⟨h1, h2⟩
    · exact Or.inl (Or.inl ⟨i, hi, h1, hI, h2⟩)
    · refine Or.inr ⟨nI (i + 1), ⟨rfl, lt_s hI ?_⟩, h2⟩
      rintro ⟨u, u1, u2, u3, u4, u5⟩
      exact u5 (h1 u u1 u2 u3 u4)
  · rintro k y ⟨rfl, hI⟩
    exact Or.inr ⟨hI, rfl⟩
theorem cm_spec (hn : NetWf n T) (hC : CN S n T en) (hH : HL S M n T 6 8 9 hl hk) (hD : MD S M md od lm) {b s L : Nat} (hb : b < 7) (hs : s < 2 * n) (ho : ow T s = b) (hL : L < 128) : (∃ c, c < 4 ∧ Mn n T md hl b s L c ∧ (∀ c', c' < c → ¬ Mn n T md hl b s L c') ∧ f_X0_classMeant S (nI b) (nI s) (nI L) = some (nI c)) ∨ ((∀ c, c < 4 → ¬ Mn n T md hl b s L c) ∧ f_X0_classMeant S (nI b) (nI s) (nI L) = some (-1)) := by
  have h12 := hn.1
  unfold f_X0_classMeant f_X0_classMeant_14 f_X0_classMeant_40
  rw [n_2, has_eq hD hb (by omega), Option.bind_some, Option.bind_some, Option.bind_some]
  have hm := (hD.1 (b * 4 + 2) (by omega)).1
  rcases (show md (b * 4 + 2) = 0 ∨ md (b * 4 + 2) = 1 by omega) with e | e
  · rw [e, if_pos (show nI 0 = 0 from rfl), if_pos (show nI 0 = 0 from rfl), hC.1, pk_mul]
    have eq : ∀ c, Mn n T md hl b s L c ↔ ∃ u, 0 ≤ u ∧ u < 2 * n ∧ ow T u = b ∧ hl u c = L ∧ L ≠ 0 := by
      intro c
      constructor
      · rintro ⟨u, u1, u2, u3, u4, u5⟩; exact ⟨u, Nat.zero_le _, u1, u2, u4, u5⟩
      · rintro ⟨u, -, u1, u2, u4, u5⟩; exact ⟨u, u1, u2, fun q => by omega, u4, u5⟩
    simp only [eq]
    exact cm_out hn hC hH hb (Nat.zero_le _) (Nat.le_refl _) hL
  · rw [e, if_neg (show ¬ nI 1 = 0 by decide), if_neg (show ¬ nI 1 = 0 by decide), nI_1]
    have eq : ∀ c, Mn n T md hl b s L c ↔ ∃ u, s ≤ u ∧ u < s + 1 ∧ ow T u = b ∧ hl u c = L ∧ L ≠ 0 := by
      intro c
      constructor
      · rintro ⟨u, u1, u2, u3, u4, u5⟩; have := u3 e; exact ⟨u, by omega, by omega, u2, u4, u5⟩
      · rintro ⟨u, v1, u1, u2, u4, u5⟩; exact ⟨u, by omega, u2, fun q => by omega, u4, u5⟩
    simp only [eq]
    exact cm_out hn hC hH hb (by omega) (by omega) hL
/-- what the reference holds at a BOX and a LINK -/
theorem lab_at {i j k : Nat} (hH : HL S M n T i j k hl hk) (hn : NetWf n T) {b l c : Nat} (hb : b < 7) (hl1 : l < n) (hc : c < 4) : (∃ t, t < 2 * n ∧ ow T t = b ∧ t / 2 = l ∧ M.2 j (4 * (12 * b + l) + c) = nI (hl t c)) ∨ ((∀ t, t < 2 * n → ow T t = b → t / 2 ≠ l) ∧ M.2 j (4 * (12 * b + l) + c) = 0) := by
  have h12 := hn.1
  by_cases h0 : T 0 l = b
  · left
    have hq := hH.1 (2 * l) c (by omega) hc
    rw [ow_2, h0, show 2 * l / 2 = l by omega] at hq
    exact ⟨2 * l, by omega, by rw [ow_2]; exact h0, by omega, hq.2.2.2.1⟩
  · by_cases h1 : T 1 l = b
    · left
      have hq := hH.1 (2 * l + 1) c (by omega) hc
      rw [ow_21, h1, show (2 * l + 1) / 2 = l by omega] at hq
      exact ⟨2 * l + 1, by omega, by rw [ow_21]; exact h1, by omega, hq.2.2.2.1⟩
    · right
      have hno : ∀ t, t < 2 * n → ow T t = b → t / 2 ≠ l := by
        intro t ht h2 h3
        unfold ow at h2
        rw [h3] at h2
        rcases (show t % 2 = 0 ∨ t % 2 = 1 by omega) with f | f <;> rw [f] at h2
        · exact h0 h2
        · exact h1 h2
      exact ⟨hno, hH.2.2 b l c hb (by omega) hc hno⟩
theorem mo_in (hn : NetWf n T) (hM : MN M n T en) (hH : HL S M n T 6 8 9 hl hk) (hD : MD S M md od lm) {b s c L : Nat} (hb : b < 7) (hs : s < 2 * n) (ho : ow T s = b) (hc : c < 4) (hL : L < 128) (k3 : Int32 → Int32 → Int32 → Int32 → Option Int32) : (Mn n T md hl b s L c ∧ f_X4_meaningOf_12 M k3 h_fu (nI b) (nI (s / 2)) (nI L) (nI c) 0 = some (nI c)) ∨ (¬ Mn n T md hl b s L c ∧ f_X4_meaningOf_12 M k3 h_fu (nI b) (nI (s / 2)) (nI L) (nI c) 0 = k3 (nI b) (nI (s / 2)) (nI L) (nI (c + 1))) := by
  have h12 := hn.1
  have hm := (hD.1 (b * 4 + 2) (by omega)).1
  refine lp_up (fun k y => f_X4_meaningOf_12 M k3 k (nI b) (nI (s / 2)) (nI L) (nI c) y) (fun i y => y = nI i ∧ ∀ t, t < 2 * n → t / 2 < i → ow T t = b → (md (b * 4 + 2) = 1 → t = s) → hl t c = L → L = 0) n (fun o => (Mn n T md hl b s L c ∧ o = some (nI c)) ∨ (¬ Mn n T md hl b s L c ∧ o = k3 (nI b) (nI (s / 2)) (nI L) (nI (c + 1)))) ?_ ?_ h_fu 0 0 (Nat.zero_le _) (by have := fu_big; omega) ⟨rfl, fun u h1 h2 => by omega⟩
  · rintro k i y hi ⟨rfl, hI⟩
    have e1 : f_X4_meaningOf_12 M k3 (k + 1) (nI b) (nI (s / 2)) (nI L) (nI c) (nI i) = f_X4_meaningOf_12_s M k3 (f_X4_meaningOf_12 M k3 k) (nI b) (nI (s / 2)) (nI L) (nI c) (nI i) := rfl
    rw [e1]
    unfold f_X4_meaningOf_12_s f_X4_meaningOf_58 f_X4_meaningOf_59 f_X4_meaningOf_84 f_X4_at
    have ei : (4 * (12 * nI b + nI i) + nI c : Int32) = nI (4 * (12 * b + i) + c) := by rw [n_4, n_12, pk_mul, nI_add, pk_mul, nI_add]
    rw [hM.1, if_neg (ngt hi (by omega)), n_2, is_eq hD hb (by omega), nI_1]
    simp only [Option.bind_some, ei]
    rw [ld_n _ _ (by omega) (by omega)]
    simp only [Option.bind_some]
    have go : (∀ t, t < 2 * n → t / 2 = i → ow T t = b → (md (b * 4 + 2) = 1 → t = s) → hl t c = L → L = 0) → ∃ s', (s' = nI (i + 1) ∧ ∀ t, t < 2 * n → t / 2 < i + 1 → ow T t = b → (md (b * 4 + 2) = 1 → t = s) → hl t c = L → L = 0) ∧ f_X4_meaningOf_12 M k3 k (nI b) (nI (s / 2)) (nI L) (nI c) (nI (i + 1)) = f_X4_meaningOf_12 M k3 k (nI b) (nI (s / 2)) (nI L) (nI c) s' := by
      intro h
      refine ⟨nI (i + 1), ⟨rfl, fun t t1 t2 t3 t4 t5 => ?_⟩, rfl⟩
      by_cases e : t / 2 = i
      · exact h t t1 e t3 t4 t5
      · exact hI t t1 (by omega) t3 t4 t5
    rcases lab_at hH hn hb hi hc with ⟨u, u1, u2, u3, u4⟩ | ⟨hno, u4⟩
    · have hq := hH.1 u c u1 hc
      have hlt := LOk_lt hq.1
      have same : ∀ t, t < 2 * n → t / 2 = i → ow T t = b → t = u := by
        intro t t1 t2 t3
        by_cases e : t = u
        · exact e
        · exfalso
          have e2 : t = fl u := by unfold fl; split <;> omega
          exact ow_ne hn u1 (by rw [u2, ← e2, t3])
      rw [u4]
      by_cases h0 : hl u c = 0
      · right
        rw [h0, if_pos (show nI 0 ≤ 0 by decide), if_pos trivial]
        refine go (fun t t1 t2 t3 t4 t5 => ?_)
        rw [same t t1 t2 t3] at t5; omega
      · rw [if_neg (show ¬ nI (hl u c) ≤ 0 from ngt (a := 0) (by omega) (by omega))]
        by_cases h1 : hl u c = L
        · rw [if_pos (by rw [h1]), if_neg (show ¬ (1 : Int32) = 0 by decide)]
          rcases (show md (b * 4 + 2) = 0 ∨ md (b * 4 + 2) = 1 by omega) with e | e
          · left; left
            rw [if_pos (show nI (md (b * 4 + 2)) = 0 by rw [e]; rfl)]
            exact ⟨⟨u, u1, u2, fun q => by omega, h1, by omega⟩, rfl⟩
          · rw [if_neg (show ¬ nI (md (b * 4 + 2)) = 0 by rw [e]; decide)]
            by_cases h2 : i = s / 2
            · left; left
              rw [if_pos (by rw [h2])]
              exact ⟨⟨u, u1, u2, fun _ => (same s hs (by omega) ho).symm, h1, by omega⟩, rfl⟩
            · right
              rw [if_neg (by rw [n_eq (by omega) (by omega)]; exact h2)]
              refine go (fun t t1 t2 t3 t4 t5 => ?_)
              have := t4 e
              subst this
              exact absurd t2.symm h2
        · right
          rw [if_neg (by rw [n_eq (by omega) (by omega)]; exact h1), if_pos trivial]
          refine go (fun t t1 t2 t3 t4 t5 => ?_)
          rw [same t t1 t2 t3] at t5; exact absurd t5 h1
    · right
      rw [u4, if_pos (show (0 : Int32) ≤ 0 by decide), if_pos trivial]
      exact go (fun t t1 t2 t3 _ _ => absurd t2 (hno t t1 t3))
  · rintro k y ⟨rfl, hI⟩
    right
    refine ⟨?_, ?_⟩
    · rintro ⟨t, t1, t2, t3, t4, t5⟩
      exact t5 (hI t t1 (by omega) t2 t3 t4)
    · show f_X4_meaningOf_12_s M k3 (f_X4_meaningOf_12 M k3 k) (nI b) (nI (s / 2)) (nI L) (nI c) (nI n) = _
      unfold f_X4_meaningOf_12_s
      rw [hM.1, if_pos (nle (Nat.le_refl _) (by omega)), nI_1]
theorem mo_spec (hn : NetWf n T) (hM : MN M n T en) (hH : HL S M n T 6 8 9 hl hk) (hD : MD S M md od lm) {b s L : Nat} (hb : b < 7) (hs : s < 2 * n) (ho : ow T s = b) (hL : L < 128) : (∃ c, c < 4 ∧ Mn n T md hl b s L c ∧ (∀ c', c' < c → ¬ Mn n T md hl b s L c') ∧ f_X4_meaningOf M (nI b) (nI (s / 2)) (nI L) = some (nI c)) ∨ ((∀ c, c < 4 → ¬ Mn n T md hl b s L c) ∧ f_X4_meaningOf M (nI b) (nI (s / 2)) (nI L) = some (-9)) := by
  unfold f_X4_meaningOf
  refine lp_up (fun k y => f_X4_meaningOf_3 M k (nI b) (nI (s / 2)) (nI L) y) (fun i y => y = nI i ∧ ∀ c', c' < i → ¬ Mn n T md hl b s L c') 4 (fun o => (∃ c, c < 4 ∧ Mn n T md hl b s L c ∧ (∀ c', c' < c → ¬ Mn n T md hl b s L c') ∧ o = some (nI c)) ∨ ((∀ c, c < 4 → ¬ Mn n T md hl b s L c) ∧ o = some (-9))) ?_ ?_ h_fu 0 0 (Nat.zero_le _) (by have := fu_big; omega) ⟨rfl, fun u h1 => by omega⟩
  · rintro k i y hi ⟨rfl, hI⟩
    have e1 : f_X4_meaningOf_3 M (k + 1) (nI b) (nI (s / 2)) (nI L) (nI i) = f_X4_meaningOf_3_s M (f_X4_meaningOf_3 M k) (nI b) (nI (s / 2)) (nI L) (nI i) := rfl
    rw [e1]
    unfold f_X4_meaningOf_3_s
    rw [if_neg (show ¬ (4 : Int32) ≤ nI i from ngt (b := 4) hi (by omega))]
    rcases mo_in hn hM hH hD hb hs ho hi hL (f_X4_meaningOf_3 M k) with ⟨h1, h2⟩ | ⟨h1, h2⟩
    · exact Or.inl (Or.inl ⟨i, hi, h1, hI, h2⟩)
    · exact Or.inr ⟨nI (i + 1), ⟨rfl, lt_s hI h1⟩, h2⟩
  · rintro k y ⟨rfl, hI⟩
    exact Or.inr ⟨hI, rfl⟩
/-- both sides together -/
theorem mean_spec (hn : NetWf n T) (hC : CN S n T en) (hM : MN M n T en) (hH : HL S M n T 6 8 9 hl hk) (hD : MD S M md od lm) {b s L : Nat} (hb : b < 7) (hs : s < 2 * n) (ho : ow T s = b) (hL : L < 128) : (∃ c, c < 4 ∧ f_X0_classMeant S (nI b) (nI s) (nI L) = some (nI c) ∧ f_X4_meaningOf M (nI b) (nI (s / 2)) (nI L) = some (nI c)) ∨ (f_X0_classMeant S (nI b) (nI s) (nI L) = some (-1) ∧ f_X4_meaningOf M (nI b) (nI (s / 2)) (nI L) = some (-9)) := by
  rcases cm_spec hn hC hH hD hb hs ho hL with ⟨c, c1, c2, c3, c4⟩ | ⟨c1, c2⟩
  · rcases mo_spec hn hM hH hD hb hs ho hL with ⟨c', d1, d2, d3, d4⟩ | ⟨d1, d2⟩
    · have : c = c' := by
        rcases Nat.lt_trichotomy c c' with h | h | h
        · exact absurd c2 (d3 c h)
        · exact h
        · exact absurd d2 (c3 c' h)
      subst this
      exact Or.inl ⟨c, c1, c4, d4⟩
    · exact absurd c2 (d1 c c1)
  · rcases mo_spec hn hM hH hD hb hs ho hL with ⟨c', d1, d2, d3, d4⟩ | ⟨d1, d2⟩
    · exact absurd d2 (c1 c' d1)
    · exact Or.inr ⟨c2, d2⟩
end ME
theorem op_meaning : Op_meaning Rel := by
  intro S M hR a1 a2 a3
  obtain ⟨n, T, en, md, od, lm, hl, hk, kl, kk, h1, h2, h3⟩ := id hR
  obtain ⟨hn, hE, hC, hM, hW⟩ := id h1
  have h12 := hn.1
  unfold f_X3_meaning f_X4_meaning
  rcases sideFor_spec hn hC hM a1 a2 with ⟨e1, e2⟩ | ⟨b, s, hb, hs, ho, rfl, rfl, e1, e2⟩
  · rw [e1, e2]; exact ⟨-1, rfl, rfl, hR⟩
  · rw [e1, e2, Option.bind_some, Option.bind_some, if_neg (nn1 (by omega)), if_neg (show ¬ (1 : Int32) = 0 by decide)]
    rcases q_in a3 99 (by omega) with ⟨f1, f2⟩ | ⟨L, hL, rfl, f2⟩
    · rw [n_99, f2, Option.bind_some, if_pos (show (0 : Int32) = 0 from rfl)]
      refine ⟨-2, ?_, rfl, hR⟩
      rcases f1 with f1 | f1
      · rw [if_pos f1]
      · by_cases g : a3 < 0
        · rw [if_pos g]
        · rw [if_neg g, if_neg]
          obtain ⟨j, hj, rfl⟩ := nI_of g
          rw [n_lt (by omega) (by omega)] at f1
          rw [n_le (by omega) (by omega)]
          omega
    · rw [n_99, f2, Option.bind_some, if_neg (show ¬ (1 : Int32) = 0 by decide), if_neg (nI_pos (by omega)), if_pos (nle hL (by omega))]
      rcases mean_spec hn hC hM h2.2.1 h2.1 hb hs ho (show L < 128 by omega) with ⟨c, c1, c2, c3⟩ | ⟨c2, c3⟩
      · rw [c2, c3, Option.bind_some, Option.bind_some, if_neg (nn1 (by omega))]
        exact ⟨_, rfl, rfl, hR⟩
      · rw [c2, c3, Option.bind_some, Option.bind_some, if_pos rfl]
        exact ⟨_, rfl, rfl, hR⟩
