/-! the class: LABELS of one row -/
def RowP (S : HSt) (T : Nat → Nat → Nat) (md : Nat → Nat) (cn hl : Nat → Nat → Nat) (en : Nat → Int32) (b : Nat) (R : Nat → Prop) (p e w : Nat → Nat) : Prop :=
  (∀ c, c < 4 → (p c = 1 ↔ ∃ s, R s ∧ gz S T md cn s c = 1)) ∧ (∀ c, c < 4 → e c ≤ 1 ∧ (e c = 1 ↔ en c = nI b ∧ md (b * 4 + 3) = 1)) ∧ ∀ c, c < 4 → (w c = 0 ∨ (16 ≤ w c ∧ w c ≤ 19 ∧ ∃ s, R s ∧ hl s c = w c)) ∧ ∀ s, R s → 16 ≤ hl s c → hl s c = w c
theorem gz_cn {S : HSt} {T : Nat → Nat → Nat} {md : Nat → Nat} {cn : Nat → Nat → Nat} {s c : Nat} (h : gz S T md cn s c = 1) : cn (ow T s) c ≠ 99 := by
  intro q
  unfold gz at h
  rw [if_pos q] at h
  omega
section TF
variable {S M S1 : HSt} {n : Nat} {T : Nat → Nat → Nat} {en : Nat → Int32} {md : Nat → Nat} {od lm : Nat} {hl hk : Nat → Nat → Nat} {cn : Nat → Nat → Nat} {R : Nat → Prop} {p e w : Nat → Nat}
theorem ahead_spec (hn : NetWf n T) (hC : CN S1 n T en) (hD : MD S1 M md od lm) (hcn : ∀ b c, b < 7 → c < 4 → cn b c = 99 ∨ cn b c ≤ 9) (hH : ∀ s c, s < 2 * n → c < 4 → LOk (hl s c) ∧ hk s c ≤ 9 ∧ S1.2 6 (s * 4 + c) = nI (sl (hl s c) (hk s c))) {b c fm tt : Nat} (hb : b < 7) (hc : c < 4) (ht : tt ≤ 2 * n) (hft : fm ≤ tt) (hR : ∀ s, R s ↔ s < 2 * n ∧ ow T s = b ∧ fm ≤ s ∧ s < tt) (h9 : ∀ s c, R s → c < 4 → S1.2 9 (s * 4 + c) = nI (hd S T md cn s c)) (hP : RowP S T md cn hl en b R p e w) : f_X0_labelAhead S1 (nI b) (nI c) (nI fm) (nI tt) = some (if p c = 1 then nI (if e c = 1 then 3 else w c) else -1) := by
  have h12 := hn.1
  obtain ⟨hp, he, hw⟩ := hP
  obtain ⟨hw1, hw2⟩ := hw c hc
  unfold f_X0_labelAhead
  refine lp_up (fun k (q : Int32 × Int32 × Int32) => f_X0_labelAhead_9 S1 k (nI b) (nI c) (nI tt) q.1 q.2.1 q.2.2) (fun i q => q.2.2 = nI i ∧ fm ≤ i ∧ ((q.1 = 0 ∧ ∀ s, R s → s < i → gz S T md cn s c ≠ 1) ∨ (q.1 = 1 ∧ p c = 1)) ∧ ((q.2.1 = 0 ∧ ∀ s, R s → s < i → hl s c < 16) ∨ (q.2.1 = nI (w c) ∧ 16 ≤ w c))) tt (fun o => o = some (if p c = 1 then nI (if e c = 1 then 3 else w c) else -1)) ?_ ?_ h_fu fm (0, 0, nI fm) hft (by have := fu_big; omega) ⟨rfl, Nat.le_refl _, Or.inl ⟨rfl, fun s hs h => by have := (hR s).mp hs; omega⟩, Or.inl ⟨rfl, fun s hs h => by have := (hR s).mp hs; omega⟩⟩
  · rintro k i ⟨x5, x6, x7⟩ hi ⟨q1, q2, q3, q4⟩
    dsimp only at q1 q2 q3 q4
    subst q1
    right
    have e1 : f_X0_labelAhead_9 S1 (k + 1) (nI b) (nI c) (nI tt) x5 x6 (nI i) = f_X0_labelAhead_9_s S1 (f_X0_labelAhead_9 S1 k) (nI b) (nI c) (nI tt) x5 x6 (nI i) := rfl
    dsimp only
    rw [e1]
    unfold f_X0_labelAhead_9_s f_X0_labelAhead_88
    have hoi := ow_lt hn (show i < 2 * n by omega)
    rw [if_neg (ngt hi (by omega)), ld_n _ _ (by omega) (by omega), Option.bind_some, hC.2.1 i (by omega), nI_1]
    by_cases ho : ow T i = b
    · have hRi : R i := (hR i).mpr ⟨by omega, ho, q2, hi⟩
      have hq := hH i c (by omega) hc
      have hL := LOk_lt hq.1
      rw [if_pos (by rw [ho])]
      have fin : ∀ t0 : Int32, ((t0 = 0 ∧ ∀ s, R s → s < i + 1 → gz S T md cn s c ≠ 1) ∨ (t0 = 1 ∧ p c = 1)) → ∃ q : Int32 × Int32 × Int32, (q.2.2 = nI (i + 1) ∧ fm ≤ i + 1 ∧ ((q.1 = 0 ∧ ∀ s, R s → s < i + 1 → gz S T md cn s c ≠ 1) ∨ (q.1 = 1 ∧ p c = 1)) ∧ ((q.2.1 = 0 ∧ ∀ s, R s → s < i + 1 → hl s c < 16) ∨ (q.2.1 = nI (w c) ∧ 16 ≤ w c))) ∧ f_X0_labelAhead_54 S1 (f_X0_labelAhead_9 S1 k) (nI b) (nI c) (nI tt) x6 (nI i) t0 = f_X0_labelAhead_9 S1 k (nI b) (nI c) (nI tt) q.1 q.2.1 q.2.2 := by
        intro t0 h0
        unfold f_X0_labelAhead_54 f_X0_labelAhead_86 f_X0_labelAhead_88 f_X3_slot
        rw [Option.bind_some, show (nI i * 4 + nI c : Int32) = nI (i * 4 + c) by rw [n_4, pk_mul, nI_add], ld_n _ _ (by omega) (by omega), Option.bind_some, hq.2.2, labelOf_sl hq.1 hq.2.1, Option.bind_some, nI_1]
        by_cases h16 : hl i c < 16
        · rw [if_pos (show nI (hl i c) < 16 from nlt (b := 16) h16 (by omega))]
          refine ⟨(t0, x6, nI (i + 1)), ⟨rfl, by omega, h0, ?_⟩, rfl⟩
          rcases q4 with ⟨a1, a2⟩ | a
          · refine Or.inl ⟨a1, fun s hs h => ?_⟩
            by_cases z : s = i
            · rw [z]; exact h16
            · exact a2 s hs (by omega)
          · exact Or.inr a
        · rw [if_neg (show ¬ nI (hl i c) < 16 from nnlt (b := 16) h16 (by omega))]
          refine ⟨(t0, nI (hl i c), nI (i + 1)), ⟨rfl, by omega, h0, ?_⟩, rfl⟩
          have hwc := hw2 i hRi (by omega)
          exact Or.inr ⟨by rw [hwc], by omega⟩
      rcases q3 with ⟨a1, a2⟩ | ⟨a1, a2⟩
      · rw [a1, if_pos rfl]
        unfold f_X3_slot
        rw [Option.bind_some, show (nI i * 4 + nI c : Int32) = nI (i * 4 + c) by rw [n_4, pk_mul, nI_add], ld_n _ _ (by omega) (by omega), Option.bind_some, h9 i c hRi hc]
        have hg := gz_le S T md cn i c
        by_cases hg1 : gz S T md cn i c = 1
        · have hk9 := hcn (ow T i) c hoi hc
          have hk8 := gz_cn hg1
          unfold hd
          rw [if_pos hg1, if_neg (nz (by omega) (by omega))]
          exact fin 1 (Or.inr ⟨rfl, (hp c hc).mpr ⟨i, hRi, hg1⟩⟩)
        · unfold hd
          rw [if_neg hg1, if_pos (show nI 0 = 0 from rfl)]
          refine fin 0 (Or.inl ⟨rfl, fun s hs h => ?_⟩)
          by_cases z : s = i
          · rw [z]; exact hg1
          · exact a2 s hs (by omega)
      · rw [a1, if_neg (show ¬ (1 : Int32) = 0 by decide)]
        exact fin 1 (Or.inr ⟨rfl, a2⟩)
    · rw [if_neg (by rw [n_eq (by omega) (by omega)]; exact ho)]
      refine ⟨(x5, x6, nI (i + 1)), ⟨rfl, by omega, ?_, ?_⟩, rfl⟩
      · rcases q3 with ⟨a1, a2⟩ | a
        · refine Or.inl ⟨a1, fun s hs h => ?_⟩
          by_cases z : s = i
          · exact absurd (z ▸ ((hR s).mp hs).2.1) ho
          · exact a2 s hs (by omega)
        · exact Or.inr a
      · rcases q4 with ⟨a1, a2⟩ | a
        · refine Or.inl ⟨a1, fun s hs h => ?_⟩
          by_cases z : s = i
          · exact absurd (z ▸ ((hR s).mp hs).2.1) ho
          · exact a2 s hs (by omega)
        · exact Or.inr a
  · rintro k ⟨x5, x6, x7⟩ ⟨q1, q2, q3, q4⟩
    dsimp only at q1 q2 q3 q4
    subst q1
    have e1 : f_X0_labelAhead_9 S1 (k + 1) (nI b) (nI c) (nI tt) x5 x6 (nI tt) = f_X0_labelAhead_9_s S1 (f_X0_labelAhead_9 S1 k) (nI b) (nI c) (nI tt) x5 x6 (nI tt) := rfl
    dsimp only
    rw [e1]
    unfold f_X0_labelAhead_9_s
    rw [if_pos (nle (Nat.le_refl _) (by omega))]
    have hx6 : x6 = nI (w c) := by
      rcases q4 with ⟨a1, a2⟩ | a
      · rcases hw1 with z | ⟨z1, z2, s, s1, s2⟩
        · rw [a1, z]; rfl
        · have := a2 s s1 ((hR s).mp s1).2.2.2; omega
      · exact a.1
    rcases q3 with ⟨a1, a2⟩ | ⟨a1, a2⟩
    · rw [a1, if_pos rfl, if_neg]
      intro z
      obtain ⟨s, s1, s2⟩ := (hp c hc).mp z
      exact a2 s s1 ((hR s).mp s1).2.2.2 s2
    · rw [a1, if_neg (show ¬ (1 : Int32) = 0 by decide), if_pos a2, ld_n _ _ (by omega) (by omega), Option.bind_some, hC.2.2.2.2 c hc, hx6]
      have hec := he c hc
      have hm3 := (hD.1 (b * 4 + 3) (by omega)).1
      by_cases hE : en c = nI b
      · rw [if_pos hE, show (3 : Int32) = nI 3 from rfl, has_eq hD hb (by omega), Option.bind_some]
        by_cases hm : md (b * 4 + 3) = 1
        · rw [hm, if_neg (show ¬ nI 1 = 0 by decide), if_pos (hec.2.mpr ⟨hE, hm⟩)]
        · rw [show md (b * 4 + 3) = 0 by omega, if_pos (show nI 0 = 0 from rfl), if_neg (fun z => hm (hec.2.mp z).2)]
      · rw [if_neg hE, if_neg (fun z => hE (hec.2.mp z).1)]
/-- numbers of a row, over one LINK -/
theorem labelOver_spec (hn : NetWf n T) (hcn : ∀ b c, b < 7 → c < 4 → cn b c = 99 ∨ cn b c ≤ 9) {g : Nat → Nat} (hg : ∀ c, c < 4 → LOk (g c)) {s : Nat} (hs : s < 2 * n) (h9 : ∀ c, c < 4 → S1.2 9 (s * 4 + c) = nI (hd S T md cn s c)) (h11 : ∀ c, c < 4 → gz S T md cn s c = 1 → S1.2 11 c = nI (g c) ∧ g c ≠ 0) : ∃ S', f_X0_labelOver S1 (nI s) = some S' ∧ fr [9] S1 S' ∧ ∀ t c, t < 2 * n → c < 4 → S'.2 9 (t * 4 + c) = if t = s then nI (sl (if gz S T md cn s c = 1 then g c else 0) (cn (ow T s) c)) else S1.2 9 (t * 4 + c) := by
  have h12 := hn.1
  have ho := ow_lt hn hs
  unfold f_X0_labelOver
  refine lp_up (fun k (q : HSt × Int32) => f_X0_labelOver_2 k q.1 (nI s) q.2) (fun i q => q.2 = nI i ∧ fr [9] S1 q.1 ∧ ∀ t c, t < 2 * n → c < 4 → q.1.2 9 (t * 4 + c) = if t = s ∧ c < i then nI (sl (if gz S T md cn s c = 1 then g c else 0) (cn (ow T s) c)) else S1.2 9 (t * 4 + c)) 4 (fun o => ∃ S', o = some S' ∧ fr [9] S1 S' ∧ ∀ t c, t < 2 * n → c < 4 → S'.2 9 (t * 4 + c) = if t = s then nI (sl (if gz S T md cn s c = 1 then g c else 0) (cn (ow T s) c)) else S1.2 9 (t * 4 + c)) ?_ ?_ h_fu 0 (S1, 0) (Nat.zero_le _) (by have := fu_big; omega) ⟨rfl, fr_rf _ _, fun t c _ _ => by rw [if_neg (by omega)]⟩
  · rintro k i ⟨S2, y⟩ hi ⟨q1, q2, q3⟩
    dsimp only at q1 q2 q3
    subst q1
    right
    have e1 : f_X0_labelOver_2 (k + 1) S2 (nI s) (nI i) = f_X0_labelOver_2_s (f_X0_labelOver_2 k) S2 (nI s) (nI i) := rfl
    dsimp only
    rw [e1]
    unfold f_X0_labelOver_2_s f_X0_labelOver_45 f_X3_slot f_X3_slipWith f_X3_countOf
    have hk9 := hcn (ow T s) i ho hi
    have h9i := q3 s i hs hi
    rw [if_neg (by omega), h9 i hi] at h9i
    rw [if_neg (show ¬ (4 : Int32) ≤ nI i from ngt (b := 4) hi (by omega))]
    repeat rw [Option.bind_some]
    rw [show (nI s * 4 + nI i : Int32) = nI (s * 4 + i) by rw [n_4, pk_mul, nI_add], ld_n _ _ (by omega) (by omega), Option.bind_some, h9i, nI_1]
    have hgz := gz_le S T md cn s i
    by_cases hg1 : gz S T md cn s i = 1
    · have hk8 := gz_cn hg1
      obtain ⟨g1, g2⟩ := h11 i hi hg1
      have hL := LOk_lt (hg i hi)
      have ehd : hd S T md cn s i = 16 + cn (ow T s) i := by unfold hd; rw [if_pos hg1]
      rw [ehd, if_neg (nz (by omega) (by omega)), ld_n _ _ (by omega) (by omega)]
      repeat rw [Option.bind_some]
      rw [q2.2 11 (by decide), g1, show nI (16 + cn (ow T s) i) &&& 15 = nI (cn (ow T s) i) by rw [show (15 : Int32) = nI 15 from rfl, n_and15 (by omega)]; congr 1; omega, show (nI (g i) * 16 + nI (cn (ow T s) i) : Int32) = nI (g i * 16 + cn (ow T s) i) by rw [n_16, pk_mul, nI_add], st_n _ _ _ (by omega) (by omega), Option.bind_some]
      refine ⟨(wr S2 9 (s * 4 + i) (nI (g i * 16 + cn (ow T s) i)), nI (i + 1)), ⟨rfl, fr_tr q2 (fr_wr (by decide)), fun t c ht hc => ?_⟩, rfl⟩
      dsimp only
      by_cases z : t = s ∧ c = i
      · obtain ⟨z1, z2⟩ := z
        rw [z1, z2, wr_s, if_pos ⟨rfl, by omega⟩, if_pos hg1]
        unfold sl
        rw [if_neg g2]
      · rw [wr_n _ _ (by omega), q3 t c ht hc]
        by_cases y : t = s ∧ c < i
        · rw [if_pos y, if_pos (show t = s ∧ c < i + 1 from ⟨y.1, by omega⟩)]
        · rw [if_neg y, if_neg (by omega)]
    · have ehd : hd S T md cn s i = 0 := by unfold hd; rw [if_neg hg1]
      rw [ehd, if_pos (show nI 0 = 0 from rfl)]
      refine ⟨(S2, nI (i + 1)), ⟨rfl, q2, fun t c ht hc => ?_⟩, rfl⟩
      dsimp only
      rw [q3 t c ht hc]
      by_cases z : t = s ∧ c = i
      · obtain ⟨z1, z2⟩ := z
        rw [z1, z2, if_neg (by omega), if_pos ⟨rfl, by omega⟩, if_neg hg1, h9 i hi, ehd]
        rfl
      · by_cases y : t = s ∧ c < i
        · rw [if_pos y, if_pos (show t = s ∧ c < i + 1 from ⟨y.1, by omega⟩)]
        · rw [if_neg y, if_neg (by omega)]
  · rintro k ⟨S2, y⟩ ⟨q1, q2, q3⟩
    dsimp only at q1 q2 q3
    subst q1
    refine ⟨S2, rfl, q2, fun t c ht hc => ?_⟩
    rw [q3 t c ht hc]
    by_cases z : t = s
    · rw [if_pos ⟨z, hc⟩, if_pos z]
    · rw [if_neg (fun y => z y.1), if_neg z]
theorem fillRow_spec (hn : NetWf n T) (hC : CN S1 n T en) (hD : MD S1 M md od lm) (hcn : ∀ b c, b < 7 → c < 4 → cn b c = 99 ∨ cn b c ≤ 9) (hH : ∀ s c, s < 2 * n → c < 4 → LOk (hl s c) ∧ hk s c ≤ 9 ∧ S1.2 6 (s * 4 + c) = nI (sl (hl s c) (hk s c))) {b fm tt : Nat} (hb : b < 7) (ht : tt ≤ 2 * n) (hft : fm ≤ tt) (hR : ∀ s, R s ↔ s < 2 * n ∧ ow T s = b ∧ fm ≤ s ∧ s < tt) (h9 : ∀ s c, R s → c < 4 → S1.2 9 (s * 4 + c) = nI (hd S T md cn s c)) (hP : RowP S T md cn hl en b R p e w) : ∃ S', f_X0_fillRow S1 (nI b) (nI fm) (nI tt) = some S' ∧ fr [9, 11] S1 S' ∧ (∀ s c, R s → c < 4 → S'.2 9 (s * 4 + c) = nI (sl (if gz S T md cn s c = 1 then Gs p e w 4 c else 0) (cn b c))) ∧ ∀ s c, s < 2 * n → ¬ R s → c < 4 → S'.2 9 (s * 4 + c) = S1.2 9 (s * 4 + c) := by
  have h12 := hn.1
  have hw4 : ∀ c, c < 4 → w c = 0 ∨ (16 ≤ w c ∧ w c ≤ 19) := fun c hc => by
    rcases (hP.2.2 c hc).1 with z | ⟨z1, z2, -⟩
    · exact Or.inl z
    · exact Or.inr ⟨z1, z2⟩
  have hG := fun i => Gs_ok (p := p) (e := e) hw4 i
  unfold f_X0_fillRow
  refine lp_up (fun k (q : HSt × Int32 × Int32) => f_X0_fillRow_6 k q.1 (nI b) (nI fm) (nI tt) q.2.1 q.2.2) (fun i q => q.2.2 = nI i ∧ fr [11] S1 q.1 ∧ q.2.1 = nI (mk (fun d => if d < i then Gs p e w 0 d else 0)) ∧ ∀ c, c < i → q.1.2 11 c = if p c = 1 then nI (Gs p e w 0 c) else -1) 4 (fun o => ∃ S', o = some S' ∧ fr [9, 11] S1 S' ∧ (∀ s c, R s → c < 4 → S'.2 9 (s * 4 + c) = nI (sl (if gz S T md cn s c = 1 then Gs p e w 4 c else 0) (cn b c))) ∧ ∀ s c, s < 2 * n → ¬ R s → c < 4 → S'.2 9 (s * 4 + c) = S1.2 9 (s * 4 + c)) ?_ ?_ h_fu 0 (S1, 0, 0) (Nat.zero_le _) (by have := fu_big; omega) ⟨rfl, fr_rf _ _, rfl, fun c h => by omega⟩
  · rintro k i ⟨S2, x4, y⟩ hi ⟨q1, q2, q3, q4⟩
    dsimp only at q1 q2 q3 q4
    subst q1
    right
    have e1 : f_X0_fillRow_6 (k + 1) S2 (nI b) (nI fm) (nI tt) x4 (nI i) = f_X0_fillRow_6_s (f_X0_fillRow_6 k) S2 (nI b) (nI fm) (nI tt) x4 (nI i) := rfl
    dsimp only
    rw [e1]
    unfold f_X0_fillRow_6_s
    have hC2 := fr_CN q2 (by decide) hC
    have hD2 : MD S2 M md od lm := MD_fr hD (by rw [q2.1]) (by rw [q2.1]) (q2.2 8 (by decide)) rfl rfl
    have ha := ahead_spec (S := S) (S1 := S2) (hk := hk) hn hC2 hD2 hcn (by rw [q2.2 6 (by decide)]; exact hH) hb hi ht hft hR (by rw [q2.2 9 (by decide)]; exact h9) hP
    have hg0 : Gs p e w 0 i = if p i = 1 then (if e i = 1 then 3 else w i) else 0 := rfl
    rw [if_neg (show ¬ (4 : Int32) ≤ nI i from ngt (b := 4) hi (by omega)), ha, Option.bind_some, st_n _ _ _ (by omega) (by omega), Option.bind_some, ld_n _ _ (by omega) (by omega), Option.bind_some, wr_s, nI_1, q3]
    have hupd : upg (fun d => if d < i then Gs p e w 0 d else 0) i (Gs p e w 0 i) = fun d => if d < i + 1 then Gs p e w 0 d else 0 := by
      funext d
      unfold upg
      by_cases z : d = i
      · rw [if_pos z, if_pos (by omega), z]
      · rw [if_neg z]
        dsimp only
        by_cases y : d < i
        · rw [if_pos y, if_pos (by omega)]
        · rw [if_neg y, if_neg (by omega)]
    obtain ⟨r, r1, r2⟩ := bitOf_or (g := fun d => if d < i then Gs p e w 0 d else 0) (L := Gs p e w 0 i) hi (by show (if i < i then _ else 0) < 16; rw [if_neg (by omega)]; omega) (hG 0 i hi)
    rw [hupd] at r2
    have hbit : f_X0_bitOf (if p i = 1 then nI (if e i = 1 then 3 else w i) else -1) = some r := by
      by_cases hpi : p i = 1
      · rw [if_pos hpi]
        rw [hg0, if_pos hpi] at r1
        exact r1
      · rw [if_neg hpi]
        rw [hg0, if_neg hpi] at r1
        exact r1
    rw [hbit, Option.bind_some, r2]
    refine ⟨(wr S2 11 i (if p i = 1 then nI (if e i = 1 then 3 else w i) else -1), nI (mk (fun d => if d < i + 1 then Gs p e w 0 d else 0)), nI (i + 1)), ⟨rfl, fr_tr q2 (fr_wr (by decide)), rfl, fun c hc => ?_⟩, rfl⟩
    dsimp only
    by_cases z : c = i
    · rw [z, wr_s, hg0]
      by_cases hpi : p i = 1
      · rw [if_pos hpi, if_pos hpi, if_pos hpi]
      · rw [if_neg hpi, if_neg hpi]
    · rw [wr_n _ _ z]; exact q4 c (by omega)
  · rintro k ⟨S2, x4, y⟩ ⟨q1, q2, q3, q4⟩
    dsimp only at q1 q2 q3 q4
    subst q1
    have e1 : f_X0_fillRow_6 (k + 1) S2 (nI b) (nI fm) (nI tt) x4 (nI 4) = f_X0_fillRow_6_s (f_X0_fillRow_6 k) S2 (nI b) (nI fm) (nI tt) x4 (nI 4) := rfl
    dsimp only
    rw [e1]
    unfold f_X0_fillRow_6_s
    rw [if_pos (show (4 : Int32) ≤ nI 4 by decide)]
    have hx4 : x4 = nI (mk (Gs p e w 0)) := by
      rw [q3]
      unfold mk pr
      rfl
    refine lp_up (fun k (q : HSt × Int32 × Int32) => f_X0_fillRow_52 k q.1 (nI b) (nI fm) (nI tt) q.2.1 q.2.2) (fun i q => q.2.2 = nI i ∧ fr [11] S1 q.1 ∧ q.2.1 = nI (mk (Gs p e w i)) ∧ ∀ c, c < 4 → q.1.2 11 c = if p c = 1 then nI (Gs p e w i c) else -1) 4 (fun o => ∃ S', o = some S' ∧ fr [9, 11] S1 S' ∧ (∀ s c, R s → c < 4 → S'.2 9 (s * 4 + c) = nI (sl (if gz S T md cn s c = 1 then Gs p e w 4 c else 0) (cn b c))) ∧ ∀ s c, s < 2 * n → ¬ R s → c < 4 → S'.2 9 (s * 4 + c) = S1.2 9 (s * 4 + c)) ?_ ?_ h_fu 0 (S2, x4, 0) (Nat.zero_le _) (by have := fu_big; omega) ⟨rfl, q2, hx4, q4⟩
    · rintro k2 i ⟨S3, x5, y⟩ hi ⟨u1, u2, u3, u4⟩
      dsimp only at u1 u2 u3 u4
      subst u1
      right
      have e2 : f_X0_fillRow_52 (k2 + 1) S3 (nI b) (nI fm) (nI tt) x5 (nI i) = f_X0_fillRow_52_s (f_X0_fillRow_52 k2) S3 (nI b) (nI fm) (nI tt) x5 (nI i) := rfl
      dsimp only
      rw [e2]
      unfold f_X0_fillRow_52_s f_X0_fillRow_95
      have hgi := Gs_ge p e w i i (Nat.le_refl _)
      have hLi := LOk_lt (hG i i hi)
      have hei := hP.2.1 i hi
      rw [if_neg (show ¬ (4 : Int32) ≤ nI i from ngt (b := 4) hi (by omega)), ld_n _ _ (by omega) (by omega), Option.bind_some, u4 i hi, nI_1, u3]
      by_cases hz : p i = 1 ∧ e i = 0 ∧ w i = 0
      · have hg0 : Gs p e w i i = 0 := by rw [hgi, if_pos hz.1, if_neg (by omega), hz.2.2]
        have hlf := lf_in (Gs p e w i)
        obtain ⟨r, r1, r2⟩ := bitOf_or (g := Gs p e w i) (L := lf (Gs p e w i)) hi (by omega) (Or.inr (Or.inr hlf))
        rw [if_pos hz.1, hg0, if_pos (show nI 0 = 0 from rfl), leastFree_eq hi (by omega), Option.bind_some, st_n _ _ _ (by omega) (by omega), Option.bind_some, ld_n _ _ (by omega) (by omega), Option.bind_some, wr_s, r1, Option.bind_some, r2]
        have hs := Gs_s p e w i
        rw [if_pos hz] at hs
        refine ⟨(wr S3 11 i (nI (lf (Gs p e w i))), nI (mk (upg (Gs p e w i) i (lf (Gs p e w i)))), nI (i + 1)), ⟨rfl, fr_tr u2 (fr_wr (by decide)), by dsimp only; rw [hs], fun c hc => ?_⟩, rfl⟩
        dsimp only
        rw [hs]
        unfold upg
        by_cases z : c = i
        · rw [z, wr_s, if_pos hz.1, if_pos rfl]
        · rw [wr_n _ _ z, if_neg z]; exact u4 c hc
      · have hs := Gs_s p e w i
        rw [if_neg hz] at hs
        rw [if_neg (show ¬ (if p i = 1 then nI (Gs p e w i i) else -1) = 0 by
          by_cases hpi : p i = 1
          · rw [if_pos hpi, hgi, if_pos hpi]
            by_cases he1 : e i = 1
            · rw [if_pos he1]; decide
            · rw [if_neg he1]
              have := hw4 i hi
              exact nz (fun z => hz ⟨hpi, by omega, z⟩) (by omega)
          · rw [if_neg hpi]; decide)]
        exact ⟨(S3, nI (mk (Gs p e w i)), nI (i + 1)), ⟨rfl, u2, by dsimp only; rw [hs], fun c hc => by dsimp only; rw [hs]; exact u4 c hc⟩, rfl⟩
    · rintro k2 ⟨S3, x5, y⟩ ⟨u1, u2, u3, u4⟩
      dsimp only at u1 u2 u3 u4
      subst u1
      have e2 : f_X0_fillRow_52 (k2 + 1) S3 (nI b) (nI fm) (nI tt) x5 (nI 4) = f_X0_fillRow_52_s (f_X0_fillRow_52 k2) S3 (nI b) (nI fm) (nI tt) x5 (nI 4) := rfl
      dsimp only
      rw [e2]
      unfold f_X0_fillRow_52_s
      rw [if_pos (show (4 : Int32) ≤ nI 4 by decide)]
      refine lp_up (fun k (q : HSt × Int32) => f_X0_fillRow_104 k q.1 (nI b) (nI tt) q.2) (fun i q => q.2 = nI i ∧ fm ≤ i ∧ fr [9, 11] S1 q.1 ∧ fr [9] S3 q.1 ∧ (∀ s c, R s → s < i → c < 4 → q.1.2 9 (s * 4 + c) = nI (sl (if gz S T md cn s c = 1 then Gs p e w 4 c else 0) (cn b c))) ∧ ∀ s c, s < 2 * n → ¬ (R s ∧ s < i) → c < 4 → q.1.2 9 (s * 4 + c) = S1.2 9 (s * 4 + c)) tt (fun o => ∃ S', o = some S' ∧ fr [9, 11] S1 S' ∧ (∀ s c, R s → c < 4 → S'.2 9 (s * 4 + c) = nI (sl (if gz S T md cn s c = 1 then Gs p e w 4 c else 0) (cn b c))) ∧ ∀ s c, s < 2 * n → ¬ R s → c < 4 → S'.2 9 (s * 4 + c) = S1.2 9 (s * 4 + c)) ?_ ?_ h_fu fm (S3, nI fm) hft (by have := fu_big; omega) ⟨rfl, Nat.le_refl _, fr_mono u2 (by decide), fr_rf _ _, fun s c hs h => by have := (hR s).mp hs; omega, fun s c _ _ _ => by rw [u2.2 9 (by decide)]⟩
      · rintro k3 i ⟨S4, y⟩ hi ⟨v1, v2, v3, v4, v5, v6⟩
        dsimp only at v1 v2 v3 v4 v5 v6
        subst v1
        right
        have e3 : f_X0_fillRow_104 (k3 + 1) S4 (nI b) (nI tt) (nI i) = f_X0_fillRow_104_s (f_X0_fillRow_104 k3) S4 (nI b) (nI tt) (nI i) := rfl
        dsimp only
        rw [e3]
        unfold f_X0_fillRow_104_s f_X0_fillRow_130
        have hC4 := fr_CN v3 (by decide) hC
        have hoi := ow_lt hn (show i < 2 * n by omega)
        rw [if_neg (ngt hi (by omega)), ld_n _ _ (by omega) (by omega), Option.bind_some, hC4.2.1 i (by omega), nI_1]
        by_cases ho : ow T i = b
        · have hRi : R i := (hR i).mpr ⟨by omega, ho, v2, hi⟩
          obtain ⟨S5, t1, t2, t3⟩ := labelOver_spec (S := S) (S1 := S4) (md := md) hn hcn (hG 4) (show i < 2 * n by omega) (fun c hc => by rw [v6 i c (by omega) (by omega) hc]; exact h9 i c hRi hc) (fun c hc hg => by
            have hpc : p c = 1 := (hP.1 c hc).mpr ⟨i, hRi, hg⟩
            rw [v4.2 11 (by decide), u4 c hc, if_pos hpc]
            exact ⟨rfl, Gs_nz (hP.2.1 c hc).1 hpc 4 hc⟩)
          rw [if_pos (by rw [ho]), t1, Option.bind_some]
          refine ⟨(S5, nI (i + 1)), ⟨rfl, by omega, fr_tr v3 (fr_mono t2 (by decide)), fr_tr v4 t2, fun s c hs h hc => ?_, fun s c hs h hc => ?_⟩, rfl⟩
          · dsimp only
            rw [t3 s c ((hR s).mp hs).1 hc]
            by_cases z : s = i
            · rw [if_pos z, z, ho]
            · rw [if_neg z]; exact v5 s c hs (by omega) hc
          · dsimp only
            rw [t3 s c hs hc, if_neg (fun z => h ⟨by rw [z]; exact hRi, by omega⟩)]
            exact v6 s c hs (fun z => h ⟨z.1, by omega⟩) hc
        · rw [if_neg (by rw [n_eq (by omega) (by omega)]; exact ho)]
          have hnR : ¬ R i := fun z => ho ((hR i).mp z).2.1
          refine ⟨(S4, nI (i + 1)), ⟨rfl, by omega, v3, v4, fun s c hs h hc => ?_, fun s c hs h hc => ?_⟩, rfl⟩
          · have : s ≠ i := fun z => hnR (z ▸ hs)
            exact v5 s c hs (by omega) hc
          · exact v6 s c hs (fun z => h ⟨z.1, by omega⟩) hc
      · rintro k3 ⟨S4, y⟩ ⟨v1, v2, v3, v4, v5, v6⟩
        dsimp only at v1 v2 v3 v4 v5 v6
        subst v1
        refine ⟨S4, ?_, v3, fun s c hs hc => v5 s c hs ((hR s).mp hs).2.2.2 hc, fun s c hs h hc => v6 s c hs (fun z => h z.1) hc⟩
        show f_X0_fillRow_104_s (f_X0_fillRow_104 k3) S4 (nI b) (nI tt) (nI tt) = _
        unfold f_X0_fillRow_104_s
        rw [if_pos (nle (Nat.le_refl _) (by omega))]
end TF
