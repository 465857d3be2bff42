/-! a TICK, (a) and (b): who hands what over which LINKS -/
def v1 (k : Nat) : Int32 := if k = 99 then -1 else nI k
def v9 (k : Nat) : Int32 := if k = 99 then -9 else nI k
theorem ld_fr {S S1 : HSt} {k : Nat} (h : S1.2 k = S.2 k) (n : Nat) (i : Int32) : h_ld S1 k n i = h_ld S k n i := by unfold h_ld; rw [h]
theorem slipUsed_fr {S S1 : HSt} (h5 : S1.2 5 = S.2 5) (h7 : S1.2 7 = S.2 7) (x y : Int32) : f_X0_slipUsed S1 x y = f_X0_slipUsed S x y := by
  unfold f_X0_slipUsed
  simp only [ld_fr h5, ld_fr h7]
theorem cth_fr {S S1 : HSt} (h1 : S1.1 1 = S.1 1) (h2 : S1.1 2 = S.1 2) (h3 : S1.2 3 = S.2 3) (h5 : S1.2 5 = S.2 5) (h7 : S1.2 7 = S.2 7) (x y : Int32) : f_X0_countToHand S1 x y = f_X0_countToHand S x y := by
  unfold f_X0_countToHand
  simp only [ld_fr h3, ld_fr h5, slipUsed_fr h5 h7, h1, h2]
section TK
variable {S M : HSt} {n : Nat} {T : Nat → Nat → Nat} {en : Nat → Int32} {md : Nat → Nat} {od lm : Nat} {hl hk kl kk : Nat → Nat → Nat}
theorem count_one (hn : NetWf n T) (hC : CN S n T en) (hW : ∀ c, c < 4 → Ways S n T en c) (hD : MD S M md od lm) (hK : HL S M n T 7 10 11 kl kk) (hM : MN M n T en) {b c : Nat} (hb : b < 7) (hc : c < 4) : ∃ k, (k = 99 ∨ k ≤ 9) ∧ f_X0_countToHand S (nI b) (nI c) = some (v1 k) ∧ ∀ M1, fr [5, 16, 17] M M1 → ∃ M', fr [5] M1 M' ∧ f_X4_countOf M1 (nI b) (nI c) = some (v9 k, M') := by
  have h12 := hn.1
  unfold f_X0_countToHand f_X4_countOf f_X3_pair
  rw [ld_n _ _ (by omega) (by omega), Option.bind_some, hC.2.2.2.2 c hc]
  have h4 : ∀ M1, fr [5, 16, 17] M M1 → M1.2 4 c = en c := fun M1 h => by rw [h.2 4 (by decide)]; exact hM.2.2.2.2.2 c hc
  by_cases he : en c = nI b
  · refine ⟨0, Or.inr (by omega), by rw [if_pos he]; rfl, fun M1 hf => ⟨M1, fr_rf _ _, ?_⟩⟩
    rw [ld_n _ _ (by omega) (by omega), Option.bind_some, h4 M1 hf, if_pos he]
    rfl
  · rw [if_neg he, Option.bind_some, show (nI b * 4 + nI c : Int32) = nI (b * 4 + c) by rw [n_4, pk_mul, nI_add], ld_n _ _ (by omega) (by omega), Option.bind_some]
    obtain ⟨D, d1, d2, d3⟩ := hW c hc
    have hx := d3 b hb
    have ua : ∀ M1, fr [5, 16, 17] M M1 → ∃ M', fr [5] M1 M' ∧ ((S.2 5 (b * 4 + c) = -1 ∧ f_X4_usedAt M1 (nI b) (nI c) = some (-9, M')) ∨ ∃ s, s < 2 * n ∧ S.2 5 (b * 4 + c) = nI s ∧ ow T s = b ∧ f_X4_usedAt M1 (nI b) (nI c) = some (nI (4 * (12 * b + s / 2) + c), M')) := fun M1 hf => usedAt_spec hn (fr_MN hf (by decide) hM) hc hb d1 hx
    rcases hx with ⟨hx1, -⟩ | ⟨-, -, s, s1, s2, s3, -⟩
    · refine ⟨99, Or.inl rfl, by rw [hx1, if_pos rfl]; rfl, fun M1 hf => ?_⟩
      obtain ⟨M', m1, m2⟩ := ua M1 hf
      refine ⟨M', m1, ?_⟩
      rcases m2 with ⟨-, m2⟩ | ⟨s, s1, s2, -⟩
      · rw [ld_n _ _ (by omega) (by omega), Option.bind_some, h4 M1 hf, if_neg he, m2, bi_s, if_pos rfl]; rfl
      · rw [hx1] at s2; exact absurd s2.symm (nn1 (by omega))
    · have hq := hK.1 s c s1 hc
      rw [s3] at hq
      have hlt := LOk_lt hq.1
      have hsl := sl_lt hq.1 hq.2.1
      have su : f_X0_slipUsed S (nI b) (nI c) = some (nI (sl (kl s c) (kk s c))) := by
        unfold f_X0_slipUsed f_X3_pair f_X3_slot
        rw [Option.bind_some, show (nI b * 4 + nI c : Int32) = nI (b * 4 + c) by rw [n_4, pk_mul, nI_add], ld_n _ _ (by omega) (by omega), Option.bind_some, s2, if_neg (nn1 (by omega)), Option.bind_some, show (nI s * 4 + nI c : Int32) = nI (s * 4 + c) by rw [n_4, pk_mul, nI_add], ld_n _ _ (by omega) (by omega), hq.2.2.1]
        rfl
      rw [s2, if_neg (nn1 (by omega)), su, Option.bind_some]
      have mo : ∀ M1, fr [5, 16, 17] M M1 → ∃ M', fr [5] M1 M' ∧ f_X4_usedAt M1 (nI b) (nI c) = some (nI (4 * (12 * b + s / 2) + c), M') ∧ M'.2 10 (4 * (12 * b + s / 2) + c) = nI (kl s c) ∧ (kl s c ≠ 0 → M'.2 11 (4 * (12 * b + s / 2) + c) = nI (kk s c)) ∧ M'.2 7 0 = nI od ∧ M'.2 7 1 = nI lm := by
        intro M1 hf
        obtain ⟨M', m1, m2⟩ := ua M1 hf
        refine ⟨M', m1, ?_, ?_, fun h0 => ?_, ?_, ?_⟩
        · rcases m2 with ⟨m2, -⟩ | ⟨t, t1, t2, t3, m2⟩
          · rw [s2] at m2; exact absurd m2 (nn1 (by omega))
          · rw [s2, n_eq (by omega) (by omega)] at t2
            subst t2; exact m2
        · rw [m1.2 10 (by decide), hf.2 10 (by decide)]; exact hq.2.2.2.1
        · rw [m1.2 11 (by decide), hf.2 11 (by decide)]; exact hq.2.2.2.2 h0
        · rw [m1.2 7 (by decide), hf.2 7 (by decide)]; exact hD.2.2.2.1
        · rw [m1.2 7 (by decide), hf.2 7 (by decide)]; exact hD.2.2.2.2.2.2.2
      by_cases h0 : kl s c = 0
      · rw [h0, if_pos (show nI (sl 0 (kk s c)) = 0 from rfl), hD.2.2.1]
        by_cases ho : od = 1
        · refine ⟨99, Or.inl rfl, by rw [ho, if_pos (show nI 1 = 1 from rfl)]; rfl, fun M1 hf => ?_⟩
          obtain ⟨M', m1, m2, m3, m4, m5, m6⟩ := mo M1 hf
          refine ⟨M', m1, ?_⟩
          rw [ld_n _ _ (by omega) (by omega), Option.bind_some, h4 M1 hf, if_neg he, m2, bi_s, if_neg (nn9 (by omega)), ld_n _ _ (by omega) (by omega), Option.bind_some, m3, h0, if_pos (show nI 0 = 0 from rfl), n_0, ld_n _ _ (by omega) (by omega), Option.bind_some, m5, ho, if_pos (show nI 1 = 1 from rfl)]
          rfl
        · have ho0 : od = 0 := by have := hD.2.1; omega
          refine ⟨1, Or.inr (by omega), by rw [ho0, if_neg (show ¬ nI 0 = 1 by decide)]; rfl, fun M1 hf => ?_⟩
          obtain ⟨M', m1, m2, m3, m4, m5, m6⟩ := mo M1 hf
          refine ⟨M', m1, ?_⟩
          rw [ld_n _ _ (by omega) (by omega), Option.bind_some, h4 M1 hf, if_neg he, m2, bi_s, if_neg (nn9 (by omega)), ld_n _ _ (by omega) (by omega), Option.bind_some, m3, h0, if_pos (show nI 0 = 0 from rfl), n_0, ld_n _ _ (by omega) (by omega), Option.bind_some, m5, ho0, if_neg (show ¬ nI 0 = 1 by decide)]
          rfl
      · rw [if_neg (nz (fun q => h0 ((sl_0 hq.1).mp q)) (by omega)), countOf_sl hq.1 h0 hq.2.1, Option.bind_some, hD.2.2.2.2.2.2.1, nI_1]
        have hlm := hD.2.2.2.2.2.1
        by_cases hc9 : kk s c + 1 ≤ lm
        · refine ⟨kk s c + 1, Or.inr (by omega), ?_, fun M1 hf => ?_⟩
          · rw [if_pos (nle hc9 (by omega))]; unfold v1; rw [if_neg (by omega)]
          obtain ⟨M', m1, m2, m3, m4, m5, m6⟩ := mo M1 hf
          refine ⟨M', m1, ?_⟩
          rw [ld_n _ _ (by omega) (by omega), Option.bind_some, h4 M1 hf, if_neg he, m2, bi_s, if_neg (nn9 (by omega)), ld_n _ _ (by omega) (by omega), Option.bind_some, m3, if_neg (nz h0 (by omega)), ld_n _ _ (by omega) (by omega), Option.bind_some, m4 h0, n_1, ld_n _ _ (by omega) (by omega), Option.bind_some, m6, nI_add, if_pos (nle hc9 (by omega)), Option.bind_some]
          unfold v9; rw [if_neg (by omega), nI_add]
        · refine ⟨99, Or.inl rfl, ?_, fun M1 hf => ?_⟩
          · rw [if_neg (ngt (by omega) (by omega))]; rfl
          obtain ⟨M', m1, m2, m3, m4, m5, m6⟩ := mo M1 hf
          refine ⟨M', m1, ?_⟩
          rw [ld_n _ _ (by omega) (by omega), Option.bind_some, h4 M1 hf, if_neg he, m2, bi_s, if_neg (nn9 (by omega)), ld_n _ _ (by omega) (by omega), Option.bind_some, m3, if_neg (nz h0 (by omega)), ld_n _ _ (by omega) (by omega), Option.bind_some, m4 h0, n_1, ld_n _ _ (by omega) (by omega), Option.bind_some, m6, nI_add, if_neg (ngt (by omega) (by omega))]
          rfl
theorem count_all (hn : NetWf n T) (hC : CN S n T en) (hW : ∀ c, c < 4 → Ways S n T en c) (hD : MD S M md od lm) (hK : HL S M n T 7 10 11 kl kk) (hM : MN M n T en) : ∃ cn : Nat → Nat → Nat, ∀ b c, b < 7 → c < 4 → (cn b c = 99 ∨ cn b c ≤ 9) ∧ f_X0_countToHand S (nI b) (nI c) = some (v1 (cn b c)) ∧ ∀ M1, fr [5, 16, 17] M M1 → ∃ M', fr [5] M1 M' ∧ f_X4_countOf M1 (nI b) (nI c) = some (v9 (cn b c), M') := by
  have key : ∀ b, ∃ f : Nat → Nat, ∀ c, b < 7 → c < 4 → (f c = 99 ∨ f c ≤ 9) ∧ f_X0_countToHand S (nI b) (nI c) = some (v1 (f c)) ∧ ∀ M1, fr [5, 16, 17] M M1 → ∃ M', fr [5] M1 M' ∧ f_X4_countOf M1 (nI b) (nI c) = some (v9 (f c), M') := by
    intro b
    have k2 : ∀ c, ∃ k, b < 7 → c < 4 → (k = 99 ∨ k ≤ 9) ∧ f_X0_countToHand S (nI b) (nI c) = some (v1 k) ∧ ∀ M1, fr [5, 16, 17] M M1 → ∃ M', fr [5] M1 M' ∧ f_X4_countOf M1 (nI b) (nI c) = some (v9 k, M') := by
      intro c
      by_cases hb : b < 7
      · by_cases hc : c < 4
        · obtain ⟨k, h⟩ := count_one hn hC hW hD hK hM hb hc
          exact ⟨k, fun _ _ => h⟩
        · exact ⟨0, fun _ h => absurd h hc⟩
      · exact ⟨0, fun h => absurd h hb⟩
    exact Classical.axiomOfChoice k2
  obtain ⟨cn, h⟩ := Classical.axiomOfChoice key
  exact ⟨cn, fun b c hb hc => h b c hb hc⟩
/-- the LINK is UP, and nobody must ask or the BOX beyond asks -/
def gq (S : HSt) (T : Nat → Nat → Nat) (md : Nat → Nat) (s c : Nat) : Nat := if T 3 (s / 2) = 1 ∧ (md (ow T s * 4) = 0 ∨ S.2 5 (ow T (fl s) * 4 + c) = nI (fl s)) then 1 else 0
def gz (S : HSt) (T : Nat → Nat → Nat) (md : Nat → Nat) (cn : Nat → Nat → Nat) (s c : Nat) : Nat := if cn (ow T s) c = 99 then 0 else gq S T md s c
theorem gq_le (S : HSt) (T : Nat → Nat → Nat) (md : Nat → Nat) (s c : Nat) : gq S T md s c ≤ 1 := by unfold gq; split <;> omega
theorem gz_le (S : HSt) (T : Nat → Nat → Nat) (md : Nat → Nat) (cn : Nat → Nat → Nat) (s c : Nat) : gz S T md cn s c ≤ 1 := by unfold gz; split; omega; exact gq_le S T md s c
theorem goesOver_eq {S1 : HSt} (hn : NetWf n T) (hC : CN S1 n T en) (hD : MD S1 M md od lm) (h5 : S1.2 5 = S.2 5) {s c : Nat} (hs : s < 2 * n) (hc : c < 4) : f_X0_goesOver S1 (nI s) (nI c) = some (nI (gq S T md s c)) := by
  have h12 := hn.1
  have hfl := fl_lt hs
  have hw := hn.2.1 (s / 2) (by omega)
  have ho := ow_lt hn hs
  have ho' := ow_lt hn hfl
  have hm := (hD.1 (ow T s * 4) (by omega)).1
  unfold f_X0_goesOver f_X0_goesOver_61 f_X3_pair gq
  have a1 : nI s ^^^ 1 = nI (fl s) := n_xor s (by omega)
  rw [isUpSide_eq hn hC hs, Option.bind_some, a1, ld_n _ _ (by omega) (by omega), Option.bind_some, ld_n _ _ (by omega) (by omega), Option.bind_some, hC.2.1 _ hs, hC.2.1 _ hfl, n_0, has_eq hD ho (by omega), Option.bind_some, Option.bind_some, show (nI (ow T (fl s)) * 4 + nI c : Int32) = nI (ow T (fl s) * 4 + c) by rw [n_4, pk_mul, nI_add], ld_n _ _ (by omega) (by omega), Option.bind_some, h5, Nat.add_zero]
  by_cases hu : T 3 (s / 2) = 0
  · rw [hu, if_pos rfl, if_neg (by omega)]
  · have hu1 : T 3 (s / 2) = 1 := by omega
    rw [hu1, if_neg (show ¬ nI 1 = nI 0 by decide)]
    by_cases hm0 : md (ow T s * 4) = 0
    · rw [hm0, if_pos rfl, if_pos ⟨rfl, Or.inl rfl⟩]; rfl
    · rw [show md (ow T s * 4) = 1 by omega, if_neg (show ¬ nI 1 = nI 0 by decide)]
      by_cases hx : S.2 5 (ow T (fl s) * 4 + c) = nI (fl s)
      · rw [if_pos hx, if_pos ⟨rfl, Or.inr hx⟩]; rfl
      · rw [if_neg hx, if_neg (by rintro ⟨-, q | q⟩; exact absurd q (by decide); exact hx q)]
/-- what the reference lays down ahead of handing -/
def NN (S M : HSt) (n : Nat) (T : Nat → Nat → Nat) (cn : Nat → Nat → Nat) (m : Nat) : Prop := ∀ b c, b < 7 → c < 4 → b * 4 + c < m → M.2 17 (b * 4 + c) = v9 (cn b c) ∧ ((S.2 5 (b * 4 + c) = -1 ∧ M.2 16 (b * 4 + c) = -9) ∨ ∃ s, s < 2 * n ∧ S.2 5 (b * 4 + c) = nI s ∧ ow T s = b ∧ T 3 (s / 2) = 1 ∧ M.2 16 (b * 4 + c) = nI (ow T (fl s)))
theorem hands_eq {M1 : HSt} {cn : Nat → Nat → Nat} (hn : NetWf n T) (hM : MN M1 n T en) (hD : MD S M1 md od lm) (hN : NN S M1 n T cn 28) (hcn : ∀ b c, b < 7 → c < 4 → cn b c = 99 ∨ cn b c ≤ 9) {b l c : Nat} (hb : b < 7) (hl1 : l < n) (hc : c < 4) : (∃ s, s < 2 * n ∧ ow T s = b ∧ s / 2 = l ∧ f_X4_hands M1 (nI b) (nI l) (nI c) = some (nI (gz S T md cn s c))) ∨ ((∀ s, s < 2 * n → ow T s = b → s / 2 ≠ l) ∧ f_X4_hands M1 (nI b) (nI l) (nI c) = some 0) := by
  have h12 := hn.1
  have hw := hn.2.1 l hl1
  unfold f_X4_hands
  rw [isAt_eq hn hM hl1 hb, Option.bind_some]
  by_cases hat : T 0 l = b ∨ T 1 l = b
  · left
    rw [if_pos hat, if_neg (show ¬ (1 : Int32) = 0 by decide), ld_n _ _ (by omega) (by omega), Option.bind_some, hM.2.2.2.2.1 l hl1]
    have hs : ∃ s, s < 2 * n ∧ ow T s = b ∧ s / 2 = l ∧ (if T 0 l = b then T 1 l else T 0 l) = ow T (fl s) := by
      by_cases h0 : T 0 l = b
      · refine ⟨2 * l, by omega, by rw [ow_2]; exact h0, by omega, ?_⟩
        rw [if_pos h0, show fl (2 * l) = 2 * l + 1 by unfold fl; rw [if_pos (by omega)], ow_21]
      · have h1 : T 1 l = b := by omega
        refine ⟨2 * l + 1, by omega, by rw [ow_21]; exact h1, by omega, ?_⟩
        rw [if_neg h0, show fl (2 * l + 1) = 2 * l by unfold fl; rw [if_neg (by omega)]; omega, ow_2]
    obtain ⟨s, s1, s2, s3, s4⟩ := hs
    have hfl := fl_lt s1
    have ho' := ow_lt hn hfl
    refine ⟨s, s1, s2, s3, ?_⟩
    have hm := (hD.1 (b * 4) (by omega)).1
    have hnb := hN b c hb hc (by omega)
    have hno := hN (ow T (fl s)) c ho' hc (by omega)
    unfold gz gq f_X4_hands_63
    rw [s2, s3]
    by_cases hu : T 3 l = 0
    · rw [hu, if_pos (show nI 0 = 0 from rfl), if_neg (show ¬ ((0 : Nat) = 1 ∧ _) by omega)]
      split <;> rfl
    · have hu1 : T 3 l = 1 := by omega
      rw [hu1, if_neg (show ¬ nI 1 = 0 by decide), show (4 * nI b + nI c : Int32) = nI (b * 4 + c) by rw [n_4, pk_mul, nI_add]; congr 1; omega, ld_n _ _ (by omega) (by omega), Option.bind_some, hnb.1]
      by_cases h9 : cn b c = 99
      · rw [h9, if_pos (show v9 99 = -9 from rfl), if_pos rfl]; rfl
      · have hk := hcn b c hb hc
        rw [if_neg h9, show v9 (cn b c) = nI (cn b c) from if_neg h9, if_neg (nn9 (by omega)), n_0, is_eq hD hb (by omega), Option.bind_some, Nat.add_zero]
        by_cases hm0 : md (b * 4) = 0
        · rw [hm0, if_pos rfl, if_pos ⟨rfl, Or.inl rfl⟩]; rfl
        · rw [show md (b * 4) = 1 by omega, if_neg (show ¬ nI 1 = nI 0 by decide), otherOf_eq hn hM hl1 hb, Option.bind_some, s4, show (4 * nI (ow T (fl s)) + nI c : Int32) = nI (ow T (fl s) * 4 + c) by rw [n_4, pk_mul, nI_add]; congr 1; omega, ld_n _ _ (by omega) (by omega), Option.bind_some]
          rcases hno.2 with ⟨x1, x2⟩ | ⟨u, u1, u2, u3, u4, u5⟩
          · rw [x2, x1, if_neg (fun q => nn9 (a := b) (by omega) q.symm), if_neg (by rintro ⟨-, q | q⟩; exact absurd q (by decide); exact nn1 (a := fl s) (by omega) q.symm)]
          · have hou := ow_lt hn (fl_lt u1)
            rw [u5, u2]
            by_cases hx : ow T (fl u) = b
            · have : u = fl s := ow_inj hn u1 hfl u3 (by rw [fl_fl, hx, s2])
              rw [if_pos (by rw [hx]), if_pos ⟨rfl, Or.inr (by rw [this])⟩]; rfl
            · rw [if_neg (by rw [n_eq (by omega) (by omega)]; exact hx), if_neg]
              rintro ⟨-, q | q⟩
              · exact absurd q (by decide)
              · rw [n_eq (by omega) (by omega)] at q
                exact hx (by rw [q, fl_fl, s2])
  · right
    rw [if_neg hat, if_pos rfl]
    refine ⟨fun s hs h2 h3 => hat ?_, rfl⟩
    unfold ow at h2
    rw [h3] at h2
    rcases (show s % 2 = 0 ∨ s % 2 = 1 by omega) with f | f <;> rw [f] at h2
    · exact Or.inl h2
    · exact Or.inr h2
end TK
