section TR
variable {S M M0 M1 : HSt} {n : Nat} {T : Nat → Nat → Nat} {en : Nat → Int32} {md : Nat → Nat} {od lm : Nat} {hl hk : Nat → Nat → Nat} {cn : Nat → Nat → Nat} {R : Nat → Prop} {p e w : Nat → Nat} {b : Nat} {x2 : Int32}
theorem handsRow_spec (hn : NetWf n T) (hM : MN M0 n T en) (hD : MD S M0 md od lm) (hN : NN S M0 n T cn 28) (hcn : ∀ b c, b < 7 → c < 4 → cn b c = 99 ∨ cn b c ≤ 9) (hb : b < 7) (hR : ∀ s, R s ↔ s < 2 * n ∧ ow T s = b ∧ (x2 = -9 ∨ x2 = nI (s / 2))) (hO : ∀ l c, l < n → c < 4 → (∃ s, s < 2 * n ∧ ow T s = b ∧ s / 2 = l ∧ M0.2 12 (4 * (12 * b + l) + c) = nI (hl s c)) ∨ ((∀ s, s < 2 * n → ow T s = b → s / 2 ≠ l) ∧ M0.2 12 (4 * (12 * b + l) + c) = 0)) (hlt : ∀ s c, s < 2 * n → c < 4 → hl s c < 20) (hz : ∀ l c, l < 12 → c < 4 → (x2 = -9 ∨ x2 = nI l) → M0.2 8 (4 * (12 * b + l) + c) = 0) (hP : RowP S T md cn hl en b R p e w) : ∃ M', f_X4_handsRow M0 (nI b) x2 = some M' ∧ RS S T md cn b R M0 M' (Gs p e w 4) := by
  have h12 := hn.1
  have hw4 : ∀ c, c < 4 → w c = 0 ∨ (16 ≤ w c ∧ w c ≤ 19) := fun c hc => by
    rcases (hP.2.2 c hc).1 with z | ⟨z1, z2, -⟩
    · exact Or.inl z
    · exact Or.inr ⟨z1, z2⟩
  have hG := fun i => Gs_ok (p := p) (e := e) hw4 i
  unfold f_X4_handsRow
  refine lp_up (fun k (q : HSt × Int32) => f_X4_handsRow_2 k q.1 (nI b) x2 q.2) (fun i q => q.2 = nI i ∧ RS S T md cn b R M0 q.1 (fun d => if d < i then (if e d = 1 then 3 else w d) else 0)) 4 (fun o => ∃ M', o = some M' ∧ RS S T md cn b R M0 M' (Gs p e w 4)) ?_ ?_ h_fu 0 (M0, 0) (Nat.zero_le _) (by have := fu_big; omega) ⟨rfl, fr_rf _ _, fun s c hs hc => ⟨?_, fun _ z => absurd rfl z⟩, fun x _ => ⟨rfl, rfl⟩⟩
  · rintro k i ⟨M1, x3⟩ hi ⟨q1, q2⟩
    dsimp only at q1 q2
    subst q1
    right
    have e1 : f_X4_handsRow_2 (k + 1) M1 (nI b) x2 (nI i) = f_X4_handsRow_2_s (f_X4_handsRow_2 k) M1 (nI b) x2 (nI i) := rfl
    dsimp only
    rw [e1]
    unfold f_X4_handsRow_2_s f_X4_handsRow_54
    have hM1 := fr_MN q2.1 (by decide) hM
    have hD1 : MD S M1 md od lm := MD_fr hD rfl rfl rfl (q2.1.2 6 (by decide)) (q2.1.2 7 (by decide))
    have hW := was_spec (S := S) (md := md) (cn := cn) hn hM1 hb hi hR (by rw [q2.1.2 12 (by decide)]; exact hO) hlt hP
    have hNw := new_spec hn hM1 hD1 hb hi hW hP
    have hei := hP.2.1 i hi
    have hm3 := (hD.1 (b * 4 + 3) (by omega)).1
    rw [if_neg (show ¬ (4 : Int32) ≤ nI i from ngt (b := 4) hi (by omega)), hNw, Option.bind_some, nI_1]
    have hupd : ∀ L, L = (if e i = 1 then 3 else w i) → upg (fun d => if d < i then (if e d = 1 then 3 else w d) else 0) i L = fun d => if d < i + 1 then (if e d = 1 then 3 else w d) else 0 := by
      intro L hL
      funext d
      unfold upg
      by_cases z : d = i
      · rw [if_pos z, if_pos (by omega), z, hL]
      · rw [if_neg z]
        dsimp only
        by_cases y : d < i
        · rw [if_pos y, if_pos (show d < i + 1 by omega)]
        · rw [if_neg y, if_neg (show ¬ d < i + 1 by omega)]
    by_cases hnew : e i = 0 ∧ w i = 0
    · rw [if_pos hnew, if_neg (show ¬ (1 : Int32) = 0 by decide)]
      refine ⟨(M1, nI (i + 1)), ⟨rfl, ?_⟩, rfl⟩
      dsimp only
      have hfn : (fun d => if d < i + 1 then (if e d = 1 then 3 else w d) else 0) = (fun d => if d < i then (if e d = 1 then 3 else w d) else 0) := by
        funext d
        by_cases z : d = i
        · rw [if_pos (by omega), if_neg (show ¬ d < i by omega), z, if_neg (by omega), hnew.2]
        · by_cases y : d < i
          · rw [if_pos y, if_pos (show d < i + 1 by omega)]
          · rw [if_neg y, if_neg (show ¬ d < i + 1 by omega)]
      rw [hfn]; exact q2
    · rw [if_neg hnew, if_pos (show (0 : Int32) = 0 from rfl), ld_n _ _ (by omega) (by omega), Option.bind_some, hM1.2.2.2.2.2 i hi]
      have fin : ∀ L, L = (if e i = 1 then 3 else w i) → ∃ s' : HSt × Int32, (s'.2 = nI (i + 1) ∧ RS S T md cn b R M0 s'.1 (fun d => if d < i + 1 then (if e d = 1 then 3 else w d) else 0)) ∧ f_X4_handsRow_51 (f_X4_handsRow_2 k) M1 (nI b) x2 (nI i) (nI L) (nI i) x2 (nI b) = f_X4_handsRow_2 k s'.1 (nI b) x2 s'.2 := by
        intro L hL
        obtain ⟨M2, t1, t2⟩ := labels_spec (L := L) hn hM hD hN hcn hb hi hR q2
        unfold f_X4_handsRow_51 f_X4_handsRow_54
        rw [t1, Option.bind_some, nI_1]
        rw [hupd L hL] at t2
        exact ⟨(M2, nI (i + 1)), ⟨rfl, t2⟩, rfl⟩
      by_cases hE : en i = nI b
      · rw [if_pos hE, show (3 : Int32) = nI 3 from rfl, is_eq hD1 hb (by omega), Option.bind_some]
        by_cases hm : md (b * 4 + 3) = 1
        · rw [hm, if_neg (show ¬ nI 1 = 0 by decide)]
          exact fin 3 (by rw [if_pos (hei.2.mpr ⟨hE, hm⟩)])
        · rw [show md (b * 4 + 3) = 0 by omega, if_pos (show nI 0 = 0 from rfl)]
          unfold f_X4_handsRow_44
          rw [hW, Option.bind_some]
          exact fin (w i) (by rw [if_neg (fun z => hm (hei.2.mp z).2)])
      · rw [if_neg hE]
        unfold f_X4_handsRow_44
        rw [hW, Option.bind_some]
        exact fin (w i) (by rw [if_neg (fun z => hE (hei.2.mp z).1)])
  · rintro k ⟨M1, x3⟩ ⟨q1, q2⟩
    dsimp only at q1 q2
    subst q1
    have e1 : f_X4_handsRow_2 (k + 1) M1 (nI b) x2 (nI 4) = f_X4_handsRow_2_s (f_X4_handsRow_2 k) M1 (nI b) x2 (nI 4) := rfl
    dsimp only
    rw [e1]
    unfold f_X4_handsRow_2_s
    rw [if_pos (show (4 : Int32) ≤ nI 4 by decide)]
    have q0 : RS S T md cn b R M0 M1 (Gs p e w 0) := RS_ext hP.1 q2 (fun c hc hpc => by
      show _ = if p c = 1 then _ else _
      rw [if_pos hpc, if_pos hc])
    refine lp_up (fun k (q : HSt × Int32) => f_X4_handsRow_62 k q.1 (nI b) x2 q.2) (fun i q => q.2 = nI i ∧ RS S T md cn b R M0 q.1 (Gs p e w i)) 4 (fun o => ∃ M', o = some M' ∧ RS S T md cn b R M0 M' (Gs p e w 4)) ?_ ?_ h_fu 0 (M1, 0) (Nat.zero_le _) (by have := fu_big; omega) ⟨rfl, q0⟩
    · rintro k2 i ⟨M2, x3⟩ hi ⟨u1, u2⟩
      dsimp only at u1 u2
      subst u1
      right
      have e2 : f_X4_handsRow_62 (k2 + 1) M2 (nI b) x2 (nI i) = f_X4_handsRow_62_s (f_X4_handsRow_62 k2) M2 (nI b) x2 (nI i) := rfl
      dsimp only
      rw [e2]
      unfold f_X4_handsRow_62_s f_X4_handsRow_117
      have hM2 := fr_MN u2.1 (by decide) hM
      have hD2 : MD S M2 md od lm := MD_fr hD rfl rfl rfl (u2.1.2 6 (by decide)) (u2.1.2 7 (by decide))
      have hN2 : NN S M2 n T cn 28 := by
        unfold NN
        rw [u2.1.2 16 (by decide), u2.1.2 17 (by decide)]; exact hN
      have hW := was_spec (S := S) (md := md) (cn := cn) hn hM2 hb hi hR (by rw [u2.1.2 12 (by decide)]; exact hO) hlt hP
      have hNw := new_spec hn hM2 hD2 hb hi hW hP
      have hIn := inrow_spec (p := p) hn hM2 hD2 hN2 hcn hb hi hR hP.1
      have hs := Gs_s p e w i
      rw [if_neg (show ¬ (4 : Int32) ≤ nI i from ngt (b := 4) hi (by omega)), hNw, Option.bind_some, nI_1]
      by_cases hnew : e i = 0 ∧ w i = 0
      · rw [if_pos hnew, if_neg (show ¬ (1 : Int32) = 0 by decide), hIn, Option.bind_some]
        by_cases hpi : p i = 1
        · rw [if_pos hpi, if_neg (show ¬ (1 : Int32) = 0 by decide)]
          rw [if_pos ⟨hpi, hnew⟩] at hs
          have hgi : Gs p e w i i = 0 := by rw [Gs_ge p e w i i (Nat.le_refl _), if_pos hpi, if_neg (by omega), hnew.2]
          have hlf := lf_in (Gs p e w i)
          have hfree := lf_free (g := Gs p e w i) hi (by omega)
          refine lp_up (fun k (q : Int32) => f_X4_handsRow_91 (f_X4_handsRow_62 k2) k M2 (nI b) x2 (nI i) q) (fun j q => q = nI (16 + j)) (lf (Gs p e w i) - 16) (fun o => ∃ s' : HSt × Int32, (s'.2 = nI (i + 1) ∧ RS S T md cn b R M0 s'.1 (Gs p e w (i + 1))) ∧ o = f_X4_handsRow_62 k2 s'.1 (nI b) x2 s'.2) ?_ ?_ h_fu 0 16 (Nat.zero_le _) (by have := fu_big; omega) rfl
          · rintro k3 j x4 hj q1
            subst q1
            right
            have e3 : f_X4_handsRow_91 (f_X4_handsRow_62 k2) (k3 + 1) M2 (nI b) x2 (nI i) (nI (16 + j)) = f_X4_handsRow_91_s (f_X4_handsRow_62 k2) (f_X4_handsRow_91 (f_X4_handsRow_62 k2) k3) M2 (nI b) x2 (nI i) (nI (16 + j)) := rfl
            try dsimp only
            rw [e3]
            unfold f_X4_handsRow_91_s
            rw [isIn_spec (g := Gs p e w i) hn hM hb hR hz hP.1 (fun c _ h => Gs_np h i) (hG i) u2 (L := 16 + j) (by omega) (by omega), Option.bind_some, if_pos (show pr (Gs p e w i) (16 + j) = true from lf_least (by omega) (by omega)), if_neg (show ¬ (1 : Int32) = 0 by decide), nI_1]
            exact ⟨nI (16 + j + 1), rfl, rfl⟩
          · rintro k3 x4 q1
            subst q1
            have e3 : f_X4_handsRow_91 (f_X4_handsRow_62 k2) (k3 + 1) M2 (nI b) x2 (nI i) (nI (16 + (lf (Gs p e w i) - 16))) = f_X4_handsRow_91_s (f_X4_handsRow_62 k2) (f_X4_handsRow_91 (f_X4_handsRow_62 k2) k3) M2 (nI b) x2 (nI i) (nI (16 + (lf (Gs p e w i) - 16))) := rfl
            try dsimp only
            rw [e3, show 16 + (lf (Gs p e w i) - 16) = lf (Gs p e w i) by omega]
            unfold f_X4_handsRow_91_s f_X4_handsRow_117
            obtain ⟨M3, t1, t2⟩ := labels_spec (L := lf (Gs p e w i)) hn hM hD hN hcn hb hi hR u2
            rw [isIn_spec (g := Gs p e w i) hn hM hb hR hz hP.1 (fun c _ h => Gs_np h i) (hG i) u2 (L := lf (Gs p e w i)) (by omega) (by omega), Option.bind_some, if_neg (show ¬ pr (Gs p e w i) (lf (Gs p e w i)) = true by rw [hfree]; decide), if_pos (show (0 : Int32) = 0 from rfl), t1, Option.bind_some, nI_1]
            exact ⟨(M3, nI (i + 1)), ⟨rfl, by dsimp only; rw [hs]; exact t2⟩, rfl⟩
        · rw [if_neg hpi, if_pos (show (0 : Int32) = 0 from rfl)]
          rw [if_neg (fun z => hpi z.1)] at hs
          exact ⟨(M2, nI (i + 1)), ⟨rfl, by dsimp only; rw [hs]; exact u2⟩, rfl⟩
      · rw [if_neg hnew, if_pos (show (0 : Int32) = 0 from rfl)]
        rw [if_neg (fun z => hnew z.2)] at hs
        exact ⟨(M2, nI (i + 1)), ⟨rfl, by dsimp only; rw [hs]; exact u2⟩, rfl⟩
    · rintro k2 ⟨M2, x3⟩ ⟨u1, u2⟩
      dsimp only at u1 u2
      subst u1
      exact ⟨M2, rfl, u2⟩
  · dsimp only
    have hs' := (hR s).mp hs
    rw [hz (s / 2) c (by omega) hc hs'.2.2]
    split <;> rfl
end TR
