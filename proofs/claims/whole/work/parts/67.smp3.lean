-- the reference's
theorem cd_sampR {A : Nat → Int32} {T τ w t : Nat} {h1 : cd_Hp} (hA : cd_SA A T τ w) (ht : t < cd_n A 9) (hr : ∀ k, k < 659 → cd_R h1 k = A k) : ∃ h2, f_X8_samplesCome (nI t) h1 = some h2 ∧ (∀ k, k < 659 → cd_R h2 k = cd_sp A t (cd_n A 70) k) ∧ cd_frR h1 h2 := by
  obtain ⟨hT, n427, e426, n70, k12⟩ := hA.T
  have h6 := n70.2
  have s3 := n427.2
  have w48 := hA.2.2.2.2.1
  have on4 := hA.2.2.2.2.2.2
  unfold f_X8_samplesCome
  have hloop : ∃ o, cd_lp (f_X8_samplesCome_B2 (nI t)) cd_fu (0, h1) = some o ∧ ((∀ k, k < 659 → cd_R o.2 k = cd_sp A t (cd_n A 70) k) ∧ cd_frR h1 o.2) := by
    refine cd_for (cd_n A 70) (fun i (st : Int32 × cd_Hp) => st.1 = nI i ∧ (∀ k, k < 659 → cd_R st.2 k = cd_sp A t i k) ∧ cd_frR h1 st.2) _ ?_ cd_fu 0 (0, h1) (Nat.zero_le _) (by unfold cd_fu; omega) ⟨rfl, hr, cd_frR.rf⟩
    rintro i ⟨v0, k1⟩ K hi ⟨hv0, hS, f1⟩
    dsimp only at hv0 hS f1
    subst hv0
    unfold f_X8_samplesCome_B2
    dsimp only
    obtain ⟨c1, c2, w', cw1, cw2, cw3, -, -⟩ := cd_sp_ok hA ht i hi
    have en : cd_sp A t (i + 1) = cd_smG (cd_sp A t i) i t := rfl
    have onI : cd_on A i ≤ cd_on A (cd_n A 70) := by
      have := cd_on_mono (A := A) (cd_n A 70 - i) i
      rw [show i + (cd_n A 70 - i) = cd_n A 70 by omega] at this
      exact this
    generalize hCn : cd_sp A t i = C at hS c1 c2 cw3 en
    have eg : ∀ k, k < 659 → cd_g k1 405 k = C k := hS
    have e3 : cd_g k1 405 70 = nI (cd_n A 70) := by rw [eg _ (by omega), c1 _ (by omega) (fun g' z => by omega)]; exact n70.1
    rw [cd_c70, e3]
    rcases Nat.lt_or_ge i (cd_n A 70) with hlt | hge
    · left
      refine ⟨hlt, ?_⟩
      obtain ⟨g6, n5, n5', ⟨n7, n7'⟩, ⟨n8, n8'⟩, n9, n10⟩ := hA.grp hlt
      have k7 := n10.2
      obtain ⟨t6, nr⟩ := hA.rate ht (k := cd_n A (71 + 58 * i + 10)) (by omega)
      have eo : ∀ j, j < 58 → C (71 + 58 * i + j) = A (71 + 58 * i + j) := fun j hj => c1 _ (by omega) (fun g' z => by omega)
      have no : ∀ j, j < 58 → cd_n C (71 + 58 * i + j) = cd_n A (71 + 58 * i + j) := fun j hj => cd_n.of (eo j hj)
      have p200 := n7.2
      have r99 := nr.2
      have l199 := n8.2
      have q7 : cd_g k1 405 (71 + 58 * i + 7) = nI (cd_n A (71 + 58 * i + 7)) := by rw [eg _ (by omega), eo 7 (by omega)]; exact n7.1
      have q8 : cd_g k1 405 (71 + 58 * i + 8) = nI (cd_n A (71 + 58 * i + 8)) := by rw [eg _ (by omega), eo 8 (by omega)]; exact n8.1
      have q10 : cd_g k1 405 (71 + 58 * i + 10) = nI (cd_n A (71 + 58 * i + 10)) := by rw [eg _ (by omega), eo 10 (by omega)]; exact n10.1
      have qr : cd_g k1 405 (10 + 10 * t + 2 + cd_n A (71 + 58 * i + 10)) = nI (cd_n A (12 + 10 * t + cd_n A (71 + 58 * i + 10))) := by rw [eg _ (by omega), show 10 + 10 * t + 2 + cd_n A (71 + 58 * i + 10) = 12 + 10 * t + cd_n A (71 + 58 * i + 10) by omega, c1 _ (by omega) (fun g' z => by omega)]; exact nr.1
      have e0 : f_X8_eventAt (nI i) 0 = nI (71 + 58 * i + 10) := cd_eventAt i 0
      rw [if_neg (by rw [cd_le (by omega) (by omega)]; omega), cd_groupAt, cd_nmE2, cd_addL, cd_ckI (by omega) (by omega), cd_cl (by omega), eg _ (by omega), eo 9 (by omega)]
      unfold cd_smG at en
      rw [eo 9 (by omega), no 7 (by omega)] at en
      rcases cd_num01 n9 with ⟨z, -⟩ | ⟨z, -⟩
      · rw [z, if_neg (show ¬ (0 : Int32) = 1 by decide), cd_nmE2, cd_addL]
        rw [z, if_neg (fun w => absurd w.1 (by decide))] at en
        exact ⟨_, ⟨rfl, by rw [en]; exact hS, f1⟩, rfl⟩
      · rw [z, if_pos rfl, cd_addL, cd_ckI (by omega) (by omega), cd_cl (by omega), q7]
        by_cases zp : 0 < cd_n A (71 + 58 * i + 7)
        · rw [z, if_pos ⟨rfl, zp⟩] at en
          have p30 : 30 ≤ cd_n A (71 + 58 * i + 7) := by omega
          have l8 : cd_n A (71 + 58 * i + 8) < cd_n A (71 + 58 * i + 7) := by omega
          have ex : cd_sx C i t = cd_n A (71 + 58 * i + 8) + cd_n A (12 + 10 * t + cd_n A (71 + 58 * i + 10)) := by
            unfold cd_sx
            rw [no 8 (by omega), no 10 (by omega), cd_n.of (c1 (12 + 10 * t + cd_n A (71 + 58 * i + 10)) (by omega) (fun g' z => by omega))]
          obtain ⟨x1, x2, x3⟩ := cd_sx_le (rfl : cd_n A (71 + 58 * i + 8) + cd_n A (12 + 10 * t + cd_n A (71 + 58 * i + 10)) = _) l8 r99 p30
          have eT : cd_n C 426 = T := (cd_n.of (c1 426 (by omega) (fun g' z => by omega))).trans e426
          have eK : cd_n C 427 = cd_n A 427 := cd_n.of (c1 427 (by omega) (fun g' z => by omega))
          rw [ex, eT, eK] at en
          rw [if_neg (by rw [cd_leL (by omega) (by omega)]; omega), cd_addL, cd_ckI (by omega) (by omega), e0, cd_ckI (by omega) (by omega), cd_cl (by omega), q10, cd_rateOf8 t6 (by omega), qr, cd_bS, cd_ckI (by omega) (by omega), cd_cl (by omega), q8, nI_add, cd_nmE2]
          have hR2 : ∀ k, k < 659 → cd_R (cd_u k1 405 (71 + 58 * i + 8) (nI (cd_n A (71 + 58 * i + 8) + cd_n A (12 + 10 * t + cd_n A (71 + 58 * i + 10))))) k = cd_up C (71 + 58 * i + 8) (nI (cd_n A (71 + 58 * i + 8) + cd_n A (12 + 10 * t + cd_n A (71 + 58 * i + 10)))) k := cd_R_up hS
          have f2 : cd_frR h1 (cd_u k1 405 (71 + 58 * i + 8) (nI (cd_n A (71 + 58 * i + 8) + cd_n A (12 + 10 * t + cd_n A (71 + 58 * i + 10))))) := f1.tr (cd_frR.u (by omega))
          generalize cd_u k1 405 (71 + 58 * i + 8) (nI (cd_n A (71 + 58 * i + 8) + cd_n A (12 + 10 * t + cd_n A (71 + 58 * i + 10)))) = k2 at hR2 f2 ⊢
          generalize hx : cd_n A (71 + 58 * i + 8) + cd_n A (12 + 10 * t + cd_n A (71 + 58 * i + 10)) = xx at x1 x2 x3 en hR2 ⊢
          generalize hn : xx / cd_n A (71 + 58 * i + 7) = n at x1 x2 x3 en ⊢
          have x298 : xx ≤ 298 := by omega
          clear hx hn
          have onS : cd_on A (i + 1) = cd_on A i + 1 := by
            show cd_on A i + _ = _
            rw [if_pos z]
          have onT : cd_on A (i + 1) ≤ cd_on A (cd_n A 70) := by
            have := cd_on_mono (A := A) (cd_n A 70 - (i + 1)) (i + 1)
            rw [show i + 1 + (cd_n A 70 - (i + 1)) = cd_n A 70 by omega] at this
            exact this
          have hin : ∃ o, cd_lp (f_X8_samplesCome_B70 (nI t) (nI i) (nI (71 + 58 * i))) cd_fu k2 = some o ∧ ((∀ k, k < 659 → cd_R o k = cd_up (cd_puN C i (T + cd_n A 427) n) (71 + 58 * i + 8) (nI (xx - n * cd_n A (71 + 58 * i + 7))) k) ∧ cd_frR h1 o) := by
            refine cd_for n (fun j (st : cd_Hp) => (∀ k, k < 659 → cd_R st k = cd_up (cd_puN C i (T + cd_n A 427) j) (71 + 58 * i + 8) (nI (xx - j * cd_n A (71 + 58 * i + 7))) k) ∧ cd_frR h1 st) _ ?_ cd_fu 0 k2 (Nat.zero_le _) (by unfold cd_fu; omega) ⟨by rw [Nat.zero_mul, Nat.sub_zero]; exact hR2, f2⟩
            rintro j k3 K2 hj ⟨hR3, f3⟩
            unfold f_X8_samplesCome_B70
            obtain ⟨u1, -⟩ := cd_puN_ok (g := i) (d := T + cd_n A 427) cw3 (by omega) (by omega) (by omega) hT j (by omega)
            have row : ∀ k, k < 466 → k ≠ 71 + 58 * i + 8 → cd_g k3 405 k = C k := fun k z1 z2 => by have := hR3 k (by omega); dsimp only [cd_R] at this; rw [this, cd_upN z2, cd_puN_N z1]
            have r7 : cd_g k3 405 (71 + 58 * i + 7) = nI (cd_n A (71 + 58 * i + 7)) := by rw [row _ (by omega) (by omega), eo 7 (by omega)]; exact n7.1
            have r8 : cd_g k3 405 (71 + 58 * i + 8) = nI (xx - j * cd_n A (71 + 58 * i + 7)) := by have := hR3 (71 + 58 * i + 8) (by omega); dsimp only [cd_R] at this; rw [this, cd_upE rfl]
            have r466 : cd_g k3 405 466 = nI (w' + j) := by have := hR3 466 (by omega); dsimp only [cd_R] at this; rw [this, cd_upN (by omega)]; exact u1.1
            have r426 : cd_g k3 405 426 = nI T := by rw [row _ (by omega) (by omega), c1 _ (by omega) (fun g' z => by omega)]; exact hA.2.1
            have r427 : cd_g k3 405 427 = nI (cd_n A 427) := by rw [row _ (by omega) (by omega), c1 _ (by omega) (fun g' z => by omega)]; exact n427.1
            rw [cd_addL, cd_addL, cd_ckI (by omega) (by omega), cd_ckI (by omega) (by omega), cd_cl (by omega), cd_cl (by omega), r7, r8]
            rcases Nat.lt_or_ge j n with jlt | jge
            · left
              refine ⟨jlt, ?_⟩
              have m1 : (j + 1) * cd_n A (71 + 58 * i + 7) ≤ n * cd_n A (71 + 58 * i + 7) := Nat.mul_le_mul_right _ (by omega)
              rw [Nat.succ_mul j (cd_n A (71 + 58 * i + 7))] at m1
              have c466 : Int32.toNatClampNeg 466 = 466 := by decide
              have c426 : Int32.toNatClampNeg 426 = 426 := by decide
              have c427 : Int32.toNatClampNeg 427 = 427 := by decide
              rw [if_neg (by rw [cd_lt (by omega) (by omega)]; omega), cd_ckI (by omega) (by omega), cd_ckI (by omega) (by omega), cd_ckI (by omega) (by omega), nI_sub (by omega), cd_nmE2, c466, c426, c427, cd_gN (by omega), r466, cd_mulR, cd_addR, cd_nmE2, cd_ckI (by omega) (by omega), cd_cl (by omega), cd_nmE2, cd_addL, cd_ckI (by omega) (by omega), cd_cl (by omega), cd_gN (by omega), cd_gN (by omega), r426, cd_gN (by omega), cd_gN (by omega), r427, nI_add, cd_nmE2, cd_gN (by omega), cd_gN (by omega), cd_gN (by omega), r466, cd_addL, cd_nmE2]
              have nr2 : cd_n (cd_up (cd_puN C i (T + cd_n A 427) j) (71 + 58 * i + 8) (nI (xx - (j + 1) * cd_n A (71 + 58 * i + 7)))) 466 = w' + j := by rw [cd_n.of (cd_upN (by omega))]; exact cd_n_nI u1.1 (by omega)
              refine ⟨_, ⟨?_, f3.tr ((cd_frR.u (by omega)).tr ((cd_frR.u (by omega)).tr ((cd_frR.u (by omega)).tr (cd_frR.u (by omega)))))⟩, rfl⟩
              have hR4 := cd_R_up (j := 466) (v := nI (w' + j + 1)) (cd_R_up (j := 467 + 2 * (w' + j) + 1) (v := nI (T + cd_n A 427)) (cd_R_up (j := 467 + 2 * (w' + j)) (v := nI i) (cd_R_up (j := 71 + 58 * i + 8) (v := nI (xx - j * cd_n A (71 + 58 * i + 7) - cd_n A (71 + 58 * i + 7))) hR3)))
              rw [cd_up_up, show xx - j * cd_n A (71 + 58 * i + 7) - cd_n A (71 + 58 * i + 7) = xx - (j + 1) * cd_n A (71 + 58 * i + 7) by rw [Nat.succ_mul j (cd_n A (71 + 58 * i + 7))]; omega] at hR4
              intro k hk
              have eR := hR4 k hk
              rw [show cd_puN C i (T + cd_n A 427) (j + 1) = cd_pu (cd_puN C i (T + cd_n A 427) j) i (T + cd_n A 427) from rfl, ← cd_pu_comm (by omega)]
              unfold cd_pu
              rw [nr2, show 468 + 2 * (w' + j) = 467 + 2 * (w' + j) + 1 by omega, ← eR, show xx - j * cd_n A (71 + 58 * i + 7) - cd_n A (71 + 58 * i + 7) = xx - (j + 1) * cd_n A (71 + 58 * i + 7) by rw [Nat.succ_mul j (cd_n A (71 + 58 * i + 7))]; omega]
            · right
              obtain rfl : j = n := by omega
              rw [if_pos (by rw [cd_lt (by omega) (by omega)]; omega)]
              exact ⟨_, rfl, hR3, f3⟩
          obtain ⟨o, eo2, o1, o2⟩ := hin
          rw [eo2, cd_bS, cd_nmE2, cd_addL]
          exact ⟨(nI (i + 1), o), ⟨rfl, by rw [en]; exact o1, o2⟩, rfl⟩
        · rw [if_pos (by rw [cd_leL (by omega) (by omega)]; omega), cd_nmE2, cd_addL]
          rw [if_neg (fun w => zp w.2)] at en
          exact ⟨_, ⟨rfl, by rw [en]; exact hS, f1⟩, rfl⟩
    · right
      obtain rfl : i = cd_n A 70 := by omega
      rw [if_pos (by rw [cd_le (by omega) (by omega)]; omega)]
      exact ⟨_, rfl, by rw [hCn]; exact hS, f1⟩
  obtain ⟨o, eo, o1, o2⟩ := hloop
  rw [eo, cd_bS]
  exact ⟨_, rfl, o1, o2⟩
theorem cd_OkS.on0 {A B : Nat → Int32} {τ : Nat} (h : cd_OkS A τ) (e : ∀ k, 426 ≤ k → k < 466 → B k = A k) (e466 : B 466 = 0) : cd_OkS B τ := by
  obtain ⟨s1, s2, s3, ⟨s4, s4'⟩, ⟨s5, s5'⟩, s6⟩ := h
  have kl := s4.2
  have e0 : cd_n B 466 = 0 := cd_n_nI (n := 0) e466 (by omega)
  refine ⟨s1.of (e _ (by omega) (by omega)), s2.of (e _ (by omega) (by omega)), s3.of (e _ (by omega) (by omega)), ⟨s4.of (e _ (by omega) (by omega)), fun i hi => ?_⟩, ⟨cd_numI (n := 0) e466 (by omega) (by omega), fun i hi => ?_⟩, fun j hj => ?_⟩
  · rw [cd_n.of (e 429 (by omega) (by omega))] at hi
    obtain ⟨z1, z2, z3⟩ := s4' i hi
    exact ⟨z1.of (e _ (by omega) (by omega)), z2.of (e _ (by omega) (by omega)), z3.of (e _ (by omega) (by omega))⟩
  · rw [e0] at hi; exact absurd hi (Nat.not_lt_zero _)
  · rw [e0]; exact Nat.zero_le _
theorem cd_phaseS {A : Nat → Int32} {T τ w t : Nat} (hA : cd_SA A T τ w) (ht : t < cd_n A 9) :
    ∃ D w2, cd_Ok (cd_M D T) τ ∧ D 426 = nI T ∧ w2 ≤ 64 ∧ cd_Wt D T w2 ∧ (∀ j, j ≤ 3 → cd_ct D (T + 1 + j) w2 ≤ 16 * (3 - j)) ∧ (∀ k, (k < 71 ∨ 419 ≤ k) → k < 466 → D k = A k) ∧ (∀ h, cd_St 4 A h → ∃ h', f_X4_takeSamples 4 (nI t) h = some h' ∧ cd_St 4 D h' ∧ cd_fr 1 60 h h') ∧ ∀ h1, (∀ k, k < 659 → cd_R h1 k = A k) → ∃ h2, f_X8_samplesCome (nI t) h1 = some h2 ∧ (∀ k, k < 659 → cd_R h2 k = D k) ∧ cd_frR h1 h2 := by
  obtain ⟨hT, n427, e426, n70, k12⟩ := hA.T
  have h6 := n70.2
  obtain ⟨c1, c2, w', cw1, cw2, cw3, cw4, cw5⟩ := cd_sp_ok hA ht (cd_n A 70) (Nat.le_refl _)
  have w48 := hA.2.2.2.2.1
  have hct := hA.2.2.2.2.2.1
  have on4 := hA.2.2.2.2.2.2
  refine ⟨cd_sp A t (cd_n A 70), w', ?_, by rw [c1 _ (by omega) (fun g' z => by omega)]; exact hA.2.1, by omega, cw3, fun j hj => ?_, fun k hk hk2 => c1 k (by omega) (fun g' z => by omega), fun h x => ?_, fun h1 hr => cd_sampR hA ht hr⟩
  · generalize cd_sp A t (cd_n A 70) = D at c1 c2
    obtain ⟨hM, -⟩ := id hA
    have hGs := fun g (hg : g < cd_n A 70) => hA.grp hg
    have eM : ∀ k, k ≤ 466 → (∀ g', g' < cd_n A 70 → k ≠ 71 + 58 * g' + 8) → cd_M D T k = cd_M A T k := fun k z1 z2 => by
      by_cases z3 : k = 426
      · rw [z3, cd_M426, cd_M426]
      · by_cases z4 : k = 466
        · rw [z4, cd_M466, cd_M466]
        · rw [cd_MN z3 z4, cd_MN z3 z4]; exact c1 k (by omega) z2
    obtain ⟨g0, ⟨g1, g1'⟩, g2, gT, gG, gGs, gQ, gS⟩ := hM
    have m70 : cd_n (cd_M A T) 70 = cd_n A 70 := cd_n.of (cd_MN (by omega) (by omega))
    refine ⟨g0, ⟨g1.of (eM _ (by omega) (fun g' z => by omega)), by rw [cd_n.of (eM 0 (by omega) (fun g' z => by omega))]; exact g1'⟩, fun k hk => (g2 k hk).of (eM _ (by omega) (fun g' z => by omega)), gT.on (fun k z1 z2 => eM k (by omega) (fun g' z => by omega)), gG.of (eM _ (by omega) (fun g' z => by omega)), fun g hg => ?_, gQ.on (fun k z1 z2 => eM k (by omega) (fun g' z => by omega)) (Nat.le_of_eq (cd_n.of (eM 70 (by omega) (fun g' z => by omega))).symm) (fun g hg => eM _ (by omega) (fun g' z => by omega)), gS.on0 (fun k z1 z2 => eM k (by omega) (fun g' z => by omega)) cd_M466⟩
    rw [cd_n.of (eM 70 (by omega) (fun g' z => by omega))] at hg
    have hgA := gGs g hg
    rw [m70] at hg
    obtain ⟨b1, b2⟩ := c2 g hg
    have n7 : cd_n (cd_M A T) (71 + 58 * g + 7) = cd_n A (71 + 58 * g + 7) := cd_n.of (cd_MN (by omega) (by omega))
    have mid : cd_OkG (71 + 58 * g) (cd_up (cd_M A T) (71 + 58 * g + 8) (D (71 + 58 * g + 8))) := by
      obtain ⟨h0, h1, h2, h3, h4, h5, ⟨h6a, h6b⟩, ⟨h7a, h7b⟩, ⟨h8a, h8b⟩, h9, -⟩ := id hgA
      have e8 : cd_up (cd_M A T) (71 + 58 * g + 8) (D (71 + 58 * g + 8)) (71 + 58 * g + 8) = D (71 + 58 * g + 8) := cd_upE rfl
      refine cd_OkG.fl hgA (by omega) (by omega) (fun k _ _ _ _ z _ => cd_upN z) (h4.of (cd_upN (by omega))) ⟨h6a.of (cd_upN (by omega)), ?_⟩ ⟨h7a.of (cd_upN (by omega)), ?_⟩ ⟨b1.of e8, ?_⟩ (h9.of (cd_upN (by omega)))
      · rw [cd_n.of (cd_upN (by omega))]; exact h6b
      · rw [cd_n.of (cd_upN (by omega))]; exact h7b
      · rw [cd_n.of (k := 71 + 58 * g + 7) (cd_upN (by omega)), n7, cd_n.of e8]; exact b2
    refine mid.on (fun k z1 z2 => ?_) ?_ ?_
    · by_cases z : k = 71 + 58 * g + 8
      · rw [cd_upE z, cd_MN (by omega) (by omega), z]
      · rw [cd_upN z]; exact eM k (by omega) (fun g' z3 => by omega)
    · rw [cd_n.of (k := 9) (cd_upN (by omega)), cd_n.of (eM 9 (by omega) (fun g' z => by omega))]; exact Nat.le_refl _
    · rw [cd_n.of (k := 426) (cd_upN (by omega)), cd_n.of (eM 426 (by omega) (fun g' z => by omega))]; exact Nat.le_refl _
  · rcases Nat.lt_or_ge j 3 with z | z
    · have := cw4 (T + 1 + j)
      have h2 := hct (j + 1) (by omega)
      rw [show T + (j + 1) = T + 1 + j by omega] at h2
      omega
    · have := cw5 (T + 1 + j) (by omega)
      have h2 := hct 3 (by omega)
      have h3 := cd_ct_mono (A := A) (d := T + 3) (d' := T + 1 + j) (by omega) w
      omega
  · obtain ⟨h', e', s', f'⟩ := cd_takeS hA ht x
    exact ⟨h', e', s', f'.wide (by omega) (by omega)⟩
