-- samples come, on both sides
theorem cd_St.smp {A B : Nat → Int32} {h h' : cd_Hp} (x : cd_St 4 A h) (z : cd_Sz A) (e : ∀ k, k < 428 → B k = A k) (f : ∀ y k, 4 ≤ y → y < 60 → (y < 12 ∨ 18 ≤ y) → cd_g h' y k = cd_g h y k) (s : cd_StS 4 B h') : cd_St 4 B h' := by
  obtain ⟨x1, x2, x3, x6, x7, -⟩ := x
  refine ⟨?_, fun k hk => ?_, x3.as (fun k w1 w2 => e k (by omega)) (fun y k w1 w2 => f y k (by omega) (by omega) (by omega)), cd_StGs.as x6 z.1 z.2.1 (fun k w1 w2 => e k (by omega)) (fun y k w1 w2 => f y k (by omega) (by omega) (by omega)), fun i hi => ?_, s⟩
  · simp (disch := omega) only [f, e]; exact x1
  · rw [f _ _ (by omega) (by omega) (by omega), e _ (by omega)]; exact x2 k hk
  · rw [f _ _ (by omega) (by omega) (by omega), e _ (by omega)]; exact x7 i hi
theorem cd_await {A : Nat → Int32} {h : cd_Hp} {g d T w : Nat} (x : cd_St 4 A h) (z : cd_Sz A) (hw : cd_Wt A T w) (h64 : w < 64) : ∃ h', f_X2_await (4 + 8) (nI g) (nI d) h = some h' ∧ cd_St 4 (cd_pu A g d) h' ∧ cd_fr 4 60 h h' := by
  obtain ⟨h1, -⟩ := hw
  have n1 : cd_n A 466 = w := cd_n_nI h1 (by omega)
  obtain ⟨⟨y1, y2, y3⟩, y4, y5⟩ := x.2.2.2.2.2
  have e0 : cd_g h (4 + 8) 0 = nI w := y1.trans h1
  have k12 := z.2.2.2
  unfold f_X2_await
  rw [e0, if_neg (by rw [cd_leR (by omega) (by omega)]; omega), cd_ckI (by omega) (by omega), cd_cl (by omega), cd_nmE2, cd_gN (by omega), e0, cd_ckI (by omega) (by omega), cd_cl (by omega), cd_nmE2, cd_gN (by omega), cd_gN (by omega), e0, cd_addL, cd_nmE2]
  refine ⟨_, rfl, ?_, (cd_fr.u (by omega) (by omega)).tr ((cd_fr.u (by omega) (by omega)).tr (cd_fr.u (by omega) (by omega)))⟩
  refine x.smp z (fun k hk => cd_pu_N (by omega)) (fun y k w1 w2 w3 => by rw [cd_gN (by omega), cd_gN (by omega), cd_gN (by omega)]) ⟨⟨?_, ?_, ?_⟩, fun i hi => ?_, fun i hi => ?_⟩
  · rw [cd_gE rfl rfl]; unfold cd_pu; rw [cd_upE rfl, n1]
  · rw [cd_gN (by omega), cd_gN (by omega), cd_gN (by omega), cd_pu_N (by omega)]; exact y2
  · rw [cd_gN (by omega), cd_gN (by omega), cd_gN (by omega), cd_pu_N (by omega)]; exact y3
  · have e466 : cd_n (cd_pu A g d) 466 = w + 1 := by unfold cd_pu; rw [n1]; exact cd_n_nI (cd_upE rfl) (by omega)
    rw [e466] at hi
    unfold cd_pu
    rw [n1]
    by_cases zi : i = w
    · subst zi
      refine ⟨?_, ?_⟩
      · rw [cd_gN (by omega), cd_gN (by omega), cd_gE rfl rfl, cd_upN (by omega), cd_upN (by omega), cd_upE rfl]
      · rw [cd_gN (by omega), cd_gE rfl rfl, cd_upN (by omega), cd_upE rfl]
    · have := y4 i (by omega)
      rw [cd_gN (by omega), cd_gN (by omega), cd_gN (by omega), cd_gN (by omega), cd_gN (by omega), cd_gN (by omega), cd_upN (by omega), cd_upN (by omega), cd_upN (by omega), cd_upN (by omega), cd_upN (by omega), cd_upN (by omega)]
      exact this
  · rw [cd_n.of (cd_pu_N (by omega))] at hi
    have := y5 i hi
    rw [cd_gN (by omega), cd_gN (by omega), cd_gN (by omega), cd_gN (by omega), cd_gN (by omega), cd_gN (by omega), cd_gN (by omega), cd_gN (by omega), cd_gN (by omega), cd_pu_N (by omega), cd_pu_N (by omega), cd_pu_N (by omega)]
    exact this
theorem cd_Wt.up {A : Nat → Int32} {T w k : Nat} {v : Int32} (h : cd_Wt A T w) (hk : k < 466) : cd_Wt (cd_up A k v) T w :=
  ⟨by rw [cd_upN (by omega)]; exact h.1, fun i hi => ⟨(h.2 i hi).1.of (cd_upN (by omega)), (h.2 i hi).2.of (cd_upN (by omega))⟩⟩
theorem cd_SA.szOf {A C : Nat → Int32} {T τ w w' : Nat} (h : cd_SA A T τ w) (hC : ∀ k, k < 466 → (∀ g', g' < 6 → k ≠ 71 + 58 * g' + 8) → C k = A k) (hw : C 466 = nI w') (h64 : w' ≤ 64) : cd_Sz C := by
  obtain ⟨hT, -, -, n70, k12⟩ := h.T
  have h6 := n70.2
  refine ⟨by rw [cd_n.of (hC 70 (by omega) (fun g' z => by omega))]; exact h6, fun g hg => ?_, by rw [cd_n_nI hw (by omega)]; exact h64, by rw [cd_n.of (hC 429 (by omega) (fun g' z => by omega))]; exact k12⟩
  rw [cd_n.of (hC 70 (by omega) (fun g' z => by omega))] at hg
  rw [cd_n.of (hC _ (by omega) (fun g' z => by omega))]
  exact (h.grp hg).2.1.2
theorem cd_nzp {p : Nat} (h0 : 0 < p) (h : p < 2147483648) : (!decide (nI p = 0)) = true := by
  have : ¬ nI p = 0 := fun z => by rw [show (0 : Int32) = nI 0 from rfl, cd_eq h (by omega)] at z; omega
  simp [this]
theorem cd_takeS {A : Nat → Int32} {T τ w t : Nat} {h : cd_Hp} (hA : cd_SA A T τ w) (ht : t < cd_n A 9) (x : cd_St 4 A h) : ∃ h', f_X4_takeSamples 4 (nI t) h = some h' ∧ cd_St 4 (cd_sp A t (cd_n A 70)) h' ∧ cd_fr 4 60 h h' := by
  obtain ⟨hT, n427, e426, n70, k12⟩ := hA.T
  have h6 := n70.2
  have s3 := n427.2
  have w48 := hA.2.2.2.2.1
  have on4 := hA.2.2.2.2.2.2
  unfold f_X4_takeSamples
  have hloop : ∃ o, cd_lp (f_X4_takeSamples_B2 4 (nI t)) cd_fu (0, h) = some o ∧ (cd_St 4 (cd_sp A t (cd_n A 70)) o.2 ∧ cd_fr 4 60 h o.2) := by
    refine cd_for (cd_n A 70) (fun i (st : Int32 × cd_Hp) => st.1 = nI i ∧ cd_St 4 (cd_sp A t i) st.2 ∧ cd_fr 4 60 h st.2) _ ?_ cd_fu 0 (0, h) (Nat.zero_le _) (by unfold cd_fu; omega) ⟨rfl, x, cd_fr.rf⟩
    rintro i ⟨v0, k1⟩ K hi ⟨hv0, hS, f1⟩
    dsimp only at hv0 hS f1
    subst hv0
    unfold f_X4_takeSamples_B2
    dsimp only
    obtain ⟨c1, c2, w', cw1, cw2, cw3, -, -⟩ := cd_sp_ok hA ht i hi
    have en : cd_sp A t (i + 1) = cd_smG (cd_sp A t i) i t := rfl
    have onI : cd_on A i ≤ cd_on A (cd_n A 70) := by
      have := cd_on_mono (A := A) (cd_n A 70 - i) i
      rw [show i + (cd_n A 70 - i) = cd_n A 70 by omega] at this
      exact this
    generalize hCn : cd_sp A t i = C at hS c1 c2 cw3 en
    have szC : cd_Sz C := hA.szOf (fun k z1 z2 => c1 k z1 (fun g' z => z2 g' (by omega))) cw3.1 (by omega)
    have e70 : cd_n C 70 = cd_n A 70 := cd_n.of (c1 70 (by omega) (fun g' z => by omega))
    have e3 : cd_g k1 4 3 = nI (cd_n A 70) := by rw [hS.1.2.2.2.1, c1 _ (by omega) (fun g' z => by omega)]; exact n70.1
    rw [e3]
    rcases Nat.lt_or_ge i (cd_n A 70) with hlt | hge
    · left
      refine ⟨hlt, ?_⟩
      obtain ⟨g6, n5, n5', ⟨n7, n7'⟩, ⟨n8, n8'⟩, n9, n10⟩ := hA.grp hlt
      have k7 := n10.2
      obtain ⟨t6, nr⟩ := hA.rate ht (k := cd_n A (71 + 58 * i + 10)) (by omega)
      have eo : ∀ j, j < 58 → C (71 + 58 * i + j) = A (71 + 58 * i + j) := fun j hj => c1 _ (by omega) (fun g' z => by omega)
      have no : ∀ j, j < 58 → cd_n C (71 + 58 * i + j) = cd_n A (71 + 58 * i + j) := fun j hj => cd_n.of (eo j hj)
      obtain ⟨y1, y2, -, -⟩ := hS.2.2.2.1 i (by omega)
      have q5 : cd_g k1 (4 + 6 + 8 + 7 * i) 5 = A (71 + 58 * i + 9) := by rw [y1.2.2.2.2.2.1, eo 9 (by omega)]
      have q8 : cd_g k1 (4 + 6 + 8 + 7 * i) 8 = nI (cd_n A (71 + 58 * i + 7)) := by rw [y1.2.2.2.2.2.2.2.2.1, eo 7 (by omega)]; exact n7.1
      have q9 : cd_g k1 (4 + 6 + 8 + 7 * i) 9 = nI (cd_n A (71 + 58 * i + 8)) := by rw [y1.2.2.2.2.2.2.2.2.2, eo 8 (by omega)]; exact n8.1
      have qk : cd_g k1 (4 + 6 + 8 + 7 * i + 1) 0 = nI (cd_n A (71 + 58 * i + 10)) := by
        have := (y2 0 (by rw [no 5 (by omega)]; omega)).1
        rw [this]
        show C (71 + 58 * i + 10) = _
        rw [eo 10 (by omega)]; exact n10.1
      have qr : cd_g k1 (4 + 2 + 3) (8 * t + cd_n A (71 + 58 * i + 10)) = nI (cd_n A (12 + 10 * t + cd_n A (71 + 58 * i + 10))) := by rw [hS.2.2.1.2.2 t _ t6 (by omega), c1 _ (by omega) (fun g' z => by omega)]; exact nr.1
      have p200 := n7.2
      have r99 := nr.2
      have l199 := n8.2
      rw [if_neg (by rw [cd_le (by omega) (by omega)]; omega), cd_ckI (by omega) (by omega), cd_cl (by omega), q5]
      unfold cd_smG at en
      rw [eo 9 (by omega), no 7 (by omega)] at en
      rcases cd_num01 n9 with ⟨z, -⟩ | ⟨z, -⟩
      · rw [z, if_pos rfl, cd_nmE2, cd_addL]
        rw [z, if_neg (fun w => absurd w.1 (by decide))] at en
        exact ⟨_, ⟨rfl, by rw [en]; exact hS, f1⟩, rfl⟩
      · rw [z, if_neg (show ¬ (1 : Int32) = 0 by decide), q8]
        by_cases zp : 0 < cd_n A (71 + 58 * i + 7)
        · rw [z, if_pos ⟨rfl, zp⟩] at en
          have p30 : 30 ≤ cd_n A (71 + 58 * i + 7) := by omega
          have l8 : cd_n A (71 + 58 * i + 8) < cd_n A (71 + 58 * i + 7) := by omega
          have ex : cd_sx C i t = cd_n A (71 + 58 * i + 8) + cd_n A (12 + 10 * t + cd_n A (71 + 58 * i + 10)) := by
            unfold cd_sx
            rw [no 8 (by omega), no 10 (by omega), cd_n.of (c1 (12 + 10 * t + cd_n A (71 + 58 * i + 10)) (by omega) (fun g' z => by omega))]
          obtain ⟨x1, x2, x3⟩ := cd_sx_le (rfl : cd_n A (71 + 58 * i + 8) + cd_n A (12 + 10 * t + cd_n A (71 + 58 * i + 10)) = _) l8 r99 p30
          have eT : cd_n C 426 = T := (cd_n.of (c1 426 (by omega) (fun g' z => by omega))).trans e426
          have eK : cd_n C 427 = cd_n A 427 := cd_n.of (c1 427 (by omega) (fun g' z => by omega))
          rw [ex, eT, eK] at en
          rw [if_neg (by rw [cd_leL (by omega) (by omega)]; omega), cd_cl0, qk, cd_rateOf5 t6 (by omega), qr, cd_bS, q9, nI_add, cd_nmE2, cd_gN (by omega), q8, cd_ckT (cd_nzp zp (by omega)), cd_gE rfl rfl, nI_div (by omega) (by omega), cd_nmE2, nI_mul, nI_sub x2, cd_nmE2]
          generalize hx : cd_n A (71 + 58 * i + 8) + cd_n A (12 + 10 * t + cd_n A (71 + 58 * i + 10)) = xx at x1 x2 x3 en ⊢
          generalize hn : xx / cd_n A (71 + 58 * i + 7) = n at x1 x2 x3 en ⊢
          generalize hy : xx - n * cd_n A (71 + 58 * i + 7) = y at x3 en ⊢
          have onS : cd_on A (i + 1) = cd_on A i + 1 := by
            show cd_on A i + _ = _
            rw [if_pos z]
          have onT : cd_on A (i + 1) ≤ cd_on A (cd_n A 70) := by
            have := cd_on_mono (A := A) (cd_n A 70 - (i + 1)) (i + 1)
            rw [show i + 1 + (cd_n A 70 - (i + 1)) = cd_n A 70 by omega] at this
            exact this
          have hS2 : cd_St 4 (cd_up C (71 + 58 * i + 8) (nI y)) (cd_u (cd_u k1 (4 + 6 + 8 + 7 * i) 9 (nI xx)) (4 + 6 + 8 + 7 * i) 9 (nI y)) := by
            have s1 := hS.pF (g := i) (v := nI xx) szC (by omega) (Or.inr (Or.inr (Or.inr (Or.inr ⟨rfl, rfl⟩))))
            have s2 := s1.pF (g := i) (v := nI y) (szC.upG (by omega) (by omega) (by omega)) (by rw [cd_n.of (cd_upN (by omega))]; omega) (Or.inr (Or.inr (Or.inr (Or.inr ⟨rfl, rfl⟩))))
            rw [cd_up_up] at s2
            exact s2
          have f2 : cd_fr 4 60 h (cd_u (cd_u k1 (4 + 6 + 8 + 7 * i) 9 (nI xx)) (4 + 6 + 8 + 7 * i) 9 (nI y)) := f1.tr ((cd_fr.u (by omega) (by omega)).tr (cd_fr.u (by omega) (by omega)))
          generalize cd_u (cd_u k1 (4 + 6 + 8 + 7 * i) 9 (nI xx)) (4 + 6 + 8 + 7 * i) 9 (nI y) = k2 at hS2 f2 ⊢
          have hin : ∃ o, cd_lp (f_X4_takeSamples_B84 4 (nI t) (nI i) (nI n)) cd_fu (0, k2) = some o ∧ (cd_St 4 (cd_up (cd_puN C i (T + cd_n A 427) n) (71 + 58 * i + 8) (nI y)) o.2 ∧ cd_fr 4 60 h o.2) := by
            refine cd_for n (fun j (st : Int32 × cd_Hp) => st.1 = nI j ∧ cd_St 4 (cd_up (cd_puN C i (T + cd_n A 427) j) (71 + 58 * i + 8) (nI y)) st.2 ∧ cd_fr 4 60 h st.2) _ ?_ cd_fu 0 (0, k2) (Nat.zero_le _) (by unfold cd_fu; omega) ⟨rfl, hS2, f2⟩
            rintro j ⟨v0, k3⟩ K2 hj ⟨hv0, hS3, f3⟩
            dsimp only at hv0 hS3 f3
            subst hv0
            unfold f_X4_takeSamples_B84
            dsimp only
            rcases Nat.lt_or_ge j n with jlt | jge
            · left
              refine ⟨jlt, ?_⟩
              obtain ⟨u1, -⟩ := cd_puN_ok (g := i) (d := T + cd_n A 427) cw3 (by omega) (by omega) (by omega) hT j (by omega)
              have row : ∀ k, k < 466 → k ≠ 71 + 58 * i + 8 → cd_up (cd_puN C i (T + cd_n A 427) j) (71 + 58 * i + 8) (nI y) k = C k := fun k z1 z2 => by rw [cd_upN z2, cd_puN_N z1]
              have eT2 : cd_g k3 4 2 = nI T := by rw [hS3.1.2.2.1, row _ (by omega) (by omega), c1 _ (by omega) (fun g' z => by omega)]; exact hA.2.1
              have eK2 : cd_g k3 4 1 = nI (cd_n A 427) := by rw [hS3.1.2.1, row _ (by omega) (by omega), c1 _ (by omega) (fun g' z => by omega)]; exact n427.1
              have u2 := u1.up (k := 71 + 58 * i + 8) (v := nI y) (by omega)
              obtain ⟨h', e', s', f'⟩ := cd_await (g := i) (d := T + cd_n A 427) hS3 (hA.szOf (fun k z1 z2 => by rw [row k z1 (z2 i (by omega))]; exact c1 k z1 (fun g' z => z2 g' (by omega))) u2.1 (by omega)) u2 (by omega)
              rw [if_neg (by rw [cd_le (by omega) (by omega)]; omega), eT2, eK2, nI_add, e', cd_bS, cd_nmE2, cd_addL]
              refine ⟨_, ⟨rfl, ?_, f3.tr f'⟩, rfl⟩
              show cd_St 4 (cd_up (cd_pu (cd_puN C i (T + cd_n A 427) j) i (T + cd_n A 427)) (71 + 58 * i + 8) (nI y)) h'
              rw [← cd_pu_comm (by omega)]
              exact s'
            · right
              obtain rfl : j = n := by omega
              rw [if_pos (by rw [cd_le (by omega) (by omega)]; omega)]
              exact ⟨_, rfl, hS3, f3⟩
          obtain ⟨o, eo, o1, o2⟩ := hin
          rw [eo, cd_bS, cd_nmE2, cd_addL]
          exact ⟨(nI (i + 1), o.2), ⟨rfl, by rw [en]; exact o1, o2⟩, rfl⟩
        · rw [if_pos (by rw [cd_leL (by omega) (by omega)]; omega), cd_nmE2, cd_addL]
          rw [if_neg (fun w => zp w.2)] at en
          exact ⟨_, ⟨rfl, by rw [en]; exact hS, f1⟩, rfl⟩
    · right
      obtain rfl : i = cd_n A 70 := by omega
      rw [if_pos (by rw [cd_le (by omega) (by omega)]; omega)]
      exact ⟨_, rfl, by rw [hCn]; exact hS, f1⟩
  obtain ⟨o, eo, o1, o2⟩ := hloop
  rw [eo, cd_bS]
  exact ⟨_, rfl, o1, o2⟩
