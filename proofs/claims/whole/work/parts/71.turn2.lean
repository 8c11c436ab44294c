-- turns, the reference's
section
variable {A : Nat → Int32} {W : Nat}
theorem cd_turnF {h1 : cd_Hp} {i : Nat} (hA : cd_QA A) (hW : W < 64) (hr : ∀ k, k < 659 → cd_R h1 k = A k) (hi : i ≤ cd_n A 419) (hb : i < cd_n A 419 → W.testBit (cd_n A (420 + i)) = true) (hn : ∀ j, j < i → ¬ W.testBit (cd_n A (420 + j)) = true) : cd_lp (f_X8_turns_B2 (nI W) h1) cd_fu 1 = some (nI (1 + i)) := by
  obtain ⟨z, q1, q2⟩ := hA
  have q6 := q1.2
  have h6 := z.1
  have eg : ∀ k, k < 659 → cd_g h1 405 k = A k := hr
  have hloop : ∃ o, cd_lp (f_X8_turns_B2 (nI W) h1) cd_fu 1 = some o ∧ o = nI (1 + i) := by
    refine cd_for i (fun j (st : Int32) => st = nI (1 + j)) _ ?_ cd_fu 0 1 (Nat.zero_le _) (by unfold cd_fu; omega) rfl
    rintro j st K hj rfl
    unfold f_X8_turns_B2
    rw [cd_c419, eg _ (by omega), q1.1]
    rcases Nat.lt_or_ge j (cd_n A 419) with hlt0 | hge0
    · obtain ⟨l0, l1, -, -⟩ := q2 j hlt0
      rw [if_neg (by rw [cd_lt (by omega) (by omega)]; omega), cd_addR, cd_ckI (by omega) (by omega), cd_cl (by omega), eg _ (by omega), show 419 + (1 + j) = 420 + j by omega, l0.1, cd_bitHas _ (by omega) W hW]
      rcases Nat.lt_or_ge j i with hlt | hge
      · left
        refine ⟨hlt, _, rfl, ?_⟩
        rw [if_neg (hn j hlt), if_pos rfl, cd_nmE2, cd_addL, show 1 + j + 1 = 1 + (j + 1) by omega]
      · right
        obtain rfl : j = i := by omega
        rw [if_pos (hb hlt0), if_neg (show ¬ (1 : Int32) = 0 by decide)]
        exact ⟨_, rfl, rfl⟩
    · right
      obtain rfl : j = i := by omega
      rw [if_pos (by rw [cd_lt (by omega) (by omega)]; omega)]
      exact ⟨_, rfl, rfl⟩
  obtain ⟨o, eo, rfl⟩ := hloop
  exact eo
theorem cd_turnR0 {h1 : cd_Hp} (hA : cd_QA A) (hW : W < 64) (hr : ∀ k, k < 659 → cd_R h1 k = A k) (hn : ∀ j, j < cd_n A 419 → ¬ W.testBit (cd_n A (420 + j)) = true) : f_X8_turns (nI W) h1 = some h1 := by
  have e := cd_turnF hA hW hr (Nat.le_refl _) (fun z => absurd z (Nat.lt_irrefl _)) hn
  obtain ⟨z, q1, q2⟩ := hA
  have q6 := q1.2
  have eg : ∀ k, k < 659 → cd_g h1 405 k = A k := hr
  unfold f_X8_turns
  rw [e, cd_bS, cd_c419, eg _ (by omega), q1.1, if_neg (by rw [cd_le (by omega) (by omega)]; omega)]
theorem cd_turnR1 {h1 : cd_Hp} {i : Nat} (hA : cd_QA A) (hW : W < 64) (hr : ∀ k, k < 659 → cd_R h1 k = A k) (hi : i < cd_n A 419) (hb : W.testBit (cd_n A (420 + i)) = true) (hn : ∀ j, j < i → ¬ W.testBit (cd_n A (420 + j)) = true) : ∃ h2, f_X8_turns (nI W) h1 = some h2 ∧ (∀ k, k < 659 → cd_R h2 k = cd_tu A i k) ∧ cd_frR h1 h2 := by
  have e := cd_turnF hA hW hr (Nat.le_of_lt hi) (fun _ => hb) hn
  obtain ⟨z, q1, q2⟩ := hA
  have q6 := q1.2
  have h6 := z.1
  obtain ⟨l0, l1, l2, l3⟩ := q2 i hi
  have t4 := l2.2
  have w5 := l3.2
  have eg : ∀ k, k < 659 → cd_g h1 405 k = A k := hr
  unfold f_X8_turns
  rw [e, cd_bS, cd_c419, eg _ (by omega), q1.1, if_pos (by rw [cd_le (by omega) (by omega)]; omega), cd_addR, cd_ckI (by omega) (by omega), cd_cl (by omega), eg _ (by omega), show 419 + (1 + i) = 420 + i by omega, l0.1, cd_nmE2, cd_groupAt, cd_nmE2, cd_addL, cd_ckI (by omega) (by omega), cd_ckI (by omega) (by omega), cd_cl (by omega), eg _ (by omega), l2.1, cd_addL, cd_nmE2, cd_ckI (by omega) (by omega), cd_addL, cd_ckI (by omega) (by omega), cd_cl (by omega), cd_gE rfl rfl, cd_gN (by omega), eg _ (by omega), l3.1]
  unfold cd_tu
  by_cases zw : cd_n A (71 + 58 * cd_n A (420 + i) + 6) + 1 < cd_n A (71 + 58 * cd_n A (420 + i) + 1)
  · rw [if_pos (by rw [cd_lt (by omega) (by omega)]; exact zw), if_pos zw]
    exact ⟨_, rfl, cd_R_up hr, cd_frR.u (by omega)⟩
  · rw [if_neg (by rw [cd_lt (by omega) (by omega)]; exact zw), if_neg zw, cd_ckI (by omega) (by omega), cd_nmE2]
    have hR1 := cd_R_up (j := 71 + 58 * cd_n A (420 + i) + 6) (v := 0) (cd_R_up (j := 71 + 58 * cd_n A (420 + i) + 6) (v := nI (cd_n A (71 + 58 * cd_n A (420 + i) + 6) + 1)) hr)
    rw [cd_up_up] at hR1
    have f1 : cd_frR h1 (cd_u (cd_u h1 405 (71 + 58 * cd_n A (420 + i) + 6) (nI (cd_n A (71 + 58 * cd_n A (420 + i) + 6) + 1))) 405 (71 + 58 * cd_n A (420 + i) + 6) 0) := (cd_frR.u (by omega)).tr (cd_frR.u (by omega))
    have n0 : cd_up A (71 + 58 * cd_n A (420 + i) + 6) 0 419 = nI (cd_n A 419) := by rw [cd_upN (by omega)]; exact q1.1
    have n1 : cd_up A (71 + 58 * cd_n A (420 + i) + 6) 0 (420 + i) = nI (cd_n A (420 + i)) := by rw [cd_upN (by omega)]; exact l0.1
    generalize cd_u (cd_u h1 405 (71 + 58 * cd_n A (420 + i) + 6) (nI (cd_n A (71 + 58 * cd_n A (420 + i) + 6) + 1))) 405 (71 + 58 * cd_n A (420 + i) + 6) 0 = k0 at hR1 f1 ⊢
    generalize cd_up A (71 + 58 * cd_n A (420 + i) + 6) 0 = B at hR1 n0 n1 ⊢
    have hloop : ∃ o, cd_lp (f_X8_turns_B117 (nI W) (nI (cd_n A (420 + i)))) cd_fu (nI (1 + i), k0) = some o ∧ ((∀ k, k < 659 → cd_R o.2 k = cd_rtp B i (cd_n A 419 - 1) k) ∧ cd_frR h1 o.2) := by
      refine cd_for (cd_n A 419 - 1 - i) (fun j (st : Int32 × cd_Hp) => st.1 = nI (1 + (i + j)) ∧ (∀ k, k < 659 → cd_R st.2 k = cd_rtp B i (i + j) k) ∧ cd_frR h1 st.2) _ ?_ cd_fu 0 (nI (1 + i), k0) (Nat.zero_le _) (by unfold cd_fu; omega) ⟨rfl, by rw [Nat.add_zero, cd_rtp_0]; exact hR1, f1⟩
      rintro j ⟨v0, k1⟩ K hj ⟨hv0, hS, f2⟩
      dsimp only at hv0 hS f2
      subst hv0
      unfold f_X8_turns_B117
      dsimp only
      have eg1 : ∀ k, k < 659 → cd_g k1 405 k = cd_rtp B i (i + j) k := hS
      rw [cd_c419, eg1 _ (by omega), cd_rtp_N (by omega), n0]
      rcases Nat.lt_or_ge j (cd_n A 419 - 1 - i) with hlt | hge
      · left
        refine ⟨hlt, ?_⟩
        rw [if_neg (by rw [cd_le (by omega) (by omega)]; omega), cd_addR, cd_addL, cd_ckI (by omega) (by omega), cd_ckI (by omega) (by omega), cd_cl (by omega), cd_cl (by omega), eg1 _ (by omega), cd_rtp_N (by omega), cd_nmE2, cd_nmE2, cd_addL, show 419 + (1 + (i + j)) = 420 + (i + j) by omega]
        have s1 := cd_R_up (j := 420 + (i + j)) (v := B (420 + (i + j) + 1)) hS
        rw [cd_rtp_s (by omega)] at s1
        exact ⟨(nI (1 + (i + j) + 1), _), ⟨by dsimp only; rw [show 1 + (i + j) + 1 = 1 + (i + (j + 1)) by omega], s1, f2.tr (cd_frR.u (by omega))⟩, rfl⟩
      · right
        obtain rfl : j = cd_n A 419 - 1 - i := by omega
        rw [if_pos (by rw [cd_le (by omega) (by omega)]; omega)]
        rw [show i + (cd_n A 419 - 1 - i) = cd_n A 419 - 1 by omega] at hS
        exact ⟨_, rfl, hS, f2⟩
    obtain ⟨o, eo, o1, o2⟩ := hloop
    have e4 : cd_g o.2 405 419 = nI (cd_n A 419) := by have := o1 419 (by omega); dsimp only [cd_R] at this; rw [this, cd_rtp_N (by omega)]; exact n0
    rw [eo, cd_bS, e4, cd_addR, cd_ckI (by omega) (by omega), cd_cl (by omega), cd_nmE2, show 419 + cd_n A 419 = 420 + (cd_n A 419 - 1) by omega]
    refine ⟨_, rfl, ?_, o2.tr (cd_frR.u (by omega))⟩
    unfold cd_rt
    rw [n1]
    exact cd_R_up o1
end
theorem cd_phaseU {A : Nat → Int32} {T τ w W : Nat} (hM : cd_Ok (cd_M A T) τ) (hw : cd_Wt A T w) (hw64 : w ≤ 64) (hW : W < 64) :
    ∃ F, cd_Ok (cd_M F T) τ ∧ (∀ k, (k < 71 ∨ 426 ≤ k) → F k = A k) ∧ (∀ h, cd_St 4 A h → ∃ h', f_X4_takeTurn 4 (nI W) h = some h' ∧ cd_St 4 F h' ∧ cd_fr 1 60 h h') ∧ ∀ h1, (∀ k, k < 659 → cd_R h1 k = A k) → ∃ h2, f_X8_turns (nI W) h1 = some h2 ∧ (∀ k, k < 659 → cd_R h2 k = F k) ∧ cd_frR h1 h2 := by
  have m : ∀ k, k ≠ 426 → k ≠ 466 → A k = cd_M A T k := fun k z1 z2 => (cd_MN z1 z2).symm
  have nm : ∀ k, k ≠ 426 → k ≠ 466 → cd_n A k = cd_n (cd_M A T) k := fun k z1 z2 => cd_n.of (m k z1 z2)
  have h6 := hM.sz.1
  obtain ⟨q1, q2, q3⟩ := hM.2.2.2.2.2.2.1
  have q6 := q1.2
  have zA : cd_Sz A := by
    refine ⟨by rw [nm 70 (by omega) (by omega)]; exact h6, fun g hg => ?_, by rw [cd_n_nI hw.1 (by omega)]; exact hw64, by rw [nm 429 (by omega) (by omega)]; exact hM.sz.2.2.2⟩
    rw [nm 70 (by omega) (by omega)] at hg
    rw [nm _ (by omega) (by omega)]
    exact hM.sz.2.1 g hg
  have hQ : cd_QA A := by
    refine ⟨zA, q1.of (m _ (by omega) (by omega)), fun i hi => ?_⟩
    rw [nm 419 (by omega) (by omega)] at hi
    obtain ⟨y1, y2, -⟩ := q2 i hi
    have hg := hM.2.2.2.2.2.1 _ y2
    have e420 := nm (420 + i) (by omega) (by omega)
    rw [e420]
    exact ⟨y1.of (m _ (by omega) (by omega)), by rw [nm 70 (by omega) (by omega)]; exact y2, hg.2.2.2.2.2.2.1.1.of (m _ (by omega) (by omega)), hg.2.1.1.of (m _ (by omega) (by omega))⟩
  by_cases hex : ∃ i, i < cd_n A 419 ∧ W.testBit (cd_n A (420 + i)) = true
  · obtain ⟨i, hi, hb, hmin⟩ : ∃ i, i < cd_n A 419 ∧ W.testBit (cd_n A (420 + i)) = true ∧ ∀ j, j < i → ¬ W.testBit (cd_n A (420 + j)) = true := by
      obtain ⟨i, h1, h2⟩ := hex
      induction i using Nat.strongRecOn with
      | _ i ih =>
        by_cases h : ∃ j, j < i ∧ W.testBit (cd_n A (420 + j)) = true
        · obtain ⟨j, z1, z2⟩ := h
          exact ih j z1 (by omega) z2
        · exact ⟨i, h1, h2, fun j z1 z2 => h ⟨j, z1, z2⟩⟩
    obtain ⟨l0, l1, l2, l3⟩ := hQ.2.2 i hi
    have l70 := l1
    rw [nm 70 (by omega) (by omega)] at l70
    have hg := hM.2.2.2.2.2.1 _ l70
    have e6 := nm (71 + 58 * cd_n A (420 + i) + 6) (by omega) (by omega)
    have e1 := nm (71 + 58 * cd_n A (420 + i) + 1) (by omega) (by omega)
    refine ⟨cd_tu A i, ?_, fun k hk => ?_, fun h x => ?_, fun h1 hr => cd_turnR1 hQ hW hr hi hb hmin⟩
    · unfold cd_tu
      by_cases zw : cd_n A (71 + 58 * cd_n A (420 + i) + 6) + 1 < cd_n A (71 + 58 * cd_n A (420 + i) + 1)
      · rw [if_pos zw, cd_M_up (by omega) (by omega)]
        exact hM.turn l70 (by omega)
      · have i419 : i < cd_n (cd_M A T) 419 := by rw [← nm 419 (by omega) (by omega)]; exact hi
        rw [if_neg zw, cd_M_rt hi (by rw [nm 419 (by omega) (by omega)]; exact q6), cd_M_up (by omega) (by omega)]
        have ok1 := hM.turn (v := 0) l70 (by have := hg.2.1.2; omega)
        have n419 : cd_n (cd_up (cd_M A T) (71 + 58 * cd_n A (420 + i) + 6) (nI 0)) 419 = cd_n A 419 := by rw [cd_n.of (cd_upN (by omega)), ← nm 419 (by omega) (by omega)]
        have ok2 := ok1.rt (i := i) (by omega)
        rw [n419] at ok2
        exact ok2
    · have l6 : cd_n A (420 + i) < 6 := by omega
      unfold cd_tu
      split
      · exact cd_upN (by omega)
      · rw [cd_rt_N hi (by rw [nm 419 (by omega) (by omega)]; omega), cd_upN (by omega)]
    · obtain ⟨h', e', s', f'⟩ := cd_turn1 hQ hW x hi hb hmin
      exact ⟨h', e', s', f'.wide (by omega) (by omega)⟩
  · have hn : ∀ j, j < cd_n A 419 → ¬ W.testBit (cd_n A (420 + j)) = true := fun j hj hb => hex ⟨j, hj, hb⟩
    exact ⟨A, hM, fun _ _ => rfl, fun h x => ⟨h, cd_turn0 hQ hW x hn, x, cd_fr.rf⟩, fun h1 hr => ⟨h1, cd_turnR0 hQ hW hr hn, hr, cd_frR.rf⟩⟩
