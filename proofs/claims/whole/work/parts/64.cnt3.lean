-- the reference's count of one group
theorem cd_cntE8 {B : Nat → Int32} {g t : Nat} {a : Int32} {h1 : cd_Hp} (hr : ∀ k, k < 659 → cd_R h1 k = B k) (hg : g < 6) (ht : t < 6) (n5 : cd_num B (71 + 58 * g + 5) 4) (n9 : B (71 + 58 * g + 9) = 1) (nK : ∀ e, e < cd_n B (71 + 58 * g + 5) → cd_num B (71 + 58 * g + 10 + 3 * e) 7 ∧ cd_num B (71 + 58 * g + 11 + 3 * e) 99) (nC : ∀ k, k < 24 → cd_num B (71 + 58 * g + 22 + k) 100000000) (nT : ∀ k, k < 8 → cd_num B (12 + 10 * t + k) 99) :
    ∃ o, cd_lp (f_X8_counts_B75 (nI t) a (nI g) (nI (71 + 58 * g))) cd_fu (0, h1) = some o ∧ ((∀ k, k < 659 → cd_R o.2 k = cd_cnE B (71 + 58 * g) t (cd_n B (71 + 58 * g + 5)) k) ∧ cd_frR h1 o.2) := by
  have h54 := n5.2
  refine cd_for (cd_n B (71 + 58 * g + 5)) (fun i (st : Int32 × cd_Hp) => st.1 = nI i ∧ (∀ k, k < 659 → cd_R st.2 k = cd_cnE B (71 + 58 * g) t i k) ∧ cd_frR h1 st.2) _ ?_ cd_fu 0 (0, h1) (Nat.zero_le _) (by unfold cd_fu; omega) ⟨rfl, hr, cd_frR.rf⟩
  rintro i ⟨v0, k1⟩ K hi ⟨hv0, hR, f1⟩
  dsimp only at hv0 hR f1
  subst hv0
  unfold f_X8_counts_B75
  dsimp only
  have eD : ∀ k, (k < 71 + 58 * g + 11 ∨ (i < 4 ∧ (k = 71 + 58 * g + 10 + 3 * i ∨ k = 71 + 58 * g + 11 + 3 * i ∨ k = 71 + 58 * g + 22 + (6 * i + t)))) → k < 659 → cd_g k1 405 k = B k := fun k z1 z2 => by
    have := hR k z2
    dsimp only [cd_R] at this
    rw [this, cd_cnE_N i (fun e' _ => by omega) (fun e' _ => by omega)]
  rw [cd_addL, cd_ckI (by omega) (by omega), cd_cl (by omega), eD _ (by omega) (by omega), n5.1]
  rcases Nat.lt_or_ge i (cd_n B (71 + 58 * g + 5)) with hlt | hge
  · left
    refine ⟨hlt, ?_⟩
    obtain ⟨nk, np⟩ := nK i hlt
    have k7 := nk.2
    have nr := nT (cd_n B (71 + 58 * g + 10 + 3 * i)) (by omega)
    have nc := nC (6 * i + t) (by omega)
    have c8 := nc.2
    have r9 := nr.2
    have p9 := np.2
    rw [if_neg (by rw [cd_le (by omega) (by omega)]; omega), cd_addL, cd_ckI (by omega) (by omega), cd_cl (by omega), eD _ (by omega) (by omega), n9, if_pos rfl, cd_eventAt, cd_ckI (by omega) (by omega), cd_cl (by omega), eD _ (by omega) (by omega), nk.1, cd_rateOf8 ht (by omega), show 10 + 10 * t + 2 + cd_n B (71 + 58 * g + 10 + 3 * i) = 12 + 10 * t + cd_n B (71 + 58 * g + 10 + 3 * i) by omega, eD _ (by omega) (by omega), nr.1, cd_bS, cd_countAt, show 71 + 58 * g + 22 + 6 * i + t = 71 + 58 * g + 22 + (6 * i + t) by omega, cd_ckI (by omega) (by omega), cd_ckI (by omega) (by omega), cd_cl (by omega), eD _ (by omega) (by omega), nc.1, nI_add, cd_nmE2, cd_addL, cd_nmE2, show 71 + 58 * g + 10 + 3 * i + 1 = 71 + 58 * g + 11 + 3 * i by omega, cd_ckI (by omega) (by omega), cd_cl (by omega), cd_gN (by omega), eD _ (by omega) (by omega), np.1]
    have fin : ∀ v, v = nI (max (cd_n B (71 + 58 * g + 11 + 3 * i)) (cd_n B (12 + 10 * t + cd_n B (71 + 58 * g + 10 + 3 * i)))) → ∃ st' : Int32 × cd_Hp, (st'.1 = nI (i + 1) ∧ (∀ k, k < 659 → cd_R st'.2 k = cd_cnE B (71 + 58 * g) t (i + 1) k) ∧ cd_frR h1 st'.2) ∧ K (nI (i + 1), cd_u (cd_u k1 405 (71 + 58 * g + 22 + (6 * i + t)) (nI (cd_n B (71 + 58 * g + 22 + (6 * i + t)) + cd_n B (12 + 10 * t + cd_n B (71 + 58 * g + 10 + 3 * i))))) 405 (71 + 58 * g + 11 + 3 * i) v) = K st' := by
      rintro v rfl
      exact ⟨(_, _), ⟨rfl, cd_R_up (cd_R_up hR), f1.tr ((cd_frR.u (by omega)).tr (cd_frR.u (by omega)))⟩, rfl⟩
    by_cases z : cd_n B (12 + 10 * t + cd_n B (71 + 58 * g + 10 + 3 * i)) ≤ cd_n B (71 + 58 * g + 11 + 3 * i)
    · rw [if_pos (by rw [cd_le (by omega) (by omega)]; exact z), cd_ckI (by omega) (by omega), cd_ckI (by omega) (by omega), cd_nmE2, cd_nmE2, cd_addL]
      exact fin _ (by rw [Nat.max_eq_left z])
    · rw [if_neg (by rw [cd_le (by omega) (by omega)]; exact z), cd_ckI (by omega) (by omega), cd_nmE2, cd_nmE2, cd_addL]
      exact fin _ (by rw [Nat.max_eq_right (by omega)])
  · right
    obtain rfl : i = cd_n B (71 + 58 * g + 5) := by omega
    rw [if_pos (by rw [cd_le (by omega) (by omega)]; omega)]
    exact ⟨_, rfl, hR, f1⟩
theorem cd_cntZ8 {B : Nat → Int32} {g t : Nat} {a : Int32} {h1 : cd_Hp} (hr : ∀ k, k < 659 → cd_R h1 k = B k) (hg : g < 6) (n9 : B (71 + 58 * g + 9) = 0) :
    cd_lp (f_X8_counts_B75 (nI t) a (nI g) (nI (71 + 58 * g))) cd_fu (0, h1) = some (0, h1) := by
  have e9 : cd_g h1 405 (71 + 58 * g + 9) = 0 := (hr _ (by omega)).trans n9
  show f_X8_counts_B75 (nI t) a (nI g) (nI (71 + 58 * g)) (cd_lp _ 3999) (0, h1) = _
  unfold f_X8_counts_B75
  dsimp only
  rw [cd_addL, cd_ckI (by omega) (by omega), cd_addL, cd_ckI (by omega) (by omega), cd_cl (by omega), cd_cl (by omega), e9, if_neg (show ¬ (0 : Int32) = 1 by decide)]
  split <;> rfl
theorem cd_cntR {A : Nat → Int32} {τ W t : Nat} {h1 : cd_Hp} (hA : cd_Ok A τ) (hW : W < 64) (ht : t < cd_n A 9) (hr : ∀ k, k < 659 → cd_R h1 k = A k) : ∃ h2, f_X8_counts (nI t) (nI W) h1 = some h2 ∧ (∀ k, k < 659 → cd_R h2 k = cd_cn A W t (cd_n A 70) k) ∧ cd_frR h1 h2 := by
  have hG := hA.2.2.2.2.1
  have h6 := hG.2
  have h9 := hA.2.2.2.1.1.1.2
  unfold f_X8_counts
  have hloop : ∃ o, cd_lp (f_X8_counts_B2 (nI t) (nI W)) cd_fu (0, h1) = some o ∧ ((∀ k, k < 659 → cd_R o.2 k = cd_cn A W t (cd_n A 70) k) ∧ cd_frR h1 o.2) := by
    refine cd_for (cd_n A 70) (fun i (st : Int32 × cd_Hp) => st.1 = nI i ∧ (∀ k, k < 659 → cd_R st.2 k = cd_cn A W t i k) ∧ cd_frR h1 st.2) _ ?_ cd_fu 0 (0, h1) (Nat.zero_le _) (by unfold cd_fu; omega) ⟨rfl, hr, cd_frR.rf⟩
    rintro i ⟨v0, k1⟩ K hi ⟨hv0, hS, f1⟩
    dsimp only at hv0 hS f1
    subst hv0
    unfold f_X8_counts_B2
    dsimp only
    obtain ⟨i1, -⟩ := cd_cn_ok (W := W) hA ht i hi
    have en : cd_cn A W t (i + 1) = cd_cnG (cd_cn A W t i) (71 + 58 * i) t (cd_bw W i) := rfl
    generalize hCn : cd_cn A W t i = C at hS i1 en
    have eg : ∀ k, k < 659 → cd_g k1 405 k = C k := hS
    have e3 : cd_g k1 405 70 = nI (cd_n A 70) := by rw [eg _ (by omega), i1 _ (by omega)]; exact hG.1
    rw [cd_c70, e3]
    rcases Nat.lt_or_ge i (cd_n A 70) with hlt | hge
    · left
      refine ⟨hlt, ?_⟩
      have hgk : cd_OkG (71 + 58 * i) C := (hA.2.2.2.2.2.1 i hlt).on (fun k z1 z2 => i1 k (by omega)) (Nat.le_of_eq (cd_n.of (i1 9 (by omega))).symm) (Nat.le_of_eq (cd_n.of (i1 426 (by omega))).symm)
      obtain ⟨-, -, -, -, -, ⟨g5, -⟩, -, -, -, n9, g10, g11, g12, -, -, -⟩ := hgk
      have n46 := (g12 t (by omega)).1
      have n52 := (g12 t (by omega)).2
      have h54 := g5.2
      have nT : ∀ k, k < 8 → cd_num C (12 + 10 * t + k) 99 := fun k hk => ((hA.2.2.2.1.2.2.2 t ht).2 k hk).of (i1 _ (by omega))
      have tail : ∀ k2 b, (∀ k, k < 659 → cd_R k2 k = cd_cn2 C (71 + 58 * i) t b k) → cd_frR k1 k2 → ∃ o, cd_lp (f_X8_counts_B75 (nI t) (nI W) (nI i) (nI (71 + 58 * i))) cd_fu (0, k2) = some o ∧ ((∀ k, k < 659 → cd_R o.2 k = cd_cnG C (71 + 58 * i) t b k) ∧ cd_frR k1 o.2) := by
        intro k2 b hk2 fk2
        rcases cd_num01 n9 with ⟨z, -⟩ | ⟨z, -⟩
        · refine ⟨_, cd_cntZ8 hk2 (by omega) (by rw [cd_cn2_N (by omega) (by omega)]; exact z), ?_, fk2⟩
          unfold cd_cnG
          rw [if_neg (by rw [z]; decide)]
          exact hk2
        · have e2 : ∀ k, k ≠ 71 + 58 * i + 46 + t → k ≠ 71 + 58 * i + 52 + t → cd_cn2 C (71 + 58 * i) t b k = C k := fun k w1 w2 => cd_cn2_N w1 w2
          obtain ⟨o, eo, o1, o2⟩ := cd_cntE8 (t := t) (a := nI W) hk2 (by omega : i < 6) (by omega) (g5.of (e2 _ (by omega) (by omega))) (by rw [e2 _ (by omega) (by omega)]; exact z) (fun e he => by
            rw [cd_n.of (e2 _ (by omega) (by omega))] at he
            exact ⟨(g10 e he).1.of (e2 _ (by omega) (by omega)), (g10 e he).2.1.of (e2 _ (by omega) (by omega))⟩) (fun k hk => (g11 k hk).of (e2 _ (by omega) (by omega))) (fun k hk => (nT k hk).of (e2 _ (by omega) (by omega)))
          refine ⟨o, eo, ?_, fk2.tr o2⟩
          unfold cd_cnG
          rw [if_pos z]
          rw [cd_n.of (e2 _ (by omega) (by omega))] at o1
          exact o1
      rw [if_neg (by rw [cd_le (by omega) (by omega)]; omega), cd_groupAt, cd_nmE2, cd_addL, nI_add, cd_ckI (by omega) (by omega), cd_cl (by omega), eg _ (by omega), n46.1, cd_bitHas i (by omega) W hW, cd_addL, cd_addL, nI_add, cd_addL]
      by_cases hb : W.testBit i = true
      · have eb : cd_bw W i = 1 := by unfold cd_bw; rw [if_pos hb]
        rw [eb] at en
        rw [if_pos hb, if_neg (show ¬ (1 : Int32) = 0 by decide), cd_ckI (by omega) (by omega), cd_addL, cd_nmE2, cd_ckI (by omega) (by omega), cd_ckI (by omega) (by omega), cd_ckI (by omega) (by omega), cd_cl (by omega), cd_cl (by omega), cd_gN (by omega), cd_gN (by omega), eg _ (by omega), n52.1, eg _ (by omega), n9.1, nI_add, cd_nmE2]
        obtain ⟨o, eo, o1, o2⟩ := tail (cd_u (cd_u k1 405 (71 + 58 * i + 46 + t) (nI (cd_n C (71 + 58 * i + 46 + t) + 1))) 405 (71 + 58 * i + 52 + t) (nI (cd_n C (71 + 58 * i + 52 + t) + cd_n C (71 + 58 * i + 9)))) 1 (cd_R_up (cd_R_up hS)) ((cd_frR.u (by omega)).tr (cd_frR.u (by omega)))
        rw [eo, cd_bS, cd_nmE2, cd_addL]
        exact ⟨(nI (i + 1), o.2), ⟨rfl, by rw [en]; exact o1, f1.tr o2⟩, rfl⟩
      · have eb : cd_bw W i = 0 := by unfold cd_bw; rw [if_neg hb]
        rw [eb] at en
        rw [if_neg hb, if_pos rfl, cd_ckI (by omega) (by omega), cd_addL, cd_nmE2, cd_ckI (by omega) (by omega), cd_ckI (by omega) (by omega), cd_ckI (by omega) (by omega), cd_cl (by omega), cd_cl (by omega), cd_gN (by omega), cd_gN (by omega), eg _ (by omega), n52.1, eg _ (by omega), n9.1, nI_add, cd_nmE2]
        obtain ⟨o, eo, o1, o2⟩ := tail (cd_u (cd_u k1 405 (71 + 58 * i + 46 + t) (nI (cd_n C (71 + 58 * i + 46 + t) + 0))) 405 (71 + 58 * i + 52 + t) (nI (cd_n C (71 + 58 * i + 52 + t) + cd_n C (71 + 58 * i + 9)))) 0 (cd_R_up (cd_R_up hS)) ((cd_frR.u (by omega)).tr (cd_frR.u (by omega)))
        rw [eo, cd_bS, cd_nmE2]
        exact ⟨(nI (i + 1), o.2), ⟨rfl, by rw [en]; exact o1, f1.tr o2⟩, rfl⟩
    · right
      obtain rfl : i = cd_n A 70 := by omega
      rw [if_pos (by rw [cd_le (by omega) (by omega)]; omega)]
      exact ⟨_, rfl, by rw [hCn]; exact hS, f1⟩
  obtain ⟨o, eo, o1, o2⟩ := hloop
  rw [eo, cd_bS]
  exact ⟨_, rfl, o1, o2⟩
-- IN THE MIDST OF A SLICE: as if it were over and nothing waited
def cd_M (A : Nat → Int32) (T : Nat) : Nat → Int32 := fun k => if k = 426 then nI (T + 1) else if k = 466 then 0 else A k
theorem cd_MN {A : Nat → Int32} {T k : Nat} (h1 : k ≠ 426) (h2 : k ≠ 466) : cd_M A T k = A k := by unfold cd_M; rw [if_neg h1, if_neg h2]
theorem cd_M426 {A : Nat → Int32} {T : Nat} : cd_M A T 426 = nI (T + 1) := if_pos rfl
theorem cd_M466 {A : Nat → Int32} {T : Nat} : cd_M A T 466 = 0 := by unfold cd_M; rw [if_neg (by omega), if_pos rfl]
theorem cd_OkS.mid {A B : Nat → Int32} {τ : Nat} (h : cd_OkS A τ) (hτ : τ + 1 ≤ 500000) (e : ∀ k, 427 ≤ k → k < 466 → B k = A k) (e426 : B 426 = nI (cd_n A 426 + 1)) (e466 : B 466 = 0) : cd_OkS B (τ + 1) := by
  obtain ⟨s1, s2, s3, ⟨s4, s4'⟩, ⟨s5, s5'⟩, s6⟩ := h
  have kl := s4.2
  have t1 := s1.2
  have e0 : cd_n B 466 = 0 := cd_n_nI (n := 0) e466 (by omega)
  refine ⟨cd_numI e426 (by omega) (by omega), s2.of (e _ (by omega) (by omega)), (s3.of (e _ (by omega) (by omega))).up (by omega), ⟨s4.of (e _ (by omega) (by omega)), fun i hi => ?_⟩, ⟨cd_numI (n := 0) e466 (by omega) (by omega), fun i hi => ?_⟩, fun j hj => ?_⟩
  · rw [cd_n.of (e 429 (by omega) (by omega))] at hi
    obtain ⟨z1, z2, z3⟩ := s4' i hi
    exact ⟨z1.of (e _ (by omega) (by omega)), z2.of (e _ (by omega) (by omega)), (z3.of (e _ (by omega) (by omega))).up (by omega)⟩
  · rw [e0] at hi; exact absurd hi (Nat.not_lt_zero _)
  · rw [e0]; exact Nat.zero_le _
theorem cd_phaseC {A : Nat → Int32} {τ W t : Nat} (hA : cd_Ok A τ) (hτ : τ + 1 ≤ 500000) (hW : W < 64) (ht : t < cd_n A 9) (hw : ∀ g, g < cd_n A 70 → A (71 + 58 * g + 9) = 1 → W.testBit g = true) :
    ∃ C, cd_Ok (cd_M C (cd_n A 426)) (τ + 1) ∧ (∀ k, (k < 71 ∨ 419 ≤ k) → C k = A k) ∧ (∀ g j, g < cd_n A 70 → j < 11 → C (71 + 58 * g + j) = A (71 + 58 * g + j)) ∧ (∀ h, cd_St 4 A h → ∃ h', f_X4_countSlice 4 (nI t) (nI W) h = some h' ∧ cd_St 4 C h' ∧ cd_fr 1 60 h h') ∧ ∀ h1, (∀ k, k < 659 → cd_R h1 k = A k) → ∃ h2, f_X8_counts (nI t) (nI W) h1 = some h2 ∧ (∀ k, k < 659 → cd_R h2 k = C k) ∧ cd_frR h1 h2 := by
  have h6 := hA.sz.1
  have h9 := hA.2.2.2.1.1.1.2
  obtain ⟨c1, c2⟩ := cd_cn_ok (W := W) hA ht (cd_n A 70) (Nat.le_refl _)
  have lo : ∀ g j, g < cd_n A 70 → j < 11 → cd_cn A W t (cd_n A 70) (71 + 58 * g + j) = A (71 + 58 * g + j) := fun g j hg hj => (c2 g hg).2.2.2.2 _ (by omega) (by omega) (by omega) (by omega) (fun e _ => by omega) (fun e _ => by omega)
  refine ⟨cd_cn A W t (cd_n A 70), ?_, fun k z => c1 k (by omega), lo, fun h x => ?_, fun h1 hr => cd_cntR hA hW ht hr⟩
  · generalize cd_cn A W t (cd_n A 70) = C at c1 c2 lo
    obtain ⟨g0, ⟨g1, g1'⟩, g2, hT, hG, hGs, hQ, hS⟩ := hA
    have eM : ∀ k, (k < 71 ∨ 419 ≤ k) → k ≠ 426 → k ≠ 466 → cd_M C (cd_n A 426) k = A k := fun k z z1 z2 => by rw [cd_MN z1 z2]; exact c1 k (by omega)
    have t1 := hS.1.2
    refine ⟨hτ, ⟨g1.of (eM _ (by omega) (by omega) (by omega)), by rw [cd_n.of (eM 0 (by omega) (by omega) (by omega))]; exact g1'⟩, fun k hk => (g2 k hk).of (eM _ (by omega) (by omega) (by omega)), hT.on (fun k z1 z2 => eM k (by omega) (by omega) (by omega)), hG.of (eM _ (by omega) (by omega) (by omega)), fun g hg => ?_, hQ.on (fun k z1 z2 => eM k (by omega) (by omega) (by omega)) (Nat.le_of_eq (cd_n.of (eM 70 (by omega) (by omega) (by omega))).symm) (fun g hg => by rw [cd_MN (by omega) (by omega)]; exact lo g 2 hg (by omega)), hS.mid hτ (fun k z1 z2 => eM k (by omega) (by omega) (by omega)) cd_M426 cd_M466⟩
    rw [cd_n.of (eM 70 (by omega) (by omega) (by omega))] at hg
    have hgk := hGs g hg
    have n9 := hgk.2.2.2.2.2.2.2.2.2.1
    refine hgk.cnt (t := t) (b := cd_bw W g) (by omega) (by omega) (by unfold cd_bw; split <;> omega) ?_ (eM 9 (by omega) (by omega) (by omega)) cd_M426 ((c2 g hg).row (hgk.2.2.2.2.2.1.1.2) (by omega) (fun _ _ _ => rfl) (fun k z1 z2 => cd_MN (by omega) (by omega)))
    rcases cd_num01 n9 with ⟨-, z⟩ | ⟨z, z'⟩
    · omega
    · unfold cd_bw; rw [if_pos (hw g hg z)]; omega
  · obtain ⟨h', e', s', f'⟩ := cd_cntC hA hW ht x
    exact ⟨h', e', s', f'.wide (by omega) (by omega)⟩
