-- telling, on both sides
theorem cd_TI.sz {A : Nat → Int32} {T τ b i w : Nat} {S : (Nat → Int32) × Nat} (z : cd_Sz A) (h : cd_TI A T τ b i S) : cd_Sz S.1 := by
  obtain ⟨i1, i2, i3, i4, i5, i6⟩ := h
  have h6 := z.1
  refine ⟨by rw [cd_n.of (i2 70 (by omega))]; exact h6, fun g hg => ?_, by rw [cd_n.of (i2 466 (by omega))]; exact z.2.2.1, i6.2.1.2⟩
  rw [cd_n.of (i2 70 (by omega))] at hg
  rw [cd_n.of (i2 _ (by omega))]
  exact z.2.1 g hg
theorem cd_c466 : Int32.toNatClampNeg 466 = 466 := by decide
theorem cd_c426 : Int32.toNatClampNeg 426 = 426 := by decide
theorem cd_c428 : Int32.toNatClampNeg 428 = 428 := by decide
theorem cd_c429 : Int32.toNatClampNeg 429 = 429 := by decide
theorem cd_tellC {A : Nat → Int32} {t T τ w b : Nat} {h : cd_Hp} (hA : cd_TA A T τ w b) (z : cd_Sz A) (ht : t ≤ 5) (x : cd_St 4 A h) : ∃ h', f_X2_tellDue (4 + 8) (nI t) (nI T) h = some h' ∧ cd_St 4 (cd_tF (cd_td A t T w).1 (cd_td A t T w).2) h' ∧ cd_fr 4 60 h h' := by
  obtain ⟨a1, a2, a3, a4, a5, a6, a7⟩ := id hA
  unfold f_X2_tellDue
  have hloop : ∃ o, cd_lp (f_X2_tellDue_B5 (4 + 8) (nI t) (nI T)) cd_fu (0, 0, h) = some o ∧ (o.1 = nI (cd_td A t T w).2 ∧ cd_St 4 (cd_td A t T w).1 o.2.2 ∧ cd_fr 4 60 h o.2.2) := by
    refine cd_for w (fun i (st : Int32 × Int32 × cd_Hp) => st.1 = nI (cd_td A t T i).2 ∧ st.2.1 = nI i ∧ cd_St 4 (cd_td A t T i).1 st.2.2 ∧ cd_fr 4 60 h st.2.2) _ ?_ cd_fu 0 (0, 0, h) (Nat.zero_le _) (by unfold cd_fu; omega) ⟨rfl, rfl, x, cd_fr.rf⟩
    rintro i ⟨v0, v1, k1⟩ K hi ⟨hv0, hv1, hS, f1⟩
    dsimp only at hv0 hv1 hS f1
    subst hv0 hv1
    unfold f_X2_tellDue_B5
    dsimp only
    have hI := cd_td_ok hA ht i hi
    have szS := hI.sz (w := w) z
    have e : cd_td A t T (i + 1) = if T < cd_n A (468 + 2 * i) then (cd_up (cd_up (cd_td A t T i).1 (467 + 2 * (cd_td A t T i).2) (A (467 + 2 * i))) (468 + 2 * (cd_td A t T i).2) (A (468 + 2 * i)), (cd_td A t T i).2 + 1) else (cd_t1 (cd_td A t T i).1 (A (467 + 2 * i)) t, (cd_td A t T i).2) := rfl
    generalize hSn : cd_td A t T i = S at hS hI szS e ⊢
    obtain ⟨i1, i2, i3, i4, i5, i6⟩ := hI
    have n466 : cd_n S.1 466 = w := cd_n_nI ((i2 466 (by omega)).trans a4.1) (by omega)
    have e0 : cd_g k1 (4 + 8) 0 = nI w := by rw [hS.2.2.2.2.2.1.1, i2 466 (by omega)]; exact a4.1
    rw [e0]
    rcases Nat.lt_or_ge i w with hlt | hge
    · left
      refine ⟨hlt, ?_⟩
      obtain ⟨n1, n2⟩ := a4.2 i hlt
      obtain ⟨w1, w2⟩ := hS.2.2.2.2.2.2.1 i (by omega)
      have q1 : cd_g k1 (4 + 8 + 1) i = A (467 + 2 * i) := by rw [w1, i2 _ (by omega)]
      have q2 : cd_g k1 (4 + 8 + 2) i = A (468 + 2 * i) := by rw [w2, i2 _ (by omega)]
      have d3 := n2.2
      rw [if_neg (by rw [cd_le (by omega) (by omega)]; omega), cd_ckI (by omega) (by omega), cd_cl (by omega), q2]
      by_cases zd : T < cd_n A (468 + 2 * i)
      · rw [if_pos zd] at e
        rw [if_pos (by rw [n2.1, cd_lt (by omega) (by omega)]; exact zd), cd_ckI (by omega) (by omega), cd_ckI (by omega) (by omega), cd_cl (by omega), q1, cd_nmE2, cd_ckI (by omega) (by omega), cd_ckI (by omega) (by omega), cd_gN (by omega), q2, cd_nmE2, cd_nmE2, cd_nmE2, cd_addL, cd_addL]
        have s1 := hS.2.2.2.2.2.wt (j := S.2) (v := A (467 + 2 * i)) szS.2.2.2 (by omega) (Or.inl ⟨rfl, rfl⟩)
        have s2 := s1.wt (j := S.2) (v := A (468 + 2 * i)) (by rw [cd_n.of (cd_upN (by omega))]; exact szS.2.2.2) (by rw [cd_n.of (cd_upN (by omega))]; omega) (Or.inr ⟨rfl, rfl⟩)
        have s3 : cd_St 4 (cd_up (cd_up S.1 (467 + 2 * S.2) (A (467 + 2 * i))) (468 + 2 * S.2) (A (468 + 2 * i))) (cd_u (cd_u k1 (4 + 8 + 1) S.2 (A (467 + 2 * i))) (4 + 8 + 2) S.2 (A (468 + 2 * i))) := hS.smp szS (fun k hk => by rw [cd_upN (by omega), cd_upN (by omega)]) (fun y k w1 w2 w3 => by rw [cd_gN (by omega), cd_gN (by omega)]) s2
        exact ⟨(nI (S.2 + 1), nI (i + 1), cd_u (cd_u k1 (4 + 8 + 1) S.2 (A (467 + 2 * i))) (4 + 8 + 2) S.2 (A (468 + 2 * i))), ⟨by rw [e], rfl, by rw [e]; exact s3, f1.tr ((cd_fr.u (by omega) (by omega)).tr (cd_fr.u (by omega) (by omega)))⟩, rfl⟩
      · rw [if_neg zd] at e
        obtain ⟨h', e', s', f'⟩ := cd_keepS (v := A (467 + 2 * i)) (t := t) hS szS ((i2 426 (by omega)).trans a1) i6.2.1 i6.1 (by omega)
        rw [if_neg (by rw [n2.1, cd_lt (by omega) (by omega)]; exact zd), cd_ckI (by omega) (by omega), q1, e', cd_bS, cd_nmE2, cd_addL]
        exact ⟨(nI S.2, nI (i + 1), h'), ⟨by rw [e], rfl, by rw [e]; exact s', f1.tr f'⟩, rfl⟩
    · right
      obtain rfl : i = w := by omega
      rw [if_pos (by rw [cd_le (by omega) (by omega)]; omega)]
      exact ⟨_, rfl, by rw [hSn], by rw [hSn]; exact hS, f1⟩
  obtain ⟨o, eo, o1, o2, o3⟩ := hloop
  have hI := cd_td_ok hA ht w (Nat.le_refl _)
  have szS := hI.sz (w := w) z
  generalize cd_td A t T w = S at o1 o2 hI szS ⊢
  obtain ⟨i1, i2, i3, i4, i5, i6⟩ := hI
  rw [eo, cd_bS, o1, cd_nmE2]
  have lo : ∀ k, k < 467 → k ≠ 466 → cd_tF S.1 S.2 k = S.1 k := fun k z1 z2 => by unfold cd_tF; rw [cd_upN z2, if_neg (by omega)]
  have n466 : cd_n S.1 466 = w := cd_n_nI ((i2 466 (by omega)).trans a4.1) (by omega)
  have e466 : cd_n (cd_tF S.1 S.2) 466 = S.2 := by unfold cd_tF; exact cd_n_nI (cd_upE rfl) (by omega)
  have k12 := szS.2.2.2
  obtain ⟨⟨y1, y2, y3⟩, y4, y5⟩ := o2.2.2.2.2.2
  refine ⟨_, rfl, o2.smp szS (fun k hk => lo k (by omega) (by omega)) (fun y k w1 w2 w3 => cd_gN (by omega)) ⟨⟨?_, ?_, ?_⟩, fun i hi => ?_, fun i hi => ?_⟩, o3.tr (cd_fr.u (by omega) (by omega))⟩
  · rw [cd_gE rfl rfl]; unfold cd_tF; rw [cd_upE rfl]
  · rw [cd_gN (by omega), lo _ (by omega) (by omega)]; exact y2
  · rw [cd_gN (by omega), lo _ (by omega) (by omega)]; exact y3
  · rw [e466] at hi
    have := y4 i (by omega)
    rw [cd_gN (by omega), cd_gN (by omega)]
    unfold cd_tF
    rw [cd_upN (by omega), cd_upN (by omega), if_neg (by omega), if_neg (by omega)]
    exact this
  · rw [cd_n.of (lo 429 (by omega) (by omega))] at hi
    have := y5 i hi
    rw [cd_gN (by omega), cd_gN (by omega), cd_gN (by omega), lo _ (by omega) (by omega), lo _ (by omega) (by omega), lo _ (by omega) (by omega)]
    exact this
theorem cd_t1R {A : Nat → Int32} {v : Int32} {t b : Nat} {h1 : cd_Hp} (hr : ∀ k, k < 659 → cd_R h1 k = A k) (n429 : cd_num A 429 12) (n428 : cd_num A 428 b) : ∃ h2, f_X8_tellsOne v (nI t) h1 = some h2 ∧ (∀ k, k < 659 → cd_R h2 k = cd_t1 A v t k) ∧ cd_frR h1 h2 := by
  have k12 := n429.2
  have e1 : cd_g h1 405 429 = nI (cd_n A 429) := (hr 429 (by omega)).trans n429.1
  have e2 : cd_g h1 405 428 = nI (cd_n A 428) := (hr 428 (by omega)).trans n428.1
  have e3 : cd_g h1 405 426 = A 426 := hr 426 (by omega)
  unfold f_X8_tellsOne cd_t1
  rw [cd_c429, cd_c428, cd_c426, e1]
  by_cases zk : cd_n A 429 = 12
  · rw [if_pos zk, if_pos (by rw [cd_eqL (by omega) (by omega)]; exact zk), e2, cd_addL, cd_nmE2]
    exact ⟨_, rfl, cd_R_up hr, cd_frR.u (by omega)⟩
  · rw [if_neg zk, if_neg (by rw [cd_eqL (by omega) (by omega)]; exact zk), cd_mulR, cd_addR, cd_nmE2, cd_ckI (by omega) (by omega), cd_cl (by omega), cd_nmE2, cd_addL, cd_ckI (by omega) (by omega), cd_cl (by omega), cd_nmE2, cd_addL, cd_ckI (by omega) (by omega), cd_cl (by omega), cd_gN (by omega), cd_gN (by omega), e3, cd_nmE2, cd_gN (by omega), cd_gN (by omega), cd_gN (by omega), e1, cd_addL, cd_nmE2, show 430 + 3 * cd_n A 429 + 1 = 431 + 3 * cd_n A 429 by omega, show 430 + 3 * cd_n A 429 + 2 = 432 + 3 * cd_n A 429 by omega]
    exact ⟨_, rfl, cd_R_up (cd_R_up (cd_R_up (cd_R_up hr))), (cd_frR.u (by omega)).tr ((cd_frR.u (by omega)).tr ((cd_frR.u (by omega)).tr (cd_frR.u (by omega))))⟩
theorem cd_tellR {A : Nat → Int32} {t T τ w b : Nat} {h1 : cd_Hp} (hA : cd_TA A T τ w b) (ht : t ≤ 5) (hr : ∀ k, k < 659 → cd_R h1 k = A k) : ∃ h2, f_X8_tellsDue (nI t) h1 = some h2 ∧ (∀ k, k < 659 → cd_R h2 k = cd_tF (cd_td A t T w).1 (cd_td A t T w).2 k) ∧ cd_frR h1 h2 := by
  obtain ⟨a1, a2, a3, a4, a5, a6, a7⟩ := id hA
  unfold f_X8_tellsDue
  have hloop : ∃ o, cd_lp (f_X8_tellsDue_B4 (nI t)) cd_fu (0, 0, h1) = some o ∧ (o.1 = nI (cd_td A t T w).2 ∧ (∀ k, k < 659 → cd_R o.2.2 k = (cd_td A t T w).1 k) ∧ cd_frR h1 o.2.2) := by
    refine cd_for w (fun i (st : Int32 × Int32 × cd_Hp) => st.1 = nI (cd_td A t T i).2 ∧ st.2.1 = nI i ∧ (∀ k, k < 659 → cd_R st.2.2 k = (cd_td A t T i).1 k) ∧ cd_frR h1 st.2.2) _ ?_ cd_fu 0 (0, 0, h1) (Nat.zero_le _) (by unfold cd_fu; omega) ⟨rfl, rfl, hr, cd_frR.rf⟩
    rintro i ⟨v0, v1, k1⟩ K hi ⟨hv0, hv1, hS, f1⟩
    dsimp only at hv0 hv1 hS f1
    subst hv0 hv1
    unfold f_X8_tellsDue_B4
    dsimp only
    have hI := cd_td_ok hA ht i hi
    have e : cd_td A t T (i + 1) = if T < cd_n A (468 + 2 * i) then (cd_up (cd_up (cd_td A t T i).1 (467 + 2 * (cd_td A t T i).2) (A (467 + 2 * i))) (468 + 2 * (cd_td A t T i).2) (A (468 + 2 * i)), (cd_td A t T i).2 + 1) else (cd_t1 (cd_td A t T i).1 (A (467 + 2 * i)) t, (cd_td A t T i).2) := rfl
    generalize hSn : cd_td A t T i = S at hS hI e ⊢
    obtain ⟨i1, i2, i3, i4, i5, i6⟩ := hI
    have eg : ∀ k, k < 659 → cd_g k1 405 k = S.1 k := hS
    have e0 : cd_g k1 405 466 = nI w := by rw [eg _ (by omega), i2 466 (by omega)]; exact a4.1
    rw [cd_c466, e0]
    rcases Nat.lt_or_ge i w with hlt | hge
    · left
      refine ⟨hlt, ?_⟩
      obtain ⟨n1, n2⟩ := a4.2 i hlt
      have q1 : cd_g k1 405 (467 + 2 * i) = A (467 + 2 * i) := by rw [eg _ (by omega), i2 _ (by omega)]
      have q2 : cd_g k1 405 (468 + 2 * i) = A (468 + 2 * i) := by rw [eg _ (by omega), i2 _ (by omega)]
      have q3 : cd_g k1 405 426 = nI T := by rw [eg _ (by omega), i2 _ (by omega)]; exact a1
      have d3 := n2.2
      rw [if_neg (by rw [cd_le (by omega) (by omega)]; omega), cd_mulR, cd_addR, cd_ckI (by omega) (by omega), cd_cl (by omega), q1, cd_nmE2, cd_addR, cd_ckI (by omega) (by omega), cd_cl (by omega), q2, cd_nmE2, cd_c426, q3]
      by_cases zd : T < cd_n A (468 + 2 * i)
      · rw [if_pos zd] at e
        rw [if_pos (by rw [n2.1, cd_lt (by omega) (by omega)]; exact zd), cd_mulR, cd_addR, cd_ckI (by omega) (by omega), cd_cl (by omega), cd_nmE2, cd_addR, cd_ckI (by omega) (by omega), cd_cl (by omega), cd_nmE2, cd_nmE2, cd_nmE2, cd_addL, cd_addL]
        exact ⟨(nI (S.2 + 1), nI (i + 1), _), ⟨by rw [e], rfl, by rw [e]; exact cd_R_up (cd_R_up hS), f1.tr ((cd_frR.u (by omega)).tr (cd_frR.u (by omega)))⟩, rfl⟩
      · rw [if_neg zd] at e
        obtain ⟨h', e', s', f'⟩ := cd_t1R (v := A (467 + 2 * i)) (t := t) hS i6.2.1 i6.1
        rw [if_neg (by rw [n2.1, cd_lt (by omega) (by omega)]; exact zd), e', cd_bS, cd_nmE2, cd_addL]
        exact ⟨(nI S.2, nI (i + 1), h'), ⟨by rw [e], rfl, by rw [e]; exact s', f1.tr f'⟩, rfl⟩
    · right
      obtain rfl : i = w := by omega
      rw [if_pos (by rw [cd_le (by omega) (by omega)]; omega)]
      exact ⟨_, rfl, by rw [hSn], by rw [hSn]; exact hS, f1⟩
  obtain ⟨o, eo, o1, o2, o3⟩ := hloop
  have hI := cd_td_ok hA ht w (Nat.le_refl _)
  generalize cd_td A t T w = S at o1 o2 hI ⊢
  have i1 := hI.1
  rw [eo, cd_bS, o1, cd_mulR, cd_addR, cd_nmE2]
  have hz : ∃ p, cd_lp (f_X8_tellsDue_B112 (nI t) (nI S.2)) cd_fu (nI (467 + 2 * S.2), o.2.2) = some p ∧ ((∀ k, k < 659 → cd_R p.2 k = if 467 + 2 * S.2 ≤ k then 0 else S.1 k) ∧ cd_frR h1 p.2) := by
    refine cd_for (659 - (467 + 2 * S.2)) (fun i (st : Int32 × cd_Hp) => st.1 = nI (467 + 2 * S.2 + i) ∧ (∀ k, k < 659 → cd_R st.2 k = if 467 + 2 * S.2 ≤ k ∧ k < 467 + 2 * S.2 + i then 0 else S.1 k) ∧ cd_frR h1 st.2) _ ?_ cd_fu 0 (nI (467 + 2 * S.2), o.2.2) (Nat.zero_le _) (by unfold cd_fu; omega) ⟨rfl, fun k hk => by rw [if_neg (by omega)]; exact o2 k hk, o3⟩
    rintro i ⟨v0, k1⟩ K hi ⟨hv0, hR, f1⟩
    dsimp only at hv0 hR f1
    subst hv0
    unfold f_X8_tellsDue_B112
    dsimp only
    rcases Nat.lt_or_ge i (659 - (467 + 2 * S.2)) with hlt | hge
    · left
      refine ⟨hlt, ?_⟩
      rw [if_neg (by rw [cd_leR (by omega) (by omega)]; omega), cd_ckI (by omega) (by omega), cd_cl (by omega), cd_nmE2, cd_nmE2, cd_addL]
      refine ⟨_, ⟨rfl, fun k hk => ?_, f1.tr (cd_frR.u (by omega))⟩, rfl⟩
      show cd_g (cd_u k1 405 (467 + 2 * S.2 + i) 0) 405 k = _
      by_cases z : k = 467 + 2 * S.2 + i
      · rw [cd_gE rfl z, if_pos (by omega)]
      · rw [cd_gN (by omega)]
        have := hR k hk
        dsimp only [cd_R] at this
        rw [this]
        by_cases y : 467 + 2 * S.2 ≤ k ∧ k < 467 + 2 * S.2 + i
        · rw [if_pos y, if_pos (by omega)]
        · rw [if_neg y, if_neg (by omega)]
    · right
      obtain rfl : i = 659 - (467 + 2 * S.2) := by omega
      rw [if_pos (by rw [cd_leR (by omega) (by omega)]; omega)]
      refine ⟨_, rfl, fun k hk => ?_, f1⟩
      rw [hR k hk]
      by_cases y : 467 + 2 * S.2 ≤ k
      · rw [if_pos y, if_pos (by omega)]
      · rw [if_neg y, if_neg (by omega)]
  obtain ⟨p, ep, p1, p2⟩ := hz
  rw [ep, cd_bS, cd_c466, cd_nmE2]
  exact ⟨_, rfl, cd_R_up p1, p2.tr (cd_frR.u (by omega))⟩
theorem cd_phaseT {A : Nat → Int32} {T τ w t b : Nat} (hM : cd_Ok (cd_M A T) τ) (hA : cd_TA A T τ w b) (hb : b + 64 ≤ 64 * τ) (hct : ∀ j, j ≤ 3 → cd_ct A (T + 1 + j) w ≤ 16 * (3 - j)) (ht : t ≤ 5) :
    ∃ E l, cd_Ok (cd_M E T) τ ∧ E 426 = nI T ∧ l ≤ 48 ∧ cd_Wt E T l ∧ (∀ j, j ≤ 3 → cd_ct E (T + 1 + j) l ≤ 16 * (3 - j)) ∧ (∀ k, k < 428 → E k = A k) ∧ (∀ h, cd_St 4 A h → ∃ h', f_X2_tellDue (4 + 8) (nI t) (nI T) h = some h' ∧ cd_St 4 E h' ∧ cd_fr 1 60 h h') ∧ ∀ h1, (∀ k, k < 659 → cd_R h1 k = A k) → ∃ h2, f_X8_tellsDue (nI t) h1 = some h2 ∧ (∀ k, k < 659 → cd_R h2 k = E k) ∧ cd_frR h1 h2 := by
  have m : ∀ k, k ≠ 426 → k ≠ 466 → A k = cd_M A T k := fun k z1 z2 => (cd_MN z1 z2).symm
  obtain ⟨a1, a2, a3, a4, a5, a6, a7⟩ := id hA
  have zA : cd_Sz A := by
    have h6 := hM.sz.1
    refine ⟨by rw [cd_n.of (m 70 (by omega) (by omega))]; exact h6, fun g hg => ?_, by rw [cd_n_nI a4.1 (by omega)]; exact a5, by rw [cd_n.of (m 429 (by omega) (by omega))]; exact hM.sz.2.2.2⟩
    rw [cd_n.of (m 70 (by omega) (by omega))] at hg
    rw [cd_n.of (m _ (by omega) (by omega))]
    exact hM.sz.2.1 g hg
  have hI := cd_td_ok hA ht w (Nat.le_refl _)
  have eC := fun h x => cd_tellC (h := h) hA zA ht x
  have eR := fun h1 hr => cd_tellR (h1 := h1) hA ht hr
  generalize cd_td A t T w = S at hI eC eR
  obtain ⟨i1, i2, i3, i4, i5, ⟨i6, i7, i8⟩⟩ := hI
  have lo : ∀ k, k < 466 → cd_tF S.1 S.2 k = S.1 k := fun k z1 => by unfold cd_tF; rw [cd_upN (by omega), if_neg (by omega)]
  have wt : ∀ i, i < S.2 → cd_tF S.1 S.2 (467 + 2 * i) = S.1 (467 + 2 * i) ∧ cd_tF S.1 S.2 (468 + 2 * i) = S.1 (468 + 2 * i) := fun i hi => by
    unfold cd_tF
    rw [cd_upN (by omega), cd_upN (by omega), if_neg (by omega), if_neg (by omega)]
    exact ⟨rfl, rfl⟩
  have c0 := hct 0 (by omega)
  refine ⟨cd_tF S.1 S.2, S.2, ?_, by rw [lo _ (by omega), i2 _ (by omega)]; exact a1, by rw [i5]; rw [Nat.add_zero] at c0; omega, ⟨by unfold cd_tF; exact cd_upE rfl, fun i hi => ⟨(i3 i hi).1.of (wt i hi).1, (i3 i hi).2.of (wt i hi).2⟩⟩, fun j hj => ?_, fun k hk => by rw [lo k (by omega)]; exact i2 k (by omega), fun h x => ?_, eR⟩
  · have eM : ∀ k, k < 428 → cd_M (cd_tF S.1 S.2) T k = cd_M A T k := fun k z1 => by
      by_cases z3 : k = 426
      · rw [z3, cd_M426, cd_M426]
      · rw [cd_MN z3 (by omega), cd_MN z3 (by omega), lo k (by omega)]; exact i2 k (by omega)
    obtain ⟨g0, ⟨g1, g1'⟩, g2, gT, gG, gGs, gQ, s1, s2, s3, s4, s5, s6⟩ := hM
    have h6 := gG.2
    have k12 := i7.2
    have eK : ∀ k, 428 ≤ k → k < 466 → cd_M (cd_tF S.1 S.2) T k = S.1 k := fun k z1 z2 => by rw [cd_MN (by omega) (by omega)]; exact lo k z2
    have e0 : cd_n (cd_M (cd_tF S.1 S.2) T) 466 = 0 := cd_n_nI (n := 0) cd_M466 (by omega)
    refine ⟨g0, ⟨g1.of (eM _ (by omega)), by rw [cd_n.of (eM 0 (by omega))]; exact g1'⟩, fun k hk => (g2 k hk).of (eM _ (by omega)), gT.on (fun k z1 z2 => eM k (by omega)), gG.of (eM _ (by omega)), fun g hg => ?_, gQ.on (fun k z1 z2 => eM k (by omega)) (Nat.le_of_eq (cd_n.of (eM 70 (by omega))).symm) (fun g hg => eM _ (by omega)), s1.of (eM _ (by omega)), s2.of (eM _ (by omega)), (i6.up (by omega)).of (eK _ (by omega) (by omega)), ⟨i7.of (eK _ (by omega) (by omega)), fun i hi => ?_⟩, ⟨cd_numI (n := 0) cd_M466 (by omega) (by omega), fun i hi => ?_⟩, fun j hj => ?_⟩
    · rw [cd_n.of (eM 70 (by omega))] at hg
      exact (gGs g hg).on (fun k z1 z2 => eM k (by omega)) (Nat.le_of_eq (cd_n.of (eM 9 (by omega))).symm) (Nat.le_of_eq (cd_n.of (eM 426 (by omega))).symm)
    · rw [cd_n.of (eK 429 (by omega) (by omega))] at hi
      obtain ⟨y1, y2, y3⟩ := i8 i hi
      exact ⟨y1.of (eK _ (by omega) (by omega)), y2.of (eK _ (by omega) (by omega)), y3.of (eK _ (by omega) (by omega))⟩
    · rw [e0] at hi; exact absurd hi (Nat.not_lt_zero _)
    · rw [e0]; exact Nat.zero_le _
  · rw [cd_ct_congr (A := S.1) _ (fun i hi => (wt i hi).2), i4 _ (by omega)]
    exact hct j hj
  · obtain ⟨h', e', s', f'⟩ := eC h x
    exact ⟨h', e', s', f'.wide (by omega) (by omega)⟩
