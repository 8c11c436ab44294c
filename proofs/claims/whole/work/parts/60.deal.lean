-- THE CLASS DEALS ITS COUNTERS
theorem cd_jcE_sz {A : Nat → Int32} {g : Nat} (z : cd_Sz A) (hg : g < 6) : ∀ e, e ≤ 4 → cd_Sz (cd_jcE A (71 + 58 * g) e) := by
  intro e
  induction e with
  | zero => intro _; exact z.upG hg (by omega) (by omega)
  | succ e ih => intro h; exact (ih (by omega)).up (by omega) (by omega) (by omega) (fun g' hg' => by omega)
theorem cd_leave {g : Nat} {A : Nat → Int32} {h : cd_Hp} (x : cd_St 4 A h) (z : cd_Sz A) (n5 : cd_num A (71 + 58 * g + 5) 4) (hg : g < cd_n A 70) : ∃ h', f_X0_leaveSeats (4 + 6 + 8 + 7 * g) h = some h' ∧ cd_St 4 (cd_jcE A (71 + 58 * g) (cd_n A (71 + 58 * g + 5))) h' ∧ cd_fr 4 60 h h' := by
  have h6 := z.1
  have h4 := n5.2
  unfold f_X0_leaveSeats
  rw [cd_nmE2]
  have hloop : ∃ o, cd_lp (f_X0_leaveSeats_B7 (4 + 6 + 8 + 7 * g)) cd_fu (0, cd_u h (4 + 6 + 8 + 7 * g) 5 0) = some o ∧ (cd_St 4 (cd_jcE A (71 + 58 * g) (cd_n A (71 + 58 * g + 5))) o.2 ∧ cd_fr 4 60 h o.2) := by
    refine cd_for (cd_n A (71 + 58 * g + 5)) (fun i (st : Int32 × cd_Hp) => st.1 = nI i ∧ cd_St 4 (cd_jcE A (71 + 58 * g) i) st.2 ∧ cd_fr 4 60 h st.2) _ ?_ cd_fu 0 (0, cd_u h (4 + 6 + 8 + 7 * g) 5 0) (Nat.zero_le _) (by unfold cd_fu; omega) ⟨rfl, x.pF z hg (by omega), cd_fr.u (by omega) (by omega)⟩
    rintro i ⟨v0, k1⟩ K hi ⟨hv0, hS, f1⟩
    dsimp only at hv0 hS f1
    subst hv0
    unfold f_X0_leaveSeats_B7
    dsimp only
    have e70 : cd_n (cd_jcE A (71 + 58 * g) i) 70 = cd_n A 70 := cd_n.of (cd_jcE_N i (by omega) (by omega))
    have e5 : cd_n (cd_jcE A (71 + 58 * g) i) (71 + 58 * g + 5) = cd_n A (71 + 58 * g + 5) := cd_n.of (cd_jcE_N i (by omega) (by omega))
    have e6 : cd_g k1 (4 + 6 + 8 + 7 * g) 6 = nI (cd_n A (71 + 58 * g + 5)) := by rw [(hS.2.2.2.1 g (by omega)).1.2.2.2.2.2.2.1, cd_jcE_N i (by omega) (by omega)]; exact n5.1
    rw [e6]
    rcases Nat.lt_or_ge i (cd_n A (71 + 58 * g + 5)) with hlt | hge
    · left
      refine ⟨hlt, ?_⟩
      rw [if_neg (by rw [cd_le (by omega) (by omega)]; omega), cd_ckI (by omega) (by omega), cd_cl (by omega), cd_nmE2, cd_nmE2, cd_addL]
      refine ⟨_, ⟨rfl, ?_, ?_⟩, rfl⟩
      · exact hS.pE (cd_jcE_sz z (by omega) i (by omega)) (by omega) (by omega) (Or.inr ⟨rfl, rfl⟩)
      · exact f1.tr (cd_fr.u (by omega) (by omega))
    · right
      obtain rfl : i = cd_n A (71 + 58 * g + 5) := by omega
      rw [if_pos (by rw [cd_le (by omega) (by omega)]; omega)]
      exact ⟨_, rfl, hS, f1⟩
  obtain ⟨o, eo, o1, o2⟩ := hloop
  rw [eo, cd_bS]
  exact ⟨_, rfl, o1, o2⟩
theorem cd_dealC {A : Nat → Int32} {τ : Nat} {a : Int32} {h : cd_Hp} (hA : cd_Ok A τ) (x : cd_St 4 A h) : ∃ o, cd_lp (f_X4_dealCounters_B13 4 a) cd_fu (0, h) = some o ∧ (cd_St 4 (cd_jc A (cd_n A 70)) o.2 ∧ cd_fr 4 60 h o.2) := by
  have hG := hA.2.2.2.2.1
  have h6 := hG.2
  refine cd_for (cd_n A 70) (fun i (st : Int32 × cd_Hp) => st.1 = nI i ∧ cd_St 4 (cd_jc A i) st.2 ∧ cd_fr 4 60 h st.2) _ ?_ cd_fu 0 (0, h) (Nat.zero_le _) (by unfold cd_fu; omega) ⟨rfl, x, cd_fr.rf⟩
  rintro i ⟨v0, k1⟩ K hi ⟨hv0, hS, f1⟩
  dsimp only at hv0 hS f1
  subst hv0
  unfold f_X4_dealCounters_B13
  dsimp only
  obtain ⟨c1, -, -⟩ := cd_jc_ja hA i hi
  have e70 : cd_n (cd_jc A i) 70 = cd_n A 70 := c1.n (by omega) (by omega)
  have e3 : cd_g k1 4 3 = nI (cd_n A 70) := by rw [hS.1.2.2.2.1, c1.eq (by omega) (by omega)]; exact hG.1
  rw [e3]
  rcases Nat.lt_or_ge i (cd_n A 70) with hlt | hge
  · left
    refine ⟨hlt, ?_⟩
    have hB := hA.ja c1
    have e5 : cd_n (cd_jc A i) (71 + 58 * i + 5) = cd_n A (71 + 58 * i + 5) := c1.n (by omega) (by omega)
    obtain ⟨h', e', s', f'⟩ := cd_leave hS hB.sz (hB.2.2.2.2.2.1 i (by omega)).2.2.2.2.2.1.1 (by omega)
    rw [if_neg (by rw [cd_le (by omega) (by omega)]; omega), cd_ckI (by omega) (by omega), cd_cl (by omega), e', cd_bS, cd_nmE2, cd_addL]
    rw [e5] at s'
    refine ⟨_, ⟨rfl, ?_, ?_⟩, rfl⟩
    · exact s'
    · exact f1.tr f'
  · right
    obtain rfl : i = cd_n A 70 := by omega
    rw [if_pos (by rw [cd_le (by omega) (by omega)]; omega)]
    exact ⟨_, rfl, hS, f1⟩
theorem cd_SeC.kept {B : Nat → Int32} {m : Nat} {es : Nat → Nat} {h h' : cd_Hp} (hs : cd_SeC B m es h) (e : ∀ x y, x < 4 → cd_g h' x y = cd_g h x y) : cd_SeC B m es h' := by
  refine ⟨by rw [e _ _ (by omega)]; exact hs.1, by rw [e _ _ (by omega)]; exact hs.2.1, fun j hj => ?_⟩
  rw [e _ _ (by omega)]; exact hs.2.2 j hj
/-- one group is asked to join -/
theorem cd_tryC {A : Nat → Int32} {τ g : Nat} {p : Bool} {S : cd_Tr} {h : cd_Hp} (hA : cd_Ok A τ) (hJ : cd_JI A S) (x : cd_St 4 S.1 h) (hs : cd_SeC S.1 S.2.1 S.2.2 h) (hg : g < cd_n A 70) :
    ∃ (v : Nat) (h' : cd_Hp), v ≤ 1 ∧ f_X3_take 1 (4 + 6 + 8 + 7 * g) (4 + 1) h = some (nI v, h') ∧ cd_fr 1 4 h h' ∧ (cd_jn p S g).1 = cd_jw p S.1 g v ∧ cd_SeC (cd_jn p S g).1 (cd_jn p S g).2.1 (cd_jn p S g).2.2 h' := by
  have hJ2 := hJ.jn (p := p) hA hg
  obtain ⟨j1, j2, j3, j4⟩ := hJ
  have h6 := hA.sz.1
  have hB := hA.ja j1
  have e70 : cd_n S.1 70 = cd_n A 70 := j1.n (by omega) (by omega)
  obtain ⟨r, h', e, f, hr⟩ := cd_take hB x j2 hs (g := g) (by omega)
  rcases hr with ⟨rfl, r1, r2⟩ | ⟨rfl, r1, r2⟩
  · refine ⟨1, h', by omega, e, f, ?_, ?_⟩
    · rw [cd_jnT r1]
    · have hE := j2.add (g := g) (by omega) (by have := cd_can_le r1; have := hB.2.1.1.2; omega)
      have y := hJ2.1
      rw [cd_jnT r1] at y ⊢
      exact r2.ja hA j1 y hE
  · refine ⟨0, h', by omega, e, f, ?_, ?_⟩
    · rw [cd_jnF r1]
    · have y := hJ2.1
      rw [cd_jnF r1] at y ⊢
      exact r2.ja hA j1 y j2
theorem cd_dealP {A : Nat → Int32} {τ W : Nat} {h : cd_Hp} (hA : cd_Ok A τ) (hW : W < 64) (x : cd_St 4 (cd_jP A W 0).1 h) (hs : cd_SeC (cd_jP A W 0).1 (cd_jP A W 0).2.1 (cd_jP A W 0).2.2 h) : ∃ o, cd_lp (f_X4_dealCounters_B38 4 (nI W)) cd_fu (0, h) = some o ∧ (cd_St 4 (cd_jP A W (cd_n A 70)).1 o.2 ∧ cd_SeC (cd_jP A W (cd_n A 70)).1 (cd_jP A W (cd_n A 70)).2.1 (cd_jP A W (cd_n A 70)).2.2 o.2 ∧ cd_fr 1 60 h o.2) := by
  have hG := hA.2.2.2.2.1
  have h6 := hG.2
  refine cd_for (cd_n A 70) (fun i (st : Int32 × cd_Hp) => st.1 = nI i ∧ cd_St 4 (cd_jP A W i).1 st.2 ∧ cd_SeC (cd_jP A W i).1 (cd_jP A W i).2.1 (cd_jP A W i).2.2 st.2 ∧ cd_fr 1 60 h st.2) _ ?_ cd_fu 0 (0, h) (Nat.zero_le _) (by unfold cd_fu; omega) ⟨rfl, x, hs, cd_fr.rf⟩
  rintro i ⟨v0, k1⟩ K hi ⟨hv0, hS, hse, f1⟩
  dsimp only at hv0 hS hse f1
  subst hv0
  unfold f_X4_dealCounters_B38
  dsimp only
  have hJ := cd_jP_ok (W := W) hA i hi
  have c1 := hJ.1
  have e70 : cd_n (cd_jP A W i).1 70 = cd_n A 70 := c1.n (by omega) (by omega)
  have e3 : cd_g k1 4 3 = nI (cd_n A 70) := by rw [hS.1.2.2.2.1, c1.eq (by omega) (by omega)]; exact hG.1
  rw [e3]
  rcases Nat.lt_or_ge i (cd_n A 70) with hlt | hge
  · left
    refine ⟨hlt, ?_⟩
    have e2 : cd_g k1 (4 + 6 + 8 + 7 * i) 2 = A (71 + 58 * i + 2) := by rw [(hS.2.2.2.1 i (by omega)).1.2.2.1, c1.eq (by omega) (by omega)]
    rw [if_neg (by rw [cd_le (by omega) (by omega)]; omega), cd_ckI (by omega) (by omega), cd_cl (by omega), e2, cd_bitIn i (by omega) W hW]
    have en : cd_jP A W (i + 1) = if W.testBit i = true ∧ A (71 + 58 * i + 2) = 1 then cd_jn true (cd_jP A W i) i else cd_jP A W i := rfl
    rcases cd_num01 ((hA.2.2.2.2.2.1 i hlt).2.2.1) with ⟨z, -⟩ | ⟨z, -⟩
    · rw [z, if_pos rfl, cd_nmE2, cd_addL]
      rw [z, if_neg (fun w => absurd w.2 (by decide))] at en
      exact ⟨_, ⟨rfl, by rw [en]; exact hS, by rw [en]; exact hse, f1⟩, rfl⟩
    · rw [z, if_neg (show ¬ (1 : Int32) = 0 by decide)]
      by_cases hb : W.testBit i = true
      · rw [z, if_pos ⟨hb, rfl⟩] at en
        rw [if_pos hb, if_neg (show ¬ (1 : Int32) = 0 by decide)]
        obtain ⟨v, h', hv, et, ft, ej, es⟩ := cd_tryC (p := true) hA hJ hS hse hlt
        rw [et, cd_bS]
        dsimp only
        have hS' : cd_St 4 (cd_jP A W i).1 h' := hS.kept (by omega) (fun y k w1 w2 => ft.1 _ _ (by omega))
        have sz := (hA.ja c1).sz
        rw [cd_nmE2, cd_gE rfl rfl, cd_ckT (cd_bo1 hv), cd_nmE2, cd_nmE2, cd_addL]
        refine ⟨_, ⟨rfl, ?_, ?_, ?_⟩, rfl⟩
        · rw [en, ej]
          exact (hS'.pF sz (by omega) (Or.inr (Or.inl ⟨rfl, rfl⟩))).pF (cd_Sz.upG sz (by omega) (by omega) (by omega)) (by rw [cd_n.of (cd_upN (by omega))]; omega) (Or.inl ⟨rfl, rfl⟩)
        · rw [en]
          exact es.kept (fun y k w => by dsimp only; rw [cd_gN (by omega), cd_gN (by omega)])
        · exact (f1.tr (ft.wide (by omega) (by omega))).tr ((cd_fr.u (by omega) (by omega)).tr (cd_fr.u (by omega) (by omega)))
      · rw [if_neg hb, if_pos rfl, cd_nmE2, cd_addL]
        rw [if_neg (fun w => hb w.1)] at en
        exact ⟨_, ⟨rfl, by rw [en]; exact hS, by rw [en]; exact hse, f1⟩, rfl⟩
  · right
    obtain rfl : i = cd_n A 70 := by omega
    rw [if_pos (by rw [cd_le (by omega) (by omega)]; omega)]
    exact ⟨_, rfl, hS, hse, f1⟩
theorem cd_dealQ {A : Nat → Int32} {τ W : Nat} {h : cd_Hp} (hA : cd_Ok A τ) (hW : W < 64) (x : cd_St 4 (cd_jQ A W 0).1 h) (hs : cd_SeC (cd_jQ A W 0).1 (cd_jQ A W 0).2.1 (cd_jQ A W 0).2.2 h) : ∃ o, cd_lp (f_X4_dealCounters_B100 4 (nI W)) cd_fu (0, h) = some o ∧ (cd_St 4 (cd_jQ A W (cd_n A 419)).1 o.2 ∧ cd_SeC (cd_jQ A W (cd_n A 419)).1 (cd_jQ A W (cd_n A 419)).2.1 (cd_jQ A W (cd_n A 419)).2.2 o.2 ∧ cd_fr 1 60 h o.2) := by
  have hG := hA.2.2.2.2.1
  have h6 := hG.2
  obtain ⟨q1, q2, q3⟩ := hA.2.2.2.2.2.2.1
  have ql := q1.2
  refine cd_for (cd_n A 419) (fun i (st : Int32 × cd_Hp) => st.1 = nI i ∧ cd_St 4 (cd_jQ A W i).1 st.2 ∧ cd_SeC (cd_jQ A W i).1 (cd_jQ A W i).2.1 (cd_jQ A W i).2.2 st.2 ∧ cd_fr 1 60 h st.2) _ ?_ cd_fu 0 (0, h) (Nat.zero_le _) (by unfold cd_fu; omega) ⟨rfl, x, hs, cd_fr.rf⟩
  rintro i ⟨v0, k1⟩ K hi ⟨hv0, hS, hse, f1⟩
  dsimp only at hv0 hS hse f1
  subst hv0
  unfold f_X4_dealCounters_B100
  dsimp only
  have hJ := cd_jQ_ok (W := W) hA i hi
  have c1 := hJ.1
  have e70 : cd_n (cd_jQ A W i).1 70 = cd_n A 70 := c1.n (by omega) (by omega)
  have e4 : cd_g k1 4 4 = nI (cd_n A 419) := by rw [hS.1.2.2.2.2, c1.eq (by omega) (by omega)]; exact q1.1
  rw [e4]
  rcases Nat.lt_or_ge i (cd_n A 419) with hlt | hge
  · left
    refine ⟨hlt, ?_⟩
    obtain ⟨l0, l1, l2⟩ := q2 i hlt
    have e7 : cd_g k1 (4 + 7) i = nI (cd_n A (420 + i)) := by rw [hS.2.2.2.2.1 i (by omega), c1.eq (by omega) (by omega)]; exact l0.1
    have en : cd_jQ A W (i + 1) = if W.testBit (cd_n A (420 + i)) = true then cd_jn false (cd_jQ A W i) (cd_n A (420 + i)) else cd_jQ A W i := rfl
    rw [if_neg (by rw [cd_le (by omega) (by omega)]; omega), cd_ckI (by omega) (by omega), cd_cl (by omega), e7, cd_ckI (by omega) (by omega), cd_ckI (by omega) (by omega), cd_bitIn _ (by omega) W hW, cd_cl (by omega)]
    by_cases hb : W.testBit (cd_n A (420 + i)) = true
    · rw [if_pos hb] at en
      rw [if_pos hb, if_neg (show ¬ (1 : Int32) = 0 by decide)]
      obtain ⟨v, h', hv, et, ft, ej, es⟩ := cd_tryC (p := false) hA hJ hS hse l1
      rw [et, cd_bS]
      dsimp only
      have hS' : cd_St 4 (cd_jQ A W i).1 h' := hS.kept (by omega) (fun y k w1 w2 => ft.1 _ _ (by omega))
      have sz := (hA.ja c1).sz
      rw [cd_nmE2, cd_nmE2, cd_addL]
      refine ⟨_, ⟨rfl, ?_, ?_, ?_⟩, rfl⟩
      · rw [en, ej]
        exact hS'.pF sz (by omega) (Or.inr (Or.inl ⟨rfl, rfl⟩))
      · rw [en]
        exact es.kept (fun y k w => by dsimp only; rw [cd_gN (by omega)])
      · exact (f1.tr (ft.wide (by omega) (by omega))).tr (cd_fr.u (by omega) (by omega))
    · rw [if_neg hb, if_pos rfl, cd_nmE2, cd_addL]
      rw [if_neg hb] at en
      exact ⟨_, ⟨rfl, by rw [en]; exact hS, by rw [en]; exact hse, f1⟩, rfl⟩
  · right
    obtain rfl : i = cd_n A 419 := by omega
    rw [if_pos (by rw [cd_le (by omega) (by omega)]; omega)]
    exact ⟨_, rfl, hS, hse, f1⟩
-- the seats are shown
section
variable {A B : Nat → Int32} {τ m : Nat} {es f : Nat → Nat} {h : cd_Hp}
theorem cd_showOf {n0 g : Nat} (hA : cd_Ok A τ) (xJ : cd_Ja A B) (hE : cd_Es B m es) (hf : ∀ j, f j ≤ 3) (hg : g < cd_n A 70) (hn : n0 + cd_n A (71 + 58 * g + 5) ≤ m) (he : ∀ e, e < cd_n A (71 + 58 * g + 5) → es (n0 + e) = 71 + 58 * g + 10 + 3 * e) (x : cd_St 4 (cd_sw B es f n0) h) (h3 : ∀ j, j < m → cd_g h 3 j = nI (f j)) : ∃ h', f_X4_showSeatsOf 4 (4 + 6 + 8 + 7 * g) (nI n0) h = some (nI (n0 + cd_n A (71 + 58 * g + 5)), h') ∧ cd_St 4 (cd_sw B es f (n0 + cd_n A (71 + 58 * g + 5))) h' ∧ cd_fr 4 60 h h' := by
  have h6 := hA.sz.1
  have m4 := hE.1
  have n5 := (hA.2.2.2.2.2.1 g hg).2.2.2.2.2.1.1
  unfold f_X4_showSeatsOf
  have hloop : ∃ o, cd_lp (f_X4_showSeatsOf_B5 4 (4 + 6 + 8 + 7 * g) (nI n0)) cd_fu (nI n0, 0, h) = some o ∧ (o.1 = nI (n0 + cd_n A (71 + 58 * g + 5)) ∧ cd_St 4 (cd_sw B es f (n0 + cd_n A (71 + 58 * g + 5))) o.2.2 ∧ cd_fr 4 60 h o.2.2) := by
    refine cd_for (cd_n A (71 + 58 * g + 5)) (fun i (st : Int32 × Int32 × cd_Hp) => st.1 = nI (n0 + i) ∧ st.2.1 = nI i ∧ cd_St 4 (cd_sw B es f (n0 + i)) st.2.2 ∧ cd_fr 4 60 h st.2.2) _ ?_ cd_fu 0 (nI n0, 0, h) (Nat.zero_le _) (by unfold cd_fu; omega) ⟨rfl, rfl, x, cd_fr.rf⟩
    rintro i ⟨v0, v1, k1⟩ K hi ⟨hv0, hv1, hS, f1⟩
    dsimp only at hv0 hv1 hS f1
    subst hv0 hv1
    unfold f_X4_showSeatsOf_B5
    dsimp only
    obtain ⟨c1, c2⟩ := cd_sw_ja hA xJ hE hf (n0 + i) (by omega)
    have e70 : cd_n (cd_sw B es f (n0 + i)) 70 = cd_n A 70 := c1.n (by omega) (by omega)
    have e5 : cd_n (cd_sw B es f (n0 + i)) (71 + 58 * g + 5) = cd_n A (71 + 58 * g + 5) := c1.n (by omega) (by omega)
    have e6 : cd_g k1 (4 + 6 + 8 + 7 * g) 6 = nI (cd_n A (71 + 58 * g + 5)) := by rw [(hS.2.2.2.1 g (by omega)).1.2.2.2.2.2.2.1, c1.eq (by omega) (by omega)]; exact n5.1
    rw [e6]
    rcases Nat.lt_or_ge i (cd_n A (71 + 58 * g + 5)) with hlt | hge
    · left
      refine ⟨hlt, ?_⟩
      rw [if_neg (by rw [cd_le (by omega) (by omega)]; omega), if_neg (by rw [cd_leR (by omega) (by omega)]; omega), cd_ckI (by omega) (by omega), cd_ckI (by omega) (by omega), cd_cl (by omega), cd_cl (by omega), f1.1 (1 + 2) _ (by omega), h3 _ (by omega), cd_nmE2, cd_nmE2, cd_nmE2, cd_addL, cd_addL]
      refine ⟨_, ⟨rfl, rfl, ?_, f1.tr (cd_fr.u (by omega) (by omega))⟩, rfl⟩
      show cd_St 4 (cd_up (cd_sw B es f (n0 + i)) (es (n0 + i) + 2) (nI (f (n0 + i)))) _
      rw [show es (n0 + i) + 2 = 71 + 58 * g + 12 + 3 * i by rw [he i hlt]; omega]
      exact hS.pE (hA.ja c1).sz (by omega) (by omega) (Or.inr ⟨rfl, rfl⟩)
    · right
      obtain rfl : i = cd_n A (71 + 58 * g + 5) := by omega
      rw [if_pos (by rw [cd_le (by omega) (by omega)]; omega)]
      exact ⟨_, rfl, rfl, hS, f1⟩
  obtain ⟨o, eo, o1, o2, o3⟩ := hloop
  rw [eo, cd_bS, o1]
  exact ⟨_, rfl, o2, o3⟩
theorem cd_show (hA : cd_Ok A τ) (xJ : cd_Ja A B) (hE : cd_Es B m es) (hf : ∀ j, f j ≤ 3) (hP : cd_EP B es (cd_n A 70)) (hQ : cd_EQ B es (cd_pP B (cd_n A 70)) (cd_n A 419)) (hm : m = cd_pP B (cd_n A 70) + cd_pQ B (cd_n A 419)) (x : cd_St 4 B h) (h3 : ∀ j, j < m → cd_g h 3 j = nI (f j)) : ∃ h', f_X4_showSeats 4 h = some h' ∧ cd_St 4 (cd_sw B es f m) h' ∧ cd_fr 4 60 h h' := by
  have hG := hA.2.2.2.2.1
  have h6 := hG.2
  have m4 := hE.1
  obtain ⟨q1, q2, q3⟩ := hA.2.2.2.2.2.2.1
  have ql := q1.2
  unfold f_X4_showSeats
  have hl1 : ∃ o, cd_lp (f_X4_showSeats_B4 4) cd_fu (0, 0, h) = some o ∧ (o.1 = nI (cd_pP B (cd_n A 70)) ∧ cd_St 4 (cd_sw B es f (cd_pP B (cd_n A 70))) o.2.2 ∧ cd_fr 4 60 h o.2.2) := by
    refine cd_for (cd_n A 70) (fun i (st : Int32 × Int32 × cd_Hp) => st.1 = nI (cd_pP B i) ∧ st.2.1 = nI i ∧ cd_St 4 (cd_sw B es f (cd_pP B i)) st.2.2 ∧ cd_fr 4 60 h st.2.2) _ ?_ cd_fu 0 (0, 0, h) (Nat.zero_le _) (by unfold cd_fu; omega) ⟨rfl, rfl, x, cd_fr.rf⟩
    rintro i ⟨v0, v1, k1⟩ K hi ⟨hv0, hv1, hS, f1⟩
    dsimp only at hv0 hv1 hS f1
    subst hv0 hv1
    unfold f_X4_showSeats_B4
    dsimp only
    have pm : cd_pP B i ≤ cd_pP B (cd_n A 70) := by
      have := cd_pP_le (B := B) (cd_n A 70 - i) i
      rw [show i + (cd_n A 70 - i) = cd_n A 70 by omega] at this
      exact this
    obtain ⟨c1, c2⟩ := cd_sw_ja hA xJ hE hf (cd_pP B i) (by omega)
    have e70 : cd_n (cd_sw B es f (cd_pP B i)) 70 = cd_n A 70 := c1.n (by omega) (by omega)
    have e3 : cd_g k1 4 3 = nI (cd_n A 70) := by rw [hS.1.2.2.2.1, c1.eq (by omega) (by omega)]; exact hG.1
    rw [e3]
    rcases Nat.lt_or_ge i (cd_n A 70) with hlt | hge
    · left
      refine ⟨hlt, ?_⟩
      have e2 : cd_g k1 (4 + 6 + 8 + 7 * i) 2 = B (71 + 58 * i + 2) := by rw [(hS.2.2.2.1 i (by omega)).1.2.2.1, c2 _ (by omega)]
      have e5 : cd_g k1 (4 + 6 + 8 + 7 * i) 5 = B (71 + 58 * i + 9) := by rw [(hS.2.2.2.1 i (by omega)).1.2.2.2.2.2.1, c2 _ (by omega)]
      have ev : cd_n B (71 + 58 * i + 5) = cd_n A (71 + 58 * i + 5) := xJ.n (by omega) (by omega)
      have ep : cd_pP B (i + 1) = cd_pP B i + if B (71 + 58 * i + 2) = 0 ∨ B (71 + 58 * i + 9) = 0 then 0 else cd_n B (71 + 58 * i + 5) := rfl
      rw [if_neg (by rw [cd_le (by omega) (by omega)]; omega), cd_ckI (by omega) (by omega), cd_cl (by omega), e2]
      by_cases z2 : B (71 + 58 * i + 2) = 0
      · rw [if_pos z2, cd_nmE2, cd_addL]
        rw [if_pos (Or.inl z2), Nat.add_zero (cd_pP B i)] at ep
        exact ⟨_, ⟨by rw [ep], rfl, by rw [ep]; exact hS, f1⟩, rfl⟩
      · rw [if_neg z2, cd_ckI (by omega) (by omega), e5]
        by_cases z9 : B (71 + 58 * i + 9) = 0
        · rw [if_pos z9, cd_nmE2, cd_addL]
          rw [if_pos (Or.inr z9), Nat.add_zero (cd_pP B i)] at ep
          exact ⟨_, ⟨by rw [ep], rfl, by rw [ep]; exact hS, f1⟩, rfl⟩
        · have hn : ¬ (B (71 + 58 * i + 2) = 0 ∨ B (71 + 58 * i + 9) = 0) := fun w => w.elim z2 z9
          rw [if_neg z9, cd_ckI (by omega) (by omega)]
          rw [if_neg hn, ev] at ep
          have pm2 : cd_pP B (i + 1) ≤ cd_pP B (cd_n A 70) := by
            have := cd_pP_le (B := B) (cd_n A 70 - (i + 1)) (i + 1)
            rw [show i + 1 + (cd_n A 70 - (i + 1)) = cd_n A 70 by omega] at this
            exact this
          obtain ⟨h', e', s', f'⟩ := cd_showOf (n0 := cd_pP B i) hA xJ hE hf hlt (by omega) (fun e he => hP i hlt hn e (by omega)) hS (fun j hj => by rw [f1.1 _ _ (by omega)]; exact h3 j hj)
          rw [e', cd_bS, cd_nmE2, cd_addL]
          exact ⟨_, ⟨by rw [ep], rfl, by rw [ep]; exact s', f1.tr f'⟩, rfl⟩
    · right
      obtain rfl : i = cd_n A 70 := by omega
      rw [if_pos (by rw [cd_le (by omega) (by omega)]; omega)]
      exact ⟨_, rfl, rfl, hS, f1⟩
  obtain ⟨o, eo, o1, o2, o3⟩ := hl1
  rw [eo, cd_bS, o1]
  have hl2 : ∃ p, cd_lp (f_X4_showSeats_B56 4) cd_fu (nI (cd_pP B (cd_n A 70)), 0, o.2.2) = some p ∧ (cd_St 4 (cd_sw B es f m) p.2.2 ∧ cd_fr 4 60 h p.2.2) := by
    refine cd_for (cd_n A 419) (fun i (st : Int32 × Int32 × cd_Hp) => st.1 = nI (cd_pP B (cd_n A 70) + cd_pQ B i) ∧ st.2.1 = nI i ∧ cd_St 4 (cd_sw B es f (cd_pP B (cd_n A 70) + cd_pQ B i)) st.2.2 ∧ cd_fr 4 60 h st.2.2) _ ?_ cd_fu 0 (nI (cd_pP B (cd_n A 70)), 0, o.2.2) (Nat.zero_le _) (by unfold cd_fu; omega) ⟨rfl, rfl, o2, o3⟩
    rintro i ⟨v0, v1, k1⟩ K hi ⟨hv0, hv1, hS, f1⟩
    dsimp only at hv0 hv1 hS f1
    subst hv0 hv1
    unfold f_X4_showSeats_B56
    dsimp only
    have pm : cd_pQ B i ≤ cd_pQ B (cd_n A 419) := by
      have := cd_pQ_le (B := B) (cd_n A 419 - i) i
      rw [show i + (cd_n A 419 - i) = cd_n A 419 by omega] at this
      exact this
    obtain ⟨c1, c2⟩ := cd_sw_ja hA xJ hE hf (cd_pP B (cd_n A 70) + cd_pQ B i) (by omega)
    have e70 : cd_n (cd_sw B es f (cd_pP B (cd_n A 70) + cd_pQ B i)) 70 = cd_n A 70 := c1.n (by omega) (by omega)
    have e4 : cd_g k1 4 4 = nI (cd_n A 419) := by rw [hS.1.2.2.2.2, c1.eq (by omega) (by omega)]; exact q1.1
    rw [e4]
    rcases Nat.lt_or_ge i (cd_n A 419) with hlt | hge
    · left
      refine ⟨hlt, ?_⟩
      obtain ⟨l0, l1, l2⟩ := q2 i hlt
      have nB : cd_n B (420 + i) = cd_n A (420 + i) := xJ.n (by omega) (by omega)
      have e7 : cd_g k1 (4 + 7) i = nI (cd_n A (420 + i)) := by rw [hS.2.2.2.2.1 i (by omega), c1.eq (by omega) (by omega)]; exact l0.1
      have e5 : cd_g k1 (4 + 6 + 8 + 7 * cd_n A (420 + i)) 5 = B (71 + 58 * cd_n A (420 + i) + 9) := by rw [(hS.2.2.2.1 _ (by omega)).1.2.2.2.2.2.1, c2 _ (by omega)]
      have ev : cd_n B (71 + 58 * cd_n A (420 + i) + 5) = cd_n A (71 + 58 * cd_n A (420 + i) + 5) := xJ.n (by omega) (by omega)
      have ep : cd_pQ B (i + 1) = cd_pQ B i + if B (71 + 58 * cd_n B (420 + i) + 9) = 0 then 0 else cd_n B (71 + 58 * cd_n B (420 + i) + 5) := rfl
      rw [nB] at ep
      rw [if_neg (by rw [cd_le (by omega) (by omega)]; omega), cd_ckI (by omega) (by omega), cd_cl (by omega), e7, cd_ckI (by omega) (by omega), cd_cl (by omega), e5]
      by_cases z9 : B (71 + 58 * cd_n A (420 + i) + 9) = 0
      · rw [if_pos z9, cd_nmE2, cd_addL]
        rw [if_pos z9, Nat.add_zero (cd_pQ B i)] at ep
        exact ⟨_, ⟨by rw [ep], rfl, by rw [ep]; exact hS, f1⟩, rfl⟩
      · rw [if_neg z9, cd_ckI (by omega) (by omega), cd_ckI (by omega) (by omega)]
        rw [if_neg z9, ev] at ep
        have pm2 : cd_pQ B (i + 1) ≤ cd_pQ B (cd_n A 419) := by
          have := cd_pQ_le (B := B) (cd_n A 419 - (i + 1)) (i + 1)
          rw [show i + 1 + (cd_n A 419 - (i + 1)) = cd_n A 419 by omega] at this
          exact this
        have hq := hQ i hlt
        rw [nB] at hq
        obtain ⟨h', e', s', f'⟩ := cd_showOf (n0 := cd_pP B (cd_n A 70) + cd_pQ B i) hA xJ hE hf l1 (by omega) (fun e he => hq z9 e (by omega)) hS (fun j hj => by rw [f1.1 _ _ (by omega)]; exact h3 j hj)
        rw [e', cd_bS, cd_nmE2, cd_addL]
        have ep2 : cd_pP B (cd_n A 70) + cd_pQ B (i + 1) = cd_pP B (cd_n A 70) + cd_pQ B i + cd_n A (71 + 58 * cd_n A (420 + i) + 5) := by omega
        exact ⟨_, ⟨by rw [ep2], rfl, by rw [ep2]; exact s', f1.tr f'⟩, rfl⟩
    · right
      obtain rfl : i = cd_n A 419 := by omega
      rw [if_pos (by rw [cd_le (by omega) (by omega)]; omega)]
      exact ⟨_, rfl, by rw [hm]; exact hS, f1⟩
  obtain ⟨p, ep, p1, p2⟩ := hl2
  rw [ep, cd_bS]
  exact ⟨_, rfl, p1, p2⟩
end
