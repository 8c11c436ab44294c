-- THE REFERENCE'S: who is on
theorem cd_clear8G {A B : Nat → Int32} {τ g : Nat} {h1 : cd_Hp} (hA : cd_Ok A τ) (xJ : cd_Ja A B) (hg : g < cd_n A 70) (hr : ∀ k, k < 659 → cd_R h1 k = cd_up B (71 + 58 * g + 9) 0 k) : ∃ o, cd_lp (f_X8_clears_B33 (nI g)) cd_fu (0, h1) = some o ∧ ((∀ k, k < 659 → cd_R o.2 k = cd_jcE B (71 + 58 * g) (cd_n A (71 + 58 * g + 5)) k) ∧ ∀ x y, x ≠ 405 → cd_g o.2 x y = cd_g h1 x y) := by
  have h6 := hA.sz.1
  have n5 := (hA.2.2.2.2.2.1 g hg).2.2.2.2.2.1.1
  have h4 := n5.2
  refine cd_for (cd_n A (71 + 58 * g + 5)) (fun i (st : Int32 × cd_Hp) => st.1 = nI i ∧ (∀ k, k < 659 → cd_R st.2 k = cd_jcE B (71 + 58 * g) i k) ∧ ∀ x y, x ≠ 405 → cd_g st.2 x y = cd_g h1 x y) _ ?_ cd_fu 0 (0, h1) (Nat.zero_le _) (by unfold cd_fu; omega) ⟨rfl, hr, fun _ _ _ => rfl⟩
  rintro i ⟨v0, k1⟩ K hi ⟨hv0, hR, f1⟩
  dsimp only at hv0 hR f1
  subst hv0
  unfold f_X8_clears_B33
  dsimp only
  have e5 := cd_ofG hR (g := g) (w := 5) (by omega) (by omega)
  rw [cd_jcE_N i (by omega) (by omega), xJ.eq (by omega) (by omega), n5.1] at e5
  rw [show (5 : Int32) = nI 5 from rfl, e5, cd_bS]
  rcases Nat.lt_or_ge i (cd_n A (71 + 58 * g + 5)) with hlt | hge
  · left
    refine ⟨hlt, ?_⟩
    rw [if_neg (by rw [cd_le (by omega) (by omega)]; omega), cd_eventAt, cd_addL, cd_ckI (by omega) (by omega), cd_cl (by omega), cd_nmE2, cd_nmE2, cd_addL, show 71 + 58 * g + 10 + 3 * i + 2 = 71 + 58 * g + 12 + 3 * i by omega]
    exact ⟨_, ⟨rfl, cd_R_up hR, fun a b z => by dsimp only; rw [cd_gN (by omega)]; exact f1 a b z⟩, rfl⟩
  · right
    obtain rfl : i = cd_n A (71 + 58 * g + 5) := by omega
    rw [if_pos (by rw [cd_le (by omega) (by omega)]; omega)]
    exact ⟨_, rfl, hR, f1⟩
theorem cd_clear8 {A : Nat → Int32} {τ : Nat} {h1 : cd_Hp} (hA : cd_Ok A τ) (hr : ∀ k, k < 659 → cd_R h1 k = A k) : ∃ h2, f_X8_clears h1 = some h2 ∧ (∀ k, k < 659 → cd_R h2 k = cd_jc A (cd_n A 70) k) ∧ cd_g h2 404 9 = 0 ∧ cd_frR h1 h2 := by
  have hG := hA.2.2.2.2.1
  have h6 := hG.2
  unfold f_X8_clears
  rw [cd_nmE2]
  have hloop : ∃ o, cd_lp f_X8_clears_B7 cd_fu (0, cd_u h1 404 9 0) = some o ∧ ((∀ k, k < 659 → cd_R o.2 k = cd_jc A (cd_n A 70) k) ∧ ∀ x y, x ≠ 405 → cd_g o.2 x y = cd_g (cd_u h1 404 9 0) x y) := by
    refine cd_for (cd_n A 70) (fun i (st : Int32 × cd_Hp) => st.1 = nI i ∧ (∀ k, k < 659 → cd_R st.2 k = cd_jc A i k) ∧ ∀ x y, x ≠ 405 → cd_g st.2 x y = cd_g (cd_u h1 404 9 0) x y) _ ?_ cd_fu 0 (0, cd_u h1 404 9 0) (Nat.zero_le _) (by unfold cd_fu; omega) ⟨rfl, fun k hk => by show cd_g (cd_u h1 404 9 0) 405 k = _; rw [cd_gN (by omega)]; exact hr k hk, fun _ _ _ => rfl⟩
    rintro i ⟨v0, k1⟩ K hi ⟨hv0, hR, f1⟩
    dsimp only at hv0 hR f1
    subst hv0
    unfold f_X8_clears_B7
    dsimp only
    obtain ⟨c1, -, -⟩ := cd_jc_ja hA i hi
    have e3 : cd_g k1 405 70 = nI (cd_n A 70) := by have := hR 70 (by omega); dsimp only [cd_R] at this; rw [this, c1.eq (by omega) (by omega)]; exact hG.1
    rw [cd_c70, e3]
    rcases Nat.lt_or_ge i (cd_n A 70) with hlt | hge
    · left
      refine ⟨hlt, ?_⟩
      rw [if_neg (by rw [cd_le (by omega) (by omega)]; omega), cd_groupAt, cd_addL, cd_ckI (by omega) (by omega), cd_cl (by omega), cd_nmE2]
      obtain ⟨o, eo, o1, o2⟩ := cd_clear8G hA c1 hlt (h1 := cd_u k1 405 (71 + 58 * i + 9) 0) (cd_R_up hR)
      rw [eo, cd_bS, cd_nmE2, cd_addL]
      exact ⟨(nI (i + 1), o.2), ⟨rfl, o1, fun a b z => by dsimp only; rw [o2 a b z, cd_gN (by omega)]; exact f1 a b z⟩, rfl⟩
    · right
      obtain rfl : i = cd_n A 70 := by omega
      rw [if_pos (by rw [cd_le (by omega) (by omega)]; omega)]
      exact ⟨_, rfl, hR, f1⟩
  obtain ⟨o, eo, o1, o2⟩ := hloop
  rw [eo, cd_bS]
  exact ⟨_, rfl, o1, by rw [o2 _ _ (by omega)]; exact cd_gE rfl rfl, fun x k z => by rw [o2 _ _ (by omega), cd_gN (by omega)]⟩
theorem cd_SeR.kept {B : Nat → Int32} {m : Nat} {es : Nat → Nat} {h h' : cd_Hp} (hs : cd_SeR B m es h) (e : ∀ x y, x = 404 ∨ x = 410 ∨ x = 411 → cd_g h' x y = cd_g h x y) : cd_SeR B m es h' := by
  refine ⟨by rw [e _ _ (by omega)]; exact hs.1, fun j hj => ?_⟩
  rw [e _ _ (by omega), e _ _ (by omega)]; exact hs.2 j hj
theorem cd_tryR {A : Nat → Int32} {τ g : Nat} {p : Bool} {S : cd_Tr} {h1 : cd_Hp} (hA : cd_Ok A τ) (hJ : cd_JI A S) (hr : ∀ k, k < 659 → cd_R h1 k = S.1 k) (hs : cd_SeR S.1 S.2.1 S.2.2 h1) (hg : g < cd_n A 70) :
    ∃ (v : Nat) (h' : cd_Hp), v ≤ 1 ∧ f_X8_isJoined (nI g) h1 = some (nI v, h') ∧ (∀ k, k < 659 → cd_R h' k = S.1 k) ∧ cd_frR h1 h' ∧ (cd_jn p S g).1 = cd_jw p S.1 g v ∧ cd_SeR (cd_jn p S g).1 (cd_jn p S g).2.1 (cd_jn p S g).2.2 h' := by
  have hJ2 := hJ.jn (p := p) hA hg
  obtain ⟨j1, j2, j3, j4⟩ := hJ
  have h6 := hA.sz.1
  have hB := hA.ja j1
  have e70 : cd_n S.1 70 = cd_n A 70 := j1.n (by omega) (by omega)
  obtain ⟨r, h', e, f, -, hr2⟩ := cd_joined hr hB j2 hs (g := g) (by omega)
  have fR : ∀ k, k < 659 → cd_R h' k = S.1 k := fun k z => (f 405 k (by omega) (by omega) (by omega) (by omega)).trans (hr k z)
  have fF : cd_frR h1 h' := fun x k z => f x k (by omega) (by omega) (by omega) (by omega)
  rcases hr2 with ⟨rfl, r1, r2⟩ | ⟨rfl, r1, r2⟩
  · refine ⟨1, h', by omega, e, fR, fF, ?_, ?_⟩
    · rw [cd_jnT r1]
    · have hE := j2.add (g := g) (by omega) (by have := cd_can_le r1; have := hB.2.1.1.2; omega)
      have y := hJ2.1
      rw [cd_jnT r1] at y ⊢
      exact r2.ja hA j1 y hE
  · refine ⟨0, h', by omega, e, fR, fF, ?_, ?_⟩
    · rw [cd_jnF r1]
    · have y := hJ2.1
      rw [cd_jnF r1] at y ⊢
      exact r2.ja hA j1 y j2
theorem cd_joinP {A : Nat → Int32} {τ W : Nat} {h1 : cd_Hp} (hA : cd_Ok A τ) (hW : W < 64) (hr : ∀ k, k < 659 → cd_R h1 k = (cd_jP A W 0).1 k) (hs : cd_SeR (cd_jP A W 0).1 (cd_jP A W 0).2.1 (cd_jP A W 0).2.2 h1) : ∃ o, cd_lp (f_X8_joins_B6 (nI W)) cd_fu (0, h1) = some o ∧ ((∀ k, k < 659 → cd_R o.2 k = (cd_jP A W (cd_n A 70)).1 k) ∧ cd_SeR (cd_jP A W (cd_n A 70)).1 (cd_jP A W (cd_n A 70)).2.1 (cd_jP A W (cd_n A 70)).2.2 o.2 ∧ cd_frR h1 o.2) := by
  have hG := hA.2.2.2.2.1
  have h6 := hG.2
  refine cd_for (cd_n A 70) (fun i (st : Int32 × cd_Hp) => st.1 = nI i ∧ (∀ k, k < 659 → cd_R st.2 k = (cd_jP A W i).1 k) ∧ cd_SeR (cd_jP A W i).1 (cd_jP A W i).2.1 (cd_jP A W i).2.2 st.2 ∧ cd_frR h1 st.2) _ ?_ cd_fu 0 (0, h1) (Nat.zero_le _) (by unfold cd_fu; omega) ⟨rfl, hr, hs, cd_frR.rf⟩
  rintro i ⟨v0, k1⟩ K hi ⟨hv0, hS, hse, f1⟩
  dsimp only at hv0 hS hse f1
  subst hv0
  unfold f_X8_joins_B6
  dsimp only
  have hJ := cd_jP_ok (W := W) hA i hi
  have c1 := hJ.1
  have e3 : cd_g k1 405 70 = nI (cd_n A 70) := by have := hS 70 (by omega); dsimp only [cd_R] at this; rw [this, c1.eq (by omega) (by omega)]; exact hG.1
  rw [cd_c70, e3]
  rcases Nat.lt_or_ge i (cd_n A 70) with hlt | hge
  · left
    refine ⟨hlt, ?_⟩
    have e2 := cd_ofG hS (g := i) (w := 2) (by omega) (by omega)
    rw [c1.eq (by omega) (by omega)] at e2
    rw [if_neg (by rw [cd_le (by omega) (by omega)]; omega), cd_bitHas i (by omega) W hW]
    have en : cd_jP A W (i + 1) = if W.testBit i = true ∧ A (71 + 58 * i + 2) = 1 then cd_jn true (cd_jP A W i) i else cd_jP A W i := rfl
    by_cases hb : W.testBit i = true
    · rw [if_pos hb, if_neg (show ¬ (1 : Int32) = 0 by decide), show (2 : Int32) = nI 2 from rfl, e2, cd_bS]
      by_cases z : A (71 + 58 * i + 2) = 1
      · rw [if_pos ⟨hb, z⟩] at en
        rw [if_pos z]
        obtain ⟨v, h', hv, et, fR, fF, ej, es⟩ := cd_tryR (p := true) hA hJ hS hse hlt
        rw [et, cd_bS, cd_groupAt, cd_addL, cd_addL]
        dsimp only
        have fin : cd_frR h1 (cd_u (cd_u h' 405 (71 + 58 * i + 9) (nI v)) 405 (71 + 58 * i + 4) (nI v)) := (f1.tr fF).tr ((cd_frR.u (by omega)).tr (cd_frR.u (by omega)))
        have hR3 : ∀ k, k < 659 → cd_R (cd_u (cd_u h' 405 (71 + 58 * i + 9) (nI v)) 405 (71 + 58 * i + 4) (nI v)) k = (cd_jP A W (i + 1)).1 k := by
          rw [en, ej]
          exact cd_R_up (cd_R_up fR)
        have hs3 : cd_SeR (cd_jP A W (i + 1)).1 (cd_jP A W (i + 1)).2.1 (cd_jP A W (i + 1)).2.2 (cd_u (cd_u h' 405 (71 + 58 * i + 9) (nI v)) 405 (71 + 58 * i + 4) (nI v)) := by
          rw [en]
          exact es.kept (fun y k w => by rw [cd_gN (by omega), cd_gN (by omega)])
        have hv01 : v = 0 ∨ v = 1 := by omega
        rcases hv01 with rfl | rfl
        · rw [if_pos (show nI 0 = (0 : Int32) from rfl), cd_ckI (by omega) (by omega), cd_cl (by omega), cd_nmE2, if_pos (show nI 0 = (0 : Int32) from rfl), cd_ckI (by omega) (by omega), cd_cl (by omega), cd_nmE2, cd_nmE2, cd_addL]
          exact ⟨_, ⟨rfl, hR3, hs3, fin⟩, rfl⟩
        · rw [if_neg (show ¬ nI 1 = (0 : Int32) by decide), cd_ckI (by omega) (by omega), cd_cl (by omega), cd_nmE2, if_neg (show ¬ nI 1 = (0 : Int32) by decide), cd_ckI (by omega) (by omega), cd_cl (by omega), cd_nmE2, cd_nmE2, cd_addL]
          exact ⟨_, ⟨rfl, hR3, hs3, fin⟩, rfl⟩
      · rw [if_neg z, cd_nmE2, cd_addL]
        rw [if_neg (fun w => z w.2)] at en
        exact ⟨_, ⟨rfl, by rw [en]; exact hS, by rw [en]; exact hse, f1⟩, rfl⟩
    · rw [if_neg hb, if_pos rfl, cd_nmE2, cd_addL]
      rw [if_neg (fun w => hb w.1)] at en
      exact ⟨_, ⟨rfl, by rw [en]; exact hS, by rw [en]; exact hse, f1⟩, rfl⟩
  · right
    obtain rfl : i = cd_n A 70 := by omega
    rw [if_pos (by rw [cd_le (by omega) (by omega)]; omega)]
    exact ⟨_, rfl, hS, hse, f1⟩
theorem cd_joinQ {A : Nat → Int32} {τ W : Nat} {h1 : cd_Hp} (hA : cd_Ok A τ) (hW : W < 64) (hr : ∀ k, k < 659 → cd_R h1 k = (cd_jQ A W 0).1 k) (hs : cd_SeR (cd_jQ A W 0).1 (cd_jQ A W 0).2.1 (cd_jQ A W 0).2.2 h1) : ∃ o, cd_lp (f_X8_joins_B90 (nI W)) cd_fu (1, h1) = some o ∧ ((∀ k, k < 659 → cd_R o.2 k = (cd_jQ A W (cd_n A 419)).1 k) ∧ cd_SeR (cd_jQ A W (cd_n A 419)).1 (cd_jQ A W (cd_n A 419)).2.1 (cd_jQ A W (cd_n A 419)).2.2 o.2 ∧ cd_frR h1 o.2) := by
  have hG := hA.2.2.2.2.1
  have h6 := hG.2
  obtain ⟨q1, q2, q3⟩ := hA.2.2.2.2.2.2.1
  have ql := q1.2
  refine cd_for (cd_n A 419) (fun i (st : Int32 × cd_Hp) => st.1 = nI (1 + i) ∧ (∀ k, k < 659 → cd_R st.2 k = (cd_jQ A W i).1 k) ∧ cd_SeR (cd_jQ A W i).1 (cd_jQ A W i).2.1 (cd_jQ A W i).2.2 st.2 ∧ cd_frR h1 st.2) _ ?_ cd_fu 0 (1, h1) (Nat.zero_le _) (by unfold cd_fu; omega) ⟨rfl, hr, hs, cd_frR.rf⟩
  rintro i ⟨v0, k1⟩ K hi ⟨hv0, hS, hse, f1⟩
  dsimp only at hv0 hS hse f1
  subst hv0
  unfold f_X8_joins_B90
  dsimp only
  have hJ := cd_jQ_ok (W := W) hA i hi
  have c1 := hJ.1
  have e4 : cd_g k1 405 419 = nI (cd_n A 419) := by have := hS 419 (by omega); dsimp only [cd_R] at this; rw [this, c1.eq (by omega) (by omega)]; exact q1.1
  rw [cd_c419, e4]
  rcases Nat.lt_or_ge i (cd_n A 419) with hlt | hge
  · left
    refine ⟨hlt, ?_⟩
    obtain ⟨l0, l1, l2⟩ := q2 i hlt
    have e7 : cd_g k1 405 (419 + (1 + i)) = nI (cd_n A (420 + i)) := by have := hS (419 + (1 + i)) (by omega); dsimp only [cd_R] at this; rw [this, show 419 + (1 + i) = 420 + i by omega, c1.eq (by omega) (by omega)]; exact l0.1
    have en : cd_jQ A W (i + 1) = if W.testBit (cd_n A (420 + i)) = true then cd_jn false (cd_jQ A W i) (cd_n A (420 + i)) else cd_jQ A W i := rfl
    rw [if_neg (by rw [cd_lt (by omega) (by omega)]; omega), cd_addR, cd_ckI (by omega) (by omega), cd_cl (by omega), e7, cd_nmE2, cd_bitHas _ (by omega) W hW]
    by_cases hb : W.testBit (cd_n A (420 + i)) = true
    · rw [if_pos hb] at en
      rw [if_pos hb, if_neg (show ¬ (1 : Int32) = 0 by decide)]
      obtain ⟨v, h', hv, et, fR, fF, ej, es⟩ := cd_tryR (p := false) hA hJ hS hse l1
      rw [et, cd_bS, cd_groupAt, cd_addL]
      dsimp only
      have fin : cd_frR h1 (cd_u h' 405 (71 + 58 * cd_n A (420 + i) + 9) (nI v)) := (f1.tr fF).tr (cd_frR.u (by omega))
      have hR3 : ∀ k, k < 659 → cd_R (cd_u h' 405 (71 + 58 * cd_n A (420 + i) + 9) (nI v)) k = (cd_jQ A W (i + 1)).1 k := by
        rw [en, ej]
        exact cd_R_up fR
      have hs3 : cd_SeR (cd_jQ A W (i + 1)).1 (cd_jQ A W (i + 1)).2.1 (cd_jQ A W (i + 1)).2.2 (cd_u h' 405 (71 + 58 * cd_n A (420 + i) + 9) (nI v)) := by
        rw [en]
        exact es.kept (fun y k w => by rw [cd_gN (by omega)])
      have hv01 : v = 0 ∨ v = 1 := by omega
      rcases hv01 with rfl | rfl
      · rw [if_pos (show nI 0 = (0 : Int32) from rfl), cd_ckI (by omega) (by omega), cd_cl (by omega), cd_nmE2, cd_nmE2, cd_addL]
        exact ⟨_, ⟨by dsimp only; rw [show 1 + i + 1 = 1 + (i + 1) by omega], hR3, hs3, fin⟩, rfl⟩
      · rw [if_neg (show ¬ nI 1 = (0 : Int32) by decide), cd_ckI (by omega) (by omega), cd_cl (by omega), cd_nmE2, cd_nmE2, cd_addL]
        exact ⟨_, ⟨by dsimp only; rw [show 1 + i + 1 = 1 + (i + 1) by omega], hR3, hs3, fin⟩, rfl⟩
    · rw [if_neg hb, if_pos rfl, cd_nmE2, cd_addL]
      rw [if_neg hb] at en
      exact ⟨_, ⟨by dsimp only; rw [show 1 + i + 1 = 1 + (i + 1) by omega], by rw [en]; exact hS, by rw [en]; exact hse, f1⟩, rfl⟩
  · right
    obtain rfl : i = cd_n A 419 := by omega
    rw [if_pos (by rw [cd_lt (by omega) (by omega)]; omega)]
    exact ⟨_, rfl, hS, hse, f1⟩
theorem cd_joinS {A B : Nat → Int32} {τ m : Nat} {a : Int32} {es f : Nat → Nat} {h1 : cd_Hp} (hA : cd_Ok A τ) (xJ : cd_Ja A B) (hE : cd_Es B m es) (hf : ∀ j, f j ≤ 3) (hr : ∀ k, k < 659 → cd_R h1 k = B k) (hs : cd_SeR B m es h1) (h3 : ∀ j, j < m → cd_g h1 412 j = nI (f j)) : ∃ o, cd_lp (f_X8_joins_B159 a 1) cd_fu (0, h1) = some o ∧ ((∀ k, k < 659 → cd_R o.2 k = cd_sw B es f m k) ∧ cd_frR h1 o.2) := by
  have m4 := hE.1
  refine cd_for m (fun j (st : Int32 × cd_Hp) => st.1 = nI j ∧ (∀ k, k < 659 → cd_R st.2 k = cd_sw B es f j k) ∧ ∀ x y, x ≠ 405 → cd_g st.2 x y = cd_g h1 x y) _ ?_ cd_fu 0 (0, h1) (Nat.zero_le _) (by unfold cd_fu; omega) ⟨rfl, hr, fun _ _ _ => rfl⟩
  rintro j ⟨v0, k1⟩ K hj ⟨hv0, hR, f1⟩
  dsimp only at hv0 hR f1
  subst hv0
  unfold f_X8_joins_B159
  dsimp only
  rw [f1 404 9 (by omega), hs.1]
  rcases Nat.lt_or_ge j m with hlt | hge
  · left
    refine ⟨hlt, ?_⟩
    obtain ⟨-, -, p1, p2, -⟩ := hE.nums (hA.ja xJ) hlt
    rw [if_neg (by rw [cd_le (by omega) (by omega)]; omega), if_neg (show ¬ (1 : Int32) = 0 by decide), cd_ckI (by omega) (by omega), cd_ckI (by omega) (by omega), cd_cl (by omega), f1 411 j (by omega), (hs.2 j hlt).2, f1 412 j (by omega), h3 j hlt, cd_addL, cd_ckI (by omega) (by omega), cd_cl (by omega), cd_nmE2, cd_nmE2, cd_addL]
    exact ⟨_, ⟨rfl, cd_R_up hR, fun a b z => by dsimp only; rw [cd_gN (by omega)]; exact f1 a b z⟩, rfl⟩
  · right
    obtain rfl : j = m := by omega
    rw [if_pos (by rw [cd_le (by omega) (by omega)]; omega)]
    exact ⟨_, rfl, hR, fun x k z => f1 x k (by omega)⟩
/-- all of it, on both sides -/
theorem cd_phaseJ {A : Nat → Int32} {τ W : Nat} (hA : cd_Ok A τ) (hW : W < 64) : ∃ B, cd_Ja A B ∧ cd_on B (cd_n A 70) ≤ 4 ∧ (∀ g, g < cd_n A 70 → B (71 + 58 * g + 9) = 1 → W.testBit g = true) ∧ (∀ h, cd_St 4 A h → ∃ h', f_X4_dealCounters 4 (nI W) h = some h' ∧ cd_St 4 B h' ∧ cd_fr 1 60 h h') ∧ ∀ h1, (∀ k, k < 659 → cd_R h1 k = A k) → ∃ h2, f_X8_joins (nI W) h1 = some h2 ∧ (∀ k, k < 659 → cd_R h2 k = B k) ∧ cd_frR h1 h2 := by
  have h6 := hA.sz.1
  obtain ⟨c1, c2, -⟩ := cd_jc_ja hA (cd_n A 70) (Nat.le_refl _)
  have hJ := cd_jQ_ok (W := W) hA (cd_n A 419) (Nat.le_refl _)
  obtain ⟨n1, n2, n3, -⟩ := cd_jQ_en (W := W) hA (cd_n A 419) (Nat.le_refl _)
  have hwt := cd_jQ_w (W := W) hA (cd_n A 419) (Nat.le_refl _)
  have eP := fun h x s => cd_dealP (h := h) hA hW x s
  have eQ := fun h x s => cd_dealQ (h := h) hA hW x s
  have rP := fun h x s => cd_joinP (h1 := h) hA hW x s
  have rQ := fun h x s => cd_joinQ (h1 := h) hA hW x s
  generalize hSS : cd_jQ A W (cd_n A 419) = S at *
  obtain ⟨j1, j2, j3, j4⟩ := hJ
  have hB := hA.ja j1
  have m4 := j2.1
  obtain ⟨v, hv⟩ : ∃ v, cd_fst (cd_wA S.1 S.2.2) (cd_n S.1 0) S.2.1 v := by
    obtain ⟨v, v1, v2⟩ := j3
    exact cd_fst_ex v v1 v2
  have hf : ∀ j, cd_dg S.2.1 v j ≤ 3 := fun j => by have := cd_dg_lt S.2.1 v j; omega
  obtain ⟨s1, s2⟩ := cd_sw_ja hA j1 j2 hf S.2.1 (Nat.le_refl _)
  refine ⟨cd_sw S.1 S.2.2 (cd_dg S.2.1 v) S.2.1, s1, ?_, fun g hg h1 => hwt g hg (by rw [s2 _ (by omega)] at h1; exact h1), fun h x => ?_, fun h1 hr => ?_⟩
  · rw [cd_on_eq (B := S.1) _ (fun g' hg' => s2 _ (by omega))]
    omega
  · unfold f_X4_dealCounters
    obtain ⟨o1, o2, o3⟩ := cd_openC hA x
    rw [cd_nmE2]
    generalize f_X3_open 1 (cd_g h 4 0) h = k0 at o1 o2 o3 ⊢
    obtain ⟨a, ea, a1, a2⟩ := cd_dealC (a := nI W) hA o2
    have sC : cd_SeC (cd_jP A W 0).1 (cd_jP A W 0).2.1 (cd_jP A W 0).2.2 a.2 := cd_SeC.kept (cd_SeC.ja hA (cd_Ja.rf hA) c1 ⟨Nat.zero_le _, fun j hj => absurd hj (Nat.not_lt_zero _)⟩ o3) (fun y k w => a2.1 _ _ (by omega))
    obtain ⟨b, eb, b1, b2, b3⟩ := eP a.2 a1 sC
    obtain ⟨c, ec, d1, d2, d3⟩ := eQ b.2 b1 b2
    rw [ea, cd_bS, eb, cd_bS, ec, cd_bS]
    unfold f_X3_sitAll
    obtain ⟨r, h', es, g1, g2, g3⟩ := cd_sit0 hB j2 d2
    rw [es, cd_bS, cd_bS]
    rcases g3 with ⟨-, v', w1, w2⟩ | ⟨-, w1⟩
    · obtain rfl := cd_fst_eq hv w1
      have fr3 : cd_fr 1 60 c.2 h' := ⟨fun y k z => g1 _ _ (by omega), g2⟩
      obtain ⟨h2, e2, t1, t2⟩ := cd_show hA j1 j2 hf n1 n2 n3 (d1.kept hB.sz.1 (fun y k z1 z2 => g1 _ _ (by omega))) w2
      rw [e2, cd_bS]
      exact ⟨h2, rfl, t1, ((((o1.wide (by omega) (by omega)).tr (a2.wide (by omega) (by omega))).tr b3).tr d3).tr (fr3.tr (t2.wide (by omega) (by omega)))⟩
    · exact absurd j3 w1
  · unfold f_X8_joins
    obtain ⟨k0, e0, r0, r9, f0⟩ := cd_clear8 hA hr
    rw [e0, cd_bS]
    obtain ⟨b, eb, b1, b2, b3⟩ := rP k0 r0 ⟨r9, fun j hj => absurd hj (Nat.not_lt_zero _)⟩
    obtain ⟨c, ec, d1, d2, d3⟩ := rQ b.2 b1 b2
    rw [eb, cd_bS, ec, cd_bS]
    obtain ⟨r, h', es, g1, g2, g3⟩ := cd_sit8 d1 hB j2 d2
    rw [es, cd_bS]
    rcases g3 with ⟨rfl, v', w1, w2⟩ | ⟨-, w1⟩
    · obtain rfl := cd_fst_eq hv w1
      obtain ⟨p, ep, t1, t2⟩ := cd_joinS (a := nI W) hA j1 j2 hf (h1 := h') (fun k z => (g1 405 k (by omega)).trans (d1 k z)) (d2.kept (fun y k z => g1 _ _ (by omega))) w2
      rw [ep, cd_bS]
      exact ⟨_, rfl, t1, ((f0.tr b3).tr d3).tr (cd_frR.tr (fun x k z => g1 _ _ (by omega)) t2)⟩
    · exact absurd j3 w1
