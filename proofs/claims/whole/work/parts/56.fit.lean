-- FIT
theorem cd_hs6 : ∀ b, b < 64 → ∀ g, g < 6 → f_X4_isIn (nI b) (nI g) = (if b.testBit g = true then 1 else 0) ∧ f_X8_has (nI b) (nI g) = (if b.testBit g = true then 1 else 0) := by decide +kernel
theorem cd_free6 : ∀ n, n ≤ 6 → ((1 : Int32) <<< (nI n &&& 31)) - 1 = nI (2 ^ n - 1) ∧ 2 ^ n ≤ 64 ∧ 1 ≤ 2 ^ n := by decide +kernel
noncomputable def cd_ft (A : Nat → Int32) (b : Nat) : Nat → Option (Nat × (Nat → Nat))
  | 0 => some (0, fun _ => 0)
  | g + 1 => match cd_ft A b g with
    | none => none
    | some (m, es) => if b.testBit g = true then @ite _ (cd_can A (m + cd_n A (71 + 58 * g + 5)) (cd_ea es m (71 + 58 * g))) (Classical.propDecidable _) (some (m + cd_n A (71 + 58 * g + 5), cd_ea es m (71 + 58 * g))) none else some (m, es)
theorem cd_ft_none {A : Nat → Int32} {b : Nat} : ∀ k g, cd_ft A b g = none → cd_ft A b (g + k) = none := by
  intro k
  induction k with
  | zero => intro g h; exact h
  | succ k ih =>
    intro g h
    show (match cd_ft A b (g + k) with | none => none | some (m, es) => _) = none
    rw [ih g h]
theorem cd_ft_skip {A : Nat → Int32} {b g m : Nat} {es : Nat → Nat} (h : cd_ft A b g = some (m, es)) (hb : ¬ b.testBit g = true) : cd_ft A b (g + 1) = some (m, es) := by
  show (match cd_ft A b g with | none => none | some (m, es) => _) = _
  rw [h]
  dsimp only
  rw [if_neg hb]
theorem cd_ft_yes {A : Nat → Int32} {b g m : Nat} {es : Nat → Nat} (h : cd_ft A b g = some (m, es)) (hb : b.testBit g = true) (hc : cd_can A (m + cd_n A (71 + 58 * g + 5)) (cd_ea es m (71 + 58 * g))) : cd_ft A b (g + 1) = some (m + cd_n A (71 + 58 * g + 5), cd_ea es m (71 + 58 * g)) := by
  show (match cd_ft A b g with | none => none | some (m, es) => _) = _
  rw [h]
  dsimp only
  rw [if_pos hb, if_pos hc]
theorem cd_ft_no {A : Nat → Int32} {b g m : Nat} {es : Nat → Nat} (h : cd_ft A b g = some (m, es)) (hb : b.testBit g = true) (hc : ¬ cd_can A (m + cd_n A (71 + 58 * g + 5)) (cd_ea es m (71 + 58 * g))) : cd_ft A b (g + 1) = none := by
  show (match cd_ft A b g with | none => none | some (m, es) => _) = _
  rw [h]
  dsimp only
  rw [if_pos hb, if_neg hc]
theorem cd_fitC {A : Nat → Int32} {b τ : Nat} {h : cd_Hp} (hA : cd_Ok A τ) (x : cd_St 4 A h) (hb : b < 64) (hs : cd_SeC A 0 (fun _ => 0) h) :
    ∃ p, cd_lp (f_X4_fitFact_B32 4 (nI b)) cd_fu (0, h) = some p ∧ ((∃ h', p = .inl (0, h') ∧ cd_fr 1 4 h h' ∧ cd_ft A b (cd_n A 70) = none) ∨ (∃ a h', p = .inr (a, h') ∧ cd_fr 1 4 h h' ∧ cd_ft A b (cd_n A 70) ≠ none)) := by
  have hG := hA.2.2.2.2.1
  have h6 := hG.2
  refine cd_for (cd_n A 70) (fun i (st : Int32 × cd_Hp) => st.1 = nI i ∧ cd_fr 1 4 h st.2 ∧ ∃ m es, cd_ft A b i = some (m, es) ∧ cd_Es A m es ∧ cd_SeC A m es st.2) _ ?_ cd_fu 0 (0, h) (Nat.zero_le _) (by unfold cd_fu; omega) ⟨rfl, cd_fr.rf, 0, _, rfl, ⟨by omega, fun j hj => absurd hj (by omega)⟩, hs⟩
  rintro i ⟨v0, k1⟩ K hi ⟨hv0, f1, m, es, et, hE, hse⟩
  dsimp only at hv0 f1 hse
  subst hv0
  unfold f_X4_fitFact_B32
  dsimp only
  have xk : cd_St 4 A k1 := x.kept h6 (fun y k z1 z2 => f1.1 _ _ (by omega))
  have e3 : cd_g k1 4 3 = nI (cd_n A 70) := by rw [xk.1.2.2.2.1]; exact hG.1
  rw [e3]
  rcases Nat.lt_or_ge i (cd_n A 70) with hlt | hge
  · rw [if_neg (by rw [cd_le (by omega) (by omega)]; omega), (cd_hs6 b hb i (by omega)).1]
    by_cases hbi : b.testBit i = true
    · rw [if_pos hbi, if_neg (show ¬ (1 : Int32) = 0 by decide), cd_ckI (by omega) (by omega), cd_cl (by omega)]
      obtain ⟨r, h', e, g1, g2⟩ := cd_take hA xk hE hse hlt
      rw [e, cd_bS]
      rcases g2 with ⟨rfl, g3, g4⟩ | ⟨rfl, g3, g4⟩
      · left
        rw [if_neg (show ¬ (1 : Int32) = 0 by decide), cd_nmE2, cd_addL]
        have := cd_can_le g3
        have n4 := hA.2.1.1.2
        exact ⟨hlt, _, ⟨rfl, f1.tr g1, _, _, cd_ft_yes et hbi g3, hE.add hlt (by omega), g4⟩, rfl⟩
      · right
        rw [if_pos rfl]
        refine ⟨_, rfl, Or.inl ⟨h', rfl, f1.tr g1, ?_⟩⟩
        have := cd_ft_none (cd_n A 70 - (i + 1)) (i + 1) (cd_ft_no et hbi g3)
        rw [show i + 1 + (cd_n A 70 - (i + 1)) = cd_n A 70 by omega] at this
        exact this
    · left
      rw [if_neg hbi, if_pos rfl, cd_nmE2, cd_addL]
      exact ⟨hlt, _, ⟨rfl, f1, _, _, cd_ft_skip et hbi, hE, hse⟩, rfl⟩
  · right
    obtain rfl : i = cd_n A 70 := by omega
    rw [if_pos (by rw [cd_le (by omega) (by omega)]; omega)]
    exact ⟨_, rfl, Or.inr ⟨_, _, rfl, f1, by rw [et]; exact fun z => by cases z⟩⟩
theorem cd_fitR {A : Nat → Int32} {b τ : Nat} {h : cd_Hp} (hA : cd_Ok A τ) (hr : ∀ k, k < 659 → cd_R h k = A k) (hb : b < 64) (hs : cd_g h 404 9 = 0) :
    ∃ p, cd_lp (f_X8_fitOf_B7 (nI b)) cd_fu (0, h) = some p ∧ ((∃ h', p = .inl (0, h') ∧ (∀ x y, x ≠ 410 → x ≠ 411 → x ≠ 412 → ¬ (x = 404 ∧ y = 9) → cd_g h' x y = cd_g h x y) ∧ cd_ft A b (cd_n A 70) = none) ∨ (∃ a h', p = .inr (a, h') ∧ (∀ x y, x ≠ 410 → x ≠ 411 → x ≠ 412 → ¬ (x = 404 ∧ y = 9) → cd_g h' x y = cd_g h x y) ∧ cd_ft A b (cd_n A 70) ≠ none)) := by
  have hG := hA.2.2.2.2.1
  have h6 := hG.2
  refine cd_for (cd_n A 70) (fun i (st : Int32 × cd_Hp) => st.1 = nI i ∧ (∀ x y, x ≠ 410 → x ≠ 411 → x ≠ 412 → ¬ (x = 404 ∧ y = 9) → cd_g st.2 x y = cd_g h x y) ∧ ∃ m es, cd_ft A b i = some (m, es) ∧ cd_Es A m es ∧ cd_SeR A m es st.2) _ ?_ cd_fu 0 (0, h) (Nat.zero_le _) (by unfold cd_fu; omega) ⟨rfl, fun _ _ _ _ _ _ => rfl, 0, _, rfl, ⟨by omega, fun j hj => absurd hj (by omega)⟩, hs, fun j hj => absurd hj (by omega)⟩
  rintro i ⟨v0, k1⟩ K hi ⟨hv0, f1, m, es, et, hE, hse⟩
  dsimp only at hv0 f1 hse
  subst hv0
  unfold f_X8_fitOf_B7
  dsimp only
  have rk : ∀ k, k < 659 → cd_R k1 k = A k := fun k z => (f1 _ _ (by omega) (by omega) (by omega) (by omega)).trans (hr k z)
  have e3 : cd_g k1 405 70 = nI (cd_n A 70) := (rk 70 (by omega)).trans hG.1
  rw [cd_c70, e3]
  rcases Nat.lt_or_ge i (cd_n A 70) with hlt | hge
  · rw [if_neg (by rw [cd_le (by omega) (by omega)]; omega), (cd_hs6 b hb i (by omega)).2]
    by_cases hbi : b.testBit i = true
    · rw [if_pos hbi, if_neg (show ¬ (1 : Int32) = 0 by decide)]
      obtain ⟨r, h', e, g1, -, g2⟩ := cd_joined rk hA hE hse hlt
      have f2 : ∀ x y, x ≠ 410 → x ≠ 411 → x ≠ 412 → ¬ (x = 404 ∧ y = 9) → cd_g h' x y = cd_g h x y := fun x y z1 z2 z3 z4 => (g1 x y z1 z2 z3 z4).trans (f1 x y z1 z2 z3 z4)
      rw [e, cd_bS]
      rcases g2 with ⟨rfl, g3, g4⟩ | ⟨rfl, g3, g4⟩
      · left
        rw [if_neg (show ¬ (1 : Int32) = 0 by decide), cd_nmE2, cd_addL]
        have := cd_can_le g3
        have n4 := hA.2.1.1.2
        exact ⟨hlt, _, ⟨rfl, f2, _, _, cd_ft_yes et hbi g3, hE.add hlt (by omega), g4⟩, rfl⟩
      · right
        rw [if_pos rfl]
        refine ⟨_, rfl, Or.inl ⟨h', rfl, f2, ?_⟩⟩
        have := cd_ft_none (cd_n A 70 - (i + 1)) (i + 1) (cd_ft_no et hbi g3)
        rw [show i + 1 + (cd_n A 70 - (i + 1)) = cd_n A 70 by omega] at this
        exact this
    · left
      rw [if_neg hbi, if_pos rfl, cd_nmE2, cd_addL]
      exact ⟨hlt, _, ⟨rfl, f1, _, _, cd_ft_skip et hbi, hE, hse⟩, rfl⟩
  · right
    obtain rfl : i = cd_n A 70 := by omega
    rw [if_pos (by rw [cd_le (by omega) (by omega)]; omega)]
    exact ⟨_, rfl, Or.inr ⟨_, _, rfl, f1, by rw [et]; exact fun z => by cases z⟩⟩
theorem cd_Inv.keptF {n : Nat} {h h' : cd_Hp} (hI : cd_Inv n h) (hn : n < 512) (e : ∀ x k, ((4 ≤ x ∧ x < 404) ∨ x = 405 ∨ x = 407 ∨ x = 408 ∨ x = 409 ∨ (x = 404 ∧ (k = 3 ∨ k = 6))) → cd_g h' x k = cd_g h x k) : cd_Inv (n + 1) h' := by
  obtain ⟨s, nx, c, hs, t⟩ := hI
  refine ⟨s, nx, ?_, ?_, t.kept (by omega) (fun x k z => e x k (by omega))⟩
  · have c5 : cd_Cl (cd_R h) (cd_PR h) s nx (800 * (n + 1)) h' := (c.mono (by omega) (by omega)).kept (fun x k w1 w2 => e _ _ (by omega))
    exact c5.row (fun k hk => e _ _ (by omega)) (fun j k hj hk => e _ _ (by omega))
  · rw [e _ _ (by omega)]; exact hs
theorem cd_openC {A : Nat → Int32} {τ : Nat} {h : cd_Hp} (hA : cd_Ok A τ) (x : cd_St 4 A h) : cd_fr 1 4 h (f_X3_open 1 (cd_g h 4 0) h) ∧ cd_St 4 A (f_X3_open 1 (cd_g h 4 0) h) ∧ cd_SeC A 0 (fun _ => 0) (f_X3_open 1 (cd_g h 4 0) h) := by
  have n4 := hA.2.1.1
  have h6 := hA.2.2.2.2.1.2
  have e0 : cd_g h 4 0 = nI (cd_n A 0) := by rw [x.1.1]; exact n4.1
  unfold f_X3_open
  rw [e0, (cd_free _ n4.2).1]
  simp only [cd_nmE2]
  have f : cd_fr 1 4 h (cd_u (cd_u h 1 0 0) 1 1 (nI (2 ^ cd_n A 0 - 1))) := (cd_fr.u (by omega) (by omega)).tr (cd_fr.u (by omega) (by omega))
  refine ⟨f, x.kept h6 (fun y k z1 z2 => f.1 _ _ (by omega)), ?_, cd_gE rfl rfl, fun j hj => absurd hj (by omega)⟩
  rw [cd_gN (by omega), cd_gE rfl rfl]
  rfl
theorem cd_call17 {n : Nat} {h : cd_Hp} (hI : cd_Inv n h) (hn : n < 512) : cd_q17 cd_Inv n h := by
  intro a1
  have hI2 := hI
  obtain ⟨s, nx, c, hs, t⟩ := hI2
  obtain ⟨-, ⟨hO, hSt⟩, -⟩ := c
  have hG := hO.2.2.2.2.1
  have h6 := hG.2
  obtain ⟨w1, w2, w3⟩ := cd_free6 _ h6
  have e3 : cd_g h 4 3 = nI (cd_n (cd_R h) 70) := by rw [hSt.1.2.2.2.1]; exact hG.1
  have e8 : cd_g h 405 70 = nI (cd_n (cd_R h) 70) := hG.1
  have v7 : f_X7_isWithin a1 0 (nI (2 ^ cd_n (cd_R h) 70 - 1)) = _ := cd_in7x 0 _ (Nat.zero_le _) (by omega)
  have v8 : f_X8_in a1 0 (nI (2 ^ cd_n (cd_R h) 70 - 1)) = _ := cd_in8x 0 _ (Nat.zero_le _) (by omega)
  unfold f_X7_fit f_X8_fit f_X4_fitFact
  rw [e3, w1, v7]
  by_cases hv : ∃ v, v < 2 ^ cd_n (cd_R h) 70 - 1 + 1 ∧ (0 ≤ v ∧ a1 = nI v)
  · rw [if_pos hv, if_neg (show ¬ (1 : Int32) = 0 by decide), cd_nmE2]
    obtain ⟨b, hb, -, rfl⟩ := id hv
    obtain ⟨o1, o2, o3⟩ := cd_openC hO hSt
    obtain ⟨p, ep, hp⟩ := cd_fitC hO o2 (by omega : b < 64) o3
    rw [ep]
    have fin : ∀ (r : Int32) (h' : cd_Hp), cd_nr r → cd_fr 1 4 h h' → (cd_ft (cd_R h) b (cd_n (cd_R h) 70) = none ∧ r = 0 ∨ cd_ft (cd_R h) b (cd_n (cd_R h) 70) ≠ none ∧ r = 1) → ∃ (r' : Int32) (k1 k2 : cd_Hp), cd_b (some (r, h')) (fun o1 => cd_b (f_X7_answer o1.1 o1.2) (fun o3 => some (o3.1, o3.2))) = some (r', k1) ∧ (if f_X8_in (nI b) 0 ((1 <<< (cd_g k1 405 (Int32.toNatClampNeg 70) &&& 31)) - 1) = 0 then cd_nm (f_X8_bad k1) (fun o3 => some (o3.1, o3.2)) else cd_b (f_X8_fitOf (nI b) k1) (fun o5 => some (o5.1, o5.2))) = some (r', k2) ∧ cd_Inv (n + 1) k2 := by
      intro r h' hr hf hcase
      refine ⟨r, h', ?_⟩
      have e8' : cd_g h' 405 70 = nI (cd_n (cd_R h) 70) := by rw [hf.1 _ _ (by omega)]; exact e8
      unfold f_X8_fitOf
      rw [cd_bS, cd_answer_ok hr, cd_c70, e8', w1, v8, if_pos hv, if_neg (show ¬ (1 : Int32) = 0 by decide), cd_nmE2]
      obtain ⟨p2, ep2, hp2⟩ := cd_fitR (A := cd_R h) (h := cd_u h' 404 9 0) hO (fun k z => by show cd_g _ 405 k = cd_g h 405 k; rw [cd_gN (by omega), hf.1 _ _ (by omega)]) (by omega : b < 64) (cd_gE rfl rfl)
      rw [ep2]
      rcases hp2 with ⟨h2, rfl, y1, y2⟩ | ⟨a, h2, rfl, y1, y2⟩
      · rw [cd_b2L]
        refine ⟨h2, rfl, ?_, ?_⟩
        · rcases hcase with ⟨-, rfl⟩ | ⟨z, -⟩
          · rfl
          · exact absurd y2 z
        · exact hI.keptF hn (fun x k z => by rw [y1 _ _ (by omega) (by omega) (by omega) (by omega), cd_gN (by omega), hf.1 _ _ (by omega)])
      · rw [cd_b2R]
        refine ⟨h2, rfl, ?_, ?_⟩
        · rcases hcase with ⟨z, -⟩ | ⟨-, rfl⟩
          · exact absurd z y2
          · rfl
        · exact hI.keptF hn (fun x k z => by rw [y1 _ _ (by omega) (by omega) (by omega) (by omega), cd_gN (by omega), hf.1 _ _ (by omega)])
    rcases hp with ⟨h', rfl, q1, q2⟩ | ⟨a, h', rfl, q1, q2⟩
    · rw [cd_b2L]
      exact fin 0 h' (cd_nr_nI (n := 0) (by omega)) (o1.tr q1) (Or.inl ⟨q2, rfl⟩)
    · rw [cd_b2R]
      exact fin 1 h' (cd_nr_nI (n := 1) (by omega)) (o1.tr q1) (Or.inr ⟨q2, rfl⟩)
  · rw [if_neg hv, if_pos rfl, cd_bS]
    dsimp only
    rw [cd_answer_no (r := -2) (i := 0) (by omega) (by decide), cd_bS]
    refine ⟨_, _, _, rfl, ?_, cd_get_no hI hn (i := 0) (by omega)⟩
    rw [cd_c70, cd_gN (by omega), e8, w1, v8, if_neg hv, if_pos rfl, cd_nmE2]
    rfl
