-- ORDERS ARE DONE, one by one
theorem cd_FR_le {S : Nat → Nat} : ∀ m a, cd_FR S a ≤ cd_FR S (a + m) := by
  intro m
  induction m with
  | zero => intro a; exact Nat.le_refl _
  | succ m ih => intro a; exact Nat.le_trans (ih a) (Nat.le_add_right _ _)
def cd_XD (P : cd_PS) (h : cd_Hp) : Prop := (∀ k, k < P.1.1 → cd_g h 413 k = nI (P.2.1 k)) ∧ (∀ k, k ≤ P.1.1 → cd_g h 414 k = nI (cd_FR P.2.2.1 k)) ∧ ∀ k, k < P.1.1 → ∀ j, j < P.2.2.1 k → cd_g h 415 (cd_FR P.2.2.1 k + j) = nI (P.2.2.2 (8 * k + j))
theorem cd_XD.kept {P : cd_PS} {h h' : cd_Hp} (x : cd_XD P h) (e : ∀ a b, 413 ≤ a → cd_g h' a b = cd_g h a b) : cd_XD P h' :=
  ⟨fun k hk => by rw [e _ _ (by omega)]; exact x.1 k hk, fun k hk => by rw [e _ _ (by omega)]; exact x.2.1 k hk, fun k hk j hj => by rw [e _ _ (by omega)]; exact x.2.2 k hk j hj⟩
theorem cd_XC.kept {P : cd_PS} {h h' : cd_Hp} (x : cd_XC P h) (e : ∀ a b, 398 ≤ a → a ≤ 402 → cd_g h' a b = cd_g h a b) : cd_XC P h' :=
  ⟨by rw [e _ _ (by omega) (by omega)]; exact x.1, by rw [e _ _ (by omega) (by omega)]; exact x.2.1, by rw [e _ _ (by omega) (by omega)]; exact x.2.2.1, fun k hk => by
    obtain ⟨y1, y2, y3⟩ := x.2.2.2 k hk
    exact ⟨by rw [e _ _ (by omega) (by omega)]; exact y1, by rw [e _ _ (by omega) (by omega)]; exact y2, fun j hj => by rw [e _ _ (by omega) (by omega)]; exact y3 j hj⟩⟩
/-- an order that was read -/
def cd_Or (P : cd_PS) (k : Nat) : Prop := k < P.1.1 ∧ P.1.1 ≤ 40 ∧ P.1.2.1 = 0 ∧ cd_mo (P.2.1 k) ≠ 0 ∧ cd_ls (P.2.1 k) ≤ P.2.2.1 k ∧ P.2.2.1 k ≤ cd_mo (P.2.1 k) ∧ (∀ j, j < P.2.2.1 k → P.2.2.2 (8 * k + j) ≤ 999) ∧ cd_FR P.2.2.1 k + P.2.2.1 k ≤ 120
theorem cd_WF.ord {P : cd_PS} {L k : Nat} (hw : cd_WF L P) (hL : L ≤ 120) (l0 : P.1.2.1 = 0) (hk : k < P.1.1) : cd_Or P k := by
  obtain ⟨w1, w2, w3, w4, w5, w6⟩ := hw
  obtain ⟨v1, v2, v3⟩ := w1 l0
  obtain ⟨u1, u2, u3⟩ := w5 k hk
  have f1 := cd_FR_le (S := P.2.2.1) (P.1.1 - (k + 1)) (k + 1)
  rw [show k + 1 + (P.1.1 - (k + 1)) = P.1.1 by omega] at f1
  have f2 : cd_FR P.2.2.1 (k + 1) = cd_FR P.2.2.1 k + P.2.2.1 k := rfl
  exact ⟨hk, by omega, l0, u1, u2, u3, w6 k (Or.inl hk), by omega⟩
section
variable {P : cd_PS} {k : Nat} {h : cd_Hp}
theorem cd_within {k n : Nat} (hk : k < n) (hn : n ≤ 1000) : f_X7_isWithin (nI k) 0 (nI n - 1) = 1 := by
  rw [cd_subL (by omega)]
  exact cd_in7t (a := 0) (b := n - 1) (Nat.zero_le _) (by omega) (by omega)
theorem cd_numsOf (o : cd_Or P k) (x : cd_XC P h) : f_X6_numbersOf 398 (nI k) h = some (nI (P.2.2.1 k)) := by
  unfold f_X6_numbersOf
  rw [x.1, cd_within o.1 (by have := o.2.1; omega), if_neg (by decide), cd_ckI (by have := o.1; have := o.2.1; omega) (by have := o.1; have := o.2.1; omega), cd_cl (by have := o.1; have := o.2.1; omega), (x.2.2.2 k (Or.inl o.1)).2.1]
theorem cd_letAt (o : cd_Or P k) (x : cd_XC P h) : f_X6_letterAt 398 (nI k) h = some (nI (P.2.1 k)) := by
  unfold f_X6_letterAt
  rw [x.1, cd_within o.1 (by have := o.2.1; omega), if_neg (by decide), cd_ckI (by have := o.1; have := o.2.1; omega) (by have := o.1; have := o.2.1; omega), cd_cl (by have := o.1; have := o.2.1; omega), (x.2.2.2 k (Or.inl o.1)).1]
theorem cd_numAt {j : Nat} (o : cd_Or P k) (x : cd_XC P h) (hj : j < 8) : f_X6_numberAt 398 (nI k) (nI j) h = some (if j < P.2.2.1 k then nI (P.2.2.2 (8 * k + j)) else -1) := by
  unfold f_X6_numberAt
  rw [cd_numsOf o x, cd_bS]
  obtain ⟨o1, o2, o3, o4, o5, o6, o7, o8⟩ := o
  have mo8 := (cd_mo_facts (P.2.1 k)).1
  have ls1 := ((cd_mo_facts (P.2.1 k)).2.2 o4).1
  by_cases z : j < P.2.2.1 k
  · rw [if_pos z, cd_within z (by omega), if_neg (by decide), cd_mulL, nI_add, cd_ckI (by omega) (by omega), cd_cl (by omega), show k * 8 + j = 8 * k + j by omega, (x.2.2.2 k (Or.inl o1)).2.2 j z]
  · have : f_X7_isWithin (nI j) 0 (nI (P.2.2.1 k) - 1) = 0 := by
      rw [cd_subL (by omega)]
      exact cd_in7f (a := 0) (b := P.2.2.1 k - 1) (by rintro ⟨v, z1, z2, z3⟩; rw [cd_eq (by omega) (by omega)] at z3; omega) (Nat.zero_le _) (by omega)
    rw [if_neg z, this, if_pos rfl]
/-- what an order comes to, on both sides -/
def cd_Od (P : cd_PS) (k τ : Nat) (A : Nat → Int32) : Prop :=
  (∃ A', cd_Ok A' (τ + 20) ∧ (∀ h, cd_St 4 A h → cd_XC P h → ∃ r h', f_X7_carryOut (nI k) h = some (r, h') ∧ cd_nr r ∧ cd_St 4 A' h' ∧ cd_fr 1 60 h h') ∧ ∀ h1, (∀ k, k < 659 → cd_R h1 k = A k) → cd_XD P h1 → ∃ h2, f_X8_obeys (nI k) h1 = some (1, h2) ∧ (∀ k, k < 659 → cd_R h2 k = A' k) ∧ cd_frR h1 h2) ∨
  ((∀ h, cd_St 4 A h → cd_XC P h → ∃ r h', f_X7_carryOut (nI k) h = some (r, h') ∧ f_X7_isRefusal r = 1 ∧ cd_fr 1 60 h h') ∧ ∀ h1, (∀ k, k < 659 → cd_R h1 k = A k) → cd_XD P h1 → ∃ h2, f_X8_obeys (nI k) h1 = some (0, h2) ∧ cd_frR h1 h2)
theorem cd_ref2 : f_X7_isRefusal (-2) = 1 ∧ f_X7_isRefusal (-3) = 1 ∧ f_X7_isRefusal (-4) = 1 := by decide
/-- the numbers of an order, as the reference has them -/
theorem cd_obeyE (o : cd_Or P k) (x : cd_XD P h) : cd_g h 414 k = nI (cd_FR P.2.2.1 k) ∧ cd_g h 414 (k + 1) = nI (cd_FR P.2.2.1 k + P.2.2.1 k) ∧ cd_g h 413 k = nI (P.2.1 k) ∧ ∀ j, j < P.2.2.1 k → cd_g h 415 (cd_FR P.2.2.1 k + j) = nI (P.2.2.2 (8 * k + j)) :=
  ⟨x.2.1 k (Nat.le_of_lt o.1), x.2.1 (k + 1) o.1, x.1 k o.1, x.2.2 k o.1⟩
end
theorem cd_od_m {P : cd_PS} {k τ : Nat} {A : Nat → Int32} (hA : cd_Ok A τ) (hτ : τ + 20 ≤ 500000) (o : cd_Or P k) (hc : P.2.1 k = 109) : cd_Od P k τ A := by
  obtain ⟨o1, o2, o3, o4, o5, o6, o7, o8⟩ := id o
  rw [hc] at o5 o6
  have s2 : P.2.2.1 k = 2 := by have e1 : cd_ls 109 = 2 := rfl; have e2 : cd_mo 109 = 2 := rfl; omega
  have hcl : ∀ h, cd_XC P h → f_X7_carryOut (nI k) h = f_X4_putMask 4 (nI (P.2.2.2 (8 * k))) (nI (P.2.2.2 (8 * k + 1))) h := fun h x => by
    have n0 := cd_numAt (j := 0) o x (by omega)
    have n1 := cd_numAt (j := 1) o x (by omega)
    have n2 := cd_numAt (j := 2) o x (by omega)
    have l := cd_letAt o x
    rw [if_pos (by omega)] at n0 n1
    rw [hc] at l
    unfold f_X7_carryOut
    rw [show f_X6_numberAt 398 (nI k) 0 h = _ from n0, cd_bS, show f_X6_numberAt 398 (nI k) 1 h = _ from n1, cd_bS, show f_X6_numberAt 398 (nI k) 2 h = _ from n2, cd_bS, l, cd_bS, if_neg (by decide), if_neg (by decide), if_neg (by decide), if_pos (by decide)]
    show cd_b (f_X4_putMask 4 (nI (P.2.2.2 (8 * k + 0))) (nI (P.2.2.2 (8 * k + 1))) h) _ = _
    rw [Nat.add_zero]
    cases f_X4_putMask 4 (nI (P.2.2.2 (8 * k))) (nI (P.2.2.2 (8 * k + 1))) h <;> rfl
  have hob : ∀ h1, cd_XD P h1 → f_X8_obeys (nI k) h1 = (if f_X8_canMask (nI (P.2.2.2 (8 * k))) (nI (P.2.2.2 (8 * k + 1))) = 0 then f_X8_puts (f_X8_canMask (nI (P.2.2.2 (8 * k))) (nI (P.2.2.2 (8 * k + 1)))) 0 (nI (P.2.2.2 (8 * k + 1))) h1 else f_X8_puts (f_X8_canMask (nI (P.2.2.2 (8 * k))) (nI (P.2.2.2 (8 * k + 1)))) (1 + nI (P.2.2.2 (8 * k))) (nI (P.2.2.2 (8 * k + 1))) h1) := fun h1 x => by
    obtain ⟨e1, e2, e3, e4⟩ := cd_obeyE o x
    have q0 := e4 0 (by omega)
    have q1 := e4 1 (by omega)
    rw [Nat.add_zero] at q0
    rw [Nat.add_zero] at q0
    rw [hc] at e3
    unfold f_X8_obeys
    rw [cd_ckI (by omega) (by omega), cd_cl (by omega), e1, cd_nmE2, cd_ckI (by omega) (by omega), cd_cl (by omega), q0, cd_nmE2, cd_addL, cd_ckI (by omega) (by omega), cd_cl (by omega), q1, cd_nmE2, cd_ckI (by omega) (by omega), e3, if_neg (by decide), if_neg (by decide), if_neg (by decide), if_pos (by decide), cd_nmE2]
    split
    · cases f_X8_puts (f_X8_canMask (nI (P.2.2.2 (8 * k))) (nI (P.2.2.2 (8 * k + 1)))) 0 (nI (P.2.2.2 (8 * k + 1))) h1 <;> rfl
    · cases f_X8_puts (f_X8_canMask (nI (P.2.2.2 (8 * k))) (nI (P.2.2.2 (8 * k + 1)))) (1 + nI (P.2.2.2 (8 * k))) (nI (P.2.2.2 (8 * k + 1))) h1 <;> rfl
  have a9 := o7 0 (by omega)
  have b9 := o7 1 (by omega)
  rw [Nat.add_zero] at a9
  by_cases hv : P.2.2.2 (8 * k) < 8 ∧ P.2.2.2 (8 * k + 1) ≤ 15
  · left
    refine ⟨cd_up A (1 + P.2.2.2 (8 * k)) (nI (P.2.2.2 (8 * k + 1))), (hA.mono (by omega) (by omega)).masks hv.1 hv.2, fun h x xc => ?_, fun h1 hr xd => ?_⟩
    · obtain ⟨e1, s1⟩ := cd_putMask hA x hv.1 hv.2
      rw [hcl h xc]
      have n15 := (hA.2.2.1 _ hv.1).2
      exact ⟨_, _, e1, cd_nr_nI (by omega), s1, cd_fr.u (by omega) (by omega)⟩
    · rw [hob h1 xd, cd_canMask8t hv.1 hv.2, if_neg (by decide)]
      unfold f_X8_puts
      rw [if_neg (by decide), cd_addR, cd_ckI (by omega) (by omega), cd_cl (by omega), cd_nmE2, cd_ckT (by decide)]
      exact ⟨_, rfl, cd_R_up hr, cd_frR.u (by omega)⟩
  · right
    have hn : ¬ ∃ k' v : Nat, k' < 8 ∧ v ≤ 15 ∧ nI (P.2.2.2 (8 * k)) = nI k' ∧ nI (P.2.2.2 (8 * k + 1)) = nI v := by
      rintro ⟨k', v, z1, z2, z3, z4⟩
      rw [cd_eq (by omega) (by omega)] at z3 z4
      exact hv ⟨by omega, by omega⟩
    refine ⟨fun h x xc => ?_, fun h1 hr xd => ?_⟩
    · rw [hcl h xc, cd_putMask_no hn]
      exact ⟨_, _, rfl, cd_ref2.1, cd_fr.rf⟩
    · rw [hob h1 xd, cd_canMask8f hn, if_pos rfl]
      exact ⟨_, rfl, cd_frR.rf⟩
theorem cd_od_c {P : cd_PS} {k τ : Nat} {A : Nat → Int32} (hA : cd_Ok A τ) (hτ : τ + 20 ≤ 500000) (o : cd_Or P k) (hc : P.2.1 k = 99) : cd_Od P k τ A := by
  obtain ⟨o1, o2, o3, o4, o5, o6, o7, o8⟩ := id o
  have hT := hA.2.2.2.1
  have h9 := hT.1.1.2
  rw [hc] at o5 o6
  have s2 : P.2.2.1 k = 3 := by have e1 : cd_ls 99 = 3 := rfl; have e2 : cd_mo 99 = 3 := rfl; omega
  have hcl : ∀ h, cd_XC P h → f_X7_carryOut (nI k) h = f_X5_putRate (4 + 2) (nI (P.2.2.2 (8 * k))) (nI (P.2.2.2 (8 * k + 1))) (nI (P.2.2.2 (8 * k + 2))) h := fun h x => by
    have n0 := cd_numAt (j := 0) o x (by omega)
    have n1 := cd_numAt (j := 1) o x (by omega)
    have n2 := cd_numAt (j := 2) o x (by omega)
    have l := cd_letAt o x
    rw [if_pos (by omega)] at n0 n1 n2
    rw [hc] at l
    unfold f_X7_carryOut
    rw [show f_X6_numberAt 398 (nI k) 0 h = _ from n0, cd_bS, show f_X6_numberAt 398 (nI k) 1 h = _ from n1, cd_bS, show f_X6_numberAt 398 (nI k) 2 h = _ from n2, cd_bS, l, cd_bS, if_pos (by decide)]
    show cd_b (f_X5_putRate (4 + 2) (nI (P.2.2.2 (8 * k + 0))) (nI (P.2.2.2 (8 * k + 1))) (nI (P.2.2.2 (8 * k + 2))) h) _ = _
    rw [Nat.add_zero]
    cases f_X5_putRate (4 + 2) (nI (P.2.2.2 (8 * k))) (nI (P.2.2.2 (8 * k + 1))) (nI (P.2.2.2 (8 * k + 2))) h <;> rfl
  have a9 := o7 0 (by omega)
  have b9 := o7 1 (by omega)
  have c9 := o7 2 (by omega)
  rw [Nat.add_zero] at a9
  have hob : ∀ h1, cd_XD P h1 → f_X8_obeys (nI k) h1 = (if f_X8_canRate (nI (P.2.2.2 (8 * k))) (nI (P.2.2.2 (8 * k + 1))) (nI (P.2.2.2 (8 * k + 2))) h1 = 0 then f_X8_puts (f_X8_canRate (nI (P.2.2.2 (8 * k))) (nI (P.2.2.2 (8 * k + 1))) (nI (P.2.2.2 (8 * k + 2))) h1) 0 (nI (P.2.2.2 (8 * k + 2))) h1 else f_X8_puts (f_X8_canRate (nI (P.2.2.2 (8 * k))) (nI (P.2.2.2 (8 * k + 1))) (nI (P.2.2.2 (8 * k + 2))) h1) (nI (10 + 10 * P.2.2.2 (8 * k) + 2 + P.2.2.2 (8 * k + 1))) (nI (P.2.2.2 (8 * k + 2))) h1) := fun h1 x => by
    obtain ⟨e1, e2, e3, e4⟩ := cd_obeyE o x
    have q0 := e4 0 (by omega)
    have q1 := e4 1 (by omega)
    have q2 := e4 2 (by omega)
    rw [Nat.add_zero] at q0
    rw [Nat.add_zero] at q0
    rw [hc] at e3
    unfold f_X8_obeys
    rw [cd_ckI (by omega) (by omega), cd_cl (by omega), e1, cd_nmE2, cd_ckI (by omega) (by omega), cd_cl (by omega), q0, cd_nmE2, cd_addL, cd_ckI (by omega) (by omega), cd_cl (by omega), q1, cd_nmE2, cd_ckI (by omega) (by omega), e3, if_pos (by decide), cd_addL, cd_ckI (by omega) (by omega), cd_cl (by omega), q2, cd_nmE2]
    split
    · rw [cd_ckI (by omega) (by omega)]
      cases f_X8_puts (f_X8_canRate (nI (P.2.2.2 (8 * k))) (nI (P.2.2.2 (8 * k + 1))) (nI (P.2.2.2 (8 * k + 2))) h1) 0 (nI (P.2.2.2 (8 * k + 2))) h1 <;> rfl
    · rw [cd_ckI (by omega) (by omega), cd_taskAt, cd_addL, nI_add]
      cases f_X8_puts (f_X8_canRate (nI (P.2.2.2 (8 * k))) (nI (P.2.2.2 (8 * k + 1))) (nI (P.2.2.2 (8 * k + 2))) h1) (nI (10 + 10 * P.2.2.2 (8 * k) + 2 + P.2.2.2 (8 * k + 1))) (nI (P.2.2.2 (8 * k + 2))) h1 <;> rfl
  by_cases hv : P.2.2.2 (8 * k) < cd_n A 9 ∧ P.2.2.2 (8 * k + 1) < 8 ∧ P.2.2.2 (8 * k + 2) ≤ 99
  · left
    refine ⟨cd_up A (12 + 10 * P.2.2.2 (8 * k) + P.2.2.2 (8 * k + 1)) (nI (P.2.2.2 (8 * k + 2))), (hA.mono (by omega) (by omega)).rates hv.1 hv.2.1 hv.2.2, fun h x xc => ?_, fun h1 hr xd => ?_⟩
    · obtain ⟨e1, s1⟩ := cd_putRate hA x hv.1 hv.2.1 hv.2.2
      rw [hcl h xc]
      have n15 := ((hT.2.2.2 _ hv.1).2 _ hv.2.1).2
      exact ⟨_, _, e1, cd_nr_nI (by omega), s1, cd_fr.u (by omega) (by omega)⟩
    · rw [hob h1 xd, cd_canRate8t hr hT hv.1 hv.2.1 hv.2.2, if_neg (by decide)]
      unfold f_X8_puts
      rw [if_neg (by decide), cd_ckI (by omega) (by omega), cd_cl (by omega), cd_nmE2, cd_ckT (by decide), show 10 + 10 * P.2.2.2 (8 * k) + 2 + P.2.2.2 (8 * k + 1) = 12 + 10 * P.2.2.2 (8 * k) + P.2.2.2 (8 * k + 1) by omega]
      exact ⟨_, rfl, cd_R_up hr, cd_frR.u (by omega)⟩
  · right
    have hn : ¬ ∃ t k' v : Nat, t < cd_n A 9 ∧ k' < 8 ∧ v ≤ 99 ∧ nI (P.2.2.2 (8 * k)) = nI t ∧ nI (P.2.2.2 (8 * k + 1)) = nI k' ∧ nI (P.2.2.2 (8 * k + 2)) = nI v := by
      rintro ⟨t, k', v, z1, z2, z3, z4, z5, z6⟩
      rw [cd_eq (by omega) (by omega)] at z4 z5 z6
      exact hv ⟨by omega, by omega, by omega⟩
    refine ⟨fun h x xc => ?_, fun h1 hr xd => ?_⟩
    · rw [hcl h xc, cd_putRate_no hA x hn]
      exact ⟨_, _, rfl, cd_ref2.1, cd_fr.rf⟩
    · rw [hob h1 xd, cd_canRate8f hr hT hn, if_pos rfl]
      exact ⟨_, rfl, cd_frR.rf⟩
theorem cd_od_f {P : cd_PS} {k τ : Nat} {A : Nat → Int32} (hA : cd_Ok A τ) (hτ : τ + 20 ≤ 500000) (o : cd_Or P k) (hc : P.2.1 k = 102) : cd_Od P k τ A := by
  obtain ⟨o1, o2, o3, o4, o5, o6, o7, o8⟩ := id o
  have hT := hA.2.2.2.1
  have h9 := hT.1.1.2
  rw [hc] at o5 o6
  have s2 : P.2.2.1 k = 1 := by have e1 : cd_ls 102 = 1 := rfl; have e2 : cd_mo 102 = 1 := rfl; omega
  have hcl : ∀ h, cd_XC P h → f_X7_carryOut (nI k) h = f_X5_fork (4 + 2) (nI (P.2.2.2 (8 * k))) h := fun h x => by
    have n0 := cd_numAt (j := 0) o x (by omega)
    have n1 := cd_numAt (j := 1) o x (by omega)
    have n2 := cd_numAt (j := 2) o x (by omega)
    have l := cd_letAt o x
    rw [if_pos (by omega)] at n0
    rw [hc] at l
    unfold f_X7_carryOut
    rw [show f_X6_numberAt 398 (nI k) 0 h = _ from n0, cd_bS, show f_X6_numberAt 398 (nI k) 1 h = _ from n1, cd_bS, show f_X6_numberAt 398 (nI k) 2 h = _ from n2, cd_bS, l, cd_bS, if_neg (by decide), if_pos (by decide)]
    show cd_b (f_X5_fork (4 + 2) (nI (P.2.2.2 (8 * k + 0))) h) _ = _
    rw [Nat.add_zero]
    cases f_X5_fork (4 + 2) (nI (P.2.2.2 (8 * k))) h <;> rfl
  have a9 := o7 0 (by omega)
  rw [Nat.add_zero] at a9
  have hob : ∀ h1, cd_XD P h1 → f_X8_obeys (nI k) h1 = (if (f_X8_isTask (nI (P.2.2.2 (8 * k))) h1) = 0 then (some ((0, h1))) else (cd_b (f_X8_hasEnded (nI (P.2.2.2 (8 * k))) h1) (fun o23 => if o23 = 0 then (if 6 ≤ (cd_g h1 405 9) then (some ((0, h1))) else (cd_b (f_X8_comesOf (nI (P.2.2.2 (8 * k))) h1) (fun o27 => if o27.1 ≤ 0 then (some ((0, o27.2))) else (some ((1, o27.2)))))) else (some ((0, h1)))))) := fun h1 x => by
    obtain ⟨e1, e2, e3, e4⟩ := cd_obeyE o x
    have q0 := e4 0 (by omega)
    rw [Nat.add_zero] at q0
    rw [Nat.add_zero] at q0
    rw [hc] at e3
    unfold f_X8_obeys
    rw [cd_ckI (by omega) (by omega), cd_cl (by omega), e1, cd_nmE2, cd_ckI (by omega) (by omega), cd_cl (by omega), q0, cd_nmE2, cd_addL, cd_ckI (by omega) (by omega), cd_nmE2, cd_ckI (by omega) (by omega), e3, if_neg (by decide), if_pos (by decide), cd_c9]
  by_cases hv : P.2.2.2 (8 * k) < cd_n A 9
  · have w0 : ∀ h, cd_St 4 A h → f_X5_has (4 + 2) (nI (P.2.2.2 (8 * k))) h = 1 := fun h x => by rw [cd_has5 x hT, if_pos ⟨_, hv, rfl⟩]
    have w8 : ∀ h1, (∀ k, k < 659 → cd_R h1 k = A k) → f_X8_isTask (nI (P.2.2.2 (8 * k))) h1 = 1 ∧ cd_g h1 405 9 = nI (cd_n A 9) := fun h1 hr => ⟨by rw [cd_isTask8 hr hT, if_pos ⟨_, hv, rfl⟩], (hr 9 (by omega)).trans hT.1.1.1⟩
    by_cases he : A (11 + 10 * P.2.2.2 (8 * k)) = 1
    · right
      refine ⟨fun h x xc => ?_, fun h1 hr xd => ?_⟩
      · rw [hcl h xc]
        unfold f_X5_fork
        rw [w0 h x, if_neg (by decide), cd_hasEnded5 x.2.2.1 (by omega), if_pos he, cd_bS, if_neg (by decide)]
        exact ⟨_, _, rfl, cd_ref2.2.1, cd_fr.rf⟩
      · rw [hob h1 xd, (w8 h1 hr).1, if_neg (by decide), cd_hasEnded8' hr (by omega), if_pos he, cd_bS, if_neg (by decide)]
        exact ⟨_, rfl, cd_frR.rf⟩
    · rcases Nat.lt_or_ge (cd_n A 9) 6 with h6 | h6'
      · left
        refine ⟨cd_frk A (P.2.2.2 (8 * k)), (hA.mono (by omega) (by omega)).frk hv h6, fun h x xc => ?_, fun h1 hr xd => ?_⟩
        · obtain ⟨h', e', s', f'⟩ := cd_fork5 hA x hv h6 he
          rw [hcl h xc]
          exact ⟨_, _, e', cd_nr_nI (by omega), s', f'.wide (by omega) (by omega)⟩
        · obtain ⟨h2, e2, r2, f2⟩ := cd_comesOf hr hA hv h6
          have n1 := hT.1.2
          rw [hob h1 xd, (w8 h1 hr).1, if_neg (by decide), cd_hasEnded8' hr (by omega), if_neg he, cd_bS, if_pos rfl, (w8 h1 hr).2, if_neg (by rw [cd_leR (by omega) (by omega)]; omega), e2, cd_bS]
          dsimp only
          rw [if_neg (by rw [cd_leL (by omega) (by omega)]; omega)]
          exact ⟨_, rfl, r2, f2⟩
      · right
        have h6 : cd_n A 9 = 6 := by omega
        refine ⟨fun h x xc => ?_, fun h1 hr xd => ?_⟩
        · have e0 : cd_g h (4 + 2) 0 = nI 6 := by rw [x.2.2.1.1, ← h6]; exact hT.1.1.1
          rw [hcl h xc]
          unfold f_X5_fork
          rw [w0 h x, if_neg (by decide), cd_hasEnded5 x.2.2.1 (by omega), if_neg he, cd_bS, if_pos rfl, e0, if_neg (by decide)]
          exact ⟨_, _, rfl, cd_ref2.2.2, cd_fr.rf⟩
        · rw [hob h1 xd, (w8 h1 hr).1, if_neg (by decide), cd_hasEnded8' hr (by omega), if_neg he, cd_bS, if_pos rfl, (w8 h1 hr).2, h6, if_pos (by decide)]
          exact ⟨_, rfl, cd_frR.rf⟩
  · right
    have hn : ¬ ∃ t, t < cd_n A 9 ∧ nI (P.2.2.2 (8 * k)) = nI t := by
      rintro ⟨t, z1, z2⟩
      rw [cd_eq (by omega) (by omega)] at z2
      omega
    refine ⟨fun h x xc => ?_, fun h1 hr xd => ?_⟩
    · rw [hcl h xc]
      unfold f_X5_fork
      rw [cd_has5 x hT, if_neg hn, if_pos rfl]
      exact ⟨_, _, rfl, cd_ref2.1, cd_fr.rf⟩
    · rw [hob h1 xd, cd_isTask8 hr hT, if_neg hn, if_pos rfl]
      exact ⟨_, rfl, cd_frR.rf⟩
theorem cd_od_r {P : cd_PS} {k τ : Nat} {A : Nat → Int32} (hA : cd_Ok A τ) (hτ : τ + 20 ≤ 500000) (o : cd_Or P k) (hc : P.2.1 k = 114) : cd_Od P k τ A := by
  obtain ⟨o1, o2, o3, o4, o5, o6, o7, o8⟩ := id o
  have hT := hA.2.2.2.1
  have h9 := hT.1.1.2
  rw [hc] at o5 o6
  have s2 : P.2.2.1 k = 2 := by have e1 : cd_ls 114 = 2 := rfl; have e2 : cd_mo 114 = 2 := rfl; omega
  have hcl : ∀ h, cd_XC P h → f_X7_carryOut (nI k) h = f_X4_runSlices 4 (nI (P.2.2.2 (8 * k))) (nI (P.2.2.2 (8 * k + 1))) h := fun h x => by
    have n0 := cd_numAt (j := 0) o x (by omega)
    have n1 := cd_numAt (j := 1) o x (by omega)
    have n2 := cd_numAt (j := 2) o x (by omega)
    have l := cd_letAt o x
    rw [if_pos (by omega)] at n0 n1
    rw [hc] at l
    unfold f_X7_carryOut
    rw [show f_X6_numberAt 398 (nI k) 0 h = _ from n0, cd_bS, show f_X6_numberAt 398 (nI k) 1 h = _ from n1, cd_bS, show f_X6_numberAt 398 (nI k) 2 h = _ from n2, cd_bS, l, cd_bS, if_neg (by decide), if_neg (by decide), if_neg (by decide), if_neg (by decide), if_pos (by decide)]
    show cd_b (f_X4_runSlices 4 (nI (P.2.2.2 (8 * k + 0))) (nI (P.2.2.2 (8 * k + 1))) h) _ = _
    rw [Nat.add_zero]
    cases f_X4_runSlices 4 (nI (P.2.2.2 (8 * k))) (nI (P.2.2.2 (8 * k + 1))) h <;> rfl
  have a9 := o7 0 (by omega)
  have b9 := o7 1 (by omega)
  rw [Nat.add_zero] at a9
  have hob : ∀ h1, cd_XD P h1 → f_X8_obeys (nI k) h1 = (if (f_X8_isRun (nI (P.2.2.2 (8 * k))) (nI (P.2.2.2 (8 * k + 1))) h1) = 0 then (some ((0, h1))) else (cd_b (f_X8_hasEnded (nI (P.2.2.2 (8 * k))) h1) (fun o44 => if o44 = 0 then (cd_b (f_X8_goes (nI (P.2.2.2 (8 * k))) (nI (P.2.2.2 (8 * k + 1))) h1) (fun o47 => if o47.1 ≤ 0 then (some ((0, o47.2))) else (some ((1, o47.2))))) else (some ((0, h1)))))) := fun h1 x => by
    obtain ⟨e1, e2, e3, e4⟩ := cd_obeyE o x
    have q0 := e4 0 (by omega)
    have q1 := e4 1 (by omega)
    rw [Nat.add_zero] at q0
    rw [Nat.add_zero] at q0
    rw [hc] at e3
    unfold f_X8_obeys
    rw [cd_ckI (by omega) (by omega), cd_cl (by omega), e1, cd_nmE2, cd_ckI (by omega) (by omega), cd_cl (by omega), q0, cd_nmE2, cd_addL, cd_ckI (by omega) (by omega), cd_cl (by omega), q1, cd_nmE2, cd_ckI (by omega) (by omega), e3, if_neg (by decide), if_neg (by decide), if_neg (by decide), if_neg (by decide)]
  by_cases hv : P.2.2.2 (8 * k) < cd_n A 9
  · have w0 : ∀ h, cd_St 4 A h → f_X5_has (4 + 2) (nI (P.2.2.2 (8 * k))) h = 1 := fun h x => by rw [cd_has5 x hT, if_pos ⟨_, hv, rfl⟩]
    have w8 : ∀ h1, (∀ k, k < 659 → cd_R h1 k = A k) → f_X8_isTask (nI (P.2.2.2 (8 * k))) h1 = 1 := fun h1 hr => by rw [cd_isTask8 hr hT, if_pos ⟨_, hv, rfl⟩]
    by_cases hm : 1 ≤ P.2.2.2 (8 * k + 1) ∧ P.2.2.2 (8 * k + 1) ≤ 20
    · have v7 : f_X7_isWithin (nI (P.2.2.2 (8 * k + 1))) 1 20 = 1 := cd_in7t (a := 1) (b := 20) hm.1 hm.2 (by omega)
      have v8 : f_X8_in (nI (P.2.2.2 (8 * k + 1))) 1 20 = 1 := cd_in8t (a := 1) (b := 20) hm.1 hm.2 (by omega)
      have wr : ∀ h1, (∀ k, k < 659 → cd_R h1 k = A k) → f_X8_isRun (nI (P.2.2.2 (8 * k))) (nI (P.2.2.2 (8 * k + 1))) h1 = 1 := fun h1 hr => by
        unfold f_X8_isRun
        rw [w8 h1 hr, if_neg (by decide), v8, if_neg (by decide)]
      by_cases he : A (11 + 10 * P.2.2.2 (8 * k)) = 1
      · right
        refine ⟨fun h x xc => ?_, fun h1 hr xd => ?_⟩
        · rw [hcl h xc]
          unfold f_X4_runSlices
          rw [w0 h x, if_neg (by decide), v7, if_neg (by decide), cd_hasEnded5 x.2.2.1 (by omega), if_pos he, cd_bS, if_neg (by decide)]
          exact ⟨_, _, rfl, cd_ref2.2.1, cd_fr.rf⟩
        · rw [hob h1 xd, wr h1 hr, if_neg (by decide), cd_hasEnded8' hr (by omega), if_pos he, cd_bS, if_neg (by decide)]
          exact ⟨_, rfl, cd_frR.rf⟩
      · left
        obtain ⟨A', b1, b2, b3⟩ := cd_runsOk (t := P.2.2.2 (8 * k)) hA hm.1 hm.2 (by omega) hv he
        have t5 := hA.m426
        refine ⟨A', b1.mono (by omega) (by omega), fun h x xc => ?_, fun h1 hr xd => ?_⟩
        · obtain ⟨h', e', s', f'⟩ := b2 h x
          rw [hcl h xc]
          exact ⟨_, _, e', cd_nr_nI (by omega), s', f'⟩
        · obtain ⟨h2, e2, r2, f2⟩ := b3 h1 hr
          rw [hob h1 xd, wr h1 hr, if_neg (by decide), cd_hasEnded8' hr (by omega), if_neg he, cd_bS, if_pos rfl, e2, cd_bS]
          dsimp only
          rw [if_neg (by rw [cd_leL (by omega) (by omega)]; omega)]
          exact ⟨_, rfl, r2, f2⟩
    · have hn : ¬ ∃ v, 1 ≤ v ∧ v ≤ 20 ∧ nI (P.2.2.2 (8 * k + 1)) = nI v := by
        rintro ⟨v, z1, z2, z3⟩
        rw [cd_eq (by omega) (by omega)] at z3
        exact hm ⟨by omega, by omega⟩
      have v7 : f_X7_isWithin (nI (P.2.2.2 (8 * k + 1))) 1 20 = 0 := cd_in7f (a := 1) (b := 20) hn (by omega) (by omega)
      have v8 : f_X8_in (nI (P.2.2.2 (8 * k + 1))) 1 20 = 0 := cd_in8f (a := 1) (b := 20) hn (by omega) (by omega)
      right
      refine ⟨fun h x xc => ?_, fun h1 hr xd => ?_⟩
      · rw [hcl h xc]
        unfold f_X4_runSlices
        rw [w0 h x, if_neg (by decide), v7, if_pos rfl]
        exact ⟨_, _, rfl, cd_ref2.1, cd_fr.rf⟩
      · rw [hob h1 xd]
        unfold f_X8_isRun
        rw [w8 h1 hr, if_neg (show ¬ (1 : Int32) = 0 by decide), v8, if_pos rfl, if_pos rfl]
        exact ⟨_, rfl, cd_frR.rf⟩
  · right
    have hn : ¬ ∃ t, t < cd_n A 9 ∧ nI (P.2.2.2 (8 * k)) = nI t := by
      rintro ⟨t, z1, z2⟩
      rw [cd_eq (by omega) (by omega)] at z2
      omega
    refine ⟨fun h x xc => ?_, fun h1 hr xd => ?_⟩
    · rw [hcl h xc]
      unfold f_X4_runSlices
      rw [cd_has5 x hT, if_neg hn, if_pos rfl]
      exact ⟨_, _, rfl, cd_ref2.1, cd_fr.rf⟩
    · rw [hob h1 xd]
      unfold f_X8_isRun
      rw [cd_isTask8 hr hT, if_neg hn, if_pos rfl, if_pos rfl]
      exact ⟨_, rfl, cd_frR.rf⟩
