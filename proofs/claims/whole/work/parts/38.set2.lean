-- masks, skids, rates, lives, periods
theorem cd_OkQ.rg2 {A B : Nat → Int32} {a b : Nat} (e : cd_al A B a b) (h70 : cd_n A 70 ≤ 6) (hab : b ≤ 419 ∨ 426 ≤ a) (hz : b ≤ 70 ∨ 71 ≤ a) (hp : ∀ i, i < cd_n A 419 → B (71 + 58 * cd_n A (420 + i) + 2) = A (71 + 58 * cd_n A (420 + i) + 2)) (h : cd_OkQ A) : cd_OkQ B := by
  obtain ⟨q1, q2, q3⟩ := h
  have ql := q1.2
  unfold cd_OkQ
  rw [cd_n.rg e (k := 419) (by omega) (by omega), cd_n.rg e (k := 70) (by omega) (by omega)]
  refine ⟨q1.rg e (by omega) (by omega), fun i hi => ?_, fun i j w1 w2 => ?_⟩
  · obtain ⟨z1, z2, z3⟩ := q2 i hi
    rw [cd_n.rg e (by omega) (by omega), hp i hi]
    exact ⟨z1.rg e (by omega) (by omega), z2, z3⟩
  · rw [cd_n.rg e (by omega) (by omega), cd_n.rg e (by omega) (by omega)]; exact q3 i j w1 w2
/-- one group becomes other -/
theorem cd_Ok.grp {A B : Nat → Int32} {τ g : Nat} (h : cd_Ok A τ) (hg : g < cd_n A 70) (e : cd_al A B (71 + 58 * g) (71 + 58 * g + 58)) (e2 : B (71 + 58 * g + 2) = A (71 + 58 * g + 2)) (hB : cd_OkG (71 + 58 * g) B) : cd_Ok B τ := by
  obtain ⟨h0, ⟨h1, h1'⟩, h2, hT, hG, hGs, hQ, hS⟩ := h
  have gl := hG.2
  refine ⟨h0, ⟨h1.rg e (by omega) (by omega), by rw [cd_n.rg e (by omega) (by omega)]; exact h1'⟩, fun k hk => (h2 k hk).rg e (by omega) (by omega), hT.rg e (by omega), hG.rg e (by omega) (by omega), fun g' hg' => ?_, hQ.rg2 e gl (by omega) (by omega) (fun i hi => ?_), hS.rg e (by omega)⟩
  · rw [cd_n.rg e (by omega) (by omega)] at hg'
    by_cases eg : g' = g
    · rw [eg]; exact hB
    · exact (hGs g' hg').rg e (by omega) (by omega) (by omega) (by omega)
  · have := (hQ.2.1 i hi).2.1
    by_cases eg : cd_n A (420 + i) = g
    · rw [eg]; exact e2
    · exact e _ (by omega) (by omega)
theorem cd_St.grp {q g τ : Nat} {A B : Nat → Int32} {h h' : cd_Hp} (x : cd_St q A h) (hA : cd_Ok A τ) (hg : g < cd_n A 70) (e : cd_al A B (71 + 58 * g) (71 + 58 * g + 58)) (f : cd_fr (q + 6 + 8 + 7 * g) (q + 6 + 8 + 7 * g + 7) h h') (hB : cd_StG (q + 6 + 8 + 7 * g) (71 + 58 * g) B h') : cd_St q B h' := by
  obtain ⟨z1, z2, z3, z4⟩ := hA.sz
  obtain ⟨x1, x2, x3, x6, x7, x8⟩ := x
  have e70 : cd_n B 70 = cd_n A 70 := cd_n.rg e (by omega) (by omega)
  refine ⟨?_, fun k hk => ?_, x3.as (fun k w1 w2 => e _ (by omega) (by omega)) (fun y k w1 w2 => f.1 _ _ (by omega)), fun g' hg' => ?_, fun i hi => ?_, x8.as z3 z4 (fun k w1 w2 => e _ (by omega) (by omega)) (fun y k w1 w2 => f.1 _ _ (by omega))⟩
  · rw [f.1 _ _ (by omega), f.1 _ _ (by omega), f.1 _ _ (by omega), f.1 _ _ (by omega), f.1 _ _ (by omega), e 0 (by omega) (by omega), e 427 (by omega) (by omega), e 426 (by omega) (by omega), e 70 (by omega) (by omega), e 419 (by omega) (by omega)]; exact x1
  · rw [f.1 _ _ (by omega), e _ (by omega) (by omega)]; exact x2 k hk
  · rw [e70] at hg'
    by_cases eg : g' = g
    · rw [eg]; exact hB
    · exact (x6 g' hg').as (z2 g' hg') (fun k w1 w2 => e _ (by omega) (by omega)) (fun y k w1 w2 => f.1 _ _ (by omega))
  · rw [f.1 _ _ (by omega), e _ (by omega) (by omega)]; exact x7 i hi
-- the reference's row, written at a place
theorem cd_R_up {h1 : cd_Hp} {A : Nat → Int32} {j : Nat} {v : Int32} (hr : ∀ k, k < 659 → cd_R h1 k = A k) : ∀ k, k < 659 → cd_R (cd_u h1 405 j v) k = cd_up A j v k := by
  intro k hk
  show cd_g (cd_u h1 405 j v) 405 k = _
  by_cases hk0 : k = j
  · rw [cd_gE rfl hk0, cd_upE hk0]
  · rw [cd_gN (by omega), cd_upN hk0]; exact hr k hk
theorem cd_exch {A : Nat → Int32} {h1 : cd_Hp} {j m : Nat} {v : Int32} (hr : ∀ k, k < 659 → cd_R h1 k = A k) (hj : j < 659) (hn : cd_num A j m) : f_X8_exchanges (nI j) v h1 = some (nI (cd_n A j), cd_u h1 405 j v) := by
  rw [cd_exchanges hj]
  have e := hr j hj
  dsimp only [cd_R] at e
  rw [e, ← hn.1]
theorem cd_isTask8 {h1 : cd_Hp} {A : Nat → Int32} {x : Int32} (hr : ∀ k, k < 659 → cd_R h1 k = A k) (hT : cd_OkT A) : f_X8_isTask x h1 = if ∃ t, t < cd_n A 9 ∧ x = nI t then 1 else 0 := by
  unfold f_X8_isTask
  have e : cd_g h1 405 (Int32.toNatClampNeg 9) = nI (cd_n A 9) := by
    have := hr 9 (by omega)
    dsimp only [cd_R] at this
    rw [show Int32.toNatClampNeg 9 = 9 from by decide, this]; exact hT.1.1.1
  have h6 := hT.1.1.2
  have h1' := hT.1.2
  rw [e, cd_subL (by omega), cd_in8]
  by_cases hx : (0 : Int32) ≤ x ∧ x ≤ nI (cd_n A 9 - 1)
  · rw [if_pos hx]
    obtain ⟨t, ht, rfl⟩ := cd_of_in (x := x) (n := cd_n A 9 - 1) (by grind) (by grind) (by omega)
    rw [if_pos ⟨t, by omega, rfl⟩]
  · rw [if_neg hx, if_neg]
    rintro ⟨t, ht, rfl⟩
    exact hx ⟨nI_pos' (by omega), by rw [cd_le (by omega) (by omega)]; omega⟩
theorem cd_has5 {q : Nat} {h1 : cd_Hp} {A : Nat → Int32} {x : Int32} (hs : cd_St q A h1) (hT : cd_OkT A) : f_X5_has (q + 2) x h1 = if ∃ t, t < cd_n A 9 ∧ x = nI t then 1 else 0 := by
  unfold f_X5_has
  have h6 := hT.1.1.2
  have h1' := hT.1.2
  rw [hs.2.2.1.1, hT.1.1.1, cd_subL (by omega), cd_in7]
  by_cases hx : (0 : Int32) ≤ x ∧ x ≤ nI (cd_n A 9 - 1)
  · rw [if_pos hx]
    obtain ⟨t, ht, rfl⟩ := cd_of_in (x := x) (n := cd_n A 9 - 1) (by grind) (by grind) (by omega)
    rw [if_pos ⟨t, by omega, rfl⟩]
  · rw [if_neg hx, if_neg]
    rintro ⟨t, ht, rfl⟩
    exact hx ⟨nI_pos' (by omega), by rw [cd_le (by omega) (by omega)]; omega⟩
theorem cd_sub1 : (0 : Int32) - 1 = -1 := by decide
theorem cd_isGroup8 {h1 : cd_Hp} {A : Nat → Int32} {x : Int32} (hr : ∀ k, k < 659 → cd_R h1 k = A k) (hG : cd_num A 70 6) : f_X8_isGroup x h1 = if ∃ g, g < cd_n A 70 ∧ x = nI g then 1 else 0 := by
  unfold f_X8_isGroup
  have e : cd_g h1 405 (Int32.toNatClampNeg 70) = nI (cd_n A 70) := by
    have := hr 70 (by omega)
    dsimp only [cd_R] at this
    rw [show Int32.toNatClampNeg 70 = 70 from by decide, this]; exact hG.1
  have h6 := hG.2
  rw [e, cd_in8]
  rcases Nat.eq_zero_or_pos (cd_n A 70) with h0 | h0
  · rw [h0, if_neg (by rw [show nI 0 - 1 = -1 from by decide]; grind), if_neg (by rintro ⟨g, hg, _⟩; omega)]
  · rw [cd_subL (by omega)]
    by_cases hx : (0 : Int32) ≤ x ∧ x ≤ nI (cd_n A 70 - 1)
    · rw [if_pos hx]
      obtain ⟨t, ht, rfl⟩ := cd_of_in (x := x) (n := cd_n A 70 - 1) (by grind) (by grind) (by omega)
      rw [if_pos ⟨t, by omega, rfl⟩]
    · rw [if_neg hx, if_neg]
      rintro ⟨t, ht, rfl⟩
      exact hx ⟨nI_pos' (by omega), by rw [cd_le (by omega) (by omega)]; omega⟩
theorem cd_hasGroup4 {q : Nat} {h1 : cd_Hp} {A : Nat → Int32} {x : Int32} (hs : cd_St q A h1) (hG : cd_num A 70 6) : f_X4_hasGroup q x h1 = if ∃ g, g < cd_n A 70 ∧ x = nI g then 1 else 0 := by
  unfold f_X4_hasGroup
  have h6 := hG.2
  rw [hs.1.2.2.2.1, hG.1, cd_in7]
  rcases Nat.eq_zero_or_pos (cd_n A 70) with h0 | h0
  · rw [h0, if_neg (by rw [show nI 0 - 1 = -1 from by decide]; grind), if_neg (by rintro ⟨g, hg, _⟩; omega)]
  · rw [cd_subL (by omega)]
    by_cases hx : (0 : Int32) ≤ x ∧ x ≤ nI (cd_n A 70 - 1)
    · rw [if_pos hx]
      obtain ⟨t, ht, rfl⟩ := cd_of_in (x := x) (n := cd_n A 70 - 1) (by grind) (by grind) (by omega)
      rw [if_pos ⟨t, by omega, rfl⟩]
    · rw [if_neg hx, if_neg]
      rintro ⟨t, ht, rfl⟩
      exact hx ⟨nI_pos' (by omega), by rw [cd_le (by omega) (by omega)]; omega⟩
/-- a number in bounds, or not -/
theorem cd_win {x : Int32} {a b : Nat} (hb : b < 2147483648) (ha : a ≤ b) : (nI a ≤ x ∧ x ≤ nI b) ↔ ∃ v, a ≤ v ∧ v ≤ b ∧ x = nI v := by
  constructor
  · rintro ⟨h1, h2⟩
    have e1 := nI_toInt (n := a) (by omega)
    have e2 := nI_toInt (n := b) hb
    rw [Int32.le_iff_toInt_le] at h1 h2
    obtain ⟨v, hv, rfl⟩ := cd_of_in (x := x) (n := b) (by rw [Int32.lt_iff_toInt_lt]; have : (0 : Int32).toInt = 0 := (by decide); omega) (by rw [Int32.lt_iff_toInt_lt]; omega) hb
    have e3 := nI_toInt (n := v) (by omega)
    exact ⟨v, by omega, hv, rfl⟩
  · rintro ⟨v, h1, h2, rfl⟩
    exact ⟨by rw [cd_le (by omega) (by omega)]; exact h1, by rw [cd_le (by omega) (by omega)]; exact h2⟩
theorem cd_in7t {v a b : Nat} (h1 : a ≤ v) (h2 : v ≤ b) (hb : b < 2147483648) : f_X7_isWithin (nI v) (nI a) (nI b) = 1 := by
  rw [cd_in7, if_pos ⟨by rw [cd_le (by omega) (by omega)]; exact h1, by rw [cd_le (by omega) (by omega)]; exact h2⟩]
theorem cd_in7f {x : Int32} {a b : Nat} (h : ¬ ∃ v, a ≤ v ∧ v ≤ b ∧ x = nI v) (ha : a ≤ b) (hb : b < 2147483648) : f_X7_isWithin x (nI a) (nI b) = 0 := by
  rw [cd_in7, if_neg (fun z => h ((cd_win hb ha).mp z))]
theorem cd_in8t {v a b : Nat} (h1 : a ≤ v) (h2 : v ≤ b) (hb : b < 2147483648) : f_X8_in (nI v) (nI a) (nI b) = 1 := by
  rw [cd_in8, if_pos ⟨by rw [cd_le (by omega) (by omega)]; exact h1, by rw [cd_le (by omega) (by omega)]; exact h2⟩]
theorem cd_in8f {x : Int32} {a b : Nat} (h : ¬ ∃ v, a ≤ v ∧ v ≤ b ∧ x = nI v) (ha : a ≤ b) (hb : b < 2147483648) : f_X8_in x (nI a) (nI b) = 0 := by
  rw [cd_in8, if_neg (fun z => h ((cd_win hb ha).mp z))]
-- masks
theorem cd_Ok.masks {A : Nat → Int32} {τ k v : Nat} (h : cd_Ok A τ) (hk : k < 8) (hv : v ≤ 15) : cd_Ok (cd_up A (1 + k) (nI v)) τ := by
  obtain ⟨h0, ⟨h1, h1'⟩, h2, hT, hG, hGs, hQ, hS⟩ := h
  have gl := hG.2
  have e := cd_al.up (A := A) (j := 1 + k) (v := nI v)
  refine ⟨h0, ⟨h1.rg e (by omega) (by omega), by rw [cd_n.rg e (by omega) (by omega)]; exact h1'⟩, fun j hj => ?_, hT.rg e (by omega), hG.rg e (by omega) (by omega), fun g hg => ?_, hQ.rg e gl (by omega) (by omega) (fun _ _ => by omega), hS.rg e (by omega)⟩
  · by_cases ej : j = k
    · subst ej; exact cd_num.put hv (by omega)
    · exact (h2 j hj).rg e (by omega) (by omega)
  · rw [cd_n.rg e (by omega) (by omega)] at hg
    exact (hGs g hg).rg e (by omega) (by omega) (by omega) (by omega)
/-- the class's putMask: refused, or done -/
theorem cd_putMask {q τ : Nat} {A : Nat → Int32} {h : cd_Hp} (hA : cd_Ok A τ) (x : cd_St q A h) {k v : Nat} (hk : k < 8) (hv : v ≤ 15) : f_X4_putMask q (nI k) (nI v) h = some (nI (cd_n A (1 + k)), cd_u h (q + 1) k (nI v)) ∧ cd_St q (cd_up A (1 + k) (nI v)) (cd_u h (q + 1) k (nI v)) := by
  obtain ⟨z1, z2, z3, z4⟩ := hA.sz
  have hn := hA.2.2.1 k hk
  obtain ⟨x1, x2, x3, x6, x7, x8⟩ := x
  constructor
  · unfold f_X4_putMask
    have w1 : f_X7_isWithin (nI k) 0 7 = 1 := cd_in7t (a := 0) (b := 7) (by omega) (by omega) (by omega)
    have w2 : f_X7_isWithin (nI v) 0 15 = 1 := cd_in7t (a := 0) (b := 15) (by omega) (by omega) (by omega)
    rw [w1, w2, if_neg (by decide), if_neg (by decide)]
    simp (disch := omega) only [cd_ckI, cd_cl, cd_nmE2]
    rw [x2 k hk, ← hn.1]
  · refine ⟨?_, fun j hj => ?_, x3.as (fun k w1 w2 => cd_upN (by omega)) (fun y k w1 w2 => cd_gN (by omega)), cd_StGs.as x6 z1 z2 (fun k w1 w2 => cd_upN (by omega)) (fun y k w1 w2 => cd_gN (by omega)), fun i hi => ?_, x8.as z3 z4 (fun k w1 w2 => cd_upN (by omega)) (fun y k w1 w2 => cd_gN (by omega))⟩
    · simp (disch := omega) only [cd_gN, cd_upN]; exact x1
    · by_cases ej : j = k
      · subst ej; rw [cd_gE rfl rfl, cd_upE rfl]
      · rw [cd_gN (by omega), cd_upN (by omega)]; exact x2 j hj
    · simp (disch := omega) only [cd_gN, cd_upN]; exact x7 i hi
theorem cd_putMask_no {q : Nat} {h : cd_Hp} {a1 a2 : Int32} (hv : ¬ ∃ k v : Nat, k < 8 ∧ v ≤ 15 ∧ a1 = nI k ∧ a2 = nI v) : f_X4_putMask q a1 a2 h = some (-2, h) := by
  unfold f_X4_putMask
  by_cases h1 : ∃ v, 0 ≤ v ∧ v ≤ 7 ∧ a1 = nI v
  · have w2 : f_X7_isWithin a2 0 15 = 0 := cd_in7f (a := 0) (b := 15) (by
      rintro ⟨v, -, hv2, e2⟩
      obtain ⟨k, -, hk, e1⟩ := h1
      exact hv ⟨k, v, by omega, hv2, e1, e2⟩) (by omega) (by omega)
    obtain ⟨k, -, hk, rfl⟩ := h1
    have w1 : f_X7_isWithin (nI k) 0 7 = 1 := cd_in7t (a := 0) (b := 7) (by omega) (by omega) (by omega)
    rw [w1, w2, if_neg (by decide), if_pos rfl]
  · have w1 : f_X7_isWithin a1 0 7 = 0 := cd_in7f (a := 0) (b := 7) h1 (by omega) (by omega)
    rw [w1, if_pos rfl]
theorem cd_canMask8t {k v : Nat} (hk : k < 8) (hv : v ≤ 15) : f_X8_canMask (nI k) (nI v) = 1 := by
  unfold f_X8_canMask f_X8_isKind
  have w1 : f_X8_in (nI k) 0 7 = 1 := cd_in8t (a := 0) (b := 7) (by omega) (by omega) (by omega)
  have w2 : f_X8_in (nI v) 0 15 = 1 := cd_in8t (a := 0) (b := 15) (by omega) (by omega) (by omega)
  rw [w1, w2, if_neg (by decide), if_neg (by decide)]
theorem cd_canMask8f {a1 a2 : Int32} (hv : ¬ ∃ k v : Nat, k < 8 ∧ v ≤ 15 ∧ a1 = nI k ∧ a2 = nI v) : f_X8_canMask a1 a2 = 0 := by
  unfold f_X8_canMask f_X8_isKind
  by_cases h1 : ∃ v, 0 ≤ v ∧ v ≤ 7 ∧ a1 = nI v
  · have w2 : f_X8_in a2 0 15 = 0 := cd_in8f (a := 0) (b := 15) (by
      rintro ⟨v, -, hv2, e2⟩
      obtain ⟨k, -, hk, e1⟩ := h1
      exact hv ⟨k, v, by omega, hv2, e1, e2⟩) (by omega) (by omega)
    obtain ⟨k, -, hk, rfl⟩ := h1
    have w1 : f_X8_in (nI k) 0 7 = 1 := cd_in8t (a := 0) (b := 7) (by omega) (by omega) (by omega)
    rw [w1, w2, if_neg (by decide), if_pos rfl]
  · have w1 : f_X8_in a1 0 7 = 0 := cd_in8f (a := 0) (b := 7) h1 (by omega) (by omega)
    rw [w1, if_pos rfl]
theorem cd_call1 {n : Nat} {h : cd_Hp} (hI : cd_Inv n h) (hn : n < 512) : cd_q1 cd_Inv n h := by
  intro a1 a2
  have hI2 := hI
  obtain ⟨s, nx, c, hs, t⟩ := hI2
  obtain ⟨-, ⟨hO, hSt⟩, -⟩ := c
  by_cases hv : ∃ k v : Nat, k < 8 ∧ v ≤ 15 ∧ a1 = nI k ∧ a2 = nI v
  · obtain ⟨k, v, hk, hv, rfl, rfl⟩ := hv
    have hw8 := cd_canMask8t hk hv
    have e0 := hO.2.2.1 k hk
    obtain ⟨h1, h2, e1, l1, e2, hI3⟩ := cd_S_ok hI hn (F := fun o => f_X4_putMask 4 (nI k) (nI v) o) (K := fun o => f_X8_exchanges (1 + nI k) (nI v) o) (r := nI (cd_n (cd_R h) (1 + k))) (A' := cd_up (cd_R h) (1 + k) (nI v)) (cd_nr_nI (by have := e0.2; omega)) ((hO.mono (by omega) (by omega)).masks hk hv)
      (fun h1 hs1 _ => ⟨_, (cd_putMask hO hs1 hk hv).1, (cd_putMask hO hs1 hk hv).2, cd_fr.u (by omega) (by omega)⟩)
      (fun h1 hr _ => ⟨_, by rw [cd_addR]; exact cd_exch hr (by omega) e0, cd_R_up hr, cd_frR.u (by omega)⟩)
    refine ⟨_, h1, h2, e1, ?_, hI3⟩
    unfold f_X8_masks
    rw [hw8, if_neg (by decide)]
    exact e2
  · have hw8 := cd_canMask8f hv
    obtain ⟨h1, e1, -, hI3⟩ := cd_S_no hI hn (F := fun o => f_X4_putMask 4 a1 a2 o) (i := 0) (r := -2) (by omega) (by decide) (fun h1 hs1 _ => cd_putMask_no hv)
    refine ⟨_, h1, _, e1, ?_, hI3⟩
    unfold f_X8_masks
    rw [hw8, if_pos rfl, cd_bad8]
    rfl
