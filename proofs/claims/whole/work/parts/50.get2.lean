-- EVENTS
def cd_evOk (A : Nat → Int32) (a1 a2 : Int32) : Prop := ∃ g, g < cd_n A 70 ∧ a1 = nI g ∧ ∃ e, e < cd_n A (71 + 58 * g + 5) ∧ a2 = nI e
theorem cd_hasEv4 {τ : Nat} {A : Nat → Int32} {h : cd_Hp} {a1 a2 : Int32} (x : cd_St 4 A h) (hA : cd_Ok A τ) : (cd_evOk A a1 a2 → f_X4_hasEvent 4 a1 a2 h = some 1) ∧ (¬ cd_evOk A a1 a2 → f_X4_hasEvent 4 a1 a2 h = some 0) := by
  have hG := hA.2.2.2.2.1
  have h6 := hG.2
  unfold f_X4_hasEvent f_X0_hasEvent
  rw [cd_hasGroup4 x hG]
  by_cases hv : ∃ g, g < cd_n A 70 ∧ a1 = nI g
  · rw [if_pos hv, if_neg (by decide)]
    obtain ⟨g, hg, rfl⟩ := hv
    have h5 := (hA.2.2.2.2.2.1 g hg).2.2.2.2.2.1
    have h54 := h5.1.2
    have e6 : cd_g h (4 + 6 + 8 + 7 * g) 6 = nI (cd_n A (71 + 58 * g + 5)) := by rw [(x.2.2.2.1 g hg).1.2.2.2.2.2.2.1]; exact h5.1.1
    rw [cd_ckI (by omega) (by omega), cd_cl (by omega), e6, cd_subL (by omega)]
    have w7 : f_X7_isWithin a2 0 (nI (cd_n A (71 + 58 * g + 5) - 1)) = _ := cd_in7x 0 _ (by omega) (by omega)
    rw [w7]
    constructor
    · rintro ⟨g', hg', e1, e, he, rfl⟩
      rw [cd_eq (by omega) (by omega)] at e1
      subst e1
      have hpe : ∃ v, v < cd_n A (71 + 58 * g + 5) - 1 + 1 ∧ (0 ≤ v ∧ nI e = nI v) := ⟨e, by omega, Nat.zero_le _, rfl⟩
      rw [if_pos hpe, if_neg (by decide)]
    · intro hn
      have hne : ¬ ∃ v, v < cd_n A (71 + 58 * g + 5) - 1 + 1 ∧ (0 ≤ v ∧ a2 = nI v) := fun ⟨e, z1, z2, z3⟩ => hn ⟨g, hg, rfl, e, by omega, z3⟩
      rw [if_neg hne, if_pos rfl]
  · rw [if_neg hv, if_pos rfl]
    exact ⟨fun ⟨g, hg, e1, _⟩ => absurd ⟨g, hg, e1⟩ hv, fun _ => rfl⟩
theorem cd_hasEv8 {τ : Nat} {A : Nat → Int32} {h1 : cd_Hp} {a1 a2 : Int32} (hr : ∀ k, k < 659 → cd_R h1 k = A k) (hA : cd_Ok A τ) : (cd_evOk A a1 a2 → f_X8_isEvent a1 a2 h1 = some 1) ∧ (¬ cd_evOk A a1 a2 → f_X8_isEvent a1 a2 h1 = some 0) := by
  have hG := hA.2.2.2.2.1
  have h6 := hG.2
  unfold f_X8_isEvent
  rw [cd_isGroup8 hr hG]
  by_cases hv : ∃ g, g < cd_n A 70 ∧ a1 = nI g
  · rw [if_pos hv, if_neg (by decide)]
    obtain ⟨g, hg, rfl⟩ := hv
    have h5 := (hA.2.2.2.2.2.1 g hg).2.2.2.2.2.1
    have h54 := h5.1.2
    have e5 := cd_ofG hr (g := g) (w := 5) (by omega) (by omega)
    rw [h5.1.1] at e5
    rw [show (5 : Int32) = nI 5 from rfl, e5, cd_bS, cd_subL (by omega)]
    have w7 : f_X8_in a2 0 (nI (cd_n A (71 + 58 * g + 5) - 1)) = _ := cd_in8x 0 _ (by omega) (by omega)
    rw [w7]
    constructor
    · rintro ⟨g', hg', e1, e, he, rfl⟩
      rw [cd_eq (by omega) (by omega)] at e1
      subst e1
      have hpe : ∃ v, v < cd_n A (71 + 58 * g + 5) - 1 + 1 ∧ (0 ≤ v ∧ nI e = nI v) := ⟨e, by omega, Nat.zero_le _, rfl⟩
      rw [if_pos hpe, if_neg (by decide)]
    · intro hn
      have hne : ¬ ∃ v, v < cd_n A (71 + 58 * g + 5) - 1 + 1 ∧ (0 ≤ v ∧ a2 = nI v) := fun ⟨e, z1, z2, z3⟩ => hn ⟨g, hg, rfl, e, by omega, z3⟩
      rw [if_neg hne, if_pos rfl]
  · rw [if_neg hv, if_pos rfl]
    exact ⟨fun ⟨g, hg, e1, _⟩ => absurd ⟨g, hg, e1⟩ hv, fun _ => rfl⟩
section EV
variable {g e τ : Nat} {A : Nat → Int32} {h : cd_Hp}
theorem cd_evOk' (hg : g < cd_n A 70) (he : e < cd_n A (71 + 58 * g + 5)) : cd_evOk A (nI g) (nI e) := ⟨g, hg, rfl, e, he, rfl⟩
theorem cd_eventFact {w : Nat} (x : cd_St 4 A h) (hA : cd_Ok A τ) (hg : g < cd_n A 70) (he : e < cd_n A (71 + 58 * g + 5)) (hw : w ≤ 2) : cd_nr (A (71 + 58 * g + 10 + 3 * e + w)) ∧ f_X4_eventFact 4 (nI g) (nI e) (nI w) h = some (A (71 + 58 * g + 10 + 3 * e + w)) := by
  have h6 := hA.2.2.2.2.1.2
  have hgg := hA.2.2.2.2.2.1 g hg
  have h54 := hgg.2.2.2.2.2.1.1.2
  obtain ⟨z1, z2, z3⟩ := hgg.2.2.2.2.2.2.2.2.2.2.1 e he
  obtain ⟨y1, y2, y3⟩ := (x.2.2.2.1 g hg).2.1 e he
  unfold f_X4_eventFact
  rw [(cd_hasEv4 x hA).1 (cd_evOk' hg he), cd_bS, if_neg (by decide)]
  simp (disch := omega) only [cd_ckI, cd_cl]
  have : w = 0 ∨ w = 1 ∨ w = 2 := by omega
  rcases this with rfl | rfl | rfl
  · exact ⟨z1.nr (by omega), by rw [if_pos (by decide), y1]; rfl⟩
  · rw [show 71 + 58 * g + 10 + 3 * e + 1 = 71 + 58 * g + 11 + 3 * e by omega]
    exact ⟨z2.nr (by omega), by rw [if_neg (by decide), if_pos (by decide), y2]⟩
  · rw [show 71 + 58 * g + 10 + 3 * e + 2 = 71 + 58 * g + 12 + 3 * e by omega]
    refine ⟨?_, by rw [if_neg (by decide), if_neg (by decide), if_pos (by decide), y3]⟩
    rcases z3 with z3 | z3
    · rw [z3]; exact cd_nr_m1
    · exact z3.nr (by omega)
/-- totals -/
theorem cd_tots (x : cd_St 4 A h) (hA : cd_Ok A τ) (hg : g < cd_n A 70) (he : e < 4) : f_X0_countIn (4 + 6 + 8 + 7 * g) (nI e) (-1) h = some (nI (cd_S6 A (71 + 58 * g + 22 + 6 * e))) ∧ f_X0_enabledIn (4 + 6 + 8 + 7 * g) (-1) h = some (nI (cd_S6 A (71 + 58 * g + 46))) ∧ f_X0_runningIn (4 + 6 + 8 + 7 * g) (-1) h = some (nI (cd_S6 A (71 + 58 * g + 52))) := by
  have h6 := hA.2.2.2.2.1.2
  have hgg := hA.2.2.2.2.2.1 g hg
  have hc : cd_is 0 (4 + 6 + 8 + 7 * g) := cd_r9_all _ (cd_r4_7 cd_is_4).lt (cd_r4_7 cd_is_4) g (by omega)
  obtain ⟨-, -, -, -, -, -, -, -, -, -, -, c11, c12, -⟩ := hgg
  obtain ⟨-, -, y3, y4⟩ := x.2.2.2.1 g hg
  refine ⟨?_, ?_, ?_⟩
  · unfold f_X0_countIn
    rw [cd_mulL, cd_cellSum (cd_r0_13 hc) (by omega) (by omega), cd_bS, cd_sm_congr 6 (g := fun i => A (71 + 58 * g + 22 + 6 * e + i)) (fun i hi => by rw [y3 _ (by omega)]; exact congrArg A (by omega)), cd_sm6 (m := 100000000)]
    intro i hi
    have := c11 (6 * e + i) (by omega)
    rw [show 71 + 58 * g + 22 + (6 * e + i) = 71 + 58 * g + 22 + 6 * e + i by omega] at this
    exact this
  · unfold f_X0_enabledIn
    rw [show (0 : Int32) = nI 0 from rfl, cd_cellSum (cd_r0_14 hc) (by omega) (by omega), cd_bS, cd_sm_congr 6 (g := fun i => A (71 + 58 * g + 46 + i)) (fun i hi => by rw [Nat.zero_add, (y4 i hi).1]), cd_sm6 (fun i hi => (c12 i hi).1)]
  · unfold f_X0_runningIn
    rw [show (0 : Int32) = nI 0 from rfl, cd_cellSum (cd_r0_15 hc) (by omega) (by omega), cd_bS, cd_sm_congr 6 (g := fun i => A (71 + 58 * g + 52 + i)) (fun i hi => by rw [Nat.zero_add, (y4 i hi).2]), cd_sm6 (fun i hi => (c12 i hi).2)]
theorem cd_tots8 {h1 : cd_Hp} (hr : ∀ k, k < 659 → cd_R h1 k = A k) (hA : cd_Ok A τ) (hg : g < cd_n A 70) (he : e < 4) : f_X8_sumAt (f_X8_countAt (nI g) (nI e) 0) (-1) h1 = some (nI (cd_S6 A (71 + 58 * g + 22 + 6 * e))) ∧ f_X8_sumAt (f_X8_groupAt (nI g) + 46) (-1) h1 = some (nI (cd_S6 A (71 + 58 * g + 46))) ∧ f_X8_sumAt (f_X8_groupAt (nI g) + 52) (-1) h1 = some (nI (cd_S6 A (71 + 58 * g + 52))) := by
  have h6 := hA.2.2.2.2.1.2
  obtain ⟨-, -, -, -, -, -, -, -, -, -, -, c11, c12, -⟩ := hA.2.2.2.2.2.1 g hg
  have ec : f_X8_countAt (nI g) (nI e) 0 = nI (71 + 58 * g + 22 + 6 * e) := by rw [show (0 : Int32) = nI 0 from rfl, cd_countAt]; rfl
  refine ⟨?_, ?_, ?_⟩
  · rw [ec, cd_sumAt (by omega), cd_sm_congr 6 (g := fun i => A (71 + 58 * g + 22 + 6 * e + i)) (fun i hi => hr _ (by omega)), cd_sm6 (m := 100000000)]
    intro i hi
    have := c11 (6 * e + i) (by omega)
    rw [show 71 + 58 * g + 22 + (6 * e + i) = 71 + 58 * g + 22 + 6 * e + i by omega] at this
    exact this
  · rw [cd_groupAt, cd_addL, cd_sumAt (by omega), cd_sm_congr 6 (g := fun i => A (71 + 58 * g + 46 + i)) (fun i hi => hr _ (by omega)), cd_sm6 (fun i hi => (c12 i hi).1)]
  · rw [cd_groupAt, cd_addL, cd_sumAt (by omega), cd_sm_congr 6 (g := fun i => A (71 + 58 * g + 52 + i)) (fun i hi => hr _ (by omega)), cd_sm6 (fun i hi => (c12 i hi).2)]
/-- in one task -/
theorem cd_one {t : Nat} (x : cd_St 4 A h) (hA : cd_Ok A τ) (hg : g < cd_n A 70) (he : e < 4) (ht : t < 6) : f_X0_countIn (4 + 6 + 8 + 7 * g) (nI e) (nI t) h = some (A (71 + 58 * g + 22 + 6 * e + t)) ∧ f_X0_enabledIn (4 + 6 + 8 + 7 * g) (nI t) h = some (A (71 + 58 * g + 46 + t)) ∧ f_X0_runningIn (4 + 6 + 8 + 7 * g) (nI t) h = some (A (71 + 58 * g + 52 + t)) := by
  have h6 := hA.2.2.2.2.1.2
  have hc : cd_is 0 (4 + 6 + 8 + 7 * g) := cd_r9_all _ (cd_r4_7 cd_is_4).lt (cd_r4_7 cd_is_4) g (by omega)
  obtain ⟨-, -, y3, y4⟩ := x.2.2.2.1 g hg
  refine ⟨?_, ?_, ?_⟩
  · unfold f_X0_countIn
    rw [cd_mulL, cd_cellOne (cd_r0_13 hc) (by omega) (by omega), cd_bS, y3 _ (by omega)]
    exact congrArg some (congrArg A (by omega))
  · unfold f_X0_enabledIn
    rw [show (0 : Int32) = nI 0 from rfl, cd_cellOne (cd_r0_14 hc) (by omega) (by omega), cd_bS, Nat.zero_add, (y4 t ht).1]
  · unfold f_X0_runningIn
    rw [show (0 : Int32) = nI 0 from rfl, cd_cellOne (cd_r0_15 hc) (by omega) (by omega), cd_bS, Nat.zero_add, (y4 t ht).2]
theorem cd_one8 {t : Nat} {h1 : cd_Hp} (hr : ∀ k, k < 659 → cd_R h1 k = A k) (hg : g < 6) (he : e < 4) (ht : t < 6) : f_X8_sumAt (f_X8_countAt (nI g) (nI e) 0) (nI t) h1 = some (A (71 + 58 * g + 22 + 6 * e + t)) ∧ f_X8_sumAt (f_X8_groupAt (nI g) + 46) (nI t) h1 = some (A (71 + 58 * g + 46 + t)) ∧ f_X8_sumAt (f_X8_groupAt (nI g) + 52) (nI t) h1 = some (A (71 + 58 * g + 52 + t)) := by
  have ec : f_X8_countAt (nI g) (nI e) 0 = nI (71 + 58 * g + 22 + 6 * e) := by rw [show (0 : Int32) = nI 0 from rfl, cd_countAt]; rfl
  refine ⟨?_, ?_, ?_⟩
  · rw [ec, cd_sumOne (by omega) ht]; exact congrArg some (hr _ (by omega))
  · rw [cd_groupAt, cd_addL, cd_sumOne (by omega) ht]; exact congrArg some (hr _ (by omega))
  · rw [cd_groupAt, cd_addL, cd_sumOne (by omega) ht]; exact congrArg some (hr _ (by omega))
theorem cd_scaledFact {w : Nat} (x : cd_St 4 A h) (hA : cd_Ok A τ) (hg : g < cd_n A 70) (he : e < cd_n A (71 + 58 * g + 5)) (hw : w ≤ 1) : ∃ r, cd_nr r ∧ f_X4_scaledFact 4 (nI g) (nI e) (nI w) h = some r ∧ ∀ h1, (∀ k, k < 659 → cd_R h1 k = A k) → f_X8_scaledOf (nI g) (nI e) (nI w) h1 = some r := by
  have h6 := hA.2.2.2.2.1.2
  have hgg := hA.2.2.2.2.2.1 g hg
  have h54 := hgg.2.2.2.2.2.1.1.2
  have m426 := hA.m426
  obtain ⟨t1, t2, t3⟩ := cd_tots x hA hg (e := e) (by omega)
  obtain ⟨-, -, -, -, -, -, -, -, -, -, c10, c11, c12, c13, c14, c15⟩ := hgg
  obtain ⟨z1, z2, z3⟩ := c10 e he
  have cC := c15 e (by omega)
  have y2 := ((x.2.2.2.1 g hg).2.1 e he).2.1
  have w7 : f_X7_isWithin (nI w) 0 1 = 1 := cd_in7t (a := 0) (b := 1) (by omega) hw (by omega)
  unfold f_X4_scaledFact
  rw [(cd_hasEv4 x hA).1 (cd_evOk' hg he), cd_bS, if_neg (by decide), w7, if_neg (by decide), cd_ckI (by omega) (by omega), cd_cl (by omega)]
  have : w = 0 ∨ w = 1 := by omega
  rcases this with rfl | rfl
  · rcases Nat.eq_zero_or_pos (cd_S6 A (71 + 58 * g + 52)) with z | z
    · refine ⟨-1, cd_nr_m1, ?_, fun h1 hr => ?_⟩
      · unfold f_X0_scaledCount
        rw [if_pos (by decide), t3, cd_bS, z, if_pos (by decide), cd_bS]
      · obtain ⟨u1, u2, u3⟩ := cd_tots8 hr hA hg (e := e) (by omega)
        unfold f_X8_scaledOf
        rw [u1, cd_bS, u2, cd_bS, u3, cd_bS, if_neg (by decide), z, if_pos (by decide)]
    · obtain ⟨k1, m, hm, k2⟩ := cd_scale (C := cd_S6 A (71 + 58 * g + 22 + 6 * e)) (E := cd_S6 A (71 + 58 * g + 46)) (R := cd_S6 A (71 + 58 * g + 52)) z (by omega) cC (by omega)
      refine ⟨nI m, cd_nr_nI hm, ?_, fun h1 hr => ?_⟩
      · unfold f_X0_scaledCount
        rw [if_pos (by decide), t3, cd_bS, if_neg (by rw [cd_eqL (by omega) (by omega)]; omega), t1, cd_bS, t2, cd_bS, cd_ckT k1, k2, cd_bS]
      · obtain ⟨u1, u2, u3⟩ := cd_tots8 hr hA hg (e := e) (by omega)
        unfold f_X8_scaledOf
        rw [u1, cd_bS, u2, cd_bS, u3, cd_bS, if_neg (by decide), if_neg (by rw [cd_eqL (by omega) (by omega)]; omega), cd_ckT k1, k2]
  · have hP := z2.2
    have hmul : (cd_S6 A (71 + 58 * g + 46) - cd_S6 A (71 + 58 * g + 52)) * cd_n A (71 + 58 * g + 11 + 3 * e) ≤ (cd_S6 A (71 + 58 * g + 46) - cd_S6 A (71 + 58 * g + 52)) * 99 := Nat.mul_le_mul_left _ hP
    have e2 : cd_g h (4 + 6 + 8 + 7 * g + 2) e = nI (cd_n A (71 + 58 * g + 11 + 3 * e)) := by rw [y2]; exact z2.1
    refine ⟨nI (cd_S6 A (71 + 58 * g + 22 + 6 * e) + (cd_S6 A (71 + 58 * g + 46) - cd_S6 A (71 + 58 * g + 52)) * cd_n A (71 + 58 * g + 11 + 3 * e)), cd_nr_nI (by omega), ?_, fun h1 hr => ?_⟩
    · unfold f_X0_mostCount
      rw [if_neg (by decide), t1, cd_bS, t2, cd_bS, t3, cd_bS, cd_ckI (by omega) (by omega), cd_ckI (by omega) (by omega), cd_cl (by omega), e2, nI_sub c14, nI_mul, nI_add, cd_bS]
    · obtain ⟨u1, u2, u3⟩ := cd_tots8 hr hA hg (e := e) (by omega)
      have e8 : cd_g h1 405 (71 + 58 * g + 10 + 3 * e + 1) = nI (cd_n A (71 + 58 * g + 11 + 3 * e)) := by
        rw [show 71 + 58 * g + 10 + 3 * e + 1 = 71 + 58 * g + 11 + 3 * e by omega]
        exact (hr _ (by omega)).trans z2.1
      unfold f_X8_scaledOf
      rw [u1, cd_bS, u2, cd_bS, u3, cd_bS, if_pos (by decide), cd_eventAt, cd_addL, cd_ckI (by omega) (by omega), cd_cl (by omega), e8, nI_sub c14, nI_mul, nI_add]
end EV
theorem cd_call13 {n : Nat} {h : cd_Hp} (hI : cd_Inv n h) (hn : n < 512) : cd_q13 cd_Inv n h := by
  intro a1 a2 a3
  have hI2 := hI
  obtain ⟨s, nx, c, hs, t⟩ := hI2
  obtain ⟨-, ⟨hO, hSt⟩, -⟩ := c
  have h6 := hO.2.2.2.2.1.2
  refine cd_get hI hn ?_
  have w8 : f_X8_in a3 0 2 = _ := cd_in8x 0 2 (by omega) (by omega)
  by_cases hv1 : cd_evOk (cd_R h) a1 a2
  · by_cases hv2 : ∃ v, v < 2 + 1 ∧ (0 ≤ v ∧ a3 = nI v)
    · left
      have e8 := (cd_hasEv8 (h1 := h) (fun _ _ => rfl) hO).1 hv1
      have e8' : f_X8_in a3 0 2 = 1 := by rw [w8, if_pos hv2]
      obtain ⟨g, hg, rfl, e, he, rfl⟩ := hv1
      obtain ⟨w, hw, -, rfl⟩ := hv2
      have h54 := (hO.2.2.2.2.2.1 g hg).2.2.2.2.2.1.1.2
      obtain ⟨r1, r2⟩ := cd_eventFact hSt hO hg he (w := w) (by omega)
      refine ⟨_, r1, r2, ?_⟩
      unfold f_X8_about
      rw [e8, cd_bS, if_neg (by decide), e8', if_neg (by decide), cd_eventAt, nI_add, cd_ckI (by omega) (by omega), cd_cl (by omega)]
    · right
      have ne : ∀ v, v < 3 → ¬ a3 = nI v := fun v h1 h2 => hv2 ⟨v, h1, Nat.zero_le _, h2⟩
      constructor
      · unfold f_X4_eventFact
        rw [(cd_hasEv4 hSt hO).1 hv1, cd_bS, if_neg (by decide), if_neg (show ¬ a3 = 0 from ne 0 (by omega)), if_neg (show ¬ a3 = 1 from ne 1 (by omega)), if_neg (show ¬ a3 = 2 from ne 2 (by omega))]
      · intro h1 e
        unfold f_X8_about
        rw [(cd_hasEv8 (A := cd_R h) (fun k _ => e _ _ (by omega)) hO).1 hv1, cd_bS, if_neg (by decide), w8, if_neg hv2, if_pos rfl, cd_nmE2]
  · right
    constructor
    · unfold f_X4_eventFact
      rw [(cd_hasEv4 hSt hO).2 hv1, cd_bS, if_pos rfl]
    · intro h1 e
      unfold f_X8_about
      rw [(cd_hasEv8 (A := cd_R h) (fun k _ => e _ _ (by omega)) hO).2 hv1, cd_bS, if_pos rfl, cd_nmE2]
theorem cd_call14 {n : Nat} {h : cd_Hp} (hI : cd_Inv n h) (hn : n < 512) : cd_q14 cd_Inv n h := by
  intro a1 a2 a3
  have hI2 := hI
  obtain ⟨s, nx, c, hs, t⟩ := hI2
  obtain ⟨-, ⟨hO, hSt⟩, -⟩ := c
  have h6 := hO.2.2.2.2.1.2
  have hT := hO.2.2.2.1
  have h9 := hT.1.1.2
  have m426 := hO.m426
  refine cd_get hI hn ?_
  by_cases hv1 : cd_evOk (cd_R h) a1 a2
  · have e8 := (cd_hasEv8 (h1 := h) (fun _ _ => rfl) hO).1 hv1
    have e7 := (cd_hasEv4 hSt hO).1 hv1
    by_cases hm : a3 = -1
    · left
      obtain ⟨g, hg, rfl, e, he, rfl⟩ := hv1
      have hgg := hO.2.2.2.2.2.1 g hg
      have h54 := hgg.2.2.2.2.2.1.1.2
      have c15 := hgg.2.2.2.2.2.2.2.2.2.2.2.2.2.2.2 e (by omega)
      have c14 := hgg.2.2.2.2.2.2.2.2.2.2.2.2.2.2.1
      have c13 := hgg.2.2.2.2.2.2.2.2.2.2.2.2.2.1
      subst hm
      obtain ⟨t1, -, -⟩ := cd_tots hSt hO hg (e := e) (by omega)
      obtain ⟨u1, -, -⟩ := cd_tots8 (h1 := h) (fun _ _ => rfl) hO hg (e := e) (by omega)
      refine ⟨nI (cd_S6 (cd_R h) (71 + 58 * g + 22 + 6 * e)), cd_nr_nI (by omega), ?_, ?_⟩
      · unfold f_X4_countFact
        rw [e7, cd_bS, if_neg (by decide), if_pos rfl, cd_ckI (by omega) (by omega), cd_cl (by omega), t1, cd_bS]
      · unfold f_X8_count
        rw [e8, cd_bS, if_neg (by decide), if_pos rfl, u1, cd_bS]
    · by_cases hv2 : ∃ t, t < cd_n (cd_R h) 9 ∧ a3 = nI t
      · left
        have k7 : f_X5_has (4 + 2) a3 h = 1 := by rw [cd_has5 hSt hT, if_pos hv2]
        have k8 : f_X8_isTask a3 h = 1 := by rw [cd_isTask8 (fun _ _ => rfl) hT, if_pos hv2]
        obtain ⟨g, hg, rfl, e, he, rfl⟩ := hv1
        obtain ⟨t, ht, rfl⟩ := hv2
        have hgg := hO.2.2.2.2.2.1 g hg
        have h54 := hgg.2.2.2.2.2.1.1.2
        have c11 := hgg.2.2.2.2.2.2.2.2.2.2.2.1 (6 * e + t) (by omega)
        rw [show 71 + 58 * g + 22 + (6 * e + t) = 71 + 58 * g + 22 + 6 * e + t by omega] at c11
        obtain ⟨t1, -, -⟩ := cd_one hSt hO hg (e := e) (t := t) (by omega) (by omega)
        obtain ⟨u1, -, -⟩ := cd_one8 (A := cd_R h) (h1 := h) (fun _ _ => rfl) (g := g) (e := e) (t := t) (by omega) (by omega) (by omega)
        refine ⟨_, c11.nr (by omega), ?_, ?_⟩
        · unfold f_X4_countFact
          rw [e7, cd_bS, if_neg (by decide), if_neg hm, k7, if_neg (by decide), cd_ckI (by omega) (by omega), cd_cl (by omega), t1, cd_bS]
        · unfold f_X8_count
          rw [e8, cd_bS, if_neg (by decide), if_neg hm, k8, if_neg (by decide), u1, cd_bS]
      · right
        constructor
        · unfold f_X4_countFact
          rw [e7, cd_bS, if_neg (by decide), if_neg hm, cd_has5 hSt hT, if_neg hv2, if_pos rfl]
        · intro h1 e
          unfold f_X8_count
          rw [(cd_hasEv8 (A := cd_R h) (fun k _ => e _ _ (by omega)) hO).1 hv1, cd_bS, if_neg (by decide), if_neg hm, cd_isTask8 (A := cd_R h) (fun k _ => e _ _ (by omega)) hT, if_neg hv2, if_pos rfl, cd_nmE2]
  · right
    constructor
    · unfold f_X4_countFact
      rw [(cd_hasEv4 hSt hO).2 hv1, cd_bS, if_pos rfl]
    · intro h1 e
      unfold f_X8_count
      rw [(cd_hasEv8 (A := cd_R h) (fun k _ => e _ _ (by omega)) hO).2 hv1, cd_bS, if_pos rfl, cd_nmE2]
theorem cd_call16 {n : Nat} {h : cd_Hp} (hI : cd_Inv n h) (hn : n < 512) : cd_q16 cd_Inv n h := by
  intro a1 a2 a3
  have hI2 := hI
  obtain ⟨s, nx, c, hs, t⟩ := hI2
  obtain ⟨-, ⟨hO, hSt⟩, -⟩ := c
  refine cd_get hI hn ?_
  have w7 : f_X7_isWithin a3 0 1 = _ := cd_in7x 0 1 (by omega) (by omega)
  have w8 : f_X8_in a3 0 1 = _ := cd_in8x 0 1 (by omega) (by omega)
  by_cases hv1 : cd_evOk (cd_R h) a1 a2
  · by_cases hv2 : ∃ v, v < 1 + 1 ∧ (0 ≤ v ∧ a3 = nI v)
    · left
      have e8 := (cd_hasEv8 (h1 := h) (fun _ _ => rfl) hO).1 hv1
      have e8' : f_X8_in a3 0 1 = 1 := by rw [w8, if_pos hv2]
      obtain ⟨g, hg, rfl, e, he, rfl⟩ := hv1
      obtain ⟨w, hw, -, rfl⟩ := hv2
      obtain ⟨r, r1, r2, r3⟩ := cd_scaledFact hSt hO hg he (w := w) (by omega)
      refine ⟨_, r1, r2, ?_⟩
      unfold f_X8_scaled
      rw [e8, cd_bS, if_neg (by decide), e8', if_neg (by decide), r3 h (fun _ _ => rfl), cd_bS]
    · right
      constructor
      · unfold f_X4_scaledFact
        rw [(cd_hasEv4 hSt hO).1 hv1, cd_bS, if_neg (by decide), w7, if_neg hv2, if_pos rfl]
      · intro h1 e
        unfold f_X8_scaled
        rw [(cd_hasEv8 (A := cd_R h) (fun k _ => e _ _ (by omega)) hO).1 hv1, cd_bS, if_neg (by decide), w8, if_neg hv2, if_pos rfl, cd_nmE2]
  · right
    constructor
    · unfold f_X4_scaledFact
      rw [(cd_hasEv4 hSt hO).2 hv1, cd_bS, if_pos rfl]
    · intro h1 e
      unfold f_X8_scaled
      rw [(cd_hasEv8 (A := cd_R h) (fun k _ => e _ _ (by omega)) hO).2 hv1, cd_bS, if_pos rfl, cd_nmE2]
