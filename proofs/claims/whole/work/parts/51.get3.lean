-- times, told
theorem cd_timeFact {g t w τ : Nat} {A : Nat → Int32} {h : cd_Hp} (x : cd_St 4 A h) (hA : cd_Ok A τ) (hg : g < cd_n A 70) (ht : t < cd_n A 9) (hw : w ≤ 1) : f_X4_timeFact 4 (nI g) (nI t) (nI w) h = some (A (71 + 58 * g + 46 + 6 * w + t)) := by
  have hG := hA.2.2.2.2.1
  have h6 := hG.2
  have hT := hA.2.2.2.1
  have h9 := hT.1.1.2
  have e7 : f_X4_hasGroup 4 (nI g) h = 1 := by rw [cd_hasGroup4 x hG, if_pos ⟨g, hg, rfl⟩]
  have f7 : f_X7_isWithin (nI w) 0 1 = 1 := cd_in7t (a := 0) (b := 1) (by omega) hw (by omega)
  have k7 : f_X5_has (4 + 2) (nI t) h = 1 := by rw [cd_has5 x hT, if_pos ⟨t, ht, rfl⟩]
  obtain ⟨-, t2, t3⟩ := cd_one x hA hg (e := 0) (t := t) (by omega) (by omega)
  unfold f_X4_timeFact
  rw [e7, if_neg (by decide), if_neg (cd_neg1 (by omega)), k7, if_neg (by decide), f7, if_neg (by decide)]
  have hw2 : w = 0 ∨ w = 1 := by omega
  rcases hw2 with rfl | rfl
  · rw [if_pos (by decide), cd_ckI (by omega) (by omega), cd_cl (by omega), t2, cd_bS]
  · rw [if_neg (by decide), cd_ckI (by omega) (by omega), cd_cl (by omega), t3, cd_bS]
theorem cd_timeSum {g w τ : Nat} {A : Nat → Int32} {h : cd_Hp} (x : cd_St 4 A h) (hA : cd_Ok A τ) (hg : g < cd_n A 70) (hw : w ≤ 1) : f_X4_timeFact 4 (nI g) (-1) (nI w) h = some (nI (cd_S6 A (71 + 58 * g + 46 + 6 * w))) := by
  have hG := hA.2.2.2.2.1
  have h6 := hG.2
  have e7 : f_X4_hasGroup 4 (nI g) h = 1 := by rw [cd_hasGroup4 x hG, if_pos ⟨g, hg, rfl⟩]
  have f7 : f_X7_isWithin (nI w) 0 1 = 1 := cd_in7t (a := 0) (b := 1) (by omega) hw (by omega)
  obtain ⟨-, t2, t3⟩ := cd_tots x hA hg (e := 0) (by omega)
  unfold f_X4_timeFact
  rw [e7, if_neg (by decide), if_pos rfl, f7, if_neg (by decide)]
  have hw2 : w = 0 ∨ w = 1 := by omega
  rcases hw2 with rfl | rfl
  · rw [if_pos (by decide), cd_ckI (by omega) (by omega), cd_cl (by omega), t2, cd_bS]
  · rw [if_neg (by decide), cd_ckI (by omega) (by omega), cd_cl (by omega), t3, cd_bS]
theorem cd_call15 {n : Nat} {h : cd_Hp} (hI : cd_Inv n h) (hn : n < 512) : cd_q15 cd_Inv n h := by
  intro a1 a2 a3
  have hI2 := hI
  obtain ⟨s, nx, c, hs, t⟩ := hI2
  obtain ⟨-, ⟨hO, hSt⟩, -⟩ := c
  have hG := hO.2.2.2.2.1
  have h6 := hG.2
  have hT := hO.2.2.2.1
  have h9 := hT.1.1.2
  have m426 := hO.m426
  refine cd_get hI hn ?_
  have w7 : f_X7_isWithin a3 0 1 = _ := cd_in7x 0 1 (by omega) (by omega)
  have w8 : f_X8_in a3 0 1 = _ := cd_in8x 0 1 (by omega) (by omega)
  by_cases hv1 : ∃ g, g < cd_n (cd_R h) 70 ∧ a1 = nI g
  · have e7 : f_X4_hasGroup 4 a1 h = 1 := by rw [cd_hasGroup4 hSt hG, if_pos hv1]
    have e8 : ∀ h1, (∀ x k, x ≠ 403 → cd_g h1 x k = cd_g h x k) → f_X8_isGroup a1 h1 = 1 := fun h1 e => by rw [cd_isGroup8 (A := cd_R h) (fun k _ => e _ _ (by omega)) hG, if_pos hv1]
    by_cases hv3 : ∃ v, v < 1 + 1 ∧ (0 ≤ v ∧ a3 = nI v)
    · have f7 : f_X7_isWithin a3 0 1 = 1 := by rw [w7, if_pos hv3]
      have f8 : f_X8_in a3 0 1 = 1 := by rw [w8, if_pos hv3]
      obtain ⟨g, hg, rfl⟩ := hv1
      obtain ⟨w, hw, -, rfl⟩ := hv3
      have hgg := hO.2.2.2.2.2.1 g hg
      obtain ⟨-, -, -, -, -, -, -, -, -, -, -, -, c12, c13, c14, -⟩ := hgg
      have hw2 : w = 0 ∨ w = 1 := by omega
      by_cases hm : a2 = -1
      · left
        subst hm
        obtain ⟨-, u2, u3⟩ := cd_tots8 (h1 := h) (fun _ _ => rfl) hO hg (e := 0) (by omega)
        refine ⟨_, cd_nr_nI ?_, cd_timeSum hSt hO hg (w := w) (by omega), ?_⟩
        · rcases hw2 with rfl | rfl
          · show cd_S6 (cd_R h) (71 + 58 * g + 46) < _; omega
          · show cd_S6 (cd_R h) (71 + 58 * g + 52) < _; omega
        · unfold f_X8_times
          rw [e8 h (fun _ _ _ => rfl), if_neg (by decide), if_pos rfl, f8, if_neg (by decide)]
          rcases hw2 with rfl | rfl
          · rw [if_pos (by decide), u2, cd_bS]
          · rw [if_neg (by decide), u3, cd_bS]
      · by_cases hv2 : ∃ t, t < cd_n (cd_R h) 9 ∧ a2 = nI t
        · left
          have k8 : f_X8_isTask a2 h = 1 := by rw [cd_isTask8 (fun _ _ => rfl) hT, if_pos hv2]
          obtain ⟨t, ht, rfl⟩ := hv2
          obtain ⟨-, u2, u3⟩ := cd_one8 (A := cd_R h) (h1 := h) (fun _ _ => rfl) (g := g) (e := 0) (t := t) (by omega) (by omega) (by omega)
          refine ⟨_, ?_, cd_timeFact hSt hO hg ht (w := w) (by omega), ?_⟩
          · rcases hw2 with rfl | rfl
            · exact (c12 t (by omega)).1.nr (by omega)
            · exact (c12 t (by omega)).2.nr (by omega)
          · unfold f_X8_times
            rw [e8 h (fun _ _ _ => rfl), if_neg (by decide), if_neg hm, k8, if_neg (by decide), f8, if_neg (by decide)]
            rcases hw2 with rfl | rfl
            · rw [if_pos (by decide), u2, cd_bS]
            · rw [if_neg (by decide), u3, cd_bS]
        · right
          constructor
          · unfold f_X4_timeFact
            rw [e7, if_neg (by decide), if_neg hm, cd_has5 hSt hT, if_neg hv2, if_pos rfl]
          · intro h1 e
            unfold f_X8_times
            rw [e8 h1 e, if_neg (by decide), if_neg hm, cd_isTask8 (A := cd_R h) (fun k _ => e _ _ (by omega)) hT, if_neg hv2, if_pos rfl, cd_nmE2]
    · right
      have f7 : f_X7_isWithin a3 0 1 = 0 := by rw [w7, if_neg hv3]
      have f8 : f_X8_in a3 0 1 = 0 := by rw [w8, if_neg hv3]
      by_cases hm : a2 = -1
      · constructor
        · unfold f_X4_timeFact
          rw [e7, if_neg (by decide), if_pos hm, f7, if_pos rfl]
        · intro h1 e
          unfold f_X8_times
          rw [e8 h1 e, if_neg (by decide), if_pos hm, f8, if_pos rfl, cd_nmE2]
      · constructor
        · unfold f_X4_timeFact
          rw [e7, if_neg (by decide), if_neg hm, f7, if_pos rfl]
          split <;> rfl
        · intro h1 e
          unfold f_X8_times
          rw [e8 h1 e, if_neg (by decide), if_neg hm, f8, if_pos rfl]
          split <;> rfl
  · right
    constructor
    · unfold f_X4_timeFact
      rw [cd_hasGroup4 hSt hG, if_neg hv1, if_pos rfl]
    · intro h1 e
      unfold f_X8_times
      rw [cd_isGroup8 (A := cd_R h) (fun k _ => e _ _ (by omega)) hG, if_neg hv1, if_pos rfl, cd_nmE2]
def cd_On (A : Nat → Int32) : Nat → Nat
  | 0 => 0
  | g + 1 => cd_On A g + if cd_n A (71 + 58 * g + 9) = 1 then 2 ^ g else 0
theorem cd_On_lt {A : Nat → Int32} : ∀ g, cd_On A g < 2 ^ g := by
  intro g
  induction g with
  | zero => exact Nat.one_pos
  | succ g ih =>
    unfold cd_On
    rw [Nat.pow_succ]
    split <;> omega
theorem cd_shl0 : ∀ g, g < 6 → (0 : Int32) <<< (nI g &&& 31) = 0 := by decide +kernel
theorem cd_on4 {τ : Nat} {A : Nat → Int32} {h : cd_Hp} (x : cd_St 4 A h) (hA : cd_Ok A τ) : f_X4_groupsOn 4 h = some (nI (cd_On A (cd_n A 70))) ∧ ∀ h1, (∀ k, k < 659 → cd_R h1 k = A k) → f_X8_onNow h1 = some (nI (cd_On A (cd_n A 70))) := by
  have hG := hA.2.2.2.2.1
  have h6 := hG.2
  have hst : ∀ i, i < cd_n A 70 → nI (cd_On A i) ||| (A (71 + 58 * i + 9) <<< (nI i &&& 31)) = nI (cd_On A (i + 1)) := by
    intro i hi
    have g9 := (hA.2.2.2.2.2.1 i hi).2.2.2.2.2.2.2.2.2.1
    have lt := cd_On_lt (A := A) i
    have p2 := cd_pow2 (g := i) (by omega)
    have hz : cd_On A (i + 1) = cd_On A i + if cd_n A (71 + 58 * i + 9) = 1 then 2 ^ i else 0 := rfl
    rcases cd_num01 g9 with ⟨v, m⟩ | ⟨v, m⟩
    · rw [v, cd_shl0 i (by omega), cd_or0, hz, m, if_neg (by decide)]; rfl
    · rw [v, cd_bitOr i (by omega) _ (by omega) lt, hz, m, if_pos rfl]
  constructor
  · have hloop : ∃ o, cd_lp (f_X4_groupsOn_B4 4 h) cd_fu (0, 0) = some o ∧ o.1 = nI (cd_On A (cd_n A 70)) := by
      refine cd_for (cd_n A 70) (fun i (st : Int32 × Int32) => st = (nI (cd_On A i), nI i)) _ ?_ cd_fu 0 (0, 0) (Nat.zero_le _) (by unfold cd_fu; omega) rfl
      rintro i st K hi rfl
      unfold f_X4_groupsOn_B4
      dsimp only
      have e3 : cd_g h 4 3 = nI (cd_n A 70) := by rw [x.1.2.2.2.1]; exact hG.1
      rw [e3]
      rcases Nat.lt_or_ge i (cd_n A 70) with hlt | hge
      · left
        have g9 := (hA.2.2.2.2.2.1 i hlt).2.2.2.2.2.2.2.2.2.1
        rw [if_neg (by rw [cd_le (by omega) (by omega)]; omega), cd_ckI (by omega) (by omega), cd_cl (by omega), (x.2.2.2.1 i hlt).1.2.2.2.2.2.1, cd_bitE g9, hst i hlt, cd_nmE2, cd_nmE2, cd_addL]
        exact ⟨hlt, _, rfl, rfl⟩
      · right
        obtain rfl : i = cd_n A 70 := by omega
        rw [if_pos (by rw [cd_le (by omega) (by omega)]; omega)]
        exact ⟨_, rfl, rfl⟩
    obtain ⟨o, eo, ho⟩ := hloop
    unfold f_X4_groupsOn
    rw [eo, cd_bS, ho]
  · intro h1 hr
    have e70 : cd_g h1 405 70 = nI (cd_n A 70) := (hr 70 (by omega)).trans hG.1
    have hloop : ∃ o, cd_lp (f_X8_onNow_B4 h1) cd_fu (0, 0) = some o ∧ o.1 = nI (cd_On A (cd_n A 70)) := by
      refine cd_for (cd_n A 70) (fun i (st : Int32 × Int32) => st = (nI (cd_On A i), nI i)) _ ?_ cd_fu 0 (0, 0) (Nat.zero_le _) (by unfold cd_fu; omega) rfl
      rintro i st K hi rfl
      unfold f_X8_onNow_B4
      dsimp only
      rw [cd_c70, e70]
      rcases Nat.lt_or_ge i (cd_n A 70) with hlt | hge
      · left
        have e9 := cd_ofG hr (g := i) (w := 9) (by omega) (by omega)
        rw [if_neg (by rw [cd_le (by omega) (by omega)]; omega), show (9 : Int32) = nI 9 from rfl, e9, cd_bS, hst i hlt, cd_nmE2, cd_nmE2, cd_addL]
        exact ⟨hlt, _, rfl, rfl⟩
      · right
        obtain rfl : i = cd_n A 70 := by omega
        rw [if_pos (by rw [cd_le (by omega) (by omega)]; omega)]
        exact ⟨_, rfl, rfl⟩
    obtain ⟨o, eo, ho⟩ := hloop
    unfold f_X8_onNow
    rw [eo, cd_bS, ho]
theorem cd_wholeFact {w τ : Nat} {A : Nat → Int32} {h : cd_Hp} (x : cd_St 4 A h) (hA : cd_Ok A τ) (hw : w ≤ 8) : ∃ r, cd_nr r ∧ f_X4_wholeFact 4 (nI w) h = some r ∧ ∀ h1, (∀ k, k < 659 → cd_R h1 k = A k) → f_X8_toldOf (nI w) h1 = some r := by
  have hA' := hA
  obtain ⟨h0, ⟨k0, -⟩, -, ⟨⟨k9, -⟩, -⟩, k70, -, -, k426, k427, k428, ⟨k429, -⟩, ⟨k466, -⟩, -⟩ := hA'
  have x' := x
  obtain ⟨⟨x0, x1, x2, x3, x4⟩, -, ⟨x9, -⟩, -, -, ⟨s0, s1, s2⟩, -⟩ := x'
  unfold f_X4_wholeFact f_X8_toldOf
  have c0 : Int32.toNatClampNeg 0 = 0 := by decide
  have c426 : Int32.toNatClampNeg 426 = 426 := by decide
  have c429 : Int32.toNatClampNeg 429 = 429 := by decide
  have c466 : Int32.toNatClampNeg 466 = 466 := by decide
  have c428 : Int32.toNatClampNeg 428 = 428 := by decide
  have c427 : Int32.toNatClampNeg 427 = 427 := by decide
  have : w = 0 ∨ w = 1 ∨ w = 2 ∨ w = 3 ∨ w = 4 ∨ w = 5 ∨ w = 6 ∨ w = 7 ∨ w = 8 := by omega
  rcases this with rfl | rfl | rfl | rfl | rfl | rfl | rfl | rfl | rfl
  · exact ⟨A 0, k0.nr (by omega), by rw [if_pos (by decide), x0], fun h1 hr => by rw [if_pos (by decide), c0]; exact congrArg some (hr 0 (by omega))⟩
  · exact ⟨A 9, k9.nr (by omega), by rw [if_neg (by decide), if_pos (by decide), x9], fun h1 hr => by rw [if_neg (by decide), if_pos (by decide), cd_c9]; exact congrArg some (hr 9 (by omega))⟩
  · exact ⟨A 70, k70.nr (by omega), by rw [if_neg (by decide), if_neg (by decide), if_pos (by decide), x3], fun h1 hr => by rw [if_neg (by decide), if_neg (by decide), if_pos (by decide), cd_c70]; exact congrArg some (hr 70 (by omega))⟩
  · exact ⟨A 426, k426.nr (by omega), by rw [if_neg (by decide), if_neg (by decide), if_neg (by decide), if_pos (by decide), x2], fun h1 hr => by rw [if_neg (by decide), if_neg (by decide), if_neg (by decide), if_pos (by decide), c426]; exact congrArg some (hr 426 (by omega))⟩
  · exact ⟨A 429, k429.nr (by omega), by rw [if_neg (by decide), if_neg (by decide), if_neg (by decide), if_neg (by decide), if_pos (by decide), s1], fun h1 hr => by rw [if_neg (by decide), if_neg (by decide), if_neg (by decide), if_neg (by decide), if_pos (by decide), c429]; exact congrArg some (hr 429 (by omega))⟩
  · exact ⟨A 466, k466.nr (by omega), by rw [if_neg (by decide), if_neg (by decide), if_neg (by decide), if_neg (by decide), if_neg (by decide), if_pos (by decide), s0], fun h1 hr => by rw [if_neg (by decide), if_neg (by decide), if_neg (by decide), if_neg (by decide), if_neg (by decide), if_pos (by decide), c466]; exact congrArg some (hr 466 (by omega))⟩
  · exact ⟨A 428, k428.nr (by omega), by rw [if_neg (by decide), if_neg (by decide), if_neg (by decide), if_neg (by decide), if_neg (by decide), if_neg (by decide), if_pos (by decide), s2], fun h1 hr => by rw [if_neg (by decide), if_neg (by decide), if_neg (by decide), if_neg (by decide), if_neg (by decide), if_neg (by decide), if_pos (by decide), c428]; exact congrArg some (hr 428 (by omega))⟩
  · have lt := cd_On_lt (A := A) (cd_n A 70)
    have p2 := cd_pow2 (g := cd_n A 70) k70.2
    obtain ⟨o4, o8⟩ := cd_on4 x hA
    exact ⟨nI (cd_On A (cd_n A 70)), cd_nr_nI (by omega), by rw [if_neg (by decide), if_neg (by decide), if_neg (by decide), if_neg (by decide), if_neg (by decide), if_neg (by decide), if_neg (by decide), if_pos (by decide), o4, cd_bS], fun h1 hr => by rw [if_neg (by decide), if_neg (by decide), if_neg (by decide), if_neg (by decide), if_neg (by decide), if_neg (by decide), if_neg (by decide), if_pos (by decide), o8 h1 hr, cd_bS]⟩
  · exact ⟨A 427, k427.nr (by omega), by rw [if_neg (by decide), if_neg (by decide), if_neg (by decide), if_neg (by decide), if_neg (by decide), if_neg (by decide), if_neg (by decide), if_neg (by decide), if_pos (by decide), x1], fun h1 hr => by rw [if_neg (by decide), if_neg (by decide), if_neg (by decide), if_neg (by decide), if_neg (by decide), if_neg (by decide), if_neg (by decide), if_neg (by decide), c427]; exact congrArg some (hr 427 (by omega))⟩
theorem cd_call20 {n : Nat} {h : cd_Hp} (hI : cd_Inv n h) (hn : n < 512) : cd_q20 cd_Inv n h := by
  intro a1
  have hI2 := hI
  obtain ⟨s, nx, c, hs, t⟩ := hI2
  obtain ⟨-, ⟨hO, hSt⟩, -⟩ := c
  refine cd_get hI hn ?_
  have w8 : f_X8_in a1 0 8 = _ := cd_in8x 0 8 (by omega) (by omega)
  by_cases hv : ∃ v, v < 8 + 1 ∧ (0 ≤ v ∧ a1 = nI v)
  · left
    have hv2 := hv
    obtain ⟨v, hv1, -, rfl⟩ := hv2
    obtain ⟨r, r1, r2, r3⟩ := cd_wholeFact hSt hO (w := v) (by omega)
    refine ⟨r, r1, r2, ?_⟩
    unfold f_X8_told
    rw [w8, if_pos hv, if_neg (by decide), r3 h (fun _ _ => rfl), cd_bS]
  · right
    have ne : ∀ v, v < 9 → ¬ a1 = nI v := fun v h1 h2 => hv ⟨v, h1, Nat.zero_le _, h2⟩
    constructor
    · unfold f_X4_wholeFact
      rw [if_neg (show ¬ a1 = 0 from ne 0 (by omega)), if_neg (show ¬ a1 = 1 from ne 1 (by omega)), if_neg (show ¬ a1 = 2 from ne 2 (by omega)), if_neg (show ¬ a1 = 3 from ne 3 (by omega)), if_neg (show ¬ a1 = 4 from ne 4 (by omega)), if_neg (show ¬ a1 = 5 from ne 5 (by omega)), if_neg (show ¬ a1 = 6 from ne 6 (by omega)), if_neg (show ¬ a1 = 7 from ne 7 (by omega)), if_neg (show ¬ a1 = 8 from ne 8 (by omega))]
    · intro h1 _
      unfold f_X8_told
      rw [w8, if_neg hv, if_pos rfl, cd_nmE2]
