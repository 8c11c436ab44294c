theorem cd_bm32 {M : Nat} (h : M ≤ 49500000) : ((M : Nat) : Int).bmod (2 ^ 32) = (M : Int) := Int.bmod_eq_of_le (by omega) (by omega)
-- SUMS, SCALES
theorem cd_i64 {n : Nat} (h : n < 2147483648) : (Int32.toInt64 (nI n)).toInt = (n : Int) := by rw [Int32.toInt_toInt64, nI_toInt h]
theorem cd_scale {C E R : Nat} (hR : 1 ≤ R) (hR5 : R ≤ 500000) (hC : C ≤ 99 * R) (hE : E ≤ 500000) : (!decide (Int32.toInt64 (nI R) = 0)) = true ∧ ∃ m, m < 2147483648 ∧ Int64.toInt32 ((Int32.toInt64 (nI C) * Int32.toInt64 (nI E)) / Int32.toInt64 (nI R)) = nI m := by
  have r0 := cd_i64 (n := R) (by omega)
  have c0 := cd_i64 (n := C) (by omega)
  have e0 := cd_i64 (n := E) (by omega)
  constructor
  · have : ¬ Int32.toInt64 (nI R) = 0 := by
      intro z
      rw [z] at r0
      have : (0 : Int64).toInt = 0 := by decide
      omega
    simp [this]
  · have hCE : C * E ≤ 24750000000000 := Nat.le_trans (Nat.mul_le_mul (show C ≤ 49500000 by omega) hE) (by decide)
    have hm : C * E / R ≤ 49500000 := by
      apply Nat.div_le_of_le_mul
      calc C * E ≤ (99 * R) * 500000 := Nat.mul_le_mul hC hE
        _ = R * 49500000 := by omega
    refine ⟨C * E / R, by omega, ?_⟩
    apply Int32.toInt_inj.mp
    rw [nI_toInt (by omega), Int64.toInt_toInt32, Int64.toInt_div, Int64.toInt_mul, r0, c0, e0]
    have q1 : ((C : Int) * (E : Int)).bmod (2 ^ 64) = ((C * E : Nat) : Int) := by
      rw [← Int.natCast_mul]
      generalize C * E = M at *
      exact Int.bmod_eq_of_le (by omega) (by omega)
    have q2 : Int.tdiv ((C * E : Nat) : Int) (R : Int) = ((C * E / R : Nat) : Int) := by
      rw [Int.tdiv_eq_ediv_of_nonneg (by omega)]; rfl
    rw [q1, q2]
    generalize C * E / R = M at *
    have q3 : ((M : Nat) : Int).bmod (2 ^ 64) = (M : Int) := Int.bmod_eq_of_le (by omega) (by omega)
    have q4 : ((M : Nat) : Int).bmod (2 ^ 32) = (M : Int) := cd_bm32 hm
    rw [q3, q4]
def cd_sm (f : Nat → Int32) : Nat → Int32
  | 0 => 0
  | i + 1 => cd_sm f i + f i
theorem cd_sm_congr {f g : Nat → Int32} : ∀ n, (∀ i, i < n → f i = g i) → cd_sm f n = cd_sm g n := by
  intro n
  induction n with
  | zero => intro _; rfl
  | succ n ih => intro h; unfold cd_sm; rw [ih (fun i hi => h i (by omega)), h n (by omega)]
theorem cd_sm6 {A : Nat → Int32} {a m : Nat} (h : ∀ i, i < 6 → cd_num A (a + i) m) : cd_sm (fun i => A (a + i)) 6 = nI (cd_S6 A a) := by
  have h0 := (h 0 (by omega)).1
  have h1 := (h 1 (by omega)).1
  have h2 := (h 2 (by omega)).1
  have h3 := (h 3 (by omega)).1
  have h4 := (h 4 (by omega)).1
  have h5 := (h 5 (by omega)).1
  show 0 + A (a + 0) + A (a + 1) + A (a + 2) + A (a + 3) + A (a + 4) + A (a + 5) = _
  rw [h0, h1, h2, h3, h4, h5, show (0 : Int32) = nI 0 from rfl]
  simp only [nI_add]
  unfold cd_S6
  rw [Nat.add_zero, Nat.zero_add]
theorem cd_cellSum {r n a : Nat} {h : cd_Hp} (hr : cd_ar n r) (ha : a + 6 ≤ n) (hn : n < 100) : f_X0_cellOrSum r (nI a) (-1) h = some (cd_sm (fun i => cd_g h r (a + i)) 6) := by
  unfold f_X0_cellOrSum
  rw [if_pos rfl]
  have hloop : ∃ o, cd_lp (f_X0_cellOrSum_B16 r (nI a) (-1) h) cd_fu (0, 0) = some o ∧ o.1 = cd_sm (fun i => cd_g h r (a + i)) 6 := by
    refine cd_for 6 (fun i (st : Int32 × Int32) => st = (cd_sm (fun i => cd_g h r (a + i)) i, nI i)) _ ?_ cd_fu 0 (0, 0) (by omega) (by unfold cd_fu; omega) rfl
    rintro i st K hi rfl
    unfold f_X0_cellOrSum_B16
    dsimp only
    rw [hr.ln]
    rcases Nat.lt_or_ge i 6 with hlt | hge
    · left
      rw [if_neg (by rw [cd_leR (by omega) (by omega)]; omega)]
      simp (disch := omega) only [nI_add, cd_ckI, cd_cl, cd_nmE2, cd_addL]
      exact ⟨hlt, _, rfl, rfl⟩
    · right
      obtain rfl : i = 6 := by omega
      rw [if_pos (by decide)]
      exact ⟨_, rfl, rfl⟩
  obtain ⟨o, eo, ho⟩ := hloop
  rw [eo, cd_bS, ho]
theorem cd_cellOne {r n a t : Nat} {h : cd_Hp} (hr : cd_ar n r) (ha : a + t < n) (hn : n < 100) : f_X0_cellOrSum r (nI a) (nI t) h = some (cd_g h r (a + t)) := by
  unfold f_X0_cellOrSum
  rw [if_neg (cd_neg1 (by omega)), hr.ln, nI_add, cd_ckI (by omega) (by omega), cd_cl (by omega)]
theorem cd_sumAt {a : Nat} {h : cd_Hp} (ha : a + 6 ≤ 659) : f_X8_sumAt (nI a) (-1) h = some (cd_sm (fun i => cd_g h 405 (a + i)) 6) := by
  unfold f_X8_sumAt
  have hloop : ∃ o, cd_lp (f_X8_sumAt_B5 (nI a) (-1) h) cd_fu (0, 0) = some o ∧ o.1 = cd_sm (fun i => cd_g h 405 (a + i)) 6 := by
    refine cd_for 6 (fun i (st : Int32 × Int32) => st = (cd_sm (fun i => cd_g h 405 (a + i)) i, nI i)) _ ?_ cd_fu 0 (0, 0) (by omega) (by unfold cd_fu; omega) rfl
    rintro i st K hi rfl
    unfold f_X8_sumAt_B5
    dsimp only
    rcases Nat.lt_or_ge i 6 with hlt | hge
    · left
      rw [if_neg (by rw [cd_leR (by omega) (by omega)]; omega), if_pos rfl]
      simp (disch := omega) only [nI_add, cd_ckI, cd_cl, cd_nmE2, cd_addL]
      exact ⟨hlt, _, rfl, rfl⟩
    · right
      obtain rfl : i = 6 := by omega
      rw [if_pos (by decide)]
      exact ⟨_, rfl, rfl⟩
  obtain ⟨o, eo, ho⟩ := hloop
  rw [eo, cd_bS, ho]
theorem cd_sumOne {a t : Nat} {h : cd_Hp} (ha : a + 6 ≤ 659) (ht : t < 6) : f_X8_sumAt (nI a) (nI t) h = some (cd_g h 405 (a + t)) := by
  unfold f_X8_sumAt
  have hloop : ∃ o, cd_lp (f_X8_sumAt_B5 (nI a) (nI t) h) cd_fu (0, 0) = some o ∧ o.1 = cd_g h 405 (a + t) := by
    refine cd_for 6 (fun i (st : Int32 × Int32) => st = (if t < i then cd_g h 405 (a + t) else 0, nI i)) _ ?_ cd_fu 0 (0, 0) (by omega) (by unfold cd_fu; omega) rfl
    rintro i st K hi rfl
    unfold f_X8_sumAt_B5
    dsimp only
    rcases Nat.lt_or_ge i 6 with hlt | hge
    · left
      refine ⟨hlt, _, rfl, ?_⟩
      rw [if_neg (by rw [cd_leR (by omega) (by omega)]; omega), if_neg (cd_neg1 (by omega))]
      simp (disch := omega) only [nI_add, cd_ckI, cd_cl, cd_nmE2, cd_addL, cd_eq]
      by_cases z : t = i
      · subst z
        rw [if_pos rfl, if_neg (by omega), if_pos (by omega), Int32.zero_add]
      · rw [if_neg z, Int32.add_zero]
        by_cases z2 : t < i
        · rw [if_pos z2, if_pos (by omega)]
        · rw [if_neg z2, if_neg (by omega)]
    · right
      obtain rfl : i = 6 := by omega
      rw [if_pos (by decide)]
      exact ⟨_, rfl, if_pos ht⟩
  obtain ⟨o, eo, ho⟩ := hloop
  rw [eo, cd_bS, ho]
-- TASKS
theorem cd_taskFact {t w τ : Nat} {A : Nat → Int32} {h : cd_Hp} (x : cd_St 4 A h) (hA : cd_Ok A τ) (ht : t < cd_n A 9) (hw : w ≤ 2) : ∃ r, cd_nr r ∧ f_X4_taskFact 4 (nI t) (nI w) h = some r ∧ ∀ h1, (∀ k, k < 659 → cd_R h1 k = A k) → f_X8_aboutTask (nI t) (nI w) h1 = some r := by
  have hT := hA.2.2.2.1
  have h9 := hT.1.1.2
  have w0 : f_X5_has (4 + 2) (nI t) h = 1 := by rw [cd_has5 x hT, if_pos ⟨t, ht, rfl⟩]
  unfold f_X4_taskFact f_X8_aboutTask
  rw [w0, if_neg (by decide), cd_taskAt, nI_add]
  simp (disch := omega) only [cd_ckI, cd_cl]
  have : w = 0 ∨ w = 1 ∨ w = 2 := by omega
  rcases this with rfl | rfl | rfl
  · refine ⟨A (10 + 10 * t), ?_, ?_, fun h1 hr => ?_⟩
    · rcases Nat.eq_zero_or_pos t with z | z
      · subst z
        have : A (10 + 10 * 0) = -1 := hT.2.1.1
        rw [this]; exact cd_nr_m1
      · have hp := hT.2.2.1 t z ht
        rw [hp.1.1]; exact cd_nr_nI (by have := hp.1.2; omega)
    · rw [if_pos (by decide), (x.2.2.1.2.1 t (by omega)).1]
    · rw [if_neg (by decide)]; exact congrArg some (hr (10 + 10 * t + 0) (by omega))
  · refine ⟨A (11 + 10 * t), ?_, ?_, fun h1 hr => ?_⟩
    · have hp := (hT.2.2.2 t ht).1
      rw [hp.1]; exact cd_nr_nI (by have := hp.2; omega)
    · rw [if_neg (by decide), if_pos (by decide), (x.2.2.1.2.1 t (by omega)).2]
    · rw [if_neg (by decide), show 10 + 10 * t + 1 = 11 + 10 * t by omega]; exact congrArg some (hr (11 + 10 * t) (by omega))
  · have lt := cd_Wa_lt (A := A) (t := t) (cd_n A 70)
    have p2 := cd_pow2 (g := cd_n A 70) hA.2.2.2.2.1.2
    refine ⟨nI (cd_Wa A t (cd_n A 70)), cd_nr_nI (by omega), ?_, fun h1 hr => ?_⟩
    · rw [if_neg (by decide), if_neg (by decide), if_pos (by decide), cd_watch4 hA x ht, cd_bS]
    · rw [if_pos (by decide), cd_watch8 hr hA ht, cd_bS]
theorem cd_call11 {n : Nat} {h : cd_Hp} (hI : cd_Inv n h) (hn : n < 512) : cd_q11 cd_Inv n h := by
  intro a1 a2
  have hI2 := hI
  obtain ⟨s, nx, c, hs, t⟩ := hI2
  obtain ⟨-, ⟨hO, hSt⟩, -⟩ := c
  have hT := hO.2.2.2.1
  refine cd_get hI hn ?_
  have w8 : f_X8_in a2 0 2 = _ := cd_in8x 0 2 (by omega) (by omega)
  by_cases hv1 : ∃ t, t < cd_n (cd_R h) 9 ∧ a1 = nI t
  · by_cases hv2 : ∃ v, v < 2 + 1 ∧ (0 ≤ v ∧ a2 = nI v)
    · left
      have e8 : f_X8_isTask a1 h = 1 := by rw [cd_isTask8 (fun _ _ => rfl) hT, if_pos hv1]
      have e8' : f_X8_in a2 0 2 = 1 := by rw [w8, if_pos hv2]
      obtain ⟨t, ht, rfl⟩ := hv1
      obtain ⟨w, hw, -, rfl⟩ := hv2
      obtain ⟨r, r1, r2, r3⟩ := cd_taskFact hSt hO ht (w := w) (by omega)
      refine ⟨r, r1, r2, ?_⟩
      unfold f_X8_task
      rw [e8, if_neg (by decide), e8', if_neg (by decide), r3 h (fun _ _ => rfl), cd_bS]
    · right
      have ne : ∀ v, v < 3 → ¬ a2 = nI v := fun v h1 h2 => hv2 ⟨v, h1, Nat.zero_le _, h2⟩
      constructor
      · unfold f_X4_taskFact
        rw [cd_has5 hSt hT, if_pos hv1, if_neg (by decide), if_neg (show ¬ a2 = 0 from ne 0 (by omega)), if_neg (show ¬ a2 = 1 from ne 1 (by omega)), if_neg (show ¬ a2 = 2 from ne 2 (by omega))]
      · intro h1 e
        have e8 : f_X8_isTask a1 h1 = 1 := by rw [cd_isTask8 (A := cd_R h) (fun k _ => e _ _ (by omega)) hT, if_pos hv1]
        unfold f_X8_task
        rw [e8, if_neg (by decide), w8, if_neg hv2, if_pos rfl, cd_nmE2]
  · right
    constructor
    · unfold f_X4_taskFact
      rw [cd_has5 hSt hT, if_neg hv1, if_pos rfl]
    · intro h1 e
      unfold f_X8_task
      rw [cd_isTask8 (A := cd_R h) (fun k _ => e _ _ (by omega)) hT, if_neg hv1, if_pos rfl, cd_nmE2]
-- GROUPS
theorem cd_place4 {g τ : Nat} {A : Nat → Int32} {h : cd_Hp} (x : cd_St 4 A h) (hA : cd_Ok A τ) (hg : g < 6) : ∃ r, cd_nr r ∧ f_X4_placeInLine 4 (nI g) h = some r ∧ ∀ h1, (∀ k, k < 659 → cd_R h1 k = A k) → f_X8_placeOf (nI g) h1 = some r := by
  obtain ⟨q1, q2, q3⟩ := hA.2.2.2.2.2.2.1
  have q6 := q1.2
  have e4 : cd_g h 4 4 = nI (cd_n A 419) := by rw [x.1.2.2.2.2]; exact q1.1
  by_cases hx : ∃ i, i < cd_n A 419 ∧ cd_n A (420 + i) = g
  · obtain ⟨i0, hi0, hg0⟩ := hx
    refine ⟨nI i0, cd_nr_nI (by omega), ?_, fun h1 hr => ?_⟩
    · have hloop : ∃ o, cd_lp (f_X4_placeInLine_B2 4 (nI g) h) cd_fu 0 = some o ∧ o = .inl (nI i0) := by
        refine cd_for (cd_n A 419) (fun i (st : Int32) => st = nI i ∧ i ≤ i0) _ ?_ cd_fu 0 0 (Nat.zero_le _) (by unfold cd_fu; omega) ⟨rfl, Nat.zero_le _⟩
        rintro i st K hi ⟨rfl, hii⟩
        unfold f_X4_placeInLine_B2
        rw [e4, if_neg (by rw [cd_le (by omega) (by omega)]; omega), cd_ckI (by omega) (by omega), cd_cl (by omega), x.2.2.2.2.1 i (by omega), (q2 i (by omega)).1.1, cd_nmE2, cd_addL]
        by_cases z : i = i0
        · subst z
          right
          rw [if_pos (by rw [hg0])]
          exact ⟨_, rfl, rfl⟩
        · left
          have hne := q3 i i0 (by omega) hi0
          rw [if_neg (by rw [cd_eq (by have := (q2 i (by omega)).1.2; omega) (by omega)]; omega)]
          exact ⟨by omega, _, ⟨rfl, by omega⟩, rfl⟩
      obtain ⟨o, eo, rfl⟩ := hloop
      unfold f_X4_placeInLine
      rw [eo]; rfl
    · have e8 : cd_g h1 405 419 = nI (cd_n A 419) := (hr 419 (by omega)).trans q1.1
      have hloop : ∃ o, cd_lp (f_X8_placeOf_B4 (nI g) h1) cd_fu (-1, 1) = some o ∧ o.1 = nI i0 := by
        refine cd_for (cd_n A 419 + 1) (fun i (st : Int32 × Int32) => 1 ≤ i ∧ st = (if i0 + 1 < i then nI i0 else -1, nI i)) _ ?_ cd_fu 1 (-1, 1) (by omega) (by unfold cd_fu; omega) ⟨by omega, by rw [if_neg (by omega)]; rfl⟩
        rintro i st K hi ⟨hi1, rfl⟩
        unfold f_X8_placeOf_B4
        dsimp only
        rw [cd_c419, e8]
        rcases Nat.lt_or_ge (cd_n A 419) i with hlt | hge
        · right
          rw [if_pos (by rw [cd_lt (by omega) (by omega)]; omega)]
          exact ⟨_, rfl, if_pos (by omega)⟩
        · left
          obtain ⟨j, rfl⟩ : ∃ j, i = j + 1 := ⟨i - 1, by omega⟩
          have ej : cd_g h1 405 (419 + (j + 1)) = nI (cd_n A (420 + j)) := by
            rw [show 419 + (j + 1) = 420 + j by omega]
            exact (hr _ (by omega)).trans (q2 j (by omega)).1.1
          have := (q2 j (by omega)).1.2
          rw [if_neg (show ¬ nI (cd_n A 419) < nI (j + 1) by rw [cd_lt (by omega) (by omega)]; omega)]
          simp (disch := omega) only [cd_addR, cd_ckI, cd_cl, ej, cd_nmE2, cd_addL, cd_subL, cd_eq]
          refine ⟨by omega, _, ⟨by omega, rfl⟩, ?_⟩
          by_cases z : j = i0
          · subst z
            rw [if_pos hg0, if_pos (by omega)]; rfl
          · have hne : ¬ cd_n A (420 + j) = g := by
              rcases Nat.lt_or_ge j i0 with w | w
              · have := q3 j i0 w hi0; omega
              · have := q3 i0 j (by omega) (by omega); omega
            rw [if_neg hne]
            by_cases z2 : i0 < j
            · rw [if_pos (by omega), if_pos (by omega)]
            · rw [if_neg (by omega), if_neg (by omega)]
      obtain ⟨o, eo, ho⟩ := hloop
      unfold f_X8_placeOf
      rw [eo, cd_bS, ho]
  · have ne : ∀ i, i < cd_n A 419 → ¬ nI (cd_n A (420 + i)) = nI g := fun i hi => by
      rw [cd_eq (by have := (q2 i hi).1.2; omega) (by omega)]; exact fun z => hx ⟨i, hi, z⟩
    refine ⟨-1, cd_nr_m1, ?_, fun h1 hr => ?_⟩
    · have hloop : ∃ o, cd_lp (f_X4_placeInLine_B2 4 (nI g) h) cd_fu 0 = some o ∧ ∃ v, o = .inr v := by
        refine cd_for (cd_n A 419) (fun i (st : Int32) => st = nI i) _ ?_ cd_fu 0 0 (Nat.zero_le _) (by unfold cd_fu; omega) rfl
        rintro i st K hi rfl
        unfold f_X4_placeInLine_B2
        rw [e4]
        rcases Nat.lt_or_ge i (cd_n A 419) with hlt | hge
        · left
          rw [if_neg (by rw [cd_le (by omega) (by omega)]; omega), cd_ckI (by omega) (by omega), cd_cl (by omega), x.2.2.2.2.1 i (by omega), (q2 i (by omega)).1.1, cd_nmE2, cd_addL, if_neg (ne i hlt)]
          exact ⟨hlt, _, rfl, rfl⟩
        · right
          rw [if_pos (by rw [cd_le (by omega) (by omega)]; omega)]
          exact ⟨_, rfl, _, rfl⟩
      obtain ⟨o, eo, v, rfl⟩ := hloop
      unfold f_X4_placeInLine
      rw [eo]; rfl
    · have e8 : cd_g h1 405 419 = nI (cd_n A 419) := (hr 419 (by omega)).trans q1.1
      have hloop : ∃ o, cd_lp (f_X8_placeOf_B4 (nI g) h1) cd_fu (-1, 1) = some o ∧ o.1 = -1 := by
        refine cd_for (cd_n A 419 + 1) (fun i (st : Int32 × Int32) => 1 ≤ i ∧ st = (-1, nI i)) _ ?_ cd_fu 1 (-1, 1) (by omega) (by unfold cd_fu; omega) ⟨by omega, rfl⟩
        rintro i st K hi ⟨hi1, rfl⟩
        unfold f_X8_placeOf_B4
        dsimp only
        rw [cd_c419, e8]
        rcases Nat.lt_or_ge (cd_n A 419) i with hlt | hge
        · right
          rw [if_pos (by rw [cd_lt (by omega) (by omega)]; omega)]
          exact ⟨_, rfl, rfl⟩
        · left
          obtain ⟨j, rfl⟩ : ∃ j, i = j + 1 := ⟨i - 1, by omega⟩
          have ej : cd_g h1 405 (419 + (j + 1)) = nI (cd_n A (420 + j)) := by
            rw [show 419 + (j + 1) = 420 + j by omega]
            exact (hr _ (by omega)).trans (q2 j (by omega)).1.1
          rw [if_neg (by rw [cd_lt (by omega) (by omega)]; omega)]
          simp (disch := omega) only [cd_addR, cd_ckI, cd_cl, ej, cd_nmE2, cd_addL]
          rw [if_neg (ne j (by omega))]
          exact ⟨by omega, _, ⟨by omega, rfl⟩, rfl⟩
      obtain ⟨o, eo, ho⟩ := hloop
      unfold f_X8_placeOf
      rw [eo, cd_bS, ho]
theorem cd_ofG {g w : Nat} {A : Nat → Int32} {h1 : cd_Hp} (hr : ∀ k, k < 659 → cd_R h1 k = A k) (hg : g < 6) (hw : w < 58) : f_X8_ofGroup (nI g) (nI w) h1 = some (A (71 + 58 * g + w)) := by
  rw [cd_ofGroup hg hw]
  exact congrArg some (hr _ (by omega))
theorem cd_num.nr {A : Nat → Int32} {k m : Nat} (h : cd_num A k m) (hm : m < 2147483648) : cd_nr (A k) := by
  rw [h.1]; exact cd_nr_nI (by have := h.2; omega)
theorem cd_groupFact {g w τ : Nat} {A : Nat → Int32} {h : cd_Hp} (x : cd_St 4 A h) (hA : cd_Ok A τ) (hg : g < cd_n A 70) (hw : w ≤ 10) : ∃ r, cd_nr r ∧ f_X4_groupFact 4 (nI g) (nI w) h = some r ∧ ∀ h1, (∀ k, k < 659 → cd_R h1 k = A k) → f_X8_aboutGroup (nI g) (nI w) h1 = some r := by
  have hG := hA.2.2.2.2.1
  have h6 := hG.2
  have w0 : f_X4_hasGroup 4 (nI g) h = 1 := by rw [cd_hasGroup4 x hG, if_pos ⟨g, hg, rfl⟩]
  obtain ⟨⟨g0, -⟩, ⟨g1, -⟩, g2, g3, g4, ⟨g5, -⟩, ⟨g6, -⟩, ⟨g7, -⟩, ⟨g8, -⟩, g9, -⟩ := hA.2.2.2.2.2.1 g hg
  obtain ⟨y0, y1, y2, y3, y4, y5, y6, y7, y8, y9⟩ := (x.2.2.2.1 g hg).1
  unfold f_X4_groupFact f_X8_aboutGroup
  rw [w0, if_neg (by decide), cd_ckI (by omega) (by omega), cd_cl (by omega)]
  have : w = 0 ∨ w = 1 ∨ w = 2 ∨ w = 3 ∨ w = 4 ∨ w = 5 ∨ w = 6 ∨ w = 7 ∨ w = 8 ∨ w = 9 ∨ w = 10 := by omega
  rcases this with rfl | rfl | rfl | rfl | rfl | rfl | rfl | rfl | rfl | rfl | rfl
  · exact ⟨A (71 + 58 * g), g0.nr (by omega), by rw [if_pos (by decide), y0], fun h1 hr => by rw [if_neg (by decide), if_neg (by decide), cd_ofG hr (by omega) (by omega), cd_bS]; rfl⟩
  · exact ⟨A (71 + 58 * g + 1), g1.nr (by omega), by rw [if_neg (by decide), if_pos (by decide), y1], fun h1 hr => by rw [if_neg (by decide), if_neg (by decide), cd_ofG hr (by omega) (by omega), cd_bS]⟩
  · exact ⟨A (71 + 58 * g + 2), g2.nr (by omega), by rw [if_neg (by decide), if_neg (by decide), if_pos (by decide), y2, cd_bitE g2], fun h1 hr => by rw [if_neg (by decide), if_neg (by decide), cd_ofG hr (by omega) (by omega), cd_bS]⟩
  · exact ⟨A (71 + 58 * g + 3), g3.nr (by omega), by rw [if_neg (by decide), if_neg (by decide), if_neg (by decide), if_pos (by decide), y3, cd_bitE g3], fun h1 hr => by rw [if_neg (by decide), if_neg (by decide), cd_ofG hr (by omega) (by omega), cd_bS]⟩
  · exact ⟨A (71 + 58 * g + 4), g4.nr (by omega), by rw [if_neg (by decide), if_neg (by decide), if_neg (by decide), if_neg (by decide), if_pos (by decide), y4, cd_bitE g4], fun h1 hr => by rw [if_neg (by decide), if_neg (by decide), cd_ofG hr (by omega) (by omega), cd_bS]⟩
  · exact ⟨A (71 + 58 * g + 5), g5.nr (by omega), by rw [if_neg (by decide), if_neg (by decide), if_neg (by decide), if_neg (by decide), if_neg (by decide), if_pos (by decide), y6], fun h1 hr => by rw [if_neg (by decide), if_neg (by decide), cd_ofG hr (by omega) (by omega), cd_bS]⟩
  · exact ⟨A (71 + 58 * g + 6), g6.nr (by omega), by rw [if_neg (by decide), if_neg (by decide), if_neg (by decide), if_neg (by decide), if_neg (by decide), if_neg (by decide), if_pos (by decide), y7], fun h1 hr => by rw [if_neg (by decide), if_neg (by decide), cd_ofG hr (by omega) (by omega), cd_bS]⟩
  · exact ⟨A (71 + 58 * g + 7), g7.nr (by omega), by rw [if_neg (by decide), if_neg (by decide), if_neg (by decide), if_neg (by decide), if_neg (by decide), if_neg (by decide), if_neg (by decide), if_pos (by decide), y8], fun h1 hr => by rw [if_neg (by decide), if_neg (by decide), cd_ofG hr (by omega) (by omega), cd_bS]⟩
  · exact ⟨A (71 + 58 * g + 8), g8.nr (by omega), by rw [if_neg (by decide), if_neg (by decide), if_neg (by decide), if_neg (by decide), if_neg (by decide), if_neg (by decide), if_neg (by decide), if_neg (by decide), if_pos (by decide), y9], fun h1 hr => by rw [if_neg (by decide), if_neg (by decide), cd_ofG hr (by omega) (by omega), cd_bS]⟩
  · obtain ⟨r, r1, r2, r3⟩ := cd_place4 x hA (g := g) (by omega)
    exact ⟨r, r1, by rw [if_neg (by decide), if_neg (by decide), if_neg (by decide), if_neg (by decide), if_neg (by decide), if_neg (by decide), if_neg (by decide), if_neg (by decide), if_neg (by decide), if_pos (by decide), r2, cd_bS], fun h1 hr => by rw [if_pos (by decide), r3 h1 hr, cd_bS]⟩
  · exact ⟨A (71 + 58 * g + 9), g9.nr (by omega), by rw [if_neg (by decide), if_neg (by decide), if_neg (by decide), if_neg (by decide), if_neg (by decide), if_neg (by decide), if_neg (by decide), if_neg (by decide), if_neg (by decide), if_neg (by decide), if_pos (by decide), y5, cd_bitE g9], fun h1 hr => by
      have := cd_ofG hr (g := g) (w := 9) (by omega) (by omega)
      rw [if_neg (by decide), if_pos (by decide), show (9 : Int32) = nI 9 from rfl, this, cd_bS]⟩
theorem cd_call12 {n : Nat} {h : cd_Hp} (hI : cd_Inv n h) (hn : n < 512) : cd_q12 cd_Inv n h := by
  intro a1 a2
  have hI2 := hI
  obtain ⟨s, nx, c, hs, t⟩ := hI2
  obtain ⟨-, ⟨hO, hSt⟩, -⟩ := c
  have hG := hO.2.2.2.2.1
  have h6 := hG.2
  refine cd_get hI hn ?_
  have w8 : f_X8_in a2 0 10 = _ := cd_in8x 0 10 (by omega) (by omega)
  by_cases hv1 : ∃ g, g < cd_n (cd_R h) 70 ∧ a1 = nI g
  · by_cases hv2 : ∃ v, v < 10 + 1 ∧ (0 ≤ v ∧ a2 = nI v)
    · left
      have e8 : f_X8_isGroup a1 h = 1 := by rw [cd_isGroup8 (fun _ _ => rfl) hG, if_pos hv1]
      have e8' : f_X8_in a2 0 10 = 1 := by rw [w8, if_pos hv2]
      obtain ⟨g, hg, rfl⟩ := hv1
      obtain ⟨w, hw, -, rfl⟩ := hv2
      obtain ⟨r, r1, r2, r3⟩ := cd_groupFact hSt hO hg (w := w) (by omega)
      refine ⟨r, r1, r2, ?_⟩
      unfold f_X8_of
      rw [e8, if_neg (by decide), e8', if_neg (by decide), r3 h (fun _ _ => rfl), cd_bS]
    · right
      have ne : ∀ v, v < 11 → ¬ a2 = nI v := fun v h1 h2 => hv2 ⟨v, h1, Nat.zero_le _, h2⟩
      constructor
      · have e7 : f_X4_hasGroup 4 a1 h = 1 := by rw [cd_hasGroup4 hSt hG, if_pos hv1]
        obtain ⟨g, hg, rfl⟩ := hv1
        unfold f_X4_groupFact
        rw [e7, if_neg (by decide), cd_ckI (by omega) (by omega)]
        rw [if_neg (show ¬ a2 = 0 from ne 0 (by omega)), if_neg (show ¬ a2 = 1 from ne 1 (by omega)), if_neg (show ¬ a2 = 2 from ne 2 (by omega)), if_neg (show ¬ a2 = 3 from ne 3 (by omega)), if_neg (show ¬ a2 = 4 from ne 4 (by omega)), if_neg (show ¬ a2 = 5 from ne 5 (by omega)), if_neg (show ¬ a2 = 6 from ne 6 (by omega)), if_neg (show ¬ a2 = 7 from ne 7 (by omega)), if_neg (show ¬ a2 = 8 from ne 8 (by omega)), if_neg (show ¬ a2 = 9 from ne 9 (by omega)), if_neg (show ¬ a2 = 10 from ne 10 (by omega))]
      · intro h1 e
        have e8 : f_X8_isGroup a1 h1 = 1 := by rw [cd_isGroup8 (A := cd_R h) (fun k _ => e _ _ (by omega)) hG, if_pos hv1]
        unfold f_X8_of
        rw [e8, if_neg (by decide), w8, if_neg hv2, if_pos rfl, cd_nmE2]
  · right
    constructor
    · unfold f_X4_groupFact
      rw [cd_hasGroup4 hSt hG, if_neg hv1, if_pos rfl]
    · intro h1 e
      unfold f_X8_of
      rw [cd_isGroup8 (A := cd_R h) (fun k _ => e _ _ (by omega)) hG, if_neg hv1, if_pos rfl, cd_nmE2]
