-- back, type, clear
theorem cd_call24 {n : Nat} {h : cd_Hp} (hI : cd_Inv n h) (hn : n < 512) : cd_q24 cd_Inv n h := by
  have hI2 := hI
  obtain ⟨s, nx, c, hs, t⟩ := hI2
  obtain ⟨⟨c1, c2, c3, c4⟩, ⟨hO, hSt⟩, hP⟩ := c
  rcases Nat.eq_zero_or_pos s with h0 | h0
  · subst h0
    refine ⟨-2 - nI 1, cd_u h 403 1 (cd_g h 403 1 + 1), _, ?_, ?_, cd_get_no hI hn (i := 1) (by omega)⟩
    · unfold f_X7_back f_X1_stepBack
      rw [c1, if_neg (by decide), cd_bS, cd_answer_no (r := -3) (i := 1) (by omega) (by decide), cd_bS]
      rfl
    · unfold f_X8_back
      rw [cd_gN (by omega), hs, if_pos (by decide), cd_no8]
      rfl
  · obtain ⟨p1, p2⟩ := hP (s - 1) (by omega)
    have eslot : (nx + 6 - s + (s - 1)) % 6 = (nx + 5) % 6 := by omega
    rw [eslot] at p2
    obtain ⟨h1, e1, s1, g0, g1, f1, -⟩ := cd_stepBack c2 c4 c1 c3 h0 p1 p2
    have f404 : cd_g h1 404 3 = nI s := by rw [f1 _ _ (by omega) (by omega)]; exact hs
    obtain ⟨h2, e2, q0, q1, f2, -⟩ := cd_back8 f404 c3 h0
    refine ⟨nI (s - 1), h1, h2, ?_, e2, s - 1, (nx + 5) % 6, ?_, q0, ?_⟩
    · unfold f_X7_back
      rw [e1, cd_bS, cd_answer_ok (cd_nr_nI (by omega)), cd_bS]
    · have cc : cd_Cl (cd_PR h (s - 1)) (cd_PR h) (s - 1) ((nx + 5) % 6) (800 * (n + 1)) h1 := by
        refine ⟨⟨g0, g1, by omega, by omega⟩, ⟨p1.mono (by omega) (by omega), s1⟩, fun i hi => ?_⟩
        obtain ⟨y1, y2⟩ := hP i (by omega)
        refine ⟨y1.mono (by omega) (by omega), ?_⟩
        rw [show ((nx + 5) % 6 + 6 - (s - 1) + i) % 6 = (nx + 6 - s + i) % 6 by omega]
        exact y2.kept y1.2.2.2.2.1.2 (fun y k w1 w2 => f1 _ _ (by omega) (by omega))
      have c2 := cc.kept (h' := h2) (fun x k w1 w2 => f2 _ _ (by omega) (by omega))
      refine c2.row (fun k hk => ?_) (fun i k hi hk => ?_)
      · rw [q1 k hk]; dsimp only [cd_PR]; rw [f1 _ _ (by omega) (by omega)]
      · dsimp only [cd_PR]; rw [f2 _ _ (by omega) (by omega), f1 _ _ (by omega) (by omega)]
    · exact t.kept (by omega) (fun x k z => by rw [f2 _ _ (by omega) (by omega), f1 _ _ (by omega) (by omega)])
theorem cd_Inv.kept {n n' : Nat} {h h' : cd_Hp} (hI : cd_Inv n h) (hn : n ≤ n') (hn' : n' ≤ 512) (e : ∀ x k, (4 ≤ x ∧ x < 398) ∨ x = 405 ∨ x = 407 ∨ (x = 404 ∧ k = 3) → cd_g h' x k = cd_g h x k) (ht : cd_Tx n' h') : cd_Inv n' h' := by
  obtain ⟨s, nx, c, hs, t⟩ := hI
  refine ⟨s, nx, ?_, by rw [e _ _ (by omega)]; exact hs, ht⟩
  have c1 := (c.mono (τ' := 800 * n') (by omega) (by omega)).kept (h' := h') (fun x k w1 w2 => e _ _ (by omega))
  exact c1.row (fun k hk => e _ _ (by omega)) (fun i k hi hk => e _ _ (by omega))
theorem cd_call22 {n : Nat} {h : cd_Hp} (hI : cd_Inv n h) (hn : n < 512) : cd_q22 cd_Inv n h := by
  have hI2 := hI
  obtain ⟨s, nx, c, hs, t⟩ := hI2
  obtain ⟨⟨L, t1, t2, t3, t4⟩, t5⟩ := t
  refine ⟨nI L, cd_u h 398 0 0, cd_u (cd_u h 398 0 0) 404 6 0, ?_, ?_, hI.kept (by omega) (by omega) (fun x k z => by rw [cd_gN (by omega), cd_gN (by omega)]) ⟨⟨0, by omega, by rw [cd_gN (by omega), cd_gE rfl rfl]; rfl, by rw [cd_gE rfl rfl]; rfl, fun i hi => absurd hi (by omega)⟩, fun i hi => ?_⟩⟩
  · unfold f_X7_clear
    simp only [cd_nmE2, t2]
  · unfold f_X8_clear
    simp (disch := omega) only [cd_nmE2, cd_gN, t3]
  · obtain ⟨r, r1, r2, r3⟩ := t5 i hi
    exact ⟨r, by omega, by rw [cd_gN (by omega), cd_gN (by omega)]; exact r2, by rw [cd_gN (by omega), cd_gN (by omega)]; exact r3⟩
theorem cd_call21 {n : Nat} {h : cd_Hp} (hI : cd_Inv n h) (hn : n < 512) : cd_q21 cd_Inv n h := by
  intro a1
  have hI2 := hI
  obtain ⟨s, nx, c, hs, t⟩ := hI2
  obtain ⟨⟨L, t1, t2, t3, t4⟩, t5⟩ := t
  have w7 : f_X7_isWithin a1 0 127 = _ := cd_in7x 0 127 (by omega) (by omega)
  have w8 : f_X8_in a1 0 127 = _ := cd_in8x 0 127 (by omega) (by omega)
  by_cases hv : ∃ v, v < 127 + 1 ∧ (0 ≤ v ∧ a1 = nI v)
  · obtain ⟨v, hv1, -, rfl⟩ := hv
    have y7 : f_X7_isWithin (nI v) 0 127 = 1 := cd_in7t (a := 0) (b := 127) (by omega) (by omega) (by omega)
    have y8 : f_X8_in (nI v) 0 127 = 1 := cd_in8t (a := 0) (b := 127) (by omega) (by omega) (by omega)
    rcases Nat.lt_or_ge L 120 with hL | hL
    · refine ⟨nI (L + 1), cd_u (cd_u h 399 L (nI v)) 398 0 (nI (L + 1)), cd_u (cd_u (cd_u (cd_u h 399 L (nI v)) 398 0 (nI (L + 1))) 409 L (nI v)) 404 6 (nI (L + 1)), ?_, ?_, hI.kept (by omega) (by omega) (fun x k z => by simp (disch := omega) only [cd_gN]) ⟨⟨L + 1, by omega, by simp (disch := omega) only [cd_gN, cd_gE], by simp (disch := omega) only [cd_gN, cd_gE], fun i hi => ?_⟩, fun i hi => ?_⟩⟩
      · unfold f_X7_type f_X6_addByte
        rw [y7, if_neg (by decide), t2, if_pos (by rw [cd_ltL (by omega) (by omega)]; exact hL)]
        simp (disch := omega) only [cd_ckI, cd_cl, cd_nmE2, cd_gN, t2, cd_addL, cd_bS, cd_gE]
        rw [cd_answer_ok (cd_nr_nI (by omega)), cd_bS]
      · unfold f_X8_type
        rw [y8, if_neg (by decide), cd_gN (by omega), cd_gN (by omega), t3, if_neg (by rw [cd_eqL (by omega) (by omega)]; omega)]
        simp (disch := omega) only [cd_ckI, cd_cl, cd_nmE2, cd_gN, t3, cd_addL, cd_bS, cd_gE]
      · by_cases ei : i = L
        · subst ei
          simp (disch := omega) only [cd_gN, cd_gE]
          exact ⟨trivial, v, by omega, rfl⟩
        · simp (disch := omega) only [cd_gN]; exact t4 i (by omega)
      · obtain ⟨r, r1, r2, r3⟩ := t5 i hi
        simp (disch := omega) only [cd_gN]
        exact ⟨r, by omega, r2, r3⟩
    · obtain rfl : L = 120 := by omega
      refine ⟨-2 - nI 2, cd_u h 403 2 (cd_g h 403 2 + 1), _, ?_, ?_, cd_get_no hI hn (i := 2) (by omega)⟩
      · unfold f_X7_type f_X6_addByte
        rw [y7, if_neg (by decide), t2, if_neg (by decide), cd_bS, cd_answer_no (r := -4) (i := 2) (by omega) (by decide), cd_bS]
        rfl
      · unfold f_X8_type
        rw [y8, if_neg (by decide), cd_gN (by omega), t3, if_pos (by decide), cd_full8]
        rfl
  · refine ⟨-2 - nI 0, cd_u h 403 0 (cd_g h 403 0 + 1), _, ?_, ?_, cd_get_no hI hn (i := 0) (by omega)⟩
    · unfold f_X7_type f_X6_addByte
      rw [w7, if_neg hv, if_pos rfl, cd_bS, cd_answer_no (r := -2) (i := 0) (by omega) (by decide), cd_bS]
      rfl
    · unfold f_X8_type
      rw [w8, if_neg hv, if_pos rfl, cd_bad8]
      rfl
-- GETTERS
theorem cd_get {n : Nat} {h : cd_Hp} (hI : cd_Inv n h) (hn : n < 512) {X : Option Int32} {Y : cd_Hp → Option (Int32 × cd_Hp)} (hz : (∃ r, cd_nr r ∧ X = some r ∧ Y h = some (r, h)) ∨ (X = some (-2) ∧ ∀ h1, (∀ x k, x ≠ 403 → cd_g h1 x k = cd_g h x k) → Y h1 = some (f_X8_bad h1))) : ∃ r h1 h2, cd_b X (fun o1 => cd_b (f_X7_answer o1 h) (fun o3 => some (o3.1, o3.2))) = some (r, h1) ∧ Y h1 = some (r, h2) ∧ cd_Inv (n + 1) h2 := by
  rcases hz with ⟨r, hr, e1, e2⟩ | ⟨e1, e2⟩
  · refine ⟨r, h, h, ?_, e2, hI.mono hn⟩
    rw [e1, cd_bS, cd_answer_ok hr, cd_bS]
  · refine ⟨-2 - nI 0, cd_u h 403 0 (cd_g h 403 0 + 1), _, ?_, ?_, cd_get_no hI hn (i := 0) (by omega)⟩
    · rw [e1, cd_bS, cd_answer_no (r := -2) (i := 0) (by omega) (by decide), cd_bS]
      rfl
    · rw [e2 _ (fun x k z => cd_gN (by omega)), cd_bad8]
-- queue, sample, refused
theorem cd_call18 {n : Nat} {h : cd_Hp} (hI : cd_Inv n h) (hn : n < 512) : cd_q18 cd_Inv n h := by
  intro a1
  have hI2 := hI
  obtain ⟨s, nx, c, hs, t⟩ := hI2
  obtain ⟨-, ⟨hO, hSt⟩, -⟩ := c
  have hQ := hO.2.2.2.2.2.2.1
  have hq := hQ.1.2
  refine cd_get hI hn ?_
  have e4 : cd_g h 4 4 = nI (cd_n (cd_R h) 419) := by rw [hSt.1.2.2.2.2]; exact hQ.1.1
  have e8 : cd_g h 405 419 = nI (cd_n (cd_R h) 419) := hQ.1.1
  unfold f_X4_queueFact f_X8_queue
  by_cases h0 : (0 : Int32) ≤ a1
  · left
    rw [if_pos h0, if_pos h0, cd_c419, e4, e8]
    by_cases h1 : nI (cd_n (cd_R h) 419) ≤ a1
    · exact ⟨-1, cd_nr_m1, by rw [if_pos h1], by rw [if_pos h1]⟩
    · obtain ⟨v, hv, rfl⟩ := cd_of_in (x := a1) (n := 6) (by grind) (by
        have := (cd_lt (a := cd_n (cd_R h) 419) (b := 7) (by omega) (by omega)).mpr (by omega)
        have e7 : nI 7 = 7 := rfl
        have e6 : nI 6 = 6 := rfl
        grind) (by omega)
      have hv2 : v < cd_n (cd_R h) 419 := by
        rw [cd_le (by omega) (by omega)] at h1; omega
      have y := hQ.2.1 v hv2
      refine ⟨cd_R h (420 + v), ?_, ?_, ?_⟩
      · rw [y.1.1]; exact cd_nr_nI (by have := y.1.2; omega)
      · rw [if_neg h1, cd_ckI (by omega) (by omega), cd_cl (by omega), hSt.2.2.2.2.1 v (by omega)]
      · rw [if_neg h1, cd_addR, cd_ckI (by omega) (by omega), cd_cl (by omega)]
  · right
    rw [if_neg h0]
    refine ⟨rfl, fun h1 _ => ?_⟩
    rw [if_neg h0, cd_nmE2]
theorem cd_lt0 {v : Nat} (h : v < 2147483648) : ¬ nI v < 0 := nI_pos h
theorem cd_keptFact {A : Nat → Int32} {h : cd_Hp} {i w τ : Nat} (x : cd_St 4 A h) (hA : cd_Ok A τ) (hi : i < cd_n A 429) (hw : w ≤ 2) : f_X2_keptFact (4 + 8) (nI i) (nI w) h = some (A (430 + 3 * i + w)) := by
  have hk := hA.2.2.2.2.2.2.2.2.2.2.1.1
  have hk2 := hk.2
  unfold f_X2_keptFact
  have w7 : f_X7_isWithin (nI w) 0 2 = 1 := cd_in7t (a := 0) (b := 2) (by omega) hw (by omega)
  have e1 : cd_g h (4 + 8) 1 = nI (cd_n A 429) := by rw [x.2.2.2.2.2.1.2.1]; exact hk.1
  rw [if_neg (cd_lt0 (by omega)), w7, if_neg (by decide), e1, if_pos (by rw [cd_lt (by omega) (by omega)]; exact hi)]
  simp (disch := omega) only [cd_ckI, cd_cl]
  obtain ⟨y1, y2, y3⟩ := x.2.2.2.2.2.2.2 i hi
  have : w = 0 ∨ w = 1 ∨ w = 2 := by omega
  rcases this with rfl | rfl | rfl
  · rw [if_pos (by decide), y1]; rfl
  · rw [if_neg (by decide), if_pos (by decide), y2]; exact congrArg some (congrArg A (by omega))
  · rw [if_neg (by decide), if_neg (by decide), y3]; exact congrArg some (congrArg A (by omega))
theorem cd_call19 {n : Nat} {h : cd_Hp} (hI : cd_Inv n h) (hn : n < 512) : cd_q19 cd_Inv n h := by
  intro a1 a2
  have hI2 := hI
  obtain ⟨s, nx, c, hs, t⟩ := hI2
  obtain ⟨-, ⟨hO, hSt⟩, -⟩ := c
  have hk := hO.2.2.2.2.2.2.2.2.2.2.1
  have hk2 := hk.1.2
  have h0t := hO.1
  refine cd_get hI hn ?_
  have e4 : cd_g h (4 + 8) 1 = nI (cd_n (cd_R h) 429) := by rw [hSt.2.2.2.2.2.1.2.1]; exact hk.1.1
  have e8 : cd_g h 405 429 = nI (cd_n (cd_R h) 429) := hk.1.1
  have w7 : f_X7_isWithin a2 0 2 = _ := cd_in7x 0 2 (by omega) (by omega)
  have w8 : f_X8_in a2 0 2 = _ := cd_in8x 0 2 (by omega) (by omega)
  by_cases h0 : a1 < (0 : Int32)
  · right
    unfold f_X2_keptFact f_X8_sample
    rw [if_pos h0]
    refine ⟨rfl, fun h1 _ => ?_⟩
    rw [if_pos h0, cd_nmE2]
  by_cases hv : ∃ v, v < 2 + 1 ∧ (0 ≤ v ∧ a2 = nI v)
  · left
    by_cases h1 : nI (cd_n (cd_R h) 429) ≤ a1
    · refine ⟨-1, cd_nr_m1, ?_, ?_⟩
      · unfold f_X2_keptFact
        rw [if_neg h0, w7, if_pos hv, if_neg (by decide), e4, if_neg (by grind)]
      · unfold f_X8_sample
        rw [if_neg h0, w8, if_pos hv, if_neg (by decide), show Int32.toNatClampNeg 429 = 429 by decide, e8, if_pos h1]
    · obtain ⟨w, hw, -, rfl⟩ := hv
      obtain ⟨v, hv, rfl⟩ := cd_of_in (x := a1) (n := 12) h0 (by
        have := (cd_lt (a := cd_n (cd_R h) 429) (b := 13) (by omega) (by omega)).mpr (by omega)
        have e7 : nI 13 = 13 := rfl
        have e6 : nI 12 = 12 := rfl
        grind) (by omega)
      have hv2 : v < cd_n (cd_R h) 429 := by
        rw [cd_le (by omega) (by omega)] at h1; omega
      have y := hk.2 v hv2
      refine ⟨cd_R h (430 + 3 * v + w), ?_, cd_keptFact hSt hO hv2 (by omega), ?_⟩
      · have : w = 0 ∨ w = 1 ∨ w = 2 := by omega
        rcases this with rfl | rfl | rfl
        · rw [Nat.add_zero, y.1.1]; exact cd_nr_nI (by have := y.1.2; omega)
        · rw [show 430 + 3 * v + 1 = 431 + 3 * v by omega, y.2.1.1]; exact cd_nr_nI (by have := y.2.1.2; omega)
        · rw [show 430 + 3 * v + 2 = 432 + 3 * v by omega, y.2.2.1]; exact cd_nr_nI (by have := y.2.2.2; omega)
      · have w8' : f_X8_in (nI w) 0 2 = 1 := cd_in8t (a := 0) (b := 2) (by omega) (by omega) (by omega)
        unfold f_X8_sample
        rw [if_neg h0, w8', if_neg (by decide), show Int32.toNatClampNeg 429 = 429 by decide, e8, if_neg h1, cd_mulR, cd_addR, nI_add, cd_ckI (by omega) (by omega), cd_cl (by omega)]
  · right
    unfold f_X2_keptFact f_X8_sample
    rw [if_neg h0, w7, if_neg hv, if_pos rfl]
    refine ⟨rfl, fun h1 _ => ?_⟩
    rw [if_neg h0, w8, if_neg hv, if_pos rfl, cd_nmE2]
theorem cd_refFact {n : Nat} {h : cd_Hp} (hI : cd_Inv n h) (hn : n ≤ 512) {w : Nat} (hw : w ≤ 4) : ∃ r, cd_nr r ∧ f_X7_refusedFact (nI w) h = some r ∧ ∀ h1, (∀ x k, cd_g h1 x k = cd_g h x k) → f_X8_refusedOf (nI w) h1 = some r := by
  obtain ⟨s, nx, c, hs, ⟨⟨L, t1, t2, t3, t4⟩, t5⟩⟩ := hI
  obtain ⟨⟨c1, c2, c3, c4⟩, -, -⟩ := c
  have : w = 0 ∨ w = 1 ∨ w = 2 ∨ w = 3 ∨ w = 4 := by omega
  unfold f_X7_refusedFact f_X8_refusedOf
  rcases this with rfl | rfl | rfl | rfl | rfl
  · obtain ⟨r, r1, r2, r3⟩ := t5 0 (by omega)
    refine ⟨nI r, cd_nr_nI (by omega), ?_, fun h1 e => ?_⟩
    · rw [if_pos (by decide), cd_ckI (by omega) (by omega), cd_cl (by omega), r2]
    · rw [if_neg (by decide), cd_ckI (by omega) (by omega), cd_cl (by omega), e, r3]
  · obtain ⟨r, r1, r2, r3⟩ := t5 1 (by omega)
    refine ⟨nI r, cd_nr_nI (by omega), ?_, fun h1 e => ?_⟩
    · rw [if_neg (by decide), if_pos (by decide), cd_ckI (by omega) (by omega), cd_cl (by omega), r2]
    · rw [if_neg (by decide), cd_ckI (by omega) (by omega), cd_cl (by omega), e, r3]
  · obtain ⟨r, r1, r2, r3⟩ := t5 2 (by omega)
    refine ⟨nI r, cd_nr_nI (by omega), ?_, fun h1 e => ?_⟩
    · rw [if_neg (by decide), if_neg (by decide), if_pos (by decide), cd_ckI (by omega) (by omega), cd_cl (by omega), r2]
    · rw [if_neg (by decide), cd_ckI (by omega) (by omega), cd_cl (by omega), e, r3]
  · refine ⟨nI L, cd_nr_nI (by omega), ?_, fun h1 e => ?_⟩
    · rw [if_neg (by decide), if_neg (by decide), if_neg (by decide), if_pos (by decide), t2]
    · rw [if_pos (by decide), if_pos (by decide), e, t3]
  · refine ⟨nI s, cd_nr_nI (by omega), ?_, fun h1 e => ?_⟩
    · rw [if_neg (by decide), if_neg (by decide), if_neg (by decide), if_neg (by decide), if_pos (by decide), c1]
    · rw [if_pos (by decide), if_neg (by decide), e, hs]
theorem cd_call25 {n : Nat} {h : cd_Hp} (hI : cd_Inv n h) (hn : n < 512) : cd_q25 cd_Inv n h := by
  intro a1
  refine cd_get hI hn ?_
  have w8 : f_X8_in a1 0 4 = _ := cd_in8x 0 4 (by omega) (by omega)
  by_cases hv : ∃ v, v < 4 + 1 ∧ (0 ≤ v ∧ a1 = nI v)
  · left
    have hv2 := hv
    obtain ⟨v, hv1, -, rfl⟩ := hv2
    obtain ⟨r, r1, r2, r3⟩ := cd_refFact hI (by omega) (w := v) (by omega)
    refine ⟨r, r1, r2, ?_⟩
    unfold f_X8_refused
    rw [w8, if_pos hv, if_neg (by decide), r3 h (fun _ _ => rfl), cd_bS]
  · right
    have ne : ∀ v, v < 5 → ¬ a1 = nI v := fun v h1 h2 => hv ⟨v, h1, Nat.zero_le _, h2⟩
    constructor
    · unfold f_X7_refusedFact
      rw [if_neg (show ¬ a1 = 0 from ne 0 (by omega)), if_neg (show ¬ a1 = 1 from ne 1 (by omega)), if_neg (show ¬ a1 = 2 from ne 2 (by omega)), if_neg (show ¬ a1 = 3 from ne 3 (by omega)), if_neg (show ¬ a1 = 4 from ne 4 (by omega))]
    · intro h1 _
      unfold f_X8_refused
      rw [w8, if_neg hv, if_pos rfl, cd_nmE2]
