-- A SLICE
theorem cd_ct_0 {A : Nat → Int32} {d : Nat} : ∀ w, cd_ct A d w = 0 → ∀ i, i < w → cd_n A (468 + 2 * i) < d := by
  intro w
  induction w with
  | zero => intro _ i hi; exact absurd hi (Nat.not_lt_zero _)
  | succ w ih =>
    intro h i hi
    have h2 : cd_ct A d w + (if d ≤ cd_n A (468 + 2 * w) then 1 else 0) = 0 := h
    by_cases z : d ≤ cd_n A (468 + 2 * w)
    · rw [if_pos z] at h2; omega
    · by_cases e : i = w
      · rw [e]; omega
      · exact ih (by omega) i (by omega)
theorem cd_Ok.fin {F : Nat → Int32} {T τ l : Nat} (hM : cd_Ok (cd_M F T) τ) (hw : cd_Wt F T l) (hl : l ≤ 48) (hT : T + 1 ≤ τ) (hct : ∀ j, j ≤ 3 → cd_ct F (T + 1 + j) l ≤ 16 * (3 - j)) : cd_Ok (cd_up F 426 (nI (T + 1))) τ := by
  obtain ⟨g0, ⟨g1, g1'⟩, g2, gT, gG, gGs, gQ, s1, s2, s3, ⟨s4, s4'⟩, s5, s6⟩ := hM
  have h6 := gG.2
  have k12 := s4.2
  have e : ∀ k, k ≠ 466 → cd_up F 426 (nI (T + 1)) k = cd_M F T k := fun k z => by
    by_cases y : k = 426
    · rw [y, cd_upE rfl, cd_M426]
    · rw [cd_upN y, cd_MN y z]
  have up : ∀ k, k ≠ 426 → cd_up F 426 (nI (T + 1)) k = F k := fun k z => cd_upN z
  have n466 : cd_n (cd_up F 426 (nI (T + 1))) 466 = l := cd_n_nI ((up _ (by omega)).trans hw.1) (by omega)
  have n426 : cd_n (cd_up F 426 (nI (T + 1))) 426 = T + 1 := cd_n_nI (cd_upE rfl) (by omega)
  refine ⟨g0, ⟨g1.of (e _ (by omega)), by rw [cd_n.of (e 0 (by omega))]; exact g1'⟩, fun k hk => (g2 k hk).of (e _ (by omega)), gT.on (fun k z1 z2 => e k (by omega)), gG.of (e _ (by omega)), fun g hg => ?_, gQ.on (fun k z1 z2 => e k (by omega)) (Nat.le_of_eq (cd_n.of (e 70 (by omega))).symm) (fun g hg => e _ (by omega)), s1.of (e _ (by omega)), s2.of (e _ (by omega)), s3.of (e _ (by omega)), ⟨s4.of (e _ (by omega)), fun i hi => ?_⟩, ⟨cd_numI ((up _ (by omega)).trans hw.1) hl (by omega), fun i hi => ?_⟩, fun j hj => ?_⟩
  · rw [cd_n.of (e 70 (by omega))] at hg
    exact (gGs g hg).on (fun k z1 z2 => e k (by omega)) (Nat.le_of_eq (cd_n.of (e 9 (by omega))).symm) (Nat.le_of_eq (cd_n.of (e 426 (by omega))).symm)
  · rw [cd_n.of (e 429 (by omega))] at hi
    obtain ⟨y1, y2, y3⟩ := s4' i hi
    exact ⟨y1.of (e _ (by omega)), y2.of (e _ (by omega)), y3.of (e _ (by omega))⟩
  · rw [n466] at hi
    obtain ⟨y1, y2⟩ := hw.2 i hi
    exact ⟨y1.of (up _ (by omega)), (y2.of (up _ (by omega))).up (by omega)⟩
  · rw [n466, n426, cd_ct_congr (A := F) _ (fun i hi => up _ (by omega))]
    exact hct j hj
theorem cd_St.sl {A : Nat → Int32} {h : cd_Hp} {v : Int32} (x : cd_St 4 A h) (z : cd_Sz A) : cd_St 4 (cd_up A 426 v) (cd_u h 4 2 v) := by
  obtain ⟨x1, x2, x3, x6, x7, x8⟩ := x
  refine ⟨?_, fun k hk => ?_, x3.as (fun k w1 w2 => cd_upN (by omega)) (fun y k w1 w2 => cd_gN (by omega)), cd_StGs.as x6 z.1 z.2.1 (fun k w1 w2 => cd_upN (by omega)) (fun y k w1 w2 => cd_gN (by omega)), fun i hi => ?_, x8.as z.2.2.1 z.2.2.2 (fun k w1 w2 => cd_upN (by omega)) (fun y k w1 w2 => cd_gN (by omega))⟩
  · refine ⟨?_, ?_, ?_, ?_, ?_⟩
    · rw [cd_gN (by omega), cd_upN (by omega)]; exact x1.1
    · rw [cd_gN (by omega), cd_upN (by omega)]; exact x1.2.1
    · rw [cd_gE rfl rfl, cd_upE rfl]
    · rw [cd_gN (by omega), cd_upN (by omega)]; exact x1.2.2.2.1
    · rw [cd_gN (by omega), cd_upN (by omega)]; exact x1.2.2.2.2
  · rw [cd_gN (by omega), cd_upN (by omega)]; exact x2 k hk
  · rw [cd_gN (by omega), cd_upN (by omega)]; exact x7 i hi
theorem cd_slice {A : Nat → Int32} {τ t : Nat} (hA : cd_Ok A τ) (hτ : τ + 1 ≤ 500000) (ht : t < cd_n A 9) :
    ∃ A', cd_Ok A' (τ + 1) ∧ A' 426 = nI (cd_n A 426 + 1) ∧ cd_n A' 9 = cd_n A 9 ∧ (∀ h, cd_St 4 A h → ∃ h', f_X4_runSlice 4 (nI t) h = some h' ∧ cd_St 4 A' h' ∧ cd_fr 1 60 h h') ∧
      ∀ h1, (∀ k, k < 659 → cd_R h1 k = A k) → ∃ W k1 k2 k3 k4 k5, f_X8_watchers (nI t) h1 = some W ∧ f_X8_joins W h1 = some k1 ∧ f_X8_counts (nI t) W k1 = some k2 ∧ f_X8_samplesCome (nI t) k2 = some k3 ∧ f_X8_tellsDue (nI t) k3 = some k4 ∧ f_X8_turns W k4 = some k5 ∧ (∀ k, k < 659 → cd_R (cd_u k5 405 426 (cd_g k5 405 426 + 1)) k = A' k) ∧ cd_frR h1 (cd_u k5 405 426 (cd_g k5 405 426 + 1)) := by
  have h6 := hA.sz.1
  have h9 := hA.2.2.2.1.1.1.2
  have hW : cd_Wa A t (cd_n A 70) < 64 := Nat.lt_of_lt_of_le (cd_Wa_lt _) (cd_pow2 h6)
  obtain ⟨B, bJ, bOn, bW, bC, bR⟩ := cd_phaseJ hA hW
  have hB := hA.ja bJ
  have eB : ∀ k, k < 659 → (k < 71 ∨ 419 ≤ k) → B k = A k := fun k z1 z2 => bJ.eq z1 (fun g j w1 w2 => by omega)
  have nB9 : cd_n B 9 = cd_n A 9 := cd_n.of (eB 9 (by omega) (by omega))
  have nB70 : cd_n B 70 = cd_n A 70 := cd_n.of (eB 70 (by omega) (by omega))
  have nB426 : cd_n B 426 = cd_n A 426 := cd_n.of (eB 426 (by omega) (by omega))
  obtain ⟨C, cM, cE, cL, cC, cR⟩ := cd_phaseC (W := cd_Wa A t (cd_n A 70)) (t := t) hB hτ hW (by omega) (fun g hg => bW g (by omega))
  rw [nB426] at cM
  obtain ⟨s1, s2, s3, ⟨s4, s4'⟩, ⟨s5, s5'⟩, s6⟩ := hB.2.2.2.2.2.2.2
  have t1 := s1.2
  rw [nB426] at t1 s6
  have k12 := s4.2
  have hSA : cd_SA C (cd_n A 426) (τ + 1) (cd_n B 466) := by
    have z3 := s6 3 (by omega)
    refine ⟨cM, by rw [cE _ (by omega), ← nB426]; exact s1.1, by omega, ⟨by rw [cE _ (by omega)]; exact s5.1, fun i hi => ?_⟩, s5.2, fun j hj => ?_, ?_⟩
    · obtain ⟨y1, y2⟩ := s5' i hi
      have y3 := cd_ct_0 _ (by omega : cd_ct B (cd_n A 426 + 3) (cd_n B 466) = 0) i hi
      exact ⟨y1.of (cE _ (by omega)), cd_num.of ⟨y2.1, by omega⟩ (cE _ (by omega))⟩
    · rw [cd_ct_congr (A := B) _ (fun i hi => cE _ (by omega))]; exact s6 j hj
    · rw [cd_n.of (cE 70 (by omega)), cd_on_eq (B := B) _ (fun g hg => cL g 9 hg (by omega)), nB70]; exact bOn
  have nC9 : cd_n C 9 = cd_n A 9 := (cd_n.of (cE 9 (by omega))).trans nB9
  obtain ⟨D, w2, dM, d426, dw, dW, dct, dE, dC, dR⟩ := cd_phaseS (t := t) hSA (by omega)
  have eD : ∀ k, 419 ≤ k → k < 466 → D k = B k := fun k z1 z2 => by rw [dE k (by omega) z2]; exact cE k (by omega)
  have hTA : cd_TA D (cd_n A 426) (τ + 1) w2 (64 * τ) := by
    refine ⟨d426, by omega, hτ, dW, dw, ⟨s3.of (eD _ (by omega) (by omega)), s4.of (eD _ (by omega) (by omega)), fun i hi => ?_⟩, by omega⟩
    rw [cd_n.of (eD 429 (by omega) (by omega))] at hi
    obtain ⟨y1, y2, y3⟩ := s4' i hi
    exact ⟨y1.of (eD _ (by omega) (by omega)), y2.of (eD _ (by omega) (by omega)), (y3.of (eD _ (by omega) (by omega))).up (by omega)⟩
  obtain ⟨E, l, eM, e426, el, eW, ect, eEq, eC, eR⟩ := cd_phaseT (t := t) dM hTA (by omega) dct (by omega)
  obtain ⟨F, fM, fE, fC, fR⟩ := cd_phaseU eM eW (by omega) hW
  have fW : cd_Wt F (cd_n A 426) l := ⟨by rw [fE _ (by omega)]; exact eW.1, fun i hi => ⟨(eW.2 i hi).1.of (fE _ (by omega)), (eW.2 i hi).2.of (fE _ (by omega))⟩⟩
  have hF := fM.fin fW el (by omega) (fun j hj => by rw [cd_ct_congr (A := E) _ (fun i hi => fE _ (by omega))]; exact ect j hj)
  have f426 : F 426 = nI (cd_n A 426) := (fE 426 (by omega)).trans e426
  have zF : cd_Sz F := by
    have zz := hF.sz
    have u : ∀ k, k ≠ 426 → cd_n F k = cd_n (cd_up F 426 (nI (cd_n A 426 + 1))) k := fun k z => (cd_n.of (cd_upN z)).symm
    refine ⟨by rw [u 70 (by omega)]; exact zz.1, fun g hg => ?_, by rw [u 466 (by omega)]; exact zz.2.2.1, by rw [u 429 (by omega)]; exact zz.2.2.2⟩
    rw [u 70 (by omega)] at hg
    have g6 := zz.1
    rw [u _ (by omega)]
    exact zz.2.1 g hg
  have n9 : cd_n (cd_up F 426 (nI (cd_n A 426 + 1))) 9 = cd_n A 9 := by
    rw [cd_n.of (cd_upN (by omega)), cd_n.of (fE 9 (by omega)), cd_n.of (eEq 9 (by omega)), cd_n.of (dE 9 (by omega) (by omega)), nC9]
  refine ⟨cd_up F 426 (nI (cd_n A 426 + 1)), hF, cd_upE rfl, n9, fun h x => ?_, fun h1 hr => ?_⟩
  · obtain ⟨h1, q1, x1, f1⟩ := bC h x
    obtain ⟨h2, q2, x2, f2⟩ := cC h1 x1
    obtain ⟨h3, q3, x3, f3⟩ := dC h2 x2
    obtain ⟨h4, q4, x4, f4⟩ := eC h3 x3
    obtain ⟨h5, q5, x5, f5⟩ := fC h4 x4
    have r3 : cd_g h3 4 2 = nI (cd_n A 426) := by rw [x3.1.2.2.1]; exact d426
    have r5 : cd_g h5 4 2 = nI (cd_n A 426) := by rw [x5.1.2.2.1]; exact f426
    unfold f_X4_runSlice
    rw [cd_watch4 hA x ht, cd_bS, q1, cd_bS, q2, cd_bS, q3, cd_bS, r3, q4, cd_bS, q5, cd_bS, r5, cd_addL, cd_nmE2]
    exact ⟨_, rfl, x5.sl zF, f1.tr (f2.tr (f3.tr (f4.tr (f5.tr (cd_fr.u (by omega) (by omega))))))⟩
  · obtain ⟨h2, q1, r1, f1⟩ := bR h1 hr
    obtain ⟨h3, q2, r2, f2⟩ := cR h2 r1
    obtain ⟨h4, q3, r3, f3⟩ := dR h3 r2
    obtain ⟨h5, q4, r4, f4⟩ := eR h4 r3
    obtain ⟨h6, q5, r5, f5⟩ := fR h5 r4
    have e5 : cd_g h6 405 426 = nI (cd_n A 426) := (r5 426 (by omega)).trans f426
    refine ⟨_, h2, h3, h4, h5, h6, cd_watch8 hr hA ht, q1, q2, q3, q4, q5, ?_, f1.tr (f2.tr (f3.tr (f4.tr (f5.tr (cd_frR.u (by omega))))))⟩
    rw [e5, cd_addL]
    exact cd_R_up r5
-- SLICES
theorem cd_slices {n t : Nat} (hn : n ≤ 20) : ∀ m i τ A, i + m = n → cd_Ok A τ → τ + m ≤ 500000 → t < cd_n A 9 →
    ∃ A', cd_Ok A' (τ + m) ∧ cd_n A' 426 = cd_n A 426 + m ∧ (∀ fu h, m < fu → cd_St 4 A h → ∃ h', cd_lp (f_X4_runSlices_B40 4 (nI t) (nI n)) fu (nI i, h) = some (nI n, h') ∧ cd_St 4 A' h' ∧ cd_fr 1 60 h h') ∧
      ∀ fu h1, m < fu → (∀ k, k < 659 → cd_R h1 k = A k) → ∃ h2, cd_lp (f_X8_goes_B2 (nI t) (nI n)) fu (nI i, h1) = some (nI n, h2) ∧ (∀ k, k < 659 → cd_R h2 k = A' k) ∧ cd_frR h1 h2 := by
  intro m
  induction m with
  | zero =>
    intro i τ A him hA hτ ht
    obtain rfl : i = n := by omega
    refine ⟨A, hA, rfl, fun fu h hf x => ⟨h, ?_, x, cd_fr.rf⟩, fun fu h1 hf hr => ⟨h1, ?_, hr, cd_frR.rf⟩⟩
    · obtain ⟨fu, rfl⟩ : ∃ f, fu = f + 1 := ⟨fu - 1, by omega⟩
      show f_X4_runSlices_B40 4 (nI t) (nI i) (cd_lp _ fu) (nI i, h) = _
      unfold f_X4_runSlices_B40
      dsimp only
      rw [if_pos (by rw [cd_le (by omega) (by omega)]; omega)]
    · obtain ⟨fu, rfl⟩ : ∃ f, fu = f + 1 := ⟨fu - 1, by omega⟩
      show f_X8_goes_B2 (nI t) (nI i) (cd_lp _ fu) (nI i, h1) = _
      unfold f_X8_goes_B2
      dsimp only
      rw [if_pos (by rw [cd_le (by omega) (by omega)]; omega)]
  | succ m ih =>
    intro i τ A him hA hτ ht
    obtain ⟨A1, a1, a2, a3, a4, a5⟩ := cd_slice hA (by omega) ht
    obtain ⟨A2, b1, b2, b3, b4⟩ := ih (i + 1) (τ + 1) A1 (by omega) a1 (by omega) (by omega)
    have t5 := hA.m426
    have n1 : cd_n A1 426 = cd_n A 426 + 1 := cd_n_nI a2 (by omega)
    refine ⟨A2, by rw [show τ + (m + 1) = τ + 1 + m by omega]; exact b1, by omega, fun fu h hf x => ?_, fun fu h1 hf hr => ?_⟩
    · obtain ⟨fu, rfl⟩ : ∃ f, fu = f + 1 := ⟨fu - 1, by omega⟩
      obtain ⟨h', q1, x1, f1⟩ := a4 h x
      obtain ⟨h2, q2, x2, f2⟩ := b3 fu h' (by omega) x1
      refine ⟨h2, ?_, x2, f1.tr f2⟩
      show f_X4_runSlices_B40 4 (nI t) (nI n) (cd_lp (f_X4_runSlices_B40 4 (nI t) (nI n)) fu) (nI i, h) = _
      unfold f_X4_runSlices_B40 at q2 ⊢
      dsimp only at q2 ⊢
      rw [if_neg (by rw [cd_le (by omega) (by omega)]; omega), q1, cd_bS, cd_nmE2, cd_addL]
      exact q2
    · obtain ⟨fu, rfl⟩ : ∃ f, fu = f + 1 := ⟨fu - 1, by omega⟩
      obtain ⟨W, k1, k2, k3, k4, k5, q1, q2, q3, q4, q5, q6, r1, f1⟩ := a5 h1 hr
      obtain ⟨h2, e2, r2, f2⟩ := b4 fu _ (by omega) r1
      refine ⟨h2, ?_, r2, f1.tr f2⟩
      show f_X8_goes_B2 (nI t) (nI n) (cd_lp (f_X8_goes_B2 (nI t) (nI n)) fu) (nI i, h1) = _
      unfold f_X8_goes_B2 at e2 ⊢
      dsimp only at e2 ⊢
      rw [if_neg (by rw [cd_le (by omega) (by omega)]; omega), q1, cd_bS, q2, cd_bS, q3, cd_bS, q4, cd_bS, q5, cd_bS, q6, cd_bS, cd_c426, cd_nmE2, cd_nmE2, cd_addL]
      exact e2
/-- runs that are not refused -/
theorem cd_runsOk {A : Nat → Int32} {τ t n : Nat} (hA : cd_Ok A τ) (hn1 : 1 ≤ n) (hn : n ≤ 20) (hτ : τ + n ≤ 500000) (ht : t < cd_n A 9) (he : ¬ A (11 + 10 * t) = 1) :
    ∃ A', cd_Ok A' (τ + n) ∧ (∀ h, cd_St 4 A h → ∃ h', f_X4_runSlices 4 (nI t) (nI n) h = some (nI (cd_n A 426 + n), h') ∧ cd_St 4 A' h' ∧ cd_fr 1 60 h h') ∧
      ∀ h1, (∀ k, k < 659 → cd_R h1 k = A k) → ∃ h2, f_X8_goes (nI t) (nI n) h1 = some (nI (cd_n A 426 + n), h2) ∧ (∀ k, k < 659 → cd_R h2 k = A' k) ∧ cd_frR h1 h2 := by
  have hT := hA.2.2.2.1
  have h9 := hT.1.1.2
  obtain ⟨A', a1, a2, a3, a4⟩ := cd_slices (t := t) hn n 0 τ A (by omega) hA hτ ht
  have e426 : A' 426 = nI (cd_n A 426 + n) := by rw [← a2]; exact a1.2.2.2.2.2.2.2.1.1
  refine ⟨A', a1, fun h x => ?_, fun h1 hr => ?_⟩
  · obtain ⟨h', e', s', f'⟩ := a3 cd_fu h (by unfold cd_fu; omega) x
    refine ⟨h', ?_, s', f'⟩
    have w1 : f_X7_isWithin (nI n) 1 20 = 1 := cd_in7t (a := 1) (b := 20) hn1 hn (by omega)
    have w0 : f_X5_has (4 + 2) (nI t) h = 1 := by rw [cd_has5 x hT, if_pos ⟨t, ht, rfl⟩]
    unfold f_X4_runSlices
    rw [w0, if_neg (by decide), w1, if_neg (by decide), cd_hasEnded5 x.2.2.1 (by omega), if_neg he, cd_bS, if_pos rfl, show (0 : Int32) = nI 0 from rfl, e', cd_bS]
    dsimp only
    rw [s'.1.2.2.1, e426]
  · obtain ⟨h2, e2, r2, f2⟩ := a4 cd_fu h1 (by unfold cd_fu; omega) hr
    refine ⟨h2, ?_, r2, f2⟩
    unfold f_X8_goes
    rw [show (0 : Int32) = nI 0 from rfl, e2, cd_bS, cd_c426]
    dsimp only
    have := r2 426 (by omega)
    dsimp only [cd_R] at this
    rw [this, e426]
theorem cd_call10 {n : Nat} {h : cd_Hp} (hI : cd_Inv n h) (hn : n < 512) : cd_q10 cd_Inv n h := by
  intro a1 a2
  have hI2 := hI
  obtain ⟨s, nx, c, hs, tx⟩ := hI2
  obtain ⟨-, ⟨hO, hSt⟩, -⟩ := c
  have hT := hO.2.2.2.1
  have h9 := hT.1.1.2
  by_cases hv : ∃ t, t < cd_n (cd_R h) 9 ∧ a1 = nI t
  · obtain ⟨t, ht, rfl⟩ := hv
    have w0 : ∀ h1, cd_St 4 (cd_R h) h1 → f_X5_has (4 + 2) (nI t) h1 = 1 := fun h1 x => by rw [cd_has5 x hT, if_pos ⟨t, ht, rfl⟩]
    have w8 : ∀ h1, (∀ k, k < 659 → cd_R h1 k = cd_R h k) → f_X8_isTask (nI t) h1 = 1 := fun h1 hr => by rw [cd_isTask8 hr hT, if_pos ⟨t, ht, rfl⟩]
    by_cases hm : ∃ v, 1 ≤ v ∧ v ≤ 20 ∧ a2 = nI v
    · obtain ⟨m, m1, m2, rfl⟩ := hm
      have v7 : f_X7_isWithin (nI m) 1 20 = 1 := cd_in7t (a := 1) (b := 20) m1 m2 (by omega)
      have v8 : f_X8_in (nI m) 1 20 = 1 := cd_in8t (a := 1) (b := 20) m1 m2 (by omega)
      have wr : ∀ h1, (∀ k, k < 659 → cd_R h1 k = cd_R h k) → f_X8_isRun (nI t) (nI m) h1 = 1 := fun h1 hr => by
        unfold f_X8_isRun
        rw [w8 h1 hr, if_neg (by decide), v8, if_neg (by decide)]
      by_cases he : cd_R h (11 + 10 * t) = 1
      · obtain ⟨h1, e1, er, hI3⟩ := cd_S_no hI hn (F := fun o => f_X4_runSlices 4 (nI t) (nI m) o) (i := 1) (r := -3) (by omega) (by decide) (fun h1 hs1 _ => by
          unfold f_X4_runSlices
          rw [w0 h1 hs1, if_neg (by decide), v7, if_neg (by decide), cd_hasEnded5 hs1.2.2.1 (by omega), if_pos he, cd_bS, if_neg (by decide)])
        refine ⟨_, h1, _, e1, ?_, hI3⟩
        unfold f_X8_runs
        rw [wr h1 (fun k _ => er k), if_neg (by decide), cd_hasEnded8' (fun k _ => er k) (by omega), if_pos he, cd_bS, if_neg (by decide), cd_no8]
        rfl
      · obtain ⟨A', b1, b2, b3⟩ := cd_runsOk (t := t) hO m1 m2 (by omega) ht he
        have t5 := hO.m426
        obtain ⟨k1, k2, e1, l1, e2, hI3⟩ := cd_S_ok hI hn (F := fun o => f_X4_runSlices 4 (nI t) (nI m) o) (K := fun o => f_X8_goes (nI t) (nI m) o) (r := nI (cd_n (cd_R h) 426 + m)) (A' := A') (cd_nr_nI (by omega)) (b1.mono (by omega) (by omega))
          (fun o1 hs1 _ => b2 o1 hs1)
          (fun o1 hr _ => b3 o1 hr)
        refine ⟨_, k1, k2, e1, ?_, hI3⟩
        have hr1 : ∀ k, k < 659 → cd_R k1 k = cd_R h k := fun k _ => l1 _ _ (by omega)
        unfold f_X8_runs
        rw [wr k1 hr1, if_neg (by decide), cd_hasEnded8' hr1 (by omega), if_neg he, cd_bS, if_pos rfl]
        exact e2
    · have v7 : f_X7_isWithin a2 1 20 = 0 := cd_in7f (a := 1) (b := 20) hm (by omega) (by omega)
      have v8 : f_X8_in a2 1 20 = 0 := cd_in8f (a := 1) (b := 20) hm (by omega) (by omega)
      obtain ⟨h1, e1, er, hI3⟩ := cd_S_no hI hn (F := fun o => f_X4_runSlices 4 (nI t) a2 o) (i := 0) (r := -2) (by omega) (by decide) (fun h1 hs1 _ => by
        unfold f_X4_runSlices
        rw [w0 h1 hs1, if_neg (by decide), v7, if_pos rfl])
      refine ⟨_, h1, _, e1, ?_, hI3⟩
      unfold f_X8_runs f_X8_isRun
      rw [w8 h1 (fun k _ => er k), if_neg (show ¬ (1 : Int32) = 0 by decide), v8, if_pos rfl, if_pos rfl, cd_bad8]
      rfl
  · obtain ⟨h1, e1, er, hI3⟩ := cd_S_no hI hn (F := fun o => f_X4_runSlices 4 a1 a2 o) (i := 0) (r := -2) (by omega) (by decide) (fun h1 hs1 _ => by
      unfold f_X4_runSlices
      rw [cd_has5 hs1 hT, if_neg hv, if_pos rfl])
    refine ⟨_, h1, _, e1, ?_, hI3⟩
    unfold f_X8_runs f_X8_isRun
    rw [cd_isTask8 (fun k _ => er k) hT, if_neg hv, if_pos rfl, if_pos rfl, cd_bad8]
    rfl
