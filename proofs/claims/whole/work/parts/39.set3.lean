-- skids
theorem cd_call8 {n : Nat} {h : cd_Hp} (hI : cd_Inv n h) (hn : n < 512) : cd_q8 cd_Inv n h := by
  intro a1
  have hI2 := hI
  obtain ⟨s, nx, c, hs, t⟩ := hI2
  obtain ⟨-, ⟨hO, hSt⟩, -⟩ := c
  by_cases hv : ∃ v, 0 ≤ v ∧ v ≤ 3 ∧ a1 = nI v
  · obtain ⟨v, -, hv, rfl⟩ := hv
    have hw : f_X7_isWithin (nI v) 0 3 = 1 := cd_in7t (a := 0) (b := 3) (by omega) hv (by omega)
    have hw8 : f_X8_in (nI v) 0 3 = 1 := cd_in8t (a := 0) (b := 3) (by omega) hv (by omega)
    have e0 := hO.2.2.2.2.2.2.2.2.1
    have hO1 := hO.mono (τ' := 800 * (n + 1)) (by omega) (by omega)
    have hA' : cd_Ok (cd_up (cd_R h) 427 (nI v)) (800 * (n + 1)) := by
      obtain ⟨h0, ⟨h1, h1'⟩, h2, hT, hG, hGs, hQ, s1, s2, s3, ⟨s4, s4'⟩, ⟨s5, s5'⟩, s6⟩ := hO1
      have gl := hG.2
      have kl := s4.2
      have wl := s5.2
      have e := cd_al.up (A := cd_R h) (j := 427) (v := nI v)
      have ect : ∀ d w, w ≤ 64 → cd_ct (cd_up (cd_R h) 427 (nI v)) d w = cd_ct (cd_R h) d w := by
        intro d w
        induction w with
        | zero => intro _; rfl
        | succ w ih => intro hw; unfold cd_ct; rw [ih (by omega), cd_n.rg e (by omega) (by omega)]
      refine ⟨h0, ⟨h1.rg e (by omega) (by omega), by rw [cd_n.rg e (by omega) (by omega)]; exact h1'⟩, fun j hj => (h2 j hj).rg e (by omega) (by omega), hT.rg e (by omega), hG.rg e (by omega) (by omega), fun g hg => ?_, hQ.rg e gl (by omega) (by omega) (fun i hi => by have := (hQ.2.1 i hi).2.1; omega), s1.rg e (by omega) (by omega), cd_num.put hv (by omega), s3.rg e (by omega) (by omega), ⟨s4.rg e (by omega) (by omega), fun i hi => ?_⟩, ⟨s5.rg e (by omega) (by omega), fun i hi => ?_⟩, fun j hj => ?_⟩
      · rw [cd_n.rg e (by omega) (by omega)] at hg
        exact (hGs g hg).rg e (by omega) (by omega) (by omega) (by omega)
      · rw [cd_n.rg e (by omega) (by omega)] at hi
        obtain ⟨z1, z2, z3⟩ := s4' i hi
        exact ⟨z1.rg e (by omega) (by omega), z2.rg e (by omega) (by omega), z3.rg e (by omega) (by omega)⟩
      · rw [cd_n.rg e (by omega) (by omega)] at hi
        obtain ⟨z1, z2⟩ := s5' i hi
        exact ⟨z1.rg e (by omega) (by omega), z2.rg e (by omega) (by omega)⟩
      · rw [cd_n.rg e (by omega) (by omega), cd_n.rg e (by omega) (by omega), ect _ _ (by omega)]; exact s6 j hj
    obtain ⟨h1, h2, e1, l1, e2, hI3⟩ := cd_S_ok hI hn (F := fun o => some (f_X4_putSkid 4 (nI v) o)) (K := fun o => f_X8_exchanges 427 (nI v) o) (r := nI (cd_n (cd_R h) 427)) (A' := cd_up (cd_R h) 427 (nI v)) (cd_nr_nI (by have := e0.2; omega)) hA'
      (fun h1 hs1 _ => by
        refine ⟨cd_u h1 4 1 (nI v), ?_, ?_, cd_fr.u (by omega) (by omega)⟩
        · unfold f_X4_putSkid
          rw [hw, if_neg (by decide)]
          simp only [cd_nmE2]
          rw [hs1.1.2.1, ← e0.1]
        · obtain ⟨z1, z2, z3, z4⟩ := hO.sz
          obtain ⟨x1, x2, x3, x6, x7, x8⟩ := hs1
          refine ⟨?_, fun k hk => ?_, x3.as (fun k w1 w2 => cd_upN (by omega)) (fun y k w1 w2 => cd_gN (by omega)), cd_StGs.as x6 z1 z2 (fun k w1 w2 => cd_upN (by omega)) (fun y k w1 w2 => cd_gN (by omega)), fun i hi => ?_, x8.as z3 z4 (fun k w1 w2 => cd_upN (by omega)) (fun y k w1 w2 => cd_gN (by omega))⟩
          · simp (disch := omega) only [cd_gN, cd_gE, cd_upN, cd_upE]; exact ⟨x1.1, trivial, x1.2.2⟩
          · simp (disch := omega) only [cd_gN, cd_upN]; exact x2 k hk
          · simp (disch := omega) only [cd_gN, cd_upN]; exact x7 i hi)
      (fun h1 hr _ => ⟨_, cd_exch (j := 427) hr (by omega) e0, cd_R_up hr, cd_frR.u (by omega)⟩)
    refine ⟨_, h1, h2, e1, ?_, hI3⟩
    unfold f_X8_skids
    rw [hw8, if_neg (by decide)]
    exact e2
  · have hw : f_X7_isWithin a1 0 3 = 0 := cd_in7f (a := 0) (b := 3) hv (by omega) (by omega)
    have hw8 : f_X8_in a1 0 3 = 0 := cd_in8f (a := 0) (b := 3) hv (by omega) (by omega)
    obtain ⟨h1, e1, -, hI3⟩ := cd_S_no hI hn (F := fun o => some (f_X4_putSkid 4 a1 o)) (i := 0) (r := -2) (by omega) (by decide)
      (fun h1 hs1 _ => by
        unfold f_X4_putSkid
        rw [hw, if_pos rfl])
    refine ⟨_, h1, _, e1, ?_, hI3⟩
    unfold f_X8_skids
    rw [hw8, if_pos rfl, cd_bad8]
    rfl
-- rates
theorem cd_Ok.rates {A : Nat → Int32} {τ t k v : Nat} (h : cd_Ok A τ) (ht : t < cd_n A 9) (hk : k < 8) (hv : v ≤ 99) : cd_Ok (cd_up A (12 + 10 * t + k) (nI v)) τ := by
  obtain ⟨h0, ⟨h1, h1'⟩, h2, ⟨⟨t1, t1'⟩, ⟨t2, t2'⟩, t3, t4⟩, hG, hGs, hQ, hS⟩ := h
  have gl := hG.2
  have tl := t1.2
  have e := cd_al.up (A := A) (j := 12 + 10 * t + k) (v := nI v)
  refine ⟨h0, ⟨h1.rg e (by omega) (by omega), by rw [cd_n.rg e (by omega) (by omega)]; exact h1'⟩, fun j hj => (h2 j hj).rg e (by omega) (by omega), ⟨⟨t1.rg e (by omega) (by omega), by rw [cd_n.rg e (by omega) (by omega)]; exact t1'⟩, ⟨by rw [e 10 (by omega) (by omega)]; exact t2, by rw [e 11 (by omega) (by omega)]; exact t2'⟩, fun u w1 w2 => ?_, fun u hu => ?_⟩, hG.rg e (by omega) (by omega), fun g hg => ?_, hQ.rg e gl (by omega) (by omega) (fun _ _ => by omega), hS.rg e (by omega)⟩
  · rw [cd_n.rg e (by omega) (by omega)] at w2
    rw [cd_n.rg e (by omega) (by omega)]
    exact ⟨(t3 u w1 w2).1.rg e (by omega) (by omega), (t3 u w1 w2).2⟩
  · rw [cd_n.rg e (by omega) (by omega)] at hu
    refine ⟨(t4 u hu).1.rg e (by omega) (by omega), fun j hj => ?_⟩
    by_cases ej : 12 + 10 * u + j = 12 + 10 * t + k
    · rw [ej]; exact cd_num.put hv (by omega)
    · exact ((t4 u hu).2 j hj).rg e (by omega) (by omega)
  · rw [cd_n.rg e (by omega) (by omega)] at hg
    exact (hGs g hg).rg e (by omega) (by omega) (by omega) (by omega)
theorem cd_rateOf5 {q t k : Nat} {h : cd_Hp} (ht : t < 6) (hk : k < 8) : f_X5_rateOf q (nI t) (nI k) h = some (cd_g h (q + 3) (8 * t + k)) := by
  unfold f_X5_rateOf
  simp (disch := omega) only [cd_mulL, nI_add, cd_ckI, cd_cl]
  rw [Nat.mul_comm t 8]
theorem cd_putRate {q τ : Nat} {A : Nat → Int32} {h : cd_Hp} (hA : cd_Ok A τ) (x : cd_St q A h) {t k v : Nat} (ht : t < cd_n A 9) (hk : k < 8) (hv : v ≤ 99) : f_X5_putRate (q + 2) (nI t) (nI k) (nI v) h = some (nI (cd_n A (12 + 10 * t + k)), cd_u h (q + 2 + 3) (8 * t + k) (nI v)) ∧ cd_St q (cd_up A (12 + 10 * t + k) (nI v)) (cd_u h (q + 2 + 3) (8 * t + k) (nI v)) := by
  obtain ⟨z1, z2, z3, z4⟩ := hA.sz
  have hT := hA.2.2.2.1
  have h6 := hT.1.1.2
  have hn := (hT.2.2.2 t ht).2 k hk
  have hh := cd_has5 (x := nI t) x hT
  obtain ⟨x1, x2, ⟨x3, x4, x5⟩, x6, x7, x8⟩ := x
  constructor
  · unfold f_X5_putRate
    have w1 : f_X7_isWithin (nI k) 0 7 = 1 := cd_in7t (a := 0) (b := 7) (by omega) (by omega) (by omega)
    have w2 : f_X7_isWithin (nI v) 0 99 = 1 := cd_in7t (a := 0) (b := 99) (by omega) (by omega) (by omega)
    have w0 : f_X5_has (q + 2) (nI t) h = 1 := by rw [hh, if_pos ⟨t, ht, rfl⟩]
    rw [w0, if_neg (by decide), w1, if_neg (by decide), w2, if_neg (by decide), cd_rateOf5 (by omega) hk, cd_bS]
    simp (disch := omega) only [cd_mulL, nI_add, cd_ckI, cd_cl, cd_nmE2]
    rw [Nat.mul_comm t 8, x5 t k (by omega) hk, ← hn.1]
  · refine ⟨?_, fun j hj => ?_, ⟨?_, fun u hu => ?_, fun u j hu hj => ?_⟩, cd_StGs.as x6 z1 z2 (fun k w1 w2 => cd_upN (by omega)) (fun y k w1 w2 => cd_gN (by omega)), fun i hi => ?_, x8.as z3 z4 (fun k w1 w2 => cd_upN (by omega)) (fun y k w1 w2 => cd_gN (by omega))⟩
    · simp (disch := omega) only [cd_gN, cd_upN]; exact x1
    · simp (disch := omega) only [cd_gN, cd_upN]; exact x2 j hj
    · simp (disch := omega) only [cd_gN, cd_upN]; exact x3
    · simp (disch := omega) only [cd_gN, cd_upN]; exact x4 u hu
    · by_cases ej : 8 * u + j = 8 * t + k
      · rw [cd_gE rfl ej, cd_upE (by omega)]
      · rw [cd_gN (by omega), cd_upN (by omega)]; exact x5 u j hu hj
    · simp (disch := omega) only [cd_gN, cd_upN]; exact x7 i hi
theorem cd_putRate_no {q τ : Nat} {A : Nat → Int32} {h : cd_Hp} (hA : cd_Ok A τ) (x : cd_St q A h) {a1 a2 a3 : Int32} (hv : ¬ ∃ t k v : Nat, t < cd_n A 9 ∧ k < 8 ∧ v ≤ 99 ∧ a1 = nI t ∧ a2 = nI k ∧ a3 = nI v) : f_X5_putRate (q + 2) a1 a2 a3 h = some (-2, h) := by
  have hh := cd_has5 (x := a1) x hA.2.2.2.1
  unfold f_X5_putRate
  by_cases h1 : ∃ t, t < cd_n A 9 ∧ a1 = nI t
  · rw [hh, if_pos h1, if_neg (by decide)]
    by_cases h2 : ∃ v, 0 ≤ v ∧ v ≤ 7 ∧ a2 = nI v
    · have w3 : f_X7_isWithin a3 0 99 = 0 := cd_in7f (a := 0) (b := 99) (by
        rintro ⟨v, -, hv2, e3⟩
        obtain ⟨t, ht, e1⟩ := h1
        obtain ⟨k, -, hk, e2⟩ := h2
        exact hv ⟨t, k, v, ht, by omega, hv2, e1, e2, e3⟩) (by omega) (by omega)
      obtain ⟨k, -, hk, rfl⟩ := h2
      have w1 : f_X7_isWithin (nI k) 0 7 = 1 := cd_in7t (a := 0) (b := 7) (by omega) (by omega) (by omega)
      rw [w1, if_neg (by decide), w3, if_pos rfl]
    · have w1 : f_X7_isWithin a2 0 7 = 0 := cd_in7f (a := 0) (b := 7) h2 (by omega) (by omega)
      rw [w1, if_pos rfl]
  · rw [hh, if_neg h1, if_pos rfl]
theorem cd_canRate8t {h1 : cd_Hp} {A : Nat → Int32} (hr : ∀ k, k < 659 → cd_R h1 k = A k) (hT : cd_OkT A) {t k v : Nat} (ht : t < cd_n A 9) (hk : k < 8) (hv : v ≤ 99) : f_X8_canRate (nI t) (nI k) (nI v) h1 = 1 := by
  unfold f_X8_canRate f_X8_isKind
  have w1 : f_X8_in (nI k) 0 7 = 1 := cd_in8t (a := 0) (b := 7) (by omega) (by omega) (by omega)
  have w2 : f_X8_in (nI v) 0 99 = 1 := cd_in8t (a := 0) (b := 99) (by omega) (by omega) (by omega)
  have w0 : f_X8_isTask (nI t) h1 = 1 := by rw [cd_isTask8 hr hT, if_pos ⟨t, ht, rfl⟩]
  rw [w0, if_neg (by decide), w1, if_neg (by decide), w2, if_neg (by decide)]
theorem cd_canRate8f {h1 : cd_Hp} {A : Nat → Int32} (hr : ∀ k, k < 659 → cd_R h1 k = A k) (hT : cd_OkT A) {a1 a2 a3 : Int32} (hv : ¬ ∃ t k v : Nat, t < cd_n A 9 ∧ k < 8 ∧ v ≤ 99 ∧ a1 = nI t ∧ a2 = nI k ∧ a3 = nI v) : f_X8_canRate a1 a2 a3 h1 = 0 := by
  unfold f_X8_canRate f_X8_isKind
  by_cases h1 : ∃ t, t < cd_n A 9 ∧ a1 = nI t
  · rw [cd_isTask8 hr hT, if_pos h1, if_neg (by decide)]
    by_cases h2 : ∃ v, 0 ≤ v ∧ v ≤ 7 ∧ a2 = nI v
    · have w3 : f_X8_in a3 0 99 = 0 := cd_in8f (a := 0) (b := 99) (by
        rintro ⟨v, -, hv2, e3⟩
        obtain ⟨t, ht, e1⟩ := h1
        obtain ⟨k, -, hk, e2⟩ := h2
        exact hv ⟨t, k, v, ht, by omega, hv2, e1, e2, e3⟩) (by omega) (by omega)
      obtain ⟨k, -, hk, rfl⟩ := h2
      have w1 : f_X8_in (nI k) 0 7 = 1 := cd_in8t (a := 0) (b := 7) (by omega) (by omega) (by omega)
      rw [w1, if_neg (by decide), w3, if_pos rfl]
    · have w1 : f_X8_in a2 0 7 = 0 := cd_in8f (a := 0) (b := 7) h2 (by omega) (by omega)
      rw [w1, if_pos rfl]
  · rw [cd_isTask8 hr hT, if_neg h1, if_pos rfl]
theorem cd_call2 {n : Nat} {h : cd_Hp} (hI : cd_Inv n h) (hn : n < 512) : cd_q2 cd_Inv n h := by
  intro a1 a2 a3
  have hI2 := hI
  obtain ⟨s, nx, c, hs, t⟩ := hI2
  obtain ⟨-, ⟨hO, hSt⟩, -⟩ := c
  have hT := hO.2.2.2.1
  by_cases hv : ∃ t k v : Nat, t < cd_n (cd_R h) 9 ∧ k < 8 ∧ v ≤ 99 ∧ a1 = nI t ∧ a2 = nI k ∧ a3 = nI v
  · obtain ⟨t, k, v, ht, hk, hv, rfl, rfl, rfl⟩ := hv
    have e0 := (hT.2.2.2 t ht).2 k hk
    have h6 := hT.1.1.2
    obtain ⟨h1, h2, e1, l1, e2, hI3⟩ := cd_S_ok hI hn (F := fun o => f_X5_putRate (4 + 2) (nI t) (nI k) (nI v) o) (K := fun o => f_X8_exchanges (f_X8_taskAt (nI t) + 2 + nI k) (nI v) o) (r := nI (cd_n (cd_R h) (12 + 10 * t + k))) (A' := cd_up (cd_R h) (12 + 10 * t + k) (nI v)) (cd_nr_nI (by have := e0.2; omega)) ((hO.mono (by omega) (by omega)).rates ht hk hv)
      (fun h1 hs1 _ => ⟨_, (cd_putRate hO hs1 ht hk hv).1, (cd_putRate hO hs1 ht hk hv).2, cd_fr.u (by omega) (by omega)⟩)
      (fun h1 hr _ => ⟨_, by
        rw [cd_taskAt, cd_addL, nI_add, show 10 + 10 * t + 2 + k = 12 + 10 * t + k by omega]
        exact cd_exch hr (by omega) e0, cd_R_up hr, cd_frR.u (by omega)⟩)
    refine ⟨_, h1, h2, e1, ?_, hI3⟩
    have hr1 : ∀ k, k < 659 → cd_R h1 k = cd_R h k := fun k _ => l1 _ _ (by omega)
    unfold f_X8_rates
    rw [cd_canRate8t hr1 hT ht hk hv, if_neg (by decide)]
    exact e2
  · obtain ⟨h1, e1, er, hI3⟩ := cd_S_no hI hn (F := fun o => f_X5_putRate (4 + 2) a1 a2 a3 o) (i := 0) (r := -2) (by omega) (by decide) (fun h1 hs1 _ => cd_putRate_no hO hs1 hv)
    refine ⟨_, h1, _, e1, ?_, hI3⟩
    unfold f_X8_rates
    rw [cd_canRate8f (fun k _ => er k) hT hv, if_pos rfl, cd_bad8]
    rfl
