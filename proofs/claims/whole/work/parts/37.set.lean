-- PARTS OF THE RELATION that a call leaves alone
theorem cd_StT.as {q : Nat} {A B : Nat → Int32} {h h' : cd_Hp} (x : cd_StT q A h) (e : ∀ k, 9 ≤ k → k < 70 → B k = A k) (f : ∀ y k, q + 2 ≤ y → y < q + 6 → cd_g h' y k = cd_g h y k) : cd_StT q B h' := by
  obtain ⟨x3, x4, x5⟩ := x
  refine ⟨?_, fun t ht => ?_, fun t k ht hk => ?_⟩
  · rw [f _ _ (by omega) (by omega), e _ (by omega) (by omega)]; exact x3
  · rw [f _ _ (by omega) (by omega), f _ _ (by omega) (by omega), e _ (by omega) (by omega), e _ (by omega) (by omega)]; exact x4 t ht
  · rw [f _ _ (by omega) (by omega), e _ (by omega) (by omega)]; exact x5 t k ht hk
theorem cd_StG.as {c o : Nat} {A B : Nat → Int32} {h h' : cd_Hp} (x : cd_StG c o A h) (h4 : cd_n A (o + 5) ≤ 4) (e : ∀ k, o ≤ k → k < o + 58 → B k = A k) (f : ∀ y k, c ≤ y → y < c + 7 → cd_g h' y k = cd_g h y k) : cd_StG c o B h' := by
  obtain ⟨y1, y2, y3, y4⟩ := x.kept f
  have e5 : cd_n B (o + 5) = cd_n A (o + 5) := by unfold cd_n; rw [e _ (by omega) (by omega)]
  refine ⟨?_, fun i hi => ?_, fun k hk => ?_, fun t ht => ?_⟩
  · simp (disch := omega) only [e]; exact y1
  · rw [e5] at hi; simp (disch := omega) only [e]; exact y2 i hi
  · rw [e _ (by omega) (by omega)]; exact y3 k hk
  · simp (disch := omega) only [e]; exact y4 t ht
theorem cd_StS.as {q : Nat} {A B : Nat → Int32} {h h' : cd_Hp} (x : cd_StS q A h) (hw : cd_n A 466 ≤ 64) (hk : cd_n A 429 ≤ 12) (e : ∀ k, 428 ≤ k → k < 659 → B k = A k) (f : ∀ y k, q + 8 ≤ y → y < q + 14 → cd_g h' y k = cd_g h y k) : cd_StS q B h' := by
  obtain ⟨x8, x9, x10⟩ := x
  have e466 : cd_n B 466 = cd_n A 466 := by unfold cd_n; rw [e _ (by omega) (by omega)]
  have e429 : cd_n B 429 = cd_n A 429 := by unfold cd_n; rw [e _ (by omega) (by omega)]
  refine ⟨?_, fun i hi => ?_, fun i hi => ?_⟩
  · simp (disch := omega) only [e, f]; exact x8
  · rw [e466] at hi; simp (disch := omega) only [e, f]; exact x9 i hi
  · rw [e429] at hi; simp (disch := omega) only [e, f]; exact x10 i hi
/-- all groups but one, all groups -/
theorem cd_StGs.as {q : Nat} {A B : Nat → Int32} {h h' : cd_Hp} (x : ∀ g, g < cd_n A 70 → cd_StG (q + 6 + 8 + 7 * g) (71 + 58 * g) A h) (hG : cd_n A 70 ≤ 6) (hE : ∀ g, g < cd_n A 70 → cd_n A (71 + 58 * g + 5) ≤ 4) (e : ∀ k, 70 ≤ k → k < 419 → B k = A k) (f : ∀ y k, q + 14 ≤ y → y < q + 56 → cd_g h' y k = cd_g h y k) : ∀ g, g < cd_n B 70 → cd_StG (q + 6 + 8 + 7 * g) (71 + 58 * g) B h' := by
  have e70 : cd_n B 70 = cd_n A 70 := by unfold cd_n; rw [e _ (by omega) (by omega)]
  intro g hg
  rw [e70] at hg
  exact (x g hg).as (hE g hg) (fun k w1 w2 => e k (by omega) (by omega)) (fun y k w1 w2 => f y k (by omega) (by omega))
/-- the bounds that the parts ask -/
theorem cd_Ok.sz {A : Nat → Int32} {τ : Nat} (h : cd_Ok A τ) : cd_n A 70 ≤ 6 ∧ (∀ g, g < cd_n A 70 → cd_n A (71 + 58 * g + 5) ≤ 4) ∧ cd_n A 466 ≤ 64 ∧ cd_n A 429 ≤ 12 := by
  obtain ⟨-, -, -, -, hG, hGs, -, -, -, -, ⟨s4, -⟩, ⟨s5, -⟩, -⟩ := h
  have := s5.2
  exact ⟨hG.2, fun g hg => (hGs g hg).2.2.2.2.2.1.1.2, by omega, s4.2⟩
-- counters
theorem cd_Ok.counters {A : Nat → Int32} {τ v : Nat} (h : cd_Ok A τ) (h1 : 1 ≤ v) (h4 : v ≤ 4) : cd_Ok (cd_up A 0 (nI v)) τ := by
  obtain ⟨h0, -, h2, hT, hG, hGs, hQ, hS⟩ := h
  have gl := hG.2
  have e := cd_al.up (A := A) (j := 0) (v := nI v)
  refine ⟨h0, ⟨cd_num.put h4 (by omega), by rw [cd_n_up (by omega)]; exact h1⟩, fun k hk => (h2 k hk).rg e (by omega) (by omega), hT.rg e (by omega), hG.rg e (by omega) (by omega), fun g hg => ?_, hQ.rg e gl (by omega) (by omega) (fun _ _ => by omega), hS.rg e (by omega)⟩
  rw [cd_n.rg e (by omega) (by omega)] at hg
  exact (hGs g hg).rg e (by omega) (by omega) (by omega) (by omega)
theorem cd_st_counters {q τ : Nat} {A : Nat → Int32} {h : cd_Hp} {v : Int32} (hA : cd_Ok A τ) (x : cd_St q A h) : cd_St q (cd_up A 0 v) (cd_u h q 0 v) := by
  obtain ⟨z1, z2, z3, z4⟩ := hA.sz
  obtain ⟨x1, x2, x3, x6, x7, x8⟩ := x
  refine ⟨?_, fun k hk => ?_, x3.as (fun k w1 w2 => cd_upN (by omega)) (fun y k w1 w2 => cd_gN (by omega)), cd_StGs.as x6 z1 z2 (fun k w1 w2 => cd_upN (by omega)) (fun y k w1 w2 => cd_gN (by omega)), fun i hi => ?_, x8.as z3 z4 (fun k w1 w2 => cd_upN (by omega)) (fun y k w1 w2 => cd_gN (by omega))⟩
  · simp (disch := omega) only [cd_gN, cd_gE, cd_upN, cd_upE]; exact ⟨trivial, x1.2⟩
  · simp (disch := omega) only [cd_gN, cd_upN]; exact x2 k hk
  · simp (disch := omega) only [cd_gN, cd_upN]; exact x7 i hi
theorem cd_call0 {n : Nat} {h : cd_Hp} (hI : cd_Inv n h) (hn : n < 512) : cd_q0 cd_Inv n h := by
  intro a1
  have hI2 := hI
  obtain ⟨s, nx, c, hs, t⟩ := hI2
  obtain ⟨⟨c1, c2, c3, c4⟩, ⟨hO, hSt⟩, c7⟩ := c
  by_cases hv : (1 : Int32) ≤ a1 ∧ a1 ≤ 4
  · obtain ⟨v, hv4, rfl⟩ : ∃ v, v ≤ 4 ∧ a1 = nI v := nI_of2 (M := 4) (n := 4) (by decide) (by grind) hv.2
    have hv1 : 1 ≤ v := by have := hv.1; rw [cd_leR (by omega) (by omega)] at this; exact this
    have e0 := hO.2.1.1
    have hw : f_X7_isWithin (nI v) 1 4 = 1 := by rw [cd_in7, if_pos hv]
    have hw8 : f_X8_in (nI v) 1 4 = 1 := by rw [cd_in8, if_pos hv]
    obtain ⟨h1, h2, e1, l1, e2, hI3⟩ := cd_S_ok hI hn (F := fun o => some (f_X4_putCounters 4 (nI v) o)) (K := fun o => f_X8_exchanges 0 (nI v) o) (r := nI (cd_n (cd_R h) 0)) (A' := cd_up (cd_R h) 0 (nI v)) (cd_nr_nI (by have := e0.2; omega)) ((hO.mono (by omega) (by omega)).counters hv1 hv4)
      (fun h1 hs1 _ => by
        refine ⟨cd_u h1 4 0 (nI v), ?_, cd_st_counters hO hs1, cd_fr.u (by omega) (by omega)⟩
        unfold f_X4_putCounters
        rw [hw, if_neg (by decide)]
        simp only [cd_nmE2]
        rw [hs1.1.1, ← e0.1])
      (fun h1 hr _ => by
        refine ⟨cd_u h1 405 0 (nI v), ?_, fun k hk => ?_, cd_frR.u (by omega)⟩
        · have := cd_exchanges (k := 0) (v := nI v) (h := h1) (by omega)
          rw [show (0 : Int32) = nI 0 from rfl, this]
          have e := hr 0 (by omega)
          dsimp only [cd_R] at e
          rw [e, ← e0.1]
        · show cd_g (cd_u h1 405 0 (nI v)) 405 k = _
          by_cases hk0 : k = 0
          · subst hk0; rw [cd_gE rfl rfl, cd_upE rfl]
          · rw [cd_gN (by omega), cd_upN hk0]; exact hr k hk)
    refine ⟨_, h1, h2, e1, ?_, hI3⟩
    unfold f_X8_counters
    rw [hw8, if_neg (by decide)]
    exact e2
  · have hw : f_X7_isWithin a1 1 4 = 0 := by rw [cd_in7, if_neg hv]
    have hw8 : f_X8_in a1 1 4 = 0 := by rw [cd_in8, if_neg hv]
    obtain ⟨h1, e1, -, hI3⟩ := cd_S_no hI hn (F := fun o => some (f_X4_putCounters 4 a1 o)) (i := 0) (r := -2) (by omega) (by decide)
      (fun h1 hs1 _ => by
        unfold f_X4_putCounters
        rw [hw, if_pos rfl])
    refine ⟨_, h1, _, e1, ?_, hI3⟩
    unfold f_X8_counters
    rw [hw8, if_pos rfl, cd_bad8]
    rfl
