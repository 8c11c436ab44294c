-- PLACES THAT MATTER to a group, to tasks, to the queue, to samples
theorem cd_OkG.on {A B : Nat → Int32} {o : Nat} (h : cd_OkG o A) (e : ∀ k, o ≤ k → k < o + 58 → B k = A k) (e9 : cd_n A 9 ≤ cd_n B 9) (e426 : cd_n A 426 ≤ cd_n B 426) : cd_OkG o B := by
  obtain ⟨⟨h0, h0'⟩, ⟨h1, h1'⟩, h2, h3, h4, ⟨h5, h5'⟩, ⟨h6, h6'⟩, ⟨h7, h7'⟩, ⟨h8, h8'⟩, h9', h10, h11, h12, h13, h14, h15⟩ := h
  have h5l := h5.2
  have en : ∀ k, o ≤ k → k < o + 58 → cd_n B k = cd_n A k := fun k z0 z1 => by unfold cd_n; rw [e k z0 z1]
  have nn : ∀ k m, o ≤ k → k < o + 58 → cd_num A k m → cd_num B k m := fun k m z0 z1 z => by unfold cd_num; rw [en k z0 z1, e k z0 z1]; exact z
  have es : ∀ a, o ≤ a → a + 5 < o + 58 → cd_S6 B a = cd_S6 A a := fun a z1 z2 => by unfold cd_S6; rw [en _ (by omega) (by omega), en _ (by omega) (by omega), en _ (by omega) (by omega), en _ (by omega) (by omega), en _ (by omega) (by omega), en _ (by omega) (by omega)]
  unfold cd_OkG
  rw [en o (by omega) (by omega), en (o + 1) (by omega) (by omega), en (o + 5) (by omega) (by omega), en (o + 6) (by omega) (by omega), en (o + 7) (by omega) (by omega), en (o + 8) (by omega) (by omega), es (o + 46) (by omega) (by omega), es (o + 52) (by omega) (by omega)]
  refine ⟨⟨nn _ _ (by omega) (by omega) h0, Nat.lt_of_lt_of_le h0' e9⟩, ⟨nn _ _ (by omega) (by omega) h1, h1'⟩, nn _ _ (by omega) (by omega) h2, nn _ _ (by omega) (by omega) h3, nn _ _ (by omega) (by omega) h4, ⟨nn _ _ (by omega) (by omega) h5, h5'⟩, ⟨nn _ _ (by omega) (by omega) h6, h6'⟩, ⟨nn _ _ (by omega) (by omega) h7, h7'⟩, ⟨nn _ _ (by omega) (by omega) h8, h8'⟩, nn _ _ (by omega) (by omega) h9', fun i hi => ?_, fun k hk => nn _ _ (by omega) (by omega) (h11 k hk), fun t ht => ⟨nn _ _ (by omega) (by omega) (h12 t ht).1, nn _ _ (by omega) (by omega) (h12 t ht).2⟩, Nat.le_trans h13 e426, h14, fun i hi => ?_⟩
  · obtain ⟨y1, y2, y3⟩ := h10 i hi
    exact ⟨nn _ _ (by omega) (by omega) y1, nn _ _ (by omega) (by omega) y2, y3.imp (fun z => by rw [e _ (by omega) (by omega)]; exact z) (fun z => nn _ _ (by omega) (by omega) z)⟩
  · rw [es _ (by omega) (by omega)]; exact h15 i hi
theorem cd_OkT.on {A B : Nat → Int32} (h : cd_OkT A) (e : ∀ k, 9 ≤ k → k < 70 → B k = A k) : cd_OkT B := by
  obtain ⟨⟨t1, t1'⟩, ⟨t2, t2'⟩, t3, t4⟩ := h
  have tl := t1.2
  have e9 : cd_n B 9 = cd_n A 9 := cd_n.of (e 9 (by omega) (by omega))
  unfold cd_OkT
  rw [e9]
  refine ⟨⟨t1.of (e _ (by omega) (by omega)), t1'⟩, ⟨by rw [e 10 (by omega) (by omega)]; exact t2, by rw [e 11 (by omega) (by omega)]; exact t2'⟩, fun t w1 w2 => ?_, fun t ht => ⟨(t4 t ht).1.of (e _ (by omega) (by omega)), fun k hk => ((t4 t ht).2 k hk).of (e _ (by omega) (by omega))⟩⟩
  rw [cd_n.of (e _ (by omega) (by omega))]
  exact ⟨(t3 t w1 w2).1.of (e _ (by omega) (by omega)), (t3 t w1 w2).2⟩
theorem cd_OkS.on {A B : Nat → Int32} {τ : Nat} (h : cd_OkS A τ) (e : ∀ k, 426 ≤ k → k < 659 → B k = A k) : cd_OkS B τ := by
  obtain ⟨s1, s2, s3, ⟨s4, s4'⟩, ⟨s5, s5'⟩, s6⟩ := h
  have kl := s4.2
  have wl := s5.2
  unfold cd_OkS
  rw [cd_n.of (e 426 (by omega) (by omega)), cd_n.of (e 429 (by omega) (by omega)), cd_n.of (e 466 (by omega) (by omega))]
  have ect : ∀ d w, w ≤ 64 → cd_ct B d w = cd_ct A d w := by
    intro d w
    induction w with
    | zero => intro _; rfl
    | succ w ih => intro hw; unfold cd_ct; rw [ih (by omega), cd_n.of (e _ (by omega) (by omega))]
  refine ⟨s1.of (e _ (by omega) (by omega)), s2.of (e _ (by omega) (by omega)), s3.of (e _ (by omega) (by omega)), ⟨s4.of (e _ (by omega) (by omega)), fun i hi => ?_⟩, ⟨s5.of (e _ (by omega) (by omega)), fun i hi => ?_⟩, fun j hj => ?_⟩
  · obtain ⟨z1, z2, z3⟩ := s4' i hi
    exact ⟨z1.of (e _ (by omega) (by omega)), z2.of (e _ (by omega) (by omega)), z3.of (e _ (by omega) (by omega))⟩
  · obtain ⟨z1, z2⟩ := s5' i hi
    exact ⟨z1.of (e _ (by omega) (by omega)), z2.of (e _ (by omega) (by omega))⟩
  · rw [ect _ _ (by omega)]; exact s6 j hj
theorem cd_OkQ.on {A B : Nat → Int32} (h : cd_OkQ A) (e : ∀ k, 419 ≤ k → k < 426 → B k = A k) (e70 : cd_n A 70 ≤ cd_n B 70) (e2 : ∀ g, g < cd_n A 70 → B (71 + 58 * g + 2) = A (71 + 58 * g + 2)) : cd_OkQ B := by
  obtain ⟨q1, q2, q3⟩ := h
  have ql := q1.2
  unfold cd_OkQ
  rw [cd_n.of (e 419 (by omega) (by omega))]
  refine ⟨q1.of (e _ (by omega) (by omega)), fun i hi => ?_, fun i j w1 w2 => ?_⟩
  · obtain ⟨z1, z2, z3⟩ := q2 i hi
    rw [cd_n.of (e _ (by omega) (by omega)), e2 _ z2]
    exact ⟨z1.of (e _ (by omega) (by omega)), by omega, z3⟩
  · rw [cd_n.of (e _ (by omega) (by omega)), cd_n.of (e _ (by omega) (by omega))]; exact q3 i j w1 w2
-- AN EVENT COMES behind those of a group
def cd_evt (A : Nat → Int32) (o : Nat) (k : Int32) : Nat → Int32 := fun j => if j = o + 5 then nI (cd_n A (o + 5) + 1) else if j = o + 10 + 3 * cd_n A (o + 5) then k else if j = o + 11 + 3 * cd_n A (o + 5) then 0 else if j = o + 12 + 3 * cd_n A (o + 5) then -1 else A j
theorem cd_evt5 {A : Nat → Int32} {o : Nat} {k : Int32} : cd_evt A o k (o + 5) = nI (cd_n A (o + 5) + 1) := if_pos rfl
theorem cd_evtK {A : Nat → Int32} {o : Nat} {k : Int32} : cd_evt A o k (o + 10 + 3 * cd_n A (o + 5)) = k := by unfold cd_evt; rw [if_neg (by omega), if_pos rfl]
theorem cd_evtP {A : Nat → Int32} {o : Nat} {k : Int32} : cd_evt A o k (o + 11 + 3 * cd_n A (o + 5)) = 0 := by unfold cd_evt; rw [if_neg (by omega), if_neg (by omega), if_pos rfl]
theorem cd_evtS {A : Nat → Int32} {o : Nat} {k : Int32} : cd_evt A o k (o + 12 + 3 * cd_n A (o + 5)) = -1 := by unfold cd_evt; rw [if_neg (by omega), if_neg (by omega), if_neg (by omega), if_pos rfl]
theorem cd_evtN {A : Nat → Int32} {o j : Nat} {k : Int32} (h5 : j ≠ o + 5) (h : j < o + 10 + 3 * cd_n A (o + 5) ∨ o + 13 + 3 * cd_n A (o + 5) ≤ j) : cd_evt A o k j = A j := by unfold cd_evt; rw [if_neg h5, if_neg (by omega), if_neg (by omega), if_neg (by omega)]
theorem cd_append {c o E : Nat} {A : Nat → Int32} {h : cd_Hp} {k : Int32} (x : cd_StG c o A h) (hE : A (o + 5) = nI E) (h4 : E < 4) : ∃ h', f_X0_append c k h = some (nI E, h') ∧ cd_StG c o (cd_evt A o k) h' ∧ cd_fr c (c + 7) h h' := by
  have en : cd_n A (o + 5) = E := cd_n_nI hE (by omega)
  obtain ⟨x1, x2, x3, x4⟩ := x
  have e6 : cd_g h c 6 = nI E := by rw [x1.2.2.2.2.2.2.1, hE]
  unfold f_X0_append
  rw [e6, if_pos (by rw [cd_ltL (by omega) (by omega)]; exact h4)]
  simp (disch := omega) only [cd_nmE2, cd_ckI, cd_cl, cd_addL]
  refine ⟨_, rfl, ⟨?_, fun e he => ?_, fun k hk => ?_, fun t ht => ?_⟩, ?_, rfl⟩
  · simp (disch := omega) only [cd_gN, cd_gE, cd_evtN]
    simp only [x1, cd_evt5, en, and_self]
  · rw [cd_n_nI cd_evt5 (by omega), en] at he
    rcases Nat.lt_or_ge e E with z | z
    · simp (disch := omega) only [cd_gN, cd_evtN]; exact x2 e (by omega)
    · obtain rfl : e = E := by omega
      simp (disch := omega) only [cd_gN, cd_gE]
      refine ⟨?_, ?_, ?_⟩
      · rw [← en]; exact cd_evtK.symm
      · rw [← en]; exact cd_evtP.symm
      · rw [← en]; exact cd_evtS.symm
  · simp (disch := omega) only [cd_gN, cd_evtN]; exact x3 k hk
  · simp (disch := omega) only [cd_gN, cd_evtN]; exact x4 t ht
  · intro y k hy; simp (disch := omega) only [cd_gN]
theorem cd_addsEvent {g E : Nat} {A : Nat → Int32} {h1 : cd_Hp} {k : Int32} (hr : ∀ k, k < 659 → cd_R h1 k = A k) (hg : g < 6) (hE : A (71 + 58 * g + 5) = nI E) (h4 : E < 4) : ∃ h2, f_X8_addsEvent (nI g) k h1 = some (nI E, h2) ∧ (∀ k', k' < 659 → cd_R h2 k' = cd_evt A (71 + 58 * g) k k') ∧ cd_frR h1 h2 := by
  have en : cd_n A (71 + 58 * g + 5) = E := cd_n_nI hE (by omega)
  have e5 : cd_g h1 405 (71 + 58 * g + 5) = nI E := by have := hr (71 + 58 * g + 5) (by omega); exact this.trans hE
  unfold f_X8_addsEvent
  have e5' := cd_ofGroup (h := h1) (g := g) (w := 5) hg (by omega)
  rw [show (5 : Int32) = nI 5 from rfl, e5', cd_bS, e5, cd_eventAt, cd_groupAt]
  simp (disch := omega) only [cd_nmE2, cd_ckI, cd_cl, cd_addL, nI_add, cd_gN, e5]
  refine ⟨_, rfl, fun j hj => ?_, ?_⟩
  · show cd_g _ 405 j = _
    simp only [cd_gif]
    unfold cd_evt
    rw [en]
    have := hr j hj
    by_cases z1 : j = 71 + 58 * g + 5
    · rw [if_pos ⟨trivial, z1⟩, if_pos z1]
    · rw [if_neg (by omega), if_neg z1]
      by_cases z2 : j = 71 + 58 * g + 12 + 3 * E
      · rw [if_pos ⟨trivial, by omega⟩, if_neg (by omega), if_neg (by omega), if_pos z2]
      · rw [if_neg (by omega)]
        by_cases z3 : j = 71 + 58 * g + 11 + 3 * E
        · rw [if_pos ⟨trivial, by omega⟩, if_neg (by omega), if_pos z3]
        · rw [if_neg (by omega)]
          by_cases z4 : j = 71 + 58 * g + 10 + 3 * E
          · rw [if_pos ⟨trivial, by omega⟩, if_pos z4]
          · rw [if_neg (by omega), if_neg z4, if_neg z3, if_neg z2]; exact this
  · intro x j z
    simp (disch := omega) only [cd_gN]
theorem cd_OkG.evt {A : Nat → Int32} {o k : Nat} (h : cd_OkG o A) (h70 : 70 ≤ o) (ho : o + 58 ≤ 419) (h4 : cd_n A (o + 5) < 4) (hk : k ≤ 7) : cd_OkG o (cd_evt A o (nI k)) := by
  have h' := h
  obtain ⟨⟨h0, h0'⟩, ⟨h1, h1'⟩, h2, h3, h4', ⟨h5, h5'⟩, ⟨h6, h6'⟩, ⟨h7, h7'⟩, ⟨h8, h8'⟩, h9', h10, h11, h12, h13, h14, h15⟩ := h'
  have en : ∀ j, j ≠ o + 5 → (j < o + 10 + 3 * cd_n A (o + 5) ∨ o + 13 + 3 * cd_n A (o + 5) ≤ j) → cd_n (cd_evt A o (nI k)) j = cd_n A j := fun j z1 z2 => cd_n.of (cd_evtN z1 z2)
  have nn : ∀ j m, j ≠ o + 5 → (j < o + 10 + 3 * cd_n A (o + 5) ∨ o + 13 + 3 * cd_n A (o + 5) ≤ j) → cd_num A j m → cd_num (cd_evt A o (nI k)) j m := fun j m z1 z2 z => z.of (cd_evtN z1 z2)
  have es : ∀ a, o + 22 ≤ a → cd_S6 (cd_evt A o (nI k)) a = cd_S6 A a := fun a z1 => by unfold cd_S6; rw [en _ (by omega) (by omega), en _ (by omega) (by omega), en _ (by omega) (by omega), en _ (by omega) (by omega), en _ (by omega) (by omega), en _ (by omega) (by omega)]
  have e5 : cd_n (cd_evt A o (nI k)) (o + 5) = cd_n A (o + 5) + 1 := cd_n_nI cd_evt5 (by omega)
  unfold cd_OkG
  rw [e5, en o (by omega) (by omega), en 9 (by omega) (by omega), en 426 (by omega) (by omega), en (o + 1) (by omega) (by omega), en (o + 6) (by omega) (by omega), en (o + 7) (by omega) (by omega), en (o + 8) (by omega) (by omega), es (o + 46) (by omega), es (o + 52) (by omega)]
  refine ⟨⟨nn _ _ (by omega) (by omega) h0, h0'⟩, ⟨nn _ _ (by omega) (by omega) h1, h1'⟩, nn _ _ (by omega) (by omega) h2, nn _ _ (by omega) (by omega) h3, nn _ _ (by omega) (by omega) h4', ⟨cd_numI cd_evt5 (by omega) (by omega), by omega⟩, ⟨nn _ _ (by omega) (by omega) h6, h6'⟩, ⟨nn _ _ (by omega) (by omega) h7, h7'⟩, ⟨nn _ _ (by omega) (by omega) h8, h8'⟩, nn _ _ (by omega) (by omega) h9', fun i hi => ?_, fun k hk => nn _ _ (by omega) (by omega) (h11 k hk), fun t ht => ⟨nn _ _ (by omega) (by omega) (h12 t ht).1, nn _ _ (by omega) (by omega) (h12 t ht).2⟩, h13, h14, fun i hi => ?_⟩
  · rcases Nat.lt_or_ge i (cd_n A (o + 5)) with z | z
    · obtain ⟨y1, y2, y3⟩ := h10 i z
      exact ⟨nn _ _ (by omega) (by omega) y1, nn _ _ (by omega) (by omega) y2, y3.imp (fun z => by rw [cd_evtN (by omega) (by omega)]; exact z) (fun z => nn _ _ (by omega) (by omega) z)⟩
    · obtain rfl : i = cd_n A (o + 5) := by omega
      exact ⟨cd_numI cd_evtK hk (by omega), cd_numI (n := 0) cd_evtP (by omega) (by omega), Or.inl cd_evtS⟩
  · rw [es _ (by omega)]; exact h15 i hi
theorem cd_Ok.evt {A : Nat → Int32} {τ g k : Nat} (h : cd_Ok A τ) (hg : g < cd_n A 70) (h4 : cd_n A (71 + 58 * g + 5) < 4) (hk : k ≤ 7) : cd_Ok (cd_evt A (71 + 58 * g) (nI k)) τ := by
  have h6 := h.2.2.2.2.1.2
  refine h.grp hg ?_ (cd_evtN (by omega) (by omega)) ((h.2.2.2.2.2.1 g hg).evt (by omega) (by omega) h4 hk)
  intro j _ hj
  exact cd_evtN (by omega) (by omega)
/-- the class's addEvent -/
theorem cd_addEvent {q τ g k : Nat} {A : Nat → Int32} {h : cd_Hp} (hA : cd_Ok A τ) (x : cd_St q A h) (hg : g < cd_n A 70) (h4 : cd_n A (71 + 58 * g + 5) < 4) (hk : k ≤ 7) : ∃ h', f_X4_addEvent q (nI g) (nI k) h = some (nI (cd_n A (71 + 58 * g + 5)), h') ∧ cd_St q (cd_evt A (71 + 58 * g) (nI k)) h' ∧ cd_fr q (q + 56) h h' := by
  have hG := hA.2.2.2.2.1
  have h6 := hG.2
  have w0 : f_X4_hasGroup q (nI g) h = 1 := by rw [cd_hasGroup4 x hG, if_pos ⟨g, hg, rfl⟩]
  have w1 : f_X7_isWithin (nI k) 0 7 = 1 := cd_in7t (a := 0) (b := 7) (by omega) hk (by omega)
  have h5 := (hA.2.2.2.2.2.1 g hg).2.2.2.2.2.1.1
  obtain ⟨h', e', s', f'⟩ := cd_append (k := nI k) (x.2.2.2.1 g hg) h5.1 h4
  refine ⟨h', ?_, x.grp hA hg ?_ f' s', f'.wide (by omega) (by omega)⟩
  · unfold f_X4_addEvent
    rw [w0, if_neg (by decide), w1, if_neg (by decide), cd_ckI (by omega) (by omega), cd_cl (by omega), e', cd_bS]
  · intro j _ hj
    exact cd_evtN (by omega) (by omega)
/-- which event calls are refused, and how -/
theorem cd_addEvent_bad {q τ : Nat} {A : Nat → Int32} {h : cd_Hp} {a1 a2 : Int32} (hA : cd_Ok A τ) (x : cd_St q A h) (hv : ¬ ∃ g k : Nat, g < cd_n A 70 ∧ k ≤ 7 ∧ a1 = nI g ∧ a2 = nI k) : f_X4_addEvent q a1 a2 h = some (-2, h) := by
  unfold f_X4_addEvent
  rw [cd_hasGroup4 x hA.2.2.2.2.1]
  by_cases z : ∃ g, g < cd_n A 70 ∧ a1 = nI g
  · have w1 : f_X7_isWithin a2 0 7 = 0 := cd_in7f (a := 0) (b := 7) (by
      rintro ⟨k, -, hk, e2⟩
      obtain ⟨g, hg, e1⟩ := z
      exact hv ⟨g, k, hg, hk, e1, e2⟩) (by omega) (by omega)
    rw [if_pos z, if_neg (by decide), w1, if_pos rfl]
  · rw [if_neg z, if_pos rfl]
theorem cd_addEvent_full {q τ g k : Nat} {A : Nat → Int32} {h : cd_Hp} (hA : cd_Ok A τ) (x : cd_St q A h) (hg : g < cd_n A 70) (h4 : cd_n A (71 + 58 * g + 5) = 4) (hk : k ≤ 7) : f_X4_addEvent q (nI g) (nI k) h = some (-4, h) := by
  have hG := hA.2.2.2.2.1
  have h6 := hG.2
  have w0 : f_X4_hasGroup q (nI g) h = 1 := by rw [cd_hasGroup4 x hG, if_pos ⟨g, hg, rfl⟩]
  have w1 : f_X7_isWithin (nI k) 0 7 = 1 := cd_in7t (a := 0) (b := 7) (by omega) hk (by omega)
  have h5 := (hA.2.2.2.2.2.1 g hg).2.2.2.2.2.1.1
  have e6 : cd_g h (q + 6 + 8 + 7 * g) 6 = nI 4 := by rw [(x.2.2.2.1 g hg).1.2.2.2.2.2.2.1, h5.1, h4]
  unfold f_X4_addEvent f_X0_append
  rw [w0, if_neg (by decide), w1, if_neg (by decide), cd_ckI (by omega) (by omega), cd_cl (by omega), e6, if_neg (by decide), cd_bS]
theorem cd_call6 {n : Nat} {h : cd_Hp} (hI : cd_Inv n h) (hn : n < 512) : cd_q6 cd_Inv n h := by
  intro a1 a2
  have hI2 := hI
  obtain ⟨s, nx, c, hs, t⟩ := hI2
  obtain ⟨-, ⟨hO, hSt⟩, -⟩ := c
  have hG := hO.2.2.2.2.1
  have h6 := hG.2
  by_cases hv : ∃ g k : Nat, g < cd_n (cd_R h) 70 ∧ k ≤ 7 ∧ a1 = nI g ∧ a2 = nI k
  · obtain ⟨g, k, hg, hk, rfl, rfl⟩ := hv
    have h5 := (hO.2.2.2.2.2.1 g hg).2.2.2.2.2.1.1
    have w1 : f_X8_isKind (nI k) = 1 := cd_in8t (a := 0) (b := 7) (by omega) hk (by omega)
    have w5 : ∀ h1, (∀ k, k < 659 → cd_R h1 k = cd_R h k) → f_X8_isGroup (nI g) h1 = 1 ∧ f_X8_ofGroup (nI g) 5 h1 = some (nI (cd_n (cd_R h) (71 + 58 * g + 5))) := fun h1 hr => by
      constructor
      · rw [cd_isGroup8 hr hG, if_pos ⟨g, hg, rfl⟩]
      · have := cd_ofGroup (h := h1) (g := g) (w := 5) (by omega) (by omega)
        rw [show (5 : Int32) = nI 5 from rfl, this]
        have e := hr (71 + 58 * g + 5) (by omega)
        dsimp only [cd_R] at e
        rw [e]; exact congrArg some h5.1
    rcases Nat.lt_or_ge (cd_n (cd_R h) (71 + 58 * g + 5)) 4 with h4 | h4
    · obtain ⟨h1, h2, e1, l1, e2, hI3⟩ := cd_S_ok hI hn (F := fun o => f_X4_addEvent 4 (nI g) (nI k) o) (K := fun o => f_X8_addsEvent (nI g) (nI k) o) (r := nI (cd_n (cd_R h) (71 + 58 * g + 5))) (A' := cd_evt (cd_R h) (71 + 58 * g) (nI k)) (cd_nr_nI (by omega)) ((hO.mono (by omega) (by omega)).evt hg h4 hk)
        (fun h1 hs1 _ => by
          obtain ⟨h', e', s', f'⟩ := cd_addEvent hO hs1 hg h4 hk
          exact ⟨h', e', s', f'.wide (by omega) (by omega)⟩)
        (fun h1 hr _ => cd_addsEvent hr (by omega) h5.1 h4)
      refine ⟨_, h1, h2, e1, ?_, hI3⟩
      obtain ⟨z1, z2⟩ := w5 h1 (fun k _ => l1 _ _ (by omega))
      unfold f_X8_event
      rw [z1, if_neg (by decide), w1, if_neg (by decide), z2, cd_bS, if_neg (by rw [cd_eqL (by omega) (by omega)]; omega)]
      exact e2
    · have h4' : cd_n (cd_R h) (71 + 58 * g + 5) = 4 := by have := h5.2; omega
      obtain ⟨h1, e1, er, hI3⟩ := cd_S_no hI hn (F := fun o => f_X4_addEvent 4 (nI g) (nI k) o) (i := 2) (r := -4) (by omega) (by decide) (fun h1 hs1 _ => cd_addEvent_full hO hs1 hg h4' hk)
      refine ⟨_, h1, _, e1, ?_, hI3⟩
      obtain ⟨z1, z2⟩ := w5 h1 (fun k _ => er k)
      unfold f_X8_event
      rw [z1, if_neg (by decide), w1, if_neg (by decide), z2, cd_bS, if_pos (by rw [h4']; rfl), cd_full8]
      rfl
  · obtain ⟨h1, e1, er, hI3⟩ := cd_S_no hI hn (F := fun o => f_X4_addEvent 4 a1 a2 o) (i := 0) (r := -2) (by omega) (by decide) (fun h1 hs1 _ => cd_addEvent_bad hO hs1 hv)
    refine ⟨_, h1, _, e1, ?_, hI3⟩
    unfold f_X8_event f_X8_isKind
    rw [cd_isGroup8 (fun k _ => er k) hG]
    by_cases z : ∃ g, g < cd_n (cd_R h) 70 ∧ a1 = nI g
    · have w1 : f_X8_in a2 0 7 = 0 := cd_in8f (a := 0) (b := 7) (by
        rintro ⟨k, -, hk, e2⟩
        obtain ⟨g, hg, e1⟩ := z
        exact hv ⟨g, k, hg, hk, e1, e2⟩) (by omega) (by omega)
      rw [if_pos z, if_neg (by decide), w1, if_pos rfl, cd_bad8]; rfl
    · rw [if_neg z, if_pos rfl, cd_bad8]; rfl
