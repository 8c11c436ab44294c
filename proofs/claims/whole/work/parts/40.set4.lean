-- a group's fields that are told again
theorem cd_StG.put {c o j p : Nat} {A : Nat → Int32} {h : cd_Hp} {v : Int32} (x : cd_StG c o A h) (hp : (p = 4 ∧ j = 4) ∨ (p = 5 ∧ j = 9) ∨ (p = 7 ∧ j = 6) ∨ (p = 8 ∧ j = 7) ∨ (p = 9 ∧ j = 8)) : cd_StG c o (cd_up A (o + j) v) (cd_u h c p v) := by
  obtain ⟨x1, x2, x3, x4⟩ := x
  have e5 : cd_n (cd_up A (o + j) v) (o + 5) = cd_n A (o + 5) := by unfold cd_n; rw [cd_upN (by omega)]
  refine ⟨?_, fun e he => ?_, fun k hk => ?_, fun t ht => ?_⟩
  · rcases hp with ⟨rfl, rfl⟩ | ⟨rfl, rfl⟩ | ⟨rfl, rfl⟩ | ⟨rfl, rfl⟩ | ⟨rfl, rfl⟩ <;> simp (disch := omega) only [cd_gN, cd_gE, cd_upN, cd_upE] <;> simp only [x1, and_self]
  · rw [e5] at he; simp (disch := omega) only [cd_gN, cd_upN]; exact x2 e he
  · simp (disch := omega) only [cd_gN, cd_upN]; exact x3 k hk
  · simp (disch := omega) only [cd_gN, cd_upN]; exact x4 t ht
theorem cd_OkG.fl {A B : Nat → Int32} {o : Nat} (h : cd_OkG o A) (ho : o + 58 ≤ 419) (h70 : 70 ≤ o) (e : ∀ k, k < 659 → k ≠ o + 4 → k ≠ o + 6 → k ≠ o + 7 → k ≠ o + 8 → k ≠ o + 9 → B k = A k) (n4 : cd_num B (o + 4) 1) (n6 : cd_num B (o + 6) 4 ∧ cd_n B (o + 6) < cd_n A (o + 1)) (n7 : cd_num B (o + 7) 200 ∧ (cd_n B (o + 7) = 0 ∨ 30 ≤ cd_n B (o + 7))) (n8 : cd_num B (o + 8) 199 ∧ (cd_n B (o + 7) = 0 ∨ cd_n B (o + 8) < cd_n B (o + 7))) (n9 : cd_num B (o + 9) 1) : cd_OkG o B := by
  obtain ⟨⟨h0, h0'⟩, ⟨h1, h1'⟩, h2, h3, h4, ⟨h5, h5'⟩, ⟨h6, h6'⟩, ⟨h7, h7'⟩, ⟨h8, h8'⟩, h9', h10, h11, h12, h13, h14, h15⟩ := h
  have h5l := h5.2
  have en : ∀ k, k < 659 → k ≠ o + 4 → k ≠ o + 6 → k ≠ o + 7 → k ≠ o + 8 → k ≠ o + 9 → cd_n B k = cd_n A k := fun k z0 z1 z2 z3 z4 z5 => by unfold cd_n; rw [e k z0 z1 z2 z3 z4 z5]
  have nn : ∀ k m, k < 659 → k ≠ o + 4 → k ≠ o + 6 → k ≠ o + 7 → k ≠ o + 8 → k ≠ o + 9 → cd_num A k m → cd_num B k m := fun k m z0 z1 z2 z3 z4 z5 z => by unfold cd_num; rw [en k z0 z1 z2 z3 z4 z5, e k z0 z1 z2 z3 z4 z5]; exact z
  have es : ∀ a, o + 10 ≤ a → a + 5 < 659 → cd_S6 B a = cd_S6 A a := fun a z1 z2 => by unfold cd_S6; simp (disch := omega) only [en]
  refine ⟨⟨nn _ _ (by omega) (by omega) (by omega) (by omega) (by omega) (by omega) h0, ?_⟩, ⟨nn _ _ (by omega) (by omega) (by omega) (by omega) (by omega) (by omega) h1, ?_⟩, nn _ _ (by omega) (by omega) (by omega) (by omega) (by omega) (by omega) h2, nn _ _ (by omega) (by omega) (by omega) (by omega) (by omega) (by omega) h3, n4, ⟨nn _ _ (by omega) (by omega) (by omega) (by omega) (by omega) (by omega) h5, ?_⟩, ⟨n6.1, ?_⟩, n7, n8, n9, fun i hi => ?_, fun k hk => nn _ _ (by omega) (by omega) (by omega) (by omega) (by omega) (by omega) (h11 k hk), fun t ht => ⟨nn _ _ (by omega) (by omega) (by omega) (by omega) (by omega) (by omega) (h12 t ht).1, nn _ _ (by omega) (by omega) (by omega) (by omega) (by omega) (by omega) (h12 t ht).2⟩, ?_, ?_, fun i hi => ?_⟩
  · rw [en o (by omega) (by omega) (by omega) (by omega) (by omega) (by omega), en 9 (by omega) (by omega) (by omega) (by omega) (by omega) (by omega)]; exact h0'
  · rw [en _ (by omega) (by omega) (by omega) (by omega) (by omega) (by omega)]; exact h1'
  · rw [en _ (by omega) (by omega) (by omega) (by omega) (by omega) (by omega)]; exact h5'
  · rw [en (o + 1) (by omega) (by omega) (by omega) (by omega) (by omega) (by omega)]; exact n6.2
  · rw [en _ (by omega) (by omega) (by omega) (by omega) (by omega) (by omega)] at hi
    obtain ⟨y1, y2, y3⟩ := h10 i hi
    exact ⟨nn _ _ (by omega) (by omega) (by omega) (by omega) (by omega) (by omega) y1, nn _ _ (by omega) (by omega) (by omega) (by omega) (by omega) (by omega) y2, y3.imp (fun z => by rw [e _ (by omega) (by omega) (by omega) (by omega) (by omega) (by omega)]; exact z) (fun z => nn _ _ (by omega) (by omega) (by omega) (by omega) (by omega) (by omega) z)⟩
  · rw [es _ (by omega) (by omega), en 426 (by omega) (by omega) (by omega) (by omega) (by omega) (by omega)]; exact h13
  · rw [es _ (by omega) (by omega), es _ (by omega) (by omega)]; exact h14
  · rw [es _ (by omega) (by omega), es _ (by omega) (by omega)]; exact h15 i hi
theorem cd_num.of {A B : Nat → Int32} {k m : Nat} (h : cd_num A k m) (e : B k = A k) : cd_num B k m := by unfold cd_num cd_n at *; rw [e]; exact h
theorem cd_n.of {A B : Nat → Int32} {k : Nat} (e : B k = A k) : cd_n B k = cd_n A k := by unfold cd_n; rw [e]
theorem cd_is_g4 {g : Nat} : 4 + 6 + 8 + 7 * g = 18 + 7 * g := by omega
theorem cd_bitE {A : Nat → Int32} {k : Nat} (h : cd_num A k 1) : f_X7_bit (A k) = A k := by
  obtain ⟨h1, h2⟩ := h
  rw [h1]
  have : cd_n A k = 0 ∨ cd_n A k = 1 := by omega
  rcases this with e | e <;> rw [e] <;> decide
-- lives
theorem cd_call9 {n : Nat} {h : cd_Hp} (hI : cd_Inv n h) (hn : n < 512) : cd_q9 cd_Inv n h := by
  intro a1 a2
  have hI2 := hI
  obtain ⟨s, nx, c, hs, t⟩ := hI2
  obtain ⟨-, ⟨hO, hSt⟩, -⟩ := c
  have hG := hO.2.2.2.2.1
  have h6 := hG.2
  have hGs := hO.2.2.2.2.2.1
  have hh : ∀ h1, cd_St 4 (cd_R h) h1 → f_X4_hasGroup 4 a1 h1 = if ∃ g, g < cd_n (cd_R h) 70 ∧ a1 = nI g then 1 else 0 := fun h1 hs1 => cd_hasGroup4 hs1 hG
  by_cases hv : ∃ g v : Nat, g < cd_n (cd_R h) 70 ∧ v ≤ 1 ∧ a1 = nI g ∧ a2 = nI v
  · obtain ⟨g, v, hg, hv, rfl, rfl⟩ := hv
    have hgg := hGs g hg
    have e0 := hgg.2.2.2.2.1
    have w2 : f_X7_isWithin (nI v) 0 1 = 1 := cd_in7t (a := 0) (b := 1) (by omega) hv (by omega)
    have w8 : f_X8_in (nI v) 0 1 = 1 := cd_in8t (a := 0) (b := 1) (by omega) hv (by omega)
    have hgB : cd_OkG (71 + 58 * g) (cd_up (cd_R h) (71 + 58 * g + 4) (nI v)) := by
      have hg2 := hgg
      obtain ⟨h0, h1, h2, h3, h4, h5, ⟨h6a, h6b⟩, ⟨h7a, h7b⟩, ⟨h8a, h8b⟩, h9, -⟩ := hg2
      refine cd_OkG.fl hgg (by omega) (by omega) (fun k _ z _ _ _ _ => cd_upN z) (cd_num.put hv (by omega)) ⟨h6a.of (cd_upN (by omega)), ?_⟩ ⟨h7a.of (cd_upN (by omega)), ?_⟩ ⟨h8a.of (cd_upN (by omega)), ?_⟩ (h9.of (cd_upN (by omega)))
      · rw [cd_n.of (cd_upN (by omega))]; exact h6b
      · rw [cd_n.of (cd_upN (by omega))]; exact h7b
      · rw [cd_n.of (cd_upN (by omega)), cd_n.of (k := 71 + 58 * g + 8) (cd_upN (by omega))]; exact h8b
    have al : cd_al (cd_R h) (cd_up (cd_R h) (71 + 58 * g + 4) (nI v)) (71 + 58 * g) (71 + 58 * g + 58) := cd_al.up.wide (by omega) (by omega)
    obtain ⟨h1, h2, e1, l1, e2, hI3⟩ := cd_S_ok hI hn (F := fun o => f_X4_putLive 4 (nI g) (nI v) o) (K := fun o => f_X8_exchanges (f_X8_groupAt (nI g) + 4) (nI v) o) (r := nI (cd_n (cd_R h) (71 + 58 * g + 4))) (A' := cd_up (cd_R h) (71 + 58 * g + 4) (nI v)) (cd_nr_nI (by have := e0.2; omega)) ((hO.mono (by omega) (by omega)).grp hg al (cd_upN (by omega)) hgB)
      (fun h1 hs1 _ => by
        have w0 : f_X4_hasGroup 4 (nI g) h1 = 1 := by rw [hh h1 hs1, if_pos ⟨g, hg, rfl⟩]
        have xg := hs1.2.2.2.1 g hg
        refine ⟨cd_u h1 (4 + 6 + 8 + 7 * g) 4 (nI v), ?_, hs1.grp hO hg al (cd_fr.u (by omega) (by omega)) (xg.put (by omega)), cd_fr.u (by omega) (by omega)⟩
        unfold f_X4_putLive
        rw [w0, if_neg (by decide), w2, if_neg (by decide)]
        simp (disch := omega) only [cd_ckI, cd_cl, cd_nmE2]
        rw [xg.1.2.2.2.2.1, cd_bitE e0, ← e0.1]
        have : v = 0 ∨ v = 1 := by omega
        rcases this with rfl | rfl
        · rw [if_neg (by decide)]; rfl
        · rw [if_pos (by decide)]; rfl)
      (fun h1 hr _ => ⟨_, by rw [cd_groupAt, cd_addL]; exact cd_exch hr (by omega) e0, cd_R_up hr, cd_frR.u (by omega)⟩)
    refine ⟨_, h1, h2, e1, ?_, hI3⟩
    have w0 : f_X8_isGroup (nI g) h1 = 1 := by rw [cd_isGroup8 (fun k _ => l1 _ _ (by omega)) hG, if_pos ⟨g, hg, rfl⟩]
    unfold f_X8_lives
    rw [w0, if_neg (by decide), w8, if_neg (by decide)]
    exact e2
  · have hz : ∀ (x y : Int32), (x = if ∃ g, g < cd_n (cd_R h) 70 ∧ a1 = nI g then 1 else 0) → (y = 0 ∨ ∃ v, v ≤ 1 ∧ a2 = nI v) → x = 0 ∨ y = 0 := by
      intro x y hx hy
      by_cases z : ∃ g, g < cd_n (cd_R h) 70 ∧ a1 = nI g
      · rcases hy with hy | ⟨v, hv1, hv2⟩
        · exact Or.inr hy
        · obtain ⟨g, hg1, hg2⟩ := z
          exact absurd ⟨g, v, hg1, hv1, hg2, hv2⟩ hv
      · rw [if_neg z] at hx; exact Or.inl hx
    have y7 : f_X7_isWithin a2 0 1 = 0 ∨ ∃ v, v ≤ 1 ∧ a2 = nI v := by
      by_cases z : ∃ v, 0 ≤ v ∧ v ≤ 1 ∧ a2 = nI v
      · obtain ⟨v, -, z⟩ := z; exact Or.inr ⟨v, z⟩
      · exact Or.inl (cd_in7f (a := 0) (b := 1) z (by omega) (by omega))
    have y8 : f_X8_in a2 0 1 = 0 ∨ ∃ v, v ≤ 1 ∧ a2 = nI v := by
      by_cases z : ∃ v, 0 ≤ v ∧ v ≤ 1 ∧ a2 = nI v
      · obtain ⟨v, -, z⟩ := z; exact Or.inr ⟨v, z⟩
      · exact Or.inl (cd_in8f (a := 0) (b := 1) z (by omega) (by omega))
    obtain ⟨h1, e1, er, hI3⟩ := cd_S_no hI hn (F := fun o => f_X4_putLive 4 a1 a2 o) (i := 0) (r := -2) (by omega) (by decide)
      (fun h1 hs1 _ => by
        unfold f_X4_putLive
        rcases hz _ _ (hh h1 hs1) y7 with z | z
        · rw [z, if_pos rfl]
        · rw [z]
          split
          · rfl
          · rw [if_pos rfl])
    refine ⟨_, h1, _, e1, ?_, hI3⟩
    unfold f_X8_lives
    rcases hz _ _ (cd_isGroup8 (fun k _ => er k) hG) y8 with z | z
    · rw [z, if_pos rfl, cd_bad8]; rfl
    · rw [z, if_pos rfl, cd_bad8]
      split <;> rfl
-- periods
theorem cd_call7 {n : Nat} {h : cd_Hp} (hI : cd_Inv n h) (hn : n < 512) : cd_q7 cd_Inv n h := by
  intro a1 a2
  have hI2 := hI
  obtain ⟨s, nx, c, hs, t⟩ := hI2
  obtain ⟨-, ⟨hO, hSt⟩, -⟩ := c
  have hG := hO.2.2.2.2.1
  have h6 := hG.2
  have hGs := hO.2.2.2.2.2.1
  have hh : ∀ h1, cd_St 4 (cd_R h) h1 → f_X4_hasGroup 4 a1 h1 = if ∃ g, g < cd_n (cd_R h) 70 ∧ a1 = nI g then 1 else 0 := fun h1 hs1 => cd_hasGroup4 hs1 hG
  by_cases hv : ∃ g v : Nat, g < cd_n (cd_R h) 70 ∧ (v = 0 ∨ (30 ≤ v ∧ v ≤ 200)) ∧ a1 = nI g ∧ a2 = nI v
  · obtain ⟨g, v, hg, hv, rfl, rfl⟩ := hv
    have hgg := hGs g hg
    have e0 := hgg.2.2.2.2.2.2.2.1.1
    have hgB : cd_OkG (71 + 58 * g) (cd_up (cd_up (cd_R h) (71 + 58 * g + 8) (nI 0)) (71 + 58 * g + 7) (nI v)) := by
      have hg2 := hgg
      obtain ⟨h0, h1, h2, h3, h4, h5, ⟨h6a, h6b⟩, ⟨h7a, h7b⟩, ⟨h8a, h8b⟩, h9, -⟩ := hg2
      have ez : cd_n (cd_up (cd_up (cd_R h) (71 + 58 * g + 8) (nI 0)) (71 + 58 * g + 7) (nI v)) (71 + 58 * g + 8) = 0 := cd_n_nI (by rw [cd_upN (by omega), cd_upE rfl]) (by omega)
      have ev : cd_n (cd_up (cd_up (cd_R h) (71 + 58 * g + 8) (nI 0)) (71 + 58 * g + 7) (nI v)) (71 + 58 * g + 7) = v := cd_n_up (by omega)
      refine cd_OkG.fl hgg (by omega) (by omega) (fun k _ z1 z2 z3 z4 z5 => by rw [cd_upN z3, cd_upN z4]) (h4.of (by rw [cd_upN (by omega), cd_upN (by omega)])) ⟨h6a.of (by rw [cd_upN (by omega), cd_upN (by omega)]), ?_⟩ ⟨cd_num.put (by omega) (by omega), ?_⟩ ⟨cd_numI (n := 0) (by rw [cd_upN (by omega), cd_upE rfl]) (by omega) (by omega), ?_⟩ (h9.of (by rw [cd_upN (by omega), cd_upN (by omega)]))
      · rw [cd_n.of (A := cd_R h) (by rw [cd_upN (by omega), cd_upN (by omega)])]; exact h6b
      · rw [ev]; omega
      · rw [ev, ez]; omega
    have al : cd_al (cd_R h) (cd_up (cd_up (cd_R h) (71 + 58 * g + 8) (nI 0)) (71 + 58 * g + 7) (nI v)) (71 + 58 * g) (71 + 58 * g + 58) := (cd_al.up.wide (by omega) (by omega)).tr (cd_al.up.wide (by omega) (by omega))
    obtain ⟨h1, h2, e1, l1, e2, hI3⟩ := cd_S_ok hI hn (F := fun o => f_X4_putPeriod 4 (nI g) (nI v) o) (K := fun o => cd_ck (cd_ix ((f_X8_groupAt (nI g)) + 8) 659) (cd_nm (cd_u o 405 (((f_X8_groupAt (nI g)) + 8).toNatClampNeg) 0) (fun h10 => f_X8_exchanges ((f_X8_groupAt (nI g)) + 7) (nI v) h10))) (r := nI (cd_n (cd_R h) (71 + 58 * g + 7))) (A' := cd_up (cd_up (cd_R h) (71 + 58 * g + 8) (nI 0)) (71 + 58 * g + 7) (nI v)) (cd_nr_nI (by have := e0.2; omega)) ((hO.mono (by omega) (by omega)).grp hg al (by rw [cd_upN (by omega), cd_upN (by omega)]) hgB)
      (fun h1 hs1 _ => by
        have w0 : f_X4_hasGroup 4 (nI g) h1 = 1 := by rw [hh h1 hs1, if_pos ⟨g, hg, rfl⟩]
        have xg := hs1.2.2.2.1 g hg
        have y1 := (xg.put (p := 8) (j := 7) (v := nI v) (by omega)).put (p := 9) (j := 8) (v := nI 0) (by omega)
        have y2 : cd_StG (4 + 6 + 8 + 7 * g) (71 + 58 * g) (cd_up (cd_up (cd_R h) (71 + 58 * g + 8) (nI 0)) (71 + 58 * g + 7) (nI v)) (cd_u (cd_u h1 (4 + 6 + 8 + 7 * g) 8 (nI v)) (4 + 6 + 8 + 7 * g) 9 (nI 0)) := by
          have ea : cd_up (cd_up (cd_R h) (71 + 58 * g + 8) (nI 0)) (71 + 58 * g + 7) (nI v) = cd_up (cd_up (cd_R h) (71 + 58 * g + 7) (nI v)) (71 + 58 * g + 8) (nI 0) := by
            funext k
            unfold cd_up
            by_cases z1 : k = 71 + 58 * g + 7
            · rw [if_pos z1, if_neg (by omega), if_pos z1]
            · rw [if_neg z1]
              by_cases z2 : k = 71 + 58 * g + 8
              · rw [if_pos z2, if_pos z2]
              · rw [if_neg z2, if_neg z2, if_neg z1]
          rw [ea]; exact y1
        refine ⟨cd_u (cd_u h1 (4 + 6 + 8 + 7 * g) 8 (nI v)) (4 + 6 + 8 + 7 * g) 9 (nI 0), ?_, hs1.grp hO hg al ((cd_fr.u (by omega) (by omega)).tr (cd_fr.u (by omega) (by omega))) y2, (cd_fr.u (by omega) (by omega)).tr (cd_fr.u (by omega) (by omega))⟩
        unfold f_X4_putPeriod
        rw [w0, if_neg (by decide)]
        simp (disch := omega) only [cd_ckI, cd_cl, cd_nmE2]
        have e8 : cd_g h1 (4 + 6 + 8 + 7 * g) 8 = nI (cd_n (cd_R h) (71 + 58 * g + 7)) := by rw [xg.1.2.2.2.2.2.2.2.2.1, ← e0.1]
        rw [e8]
        rcases hv with rfl | hv
        · rw [if_pos (by decide)]; rfl
        · have w2 : f_X7_isWithin (nI v) 30 200 = 1 := cd_in7t (a := 30) (b := 200) (by omega) (by omega) (by omega)
          rw [if_neg (by rw [cd_eqL (by omega) (by omega)]; omega), w2, if_neg (by decide)]; rfl)
      (fun h1 hr _ => by
        refine ⟨_, ?_, cd_R_up (cd_R_up hr), (cd_frR.u (by omega)).tr (cd_frR.u (by omega))⟩
        rw [cd_groupAt, cd_addL, cd_addL]
        rw [cd_ckI (by omega) (by omega), cd_nmE2, cd_cl (by omega)]
        exact (cd_exch (A := cd_up (cd_R h) (71 + 58 * g + 8) (nI 0)) (m := 200) (cd_R_up hr) (by omega) (e0.of (cd_upN (by omega)))).trans (by rw [cd_n.of (A := cd_R h) (cd_upN (by omega))]))
    refine ⟨_, h1, h2, e1, ?_, hI3⟩
    have w0 : f_X8_isGroup (nI g) h1 = 1 := by rw [cd_isGroup8 (fun k _ => l1 _ _ (by omega)) hG, if_pos ⟨g, hg, rfl⟩]
    unfold f_X8_periods
    rw [w0, if_neg (by decide)]
    have e2' : (cd_b (f_X8_remembers h1) (fun o6 => cd_ck (cd_ix ((f_X8_groupAt (nI g)) + 8) 659) (cd_nm (cd_u o6 405 (((f_X8_groupAt (nI g)) + 8).toNatClampNeg) 0) (fun h10 => cd_b (f_X8_exchanges ((f_X8_groupAt (nI g)) + 7) (nI v) h10) (fun o12 => some ((o12.1, o12.2))))))) = some (nI (cd_n (cd_R h) (71 + 58 * g + 7)), h2) := by
      rw [cd_groupAt, cd_addL, cd_addL] at e2 ⊢
      simp (disch := omega) only [cd_ckI, cd_nmE2] at e2 ⊢
      exact e2
    rcases hv with rfl | hv
    · rw [if_pos (by decide)]; exact e2'
    · have w2 : f_X8_in (nI v) 30 200 = 1 := cd_in8t (a := 30) (b := 200) (by omega) (by omega) (by omega)
      rw [if_neg (by rw [cd_eqL (by omega) (by omega)]; omega), w2, if_neg (by decide)]; exact e2'
  · have y0 : (∃ g, g < cd_n (cd_R h) 70 ∧ a1 = nI g) → ¬ a2 = 0 ∧ f_X7_isWithin a2 30 200 = 0 ∧ f_X8_in a2 30 200 = 0 := by
      rintro ⟨g, hg1, hg2⟩
      refine ⟨fun z => hv ⟨g, 0, hg1, Or.inl rfl, hg2, z⟩, cd_in7f (a := 30) (b := 200) ?_ (by omega) (by omega), cd_in8f (a := 30) (b := 200) ?_ (by omega) (by omega)⟩
      · rintro ⟨v, z1, z2, z3⟩; exact hv ⟨g, v, hg1, Or.inr ⟨z1, z2⟩, hg2, z3⟩
      · rintro ⟨v, z1, z2, z3⟩; exact hv ⟨g, v, hg1, Or.inr ⟨z1, z2⟩, hg2, z3⟩
    obtain ⟨h1, e1, er, hI3⟩ := cd_S_no hI hn (F := fun o => f_X4_putPeriod 4 a1 a2 o) (i := 0) (r := -2) (by omega) (by decide)
      (fun h1 hs1 _ => by
        unfold f_X4_putPeriod
        rw [hh h1 hs1]
        by_cases z : ∃ g, g < cd_n (cd_R h) 70 ∧ a1 = nI g
        · rw [if_pos z, if_neg (by decide), if_neg (y0 z).1, (y0 z).2.1, if_pos rfl]
        · rw [if_neg z, if_pos rfl])
    refine ⟨_, h1, _, e1, ?_, hI3⟩
    unfold f_X8_periods
    rw [cd_isGroup8 (fun k _ => er k) hG]
    by_cases z : ∃ g, g < cd_n (cd_R h) 70 ∧ a1 = nI g
    · rw [if_pos z, if_neg (by decide), if_neg (y0 z).1, (y0 z).2.2, if_pos rfl, cd_bad8]; rfl
    · rw [if_neg z, if_pos rfl, cd_bad8]; rfl
