-- WHO JOINS: m events, at the row's places es 0, es 1 ..
def cd_ea (es : Nat → Nat) (m o : Nat) : Nat → Nat := fun j => if j < m then es j else o + 10 + 3 * (j - m)
def cd_wA (A : Nat → Int32) (es : Nat → Nat) : Nat → Nat := fun j => cd_n A (1 + cd_n A (es j))
def cd_can (A : Nat → Int32) (m : Nat) (es : Nat → Nat) : Prop := ∃ v, v < 4 ^ m ∧ cd_vd (cd_wA A es) (cd_n A 0) m v
def cd_Es (A : Nat → Int32) (m : Nat) (es : Nat → Nat) : Prop := m ≤ 4 ∧ ∀ j, j < m → ∃ g e, g < cd_n A 70 ∧ e < cd_n A (71 + 58 * g + 5) ∧ es j = 71 + 58 * g + 10 + 3 * e
def cd_SeC (A : Nat → Int32) (m : Nat) (es : Nat → Nat) (h : cd_Hp) : Prop := cd_g h 1 0 = nI m ∧ cd_g h 1 1 = nI (2 ^ (cd_n A 0) - 1) ∧ ∀ j, j < m → cd_g h 2 j = nI (cd_wA A es j)
def cd_SeR (A : Nat → Int32) (m : Nat) (es : Nat → Nat) (h1 : cd_Hp) : Prop := cd_g h1 404 9 = nI m ∧ ∀ j, j < m → cd_g h1 410 j = nI (cd_n A (es j)) ∧ cd_g h1 411 j = nI (es j)
theorem cd_eaL {es : Nat → Nat} {m o j : Nat} (h : j < m) : cd_ea es m o j = es j := if_pos h
theorem cd_eaR {es : Nat → Nat} {m o i : Nat} : cd_ea es m o (m + i) = o + 10 + 3 * i := by
  show (if m + i < m then es (m + i) else o + 10 + 3 * (m + i - m)) = _
  rw [if_neg (by omega), show m + i - m = i by omega]
theorem cd_wAL {A : Nat → Int32} {es : Nat → Nat} {m o j : Nat} (h : j < m) : cd_wA A (cd_ea es m o) j = cd_wA A es j := by
  unfold cd_wA; rw [cd_eaL h]
theorem cd_Es.add {A : Nat → Int32} {m g : Nat} {es : Nat → Nat} (h : cd_Es A m es) (hg : g < cd_n A 70) (h4 : m + cd_n A (71 + 58 * g + 5) ≤ 4) : cd_Es A (m + cd_n A (71 + 58 * g + 5)) (cd_ea es m (71 + 58 * g)) := by
  refine ⟨h4, fun j hj => ?_⟩
  rcases Nat.lt_or_ge j m with z | z
  · rw [cd_eaL z]; exact h.2 j z
  · obtain ⟨i, rfl⟩ := Nat.exists_eq_add_of_le z
    exact ⟨g, i, hg, by omega, cd_eaR⟩
theorem cd_Es.nums {A : Nat → Int32} {m τ : Nat} {es : Nat → Nat} (h : cd_Es A m es) (hA : cd_Ok A τ) {j : Nat} (hj : j < m) : cd_num A (es j) 7 ∧ cd_num A (1 + cd_n A (es j)) 15 ∧ 81 ≤ es j ∧ es j < 400 ∧ cd_wA A es j ≤ 15 := by
  obtain ⟨g, e, hg, he, ee⟩ := h.2 j hj
  have h6 := hA.2.2.2.2.1.2
  have hgk := hA.2.2.2.2.2.1 g hg
  have h5 := hgk.2.2.2.2.2.1.1.2
  have k7 := (hgk.2.2.2.2.2.2.2.2.2.2.1 e he).1
  rw [ee]
  have := k7.2
  have k15 := hA.2.2.1 (cd_n A (71 + 58 * g + 10 + 3 * e)) (by omega)
  refine ⟨k7, k15, by omega, by omega, ?_⟩
  unfold cd_wA
  rw [ee]
  exact k15.2
theorem cd_can_le {A : Nat → Int32} {m : Nat} {es : Nat → Nat} (h : cd_can A m es) : m ≤ cd_n A 0 := by
  obtain ⟨v, -, hv⟩ := h
  exact cd_vd_le hv
theorem cd_free : ∀ n, n ≤ 4 → ((1 : Int32) <<< (nI n &&& 31)) - 1 = nI (2 ^ n - 1) ∧ 2 ^ n - 1 < 16 ∧ ∀ c, c < 4 → ((2 ^ n - 1).testBit c = true ↔ c < n) := by decide +kernel
/-- the class's row of those that are to sit -/
theorem cd_sit0 {A : Nat → Int32} {m τ : Nat} {es : Nat → Nat} {h : cd_Hp} (hA : cd_Ok A τ) (hE : cd_Es A m es) (hs : cd_SeC A m es h) :
    ∃ r h', f_X3_sit 6 (1 + 1) (1 + 2) (cd_g h 1 0) 0 (cd_g h 1 1) h = some (r, h') ∧ (∀ x y, x ≠ 3 → cd_g h' x y = cd_g h x y) ∧ h'.2 = h.2 ∧ ((r = 1 ∧ ∃ v, cd_fst (cd_wA A es) (cd_n A 0) m v ∧ ∀ j, j < m → cd_g h' 3 j = nI (cd_dg m v j)) ∨ (r = 0 ∧ ¬ cd_can A m es)) := by
  obtain ⟨s1, s2, s3⟩ := hs
  have n4 := hA.2.1.1.2
  obtain ⟨-, f2, f3⟩ := cd_free _ n4
  obtain ⟨r, h', e, g1, -, g3, g4⟩ := cd_sit (w := cd_wA A es) (n := cd_n A 0) (m := m) hE.1 (fun j hj => (hE.nums hA hj).2.2.2.2) m 0 0 (2 ^ (cd_n A 0) - 1) 6 h (by omega) (by have := hE.1; omega) s3 (fun j hj => absurd hj (by omega)) trivial f2 (fun c hc => by rw [f3 c hc]; exact ⟨fun z => ⟨z, fun j hj => absurd hj (by omega)⟩, fun z => z.1⟩)
  rw [s1, s2]
  refine ⟨r, h', e, g1, g3, ?_⟩
  rcases g4 with ⟨rfl, v, q1, q2, q3, q4⟩ | ⟨rfl, q1⟩
  · refine Or.inl ⟨rfl, v, ⟨(cd_pr_0 m v).mp q1, q2, fun u hu => ?_⟩, q4⟩
    have : v < 4 ^ m := (cd_pr_0 m v).mp q1
    exact q3 u hu ((cd_pr_0 m u).mpr (by omega))
  · refine Or.inr ⟨rfl, ?_⟩
    rintro ⟨v, z1, z2⟩
    exact q1 v ((cd_pr_0 m v).mpr z1) z2
theorem cd_take {A : Nat → Int32} {m τ g : Nat} {es : Nat → Nat} {h : cd_Hp} (hA : cd_Ok A τ) (x : cd_St 4 A h) (hE : cd_Es A m es) (hs : cd_SeC A m es h) (hg : g < cd_n A 70) :
    ∃ r h', f_X3_take 1 (4 + 6 + 8 + 7 * g) (4 + 1) h = some (r, h') ∧ cd_fr 1 4 h h' ∧ ((r = 1 ∧ cd_can A (m + cd_n A (71 + 58 * g + 5)) (cd_ea es m (71 + 58 * g)) ∧ cd_SeC A (m + cd_n A (71 + 58 * g + 5)) (cd_ea es m (71 + 58 * g)) h') ∨ (r = 0 ∧ ¬ cd_can A (m + cd_n A (71 + 58 * g + 5)) (cd_ea es m (71 + 58 * g)) ∧ cd_SeC A m es h')) := by
  have h6 := hA.2.2.2.2.1.2
  have n4 := hA.2.1.1.2
  have m4 := hE.1
  have hgk := hA.2.2.2.2.2.1 g hg
  have h5 := hgk.2.2.2.2.2.1.1
  have h54 := h5.2
  obtain ⟨y1, y2, -, -⟩ := x.2.2.2.1 g hg
  have e6 : cd_g h (4 + 6 + 8 + 7 * g) 6 = nI (cd_n A (71 + 58 * g + 5)) := by rw [y1.2.2.2.2.2.2.1]; exact h5.1
  obtain ⟨s1, s2, s3⟩ := id hs
  unfold f_X3_take
  rw [cd_nmE2, s1, e6, nI_add]
  have l5 : cd_ln (4 + 1) = 8 := (cd_r4_5 cd_is_4).ln
  by_cases h4 : m + cd_n A (71 + 58 * g + 5) ≤ 4
  · rw [if_pos (by rw [cd_leL (by omega) (by omega)]; exact h4)]
    have hE' := hE.add hg h4
    have hloop : ∃ o, cd_lp (f_X3_take_B20 1 (4 + 6 + 8 + 7 * g) (4 + 1) (nI m)) cd_fu (0, h) = some o ∧ (cd_SeC A (m + cd_n A (71 + 58 * g + 5)) (cd_ea es m (71 + 58 * g)) o.2 ∧ (∀ x y, x ≠ 1 → x ≠ 2 → cd_g o.2 x y = cd_g h x y) ∧ o.2.2 = h.2) := by
      refine cd_for (cd_n A (71 + 58 * g + 5)) (fun i (st : Int32 × cd_Hp) => st.1 = nI i ∧ cd_SeC A (m + i) (cd_ea es m (71 + 58 * g)) st.2 ∧ (∀ x y, x ≠ 1 → x ≠ 2 → cd_g st.2 x y = cd_g h x y) ∧ st.2.2 = h.2) _ ?_ cd_fu 0 (0, h) (Nat.zero_le _) (by unfold cd_fu; omega) ⟨rfl, ⟨s1, s2, fun j hj => by rw [cd_wAL (by omega)]; exact s3 j (by omega)⟩, fun _ _ _ _ => rfl, rfl⟩
      rintro i ⟨v0, k1⟩ K hi ⟨hv0, ⟨t1, t2, t3⟩, f1, f2⟩
      dsimp only at hv0 t1 t2 t3 f1 f2
      subst hv0
      unfold f_X3_take_B20
      dsimp only
      rw [f1 _ 6 (by omega) (by omega), e6]
      rcases Nat.lt_or_ge i (cd_n A (71 + 58 * g + 5)) with hlt | hge
      · left
        refine ⟨hlt, ?_⟩
        obtain ⟨z1, -, -⟩ := y2 i hlt
        obtain ⟨w1, w2, -, -, -⟩ := hE'.nums hA (j := m + i) (by omega)
        rw [cd_eaR] at w1 w2
        have kk : cd_g k1 (4 + 6 + 8 + 7 * g + 1) i = nI (cd_n A (71 + 58 * g + 10 + 3 * i)) := by rw [f1 _ _ (by omega) (by omega), z1]; exact w1.1
        have k7 := w1.2
        have ew : cd_g k1 (4 + 1) (cd_n A (71 + 58 * g + 10 + 3 * i)) = nI (cd_n A (1 + cd_n A (71 + 58 * g + 10 + 3 * i))) := by rw [f1 _ _ (by omega) (by omega), x.2.1 _ (by omega)]; exact w2.1
        rw [if_neg (by rw [cd_le (by omega) (by omega)]; omega), cd_ckI (by omega) (by omega), cd_cl (by omega), kk, l5, cd_ckI (by omega) (by omega), t1, cd_ckI (by omega) (by omega), cd_cl (by omega), cd_cl (by omega), ew]
        simp (disch := omega) only [cd_nmE2, cd_gN, t1, cd_addL]
        refine ⟨_, ⟨rfl, ⟨cd_gE rfl rfl, ?_, fun j hj => ?_⟩, fun a b c d => ?_, f2⟩, rfl⟩
        · dsimp only; rw [cd_gN (by omega), cd_gN (by omega)]; exact t2
        · dsimp only
          rw [cd_gN (by omega)]
          by_cases e : j = m + i
          · subst e
            rw [cd_gE rfl rfl]; unfold cd_wA; rw [cd_eaR]
          · rw [cd_gN (by omega)]; exact t3 j (by omega)
        · dsimp only; rw [cd_gN (by omega), cd_gN (by omega)]; exact f1 a b c d
      · right
        obtain rfl : i = cd_n A (71 + 58 * g + 5) := by omega
        rw [if_pos (by rw [cd_le (by omega) (by omega)]; omega)]
        exact ⟨_, rfl, ⟨t1, t2, t3⟩, f1, f2⟩
    obtain ⟨o, eo, oS, o1, o2⟩ := hloop
    obtain ⟨r, h', e, g1, g2, g3⟩ := cd_sit0 hA hE' oS
    rw [eo, cd_bS, e, cd_bS]
    obtain ⟨t1, t2, t3⟩ := oS
    rcases g3 with ⟨rfl, v, q1, -⟩ | ⟨rfl, q1⟩
    · rw [if_neg (show ¬ (1 : Int32) = 0 by decide)]
      refine ⟨_, _, rfl, ⟨fun a b z => ?_, g2.trans o2⟩, Or.inl ⟨rfl, ⟨v, q1.1, q1.2.1⟩, ?_, ?_, fun j hj => ?_⟩⟩
      · rw [g1 _ _ (by omega), o1 _ _ (by omega) (by omega)]
      · rw [g1 _ _ (by omega)]; exact t1
      · rw [g1 _ _ (by omega)]; exact t2
      · rw [g1 _ _ (by omega)]; exact t3 j hj
    · rw [if_pos rfl, cd_nmE2]
      refine ⟨_, _, rfl, ⟨fun a b z => ?_, g2.trans o2⟩, Or.inr ⟨rfl, q1, ?_, ?_, fun j hj => ?_⟩⟩
      · rw [cd_gN (by omega), g1 _ _ (by omega), o1 _ _ (by omega) (by omega)]
      · exact cd_gE rfl rfl
      · rw [cd_gN (by omega), g1 _ _ (by omega)]; exact t2
      · rw [cd_gN (by omega), g1 _ _ (by omega), t3 j (by omega), cd_wAL hj]
  · rw [if_neg (by rw [cd_leL (by omega) (by omega)]; exact h4)]
    exact ⟨_, _, rfl, cd_fr.rf, Or.inr ⟨rfl, fun z => by have := cd_can_le z; omega, hs⟩⟩
/-- the reference's -/
theorem cd_sit8 {A : Nat → Int32} {m τ : Nat} {es : Nat → Nat} {h1 : cd_Hp} (hr : ∀ k, k < 659 → cd_R h1 k = A k) (hA : cd_Ok A τ) (hE : cd_Es A m es) (hs : cd_SeR A m es h1) :
    ∃ r h2, f_X8_canSit h1 = some (r, h2) ∧ (∀ x y, x ≠ 412 → cd_g h2 x y = cd_g h1 x y) ∧ h2.2 = h1.2 ∧ ((r = 1 ∧ ∃ v, cd_fst (cd_wA A es) (cd_n A 0) m v ∧ ∀ j, j < m → cd_g h2 412 j = nI (cd_dg m v j)) ∨ (r = 0 ∧ ¬ cd_can A m es)) := by
  obtain ⟨s1, s2⟩ := hs
  have n4 := hA.2.1.1
  have e0 : cd_g h1 405 0 = nI (cd_n A 0) := (hr 0 (by omega)).trans n4.1
  obtain ⟨r, h2, e, g1, g2, g3⟩ := cd_canSit8 (w := cd_wA A es) (κ := fun j => cd_n A (es j)) s1 hE.1 e0 n4.2 (fun j hj => by
    obtain ⟨w1, w2, -, -, w5⟩ := hE.nums hA hj
    have k7 := w1.2
    exact ⟨(s2 j hj).1, k7, (hr _ (by omega)).trans w2.1, w5⟩)
  refine ⟨r, h2, e, g1, g2, g3.imp id (fun z => ⟨z.1, fun ⟨v, z1, z2⟩ => z.2 v z1 z2⟩)⟩
theorem cd_joined {A : Nat → Int32} {m τ g : Nat} {es : Nat → Nat} {h1 : cd_Hp} (hr : ∀ k, k < 659 → cd_R h1 k = A k) (hA : cd_Ok A τ) (hE : cd_Es A m es) (hs : cd_SeR A m es h1) (hg : g < cd_n A 70) :
    ∃ r h2, f_X8_isJoined (nI g) h1 = some (r, h2) ∧ (∀ x y, x ≠ 410 → x ≠ 411 → x ≠ 412 → ¬ (x = 404 ∧ y = 9) → cd_g h2 x y = cd_g h1 x y) ∧ h2.2 = h1.2 ∧ ((r = 1 ∧ cd_can A (m + cd_n A (71 + 58 * g + 5)) (cd_ea es m (71 + 58 * g)) ∧ cd_SeR A (m + cd_n A (71 + 58 * g + 5)) (cd_ea es m (71 + 58 * g)) h2) ∨ (r = 0 ∧ ¬ cd_can A (m + cd_n A (71 + 58 * g + 5)) (cd_ea es m (71 + 58 * g)) ∧ cd_SeR A m es h2)) := by
  have h6 := hA.2.2.2.2.1.2
  have n4 := hA.2.1.1
  have n42 := n4.2
  have m4 := hE.1
  have hgk := hA.2.2.2.2.2.1 g hg
  have h5 := hgk.2.2.2.2.2.1.1
  have h54 := h5.2
  have e5 := cd_ofG hr (g := g) (w := 5) (by omega) (by omega)
  rw [h5.1] at e5
  have e0 : cd_g h1 405 0 = nI (cd_n A 0) := (hr 0 (by omega)).trans n4.1
  obtain ⟨s1, s2⟩ := id hs
  unfold f_X8_isJoined
  rw [show (5 : Int32) = nI 5 from rfl, e5, cd_bS, s1, nI_add, cd_cl0, e0]
  by_cases h4 : m + cd_n A (71 + 58 * g + 5) ≤ cd_n A 0
  · rw [if_pos (by rw [cd_le (by omega) (by omega)]; exact h4)]
    have hE' := hE.add hg (by omega)
    have hloop : ∃ o, cd_lp (f_X8_isJoined_B26 (nI g) (nI (cd_n A (71 + 58 * g + 5)))) cd_fu (0, h1) = some o ∧ ((∀ j, j < m + cd_n A (71 + 58 * g + 5) → cd_g o.2 410 j = nI (cd_n A (cd_ea es m (71 + 58 * g) j)) ∧ cd_g o.2 411 j = nI (cd_ea es m (71 + 58 * g) j)) ∧ (∀ x y, x ≠ 410 → x ≠ 411 → cd_g o.2 x y = cd_g h1 x y) ∧ o.2.2 = h1.2) := by
      refine cd_for (cd_n A (71 + 58 * g + 5)) (fun i (st : Int32 × cd_Hp) => st.1 = nI i ∧ (∀ j, j < m + i → cd_g st.2 410 j = nI (cd_n A (cd_ea es m (71 + 58 * g) j)) ∧ cd_g st.2 411 j = nI (cd_ea es m (71 + 58 * g) j)) ∧ (∀ x y, x ≠ 410 → x ≠ 411 → cd_g st.2 x y = cd_g h1 x y) ∧ st.2.2 = h1.2) _ ?_ cd_fu 0 (0, h1) (Nat.zero_le _) (by unfold cd_fu; omega) ⟨rfl, fun j hj => by rw [cd_eaL (by omega)]; exact s2 j (by omega), fun _ _ _ _ => rfl, rfl⟩
      rintro i ⟨v0, k1⟩ K hi ⟨hv0, t3, f1, f2⟩
      dsimp only at hv0 t3 f1 f2
      subst hv0
      unfold f_X8_isJoined_B26
      dsimp only
      rcases Nat.lt_or_ge i (cd_n A (71 + 58 * g + 5)) with hlt | hge
      · left
        refine ⟨hlt, ?_⟩
        have em : cd_g k1 404 9 = nI m := by rw [f1 _ _ (by omega) (by omega)]; exact s1
        obtain ⟨w1, -, -, w4, -⟩ := hE'.nums hA (j := m + i) (by omega)
        rw [cd_eaR] at w1 w4
        have ek : cd_g k1 405 (71 + 58 * g + 10 + 3 * i) = nI (cd_n A (71 + 58 * g + 10 + 3 * i)) := by rw [f1 _ _ (by omega) (by omega)]; exact (hr _ (by omega)).trans w1.1
        rw [if_neg (by rw [cd_le (by omega) (by omega)]; omega), em]
        simp (disch := omega) only [cd_nmE2, cd_eventAt, nI_add, cd_ckI, cd_cl, cd_gN, em, ek, cd_addL]
        refine ⟨_, ⟨rfl, fun j hj => ?_, fun a b c d => ?_, f2⟩, rfl⟩
        · dsimp only
          by_cases e : j = m + i
          · subst e
            rw [cd_gE rfl rfl, cd_gN (by omega), cd_gE rfl rfl, cd_eaR]
            exact ⟨rfl, rfl⟩
          · rw [cd_gN (by omega), cd_gN (by omega), cd_gN (by omega), cd_gN (by omega)]; exact t3 j (by omega)
        · dsimp only; rw [cd_gN (by omega), cd_gN (by omega)]; exact f1 a b c d
      · right
        obtain rfl : i = cd_n A (71 + 58 * g + 5) := by omega
        rw [if_pos (by rw [cd_le (by omega) (by omega)]; omega)]
        exact ⟨_, rfl, t3, f1, f2⟩
    obtain ⟨o, eo, oS, o1, o2⟩ := hloop
    rw [eo, cd_bS, cd_nmE2, o1 _ _ (by omega) (by omega), s1, nI_add]
    generalize hk : cd_u o.2 404 9 (nI (m + cd_n A (71 + 58 * g + 5))) = k2
    have k2e : ∀ x y, x ≠ 410 → x ≠ 411 → ¬ (x = 404 ∧ y = 9) → cd_g k2 x y = cd_g h1 x y := fun a b z1 z2 z3 => by rw [← hk, cd_gN z3]; exact o1 a b z1 z2
    have k2m : cd_g k2 404 9 = nI (m + cd_n A (71 + 58 * g + 5)) := by rw [← hk]; exact cd_gE rfl rfl
    have k2s : cd_SeR A (m + cd_n A (71 + 58 * g + 5)) (cd_ea es m (71 + 58 * g)) k2 := ⟨k2m, fun j hj => by rw [← hk, cd_gN (by omega), cd_gN (by omega)]; exact oS j hj⟩
    have k22 : k2.2 = h1.2 := by rw [← hk]; exact o2
    obtain ⟨r, h', e, g1, g2, g3⟩ := cd_sit8 (h1 := k2) (fun k z => (k2e _ _ (by omega) (by omega) (by omega)).trans (hr k z)) hA hE' k2s
    rw [e, cd_bS]
    have gm : cd_g h' 404 9 = nI (m + cd_n A (71 + 58 * g + 5)) := by rw [g1 _ _ (by omega)]; exact k2m
    rcases g3 with ⟨rfl, v, q1, -⟩ | ⟨rfl, q1⟩
    · rw [if_neg (show ¬ (1 : Int32) = 0 by decide)]
      dsimp only
      rw [gm, Int32.sub_zero, cd_nmE2, cd_ckT (by decide)]
      refine ⟨_, _, rfl, fun a b z1 z2 z3 z4 => ?_, g2.trans k22, Or.inl ⟨rfl, ⟨v, q1.1, q1.2.1⟩, cd_gE rfl rfl, fun j hj => ?_⟩⟩
      · rw [cd_gN z4, g1 _ _ z3]; exact k2e a b z1 z2 z4
      · rw [cd_gN (by omega), cd_gN (by omega), g1 _ _ (by omega), g1 _ _ (by omega)]; exact k2s.2 j hj
    · rw [if_pos rfl]
      dsimp only
      rw [gm, nI_sub (by omega), cd_nmE2, cd_ckT (by decide), show m + cd_n A (71 + 58 * g + 5) - cd_n A (71 + 58 * g + 5) = m by omega]
      refine ⟨_, _, rfl, fun a b z1 z2 z3 z4 => ?_, g2.trans k22, Or.inr ⟨rfl, q1, cd_gE rfl rfl, fun j hj => ?_⟩⟩
      · rw [cd_gN z4, g1 _ _ z3]; exact k2e a b z1 z2 z4
      · rw [cd_gN (by omega), cd_gN (by omega), g1 _ _ (by omega), g1 _ _ (by omega)]
        have := k2s.2 j (by omega)
        rw [cd_eaL hj] at this
        exact this
  · rw [if_neg (by rw [cd_le (by omega) (by omega)]; exact h4)]
    exact ⟨_, _, rfl, fun _ _ _ _ _ _ => rfl, rfl, Or.inr ⟨rfl, fun z => by have := cd_can_le z; omega, hs⟩⟩
