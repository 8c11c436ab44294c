-- a group by an order
def cd_gX (A : Nat → Int32) (o : Nat) (f : Nat → Nat) : Nat → Nat → Int32
  | 0 => A
  | j + 1 => cd_evt (cd_gX A o f j) o (nI (f j))
theorem cd_gX_ok {A : Nat → Int32} {τ g : Nat} {f : Nat → Nat} (hA : cd_Ok A τ) (hg : g < cd_n A 70) (h1 : cd_n A (71 + 58 * g + 5) = 1) : ∀ j, j ≤ 3 → (∀ i, i < j → f i ≤ 7) → cd_Ok (cd_gX A (71 + 58 * g) f j) τ ∧ cd_n (cd_gX A (71 + 58 * g) f j) 70 = cd_n A 70 ∧ cd_n (cd_gX A (71 + 58 * g) f j) (71 + 58 * g + 5) = 1 + j := by
  have h6 := hA.sz.1
  intro j
  induction j with
  | zero => intro _ _; exact ⟨hA, rfl, h1⟩
  | succ j ih =>
    intro hj hf
    obtain ⟨i1, i2, i3⟩ := ih (by omega) (fun i z => hf i (by omega))
    refine ⟨i1.evt (by omega) (by omega) (hf j (by omega)), ?_, ?_⟩
    · show cd_n (cd_evt (cd_gX A (71 + 58 * g) f j) (71 + 58 * g) (nI (f j))) 70 = _
      rw [cd_n.of (cd_evtN (by omega) (by omega))]; exact i2
    · show cd_n (cd_evt (cd_gX A (71 + 58 * g) f j) (71 + 58 * g) (nI (f j))) (71 + 58 * g + 5) = _
      have e5 : cd_evt (cd_gX A (71 + 58 * g) f j) (71 + 58 * g) (nI (f j)) (71 + 58 * g + 5) = nI (1 + j + 1) := by rw [cd_evt5, i3]
      rw [cd_n_nI e5 (by omega)]; omega
section
variable {P : cd_PS} {k τ : Nat} {A : Nat → Int32}
/-- the class's further events: the first m are kinds -/
theorem cd_gEv {g m : Nat} {h : cd_Hp} {r : Int32} (hA : cd_Ok A τ) (hg : g < cd_n A 70) (h1 : cd_n A (71 + 58 * g + 5) = 1) (o : cd_Or P k) (s5 : 5 ≤ P.2.2.1 k) (hm : 5 + m ≤ P.2.2.1 k) (hf : ∀ i, i < m → P.2.2.2 (8 * k + (5 + i)) ≤ 7) (hr : cd_nr r) (x : cd_St 4 A h) (xc : cd_XC P h) :
    (5 + m = P.2.2.1 k → ∃ r' v h', cd_lp (f_X7_carryOutGroup_B66 (nI k) (nI g)) cd_fu (r, 5, h) = some (r', v, h') ∧ cd_nr r' ∧ cd_St 4 (cd_gX A (71 + 58 * g) (fun i => P.2.2.2 (8 * k + (5 + i))) m) h' ∧ cd_fr 1 60 h h') ∧
    (5 + m < P.2.2.1 k → 7 < P.2.2.2 (8 * k + (5 + m)) → ∃ v h', cd_lp (f_X7_carryOutGroup_B66 (nI k) (nI g)) cd_fu (r, 5, h) = some (-2, v, h') ∧ cd_fr 1 60 h h') := by
  obtain ⟨o1, o2, o3, o4, o5, o6, o7, o8⟩ := id o
  have mo8 := (cd_mo_facts (P.2.1 k)).1
  have h6 := hA.sz.1
  -- one step at a kind
  have step : ∀ i k1 r1 K, i < m → cd_nr r1 → cd_St 4 (cd_gX A (71 + 58 * g) (fun i => P.2.2.2 (8 * k + (5 + i))) i) k1 → cd_fr 1 60 h k1 → ∃ r2 k2, cd_nr r2 ∧ cd_St 4 (cd_gX A (71 + 58 * g) (fun i => P.2.2.2 (8 * k + (5 + i))) (i + 1)) k2 ∧ cd_fr 1 60 h k2 ∧ f_X7_carryOutGroup_B66 (nI k) (nI g) K (r1, nI (5 + i), k1) = K (r2, nI (5 + (i + 1)), k2) := by
    intro i k1 r1 K him hr1 hS f1
    have xk : cd_XC P k1 := xc.kept (fun a b w1 w2 => f1.1 _ _ (by omega))
    obtain ⟨g1, g2, g3⟩ := cd_gX_ok (f := fun i => P.2.2.2 (8 * k + (5 + i))) hA hg h1 i (by omega) (fun i' z => hf i' (by omega))
    obtain ⟨h', e', s', f'⟩ := cd_addEvent g1 hS (by omega : g < _) (by omega) (hf i him)
    have na := cd_numAt (j := 5 + i) o xk (by omega)
    rw [if_pos (by omega)] at na
    refine ⟨nI (1 + i), h', cd_nr_nI (by omega), s', f1.tr (f'.wide (by omega) (by omega)), ?_⟩
    unfold f_X7_carryOutGroup_B66
    dsimp only
    rw [cd_numsOf o xk, cd_bS, if_neg (by rw [cd_le (by omega) (by omega)]; omega), cd_isRef hr1, if_pos rfl, na, cd_bS, e', cd_bS, cd_nmE2, cd_addL, g3, show 5 + i + 1 = 5 + (i + 1) by omega]
  constructor
  · intro hmE
    have hloop : ∃ q, cd_lp (f_X7_carryOutGroup_B66 (nI k) (nI g)) cd_fu (r, 5, h) = some q ∧ (cd_nr q.1 ∧ cd_St 4 (cd_gX A (71 + 58 * g) (fun i => P.2.2.2 (8 * k + (5 + i))) m) q.2.2 ∧ cd_fr 1 60 h q.2.2) := by
      refine cd_for m (fun i (st : Int32 × Int32 × cd_Hp) => cd_nr st.1 ∧ st.2.1 = nI (5 + i) ∧ cd_St 4 (cd_gX A (71 + 58 * g) (fun i => P.2.2.2 (8 * k + (5 + i))) i) st.2.2 ∧ cd_fr 1 60 h st.2.2) _ ?_ cd_fu 0 (r, 5, h) (Nat.zero_le _) (by unfold cd_fu; omega) ⟨hr, rfl, x, cd_fr.rf⟩
      rintro i ⟨r1, v1, k1⟩ K hi ⟨q1, q2, q3, q4⟩
      dsimp only at q1 q2 q3 q4
      subst q2
      rcases Nat.lt_or_ge i m with hlt | hge
      · left
        obtain ⟨r2, k2, w1, w2, w3, w4⟩ := step i k1 r1 K hlt q1 q3 q4
        exact ⟨hlt, (r2, nI (5 + (i + 1)), k2), ⟨w1, rfl, w2, w3⟩, w4⟩
      · right
        obtain rfl : i = m := by omega
        have xk : cd_XC P k1 := xc.kept (fun a b w1 w2 => q4.1 _ _ (by omega))
        unfold f_X7_carryOutGroup_B66
        dsimp only
        rw [cd_numsOf o xk, cd_bS, if_pos (by rw [cd_le (by omega) (by omega)]; omega)]
        exact ⟨_, rfl, q1, q3, q4⟩
    obtain ⟨⟨r', v, h'⟩, eq, q1, q2, q3⟩ := hloop
    exact ⟨r', v, h', eq, q1, q2, q3⟩
  · intro hmL hbad
    have hloop : ∃ q, cd_lp (f_X7_carryOutGroup_B66 (nI k) (nI g)) cd_fu (r, 5, h) = some q ∧ (q.1 = -2 ∧ cd_fr 1 60 h q.2.2) := by
      refine cd_for (m + 1) (fun i (st : Int32 × Int32 × cd_Hp) => st.2.1 = nI (5 + i) ∧ cd_fr 1 60 h st.2.2 ∧ (i ≤ m → cd_nr st.1 ∧ cd_St 4 (cd_gX A (71 + 58 * g) (fun i => P.2.2.2 (8 * k + (5 + i))) i) st.2.2) ∧ (i = m + 1 → st.1 = -2)) _ ?_ cd_fu 0 (r, 5, h) (Nat.zero_le _) (by unfold cd_fu; omega) ⟨rfl, cd_fr.rf, fun _ => ⟨hr, x⟩, fun z => by omega⟩
      rintro i ⟨r1, v1, k1⟩ K hi ⟨q2, q4, q5, q6⟩
      dsimp only at q2 q4 q5 q6
      subst q2
      have xk : cd_XC P k1 := xc.kept (fun a b w1 w2 => q4.1 _ _ (by omega))
      rcases Nat.lt_or_ge i m with hlt | hge
      · left
        obtain ⟨u1, u2⟩ := q5 (by omega)
        obtain ⟨r2, k2, w1, w2, w3, w4⟩ := step i k1 r1 K hlt u1 u2 q4
        exact ⟨by omega, (r2, nI (5 + (i + 1)), k2), ⟨rfl, w3, fun _ => ⟨w1, w2⟩, fun z => by omega⟩, w4⟩
      · rcases Nat.lt_or_ge i (m + 1) with hlt2 | hge2
        · left
          obtain rfl : i = m := by omega
          obtain ⟨u1, u2⟩ := q5 (by omega)
          obtain ⟨g1, g2, g3⟩ := cd_gX_ok (f := fun i => P.2.2.2 (8 * k + (5 + i))) hA hg h1 i (by omega) (fun i' z => hf i' (by omega))
          have n9 := o7 (5 + i) (by omega)
          have na := cd_numAt (j := 5 + i) o xk (by omega)
          rw [if_pos (by omega)] at na
          have bad := cd_addEvent_bad (a1 := nI g) (a2 := nI (P.2.2.2 (8 * k + (5 + i)))) g1 u2 (by
            rintro ⟨g', k', z1, z2, z3, z4⟩
            rw [cd_eq (by omega) (by omega)] at z4
            omega)
          unfold f_X7_carryOutGroup_B66
          dsimp only
          rw [cd_numsOf o xk, cd_bS, if_neg (by rw [cd_le (by omega) (by omega)]; omega), cd_isRef u1, if_pos rfl, na, cd_bS, bad, cd_bS, cd_nmE2, cd_addL, show 5 + i + 1 = 5 + (i + 1) by omega]
          exact ⟨by omega, (-2, nI (5 + (i + 1)), k1), ⟨rfl, q4, fun z => by omega, fun _ => rfl⟩, rfl⟩
        · right
          obtain rfl : i = m + 1 := by omega
          have e2 := q6 rfl
          subst e2
          unfold f_X7_carryOutGroup_B66
          dsimp only
          rw [cd_numsOf o xk, cd_bS]
          split
          · exact ⟨_, rfl, rfl, q4⟩
          · rw [cd_ref2.1, if_neg (by decide)]
            exact ⟨_, rfl, rfl, q4⟩
    obtain ⟨⟨r', v, h'⟩, eq, q1, q2⟩ := hloop
    dsimp only at q1
    subst q1
    exact ⟨v, h', eq, q2⟩
/-- the reference's -/
theorem cd_gEvR {g m : Nat} {a : Int32} {h1 : cd_Hp} (hA : cd_Ok A τ) (hg : g < cd_n A 70) (hn1 : cd_n A (71 + 58 * g + 5) = 1) (o : cd_Or P k) (s5 : 5 ≤ P.2.2.1 k) (hm : 5 + m ≤ P.2.2.1 k) (hf : ∀ i, i < m → P.2.2.2 (8 * k + (5 + i)) ≤ 7) (hr : ∀ k, k < 659 → cd_R h1 k = A k) (xd : cd_XD P h1) :
    (5 + m = P.2.2.1 k → ∃ v h2, cd_lp (f_X8_groupTold_B107 a (nI (cd_FR P.2.2.1 k + P.2.2.1 k)) (nI g)) cd_fu (nI (cd_FR P.2.2.1 k + 5), h1) = some (.inr (v, h2)) ∧ (∀ j, j < 659 → cd_R h2 j = cd_gX A (71 + 58 * g) (fun i => P.2.2.2 (8 * k + (5 + i))) m j) ∧ cd_frR h1 h2) ∧
    (5 + m < P.2.2.1 k → 7 < P.2.2.2 (8 * k + (5 + m)) → ∃ h2, cd_lp (f_X8_groupTold_B107 a (nI (cd_FR P.2.2.1 k + P.2.2.1 k)) (nI g)) cd_fu (nI (cd_FR P.2.2.1 k + 5), h1) = some (.inl (0, h2)) ∧ cd_frR h1 h2) := by
  obtain ⟨o1, o2, o3, o4, o5, o6, o7, o8⟩ := id o
  have mo8 := (cd_mo_facts (P.2.1 k)).1
  have h6 := hA.sz.1
  have nb : ∀ i k1, 5 + i < P.2.2.1 k → cd_frR h1 k1 → cd_g k1 415 (cd_FR P.2.2.1 k + 5 + i) = nI (P.2.2.2 (8 * k + (5 + i))) := fun i k1 z f => by
    rw [f _ _ (by omega), show cd_FR P.2.2.1 k + 5 + i = cd_FR P.2.2.1 k + (5 + i) by omega]
    exact xd.2.2 k o1 (5 + i) z
  have step : ∀ i k1 K, i < m → (∀ j, j < 659 → cd_R k1 j = cd_gX A (71 + 58 * g) (fun i => P.2.2.2 (8 * k + (5 + i))) i j) → cd_frR h1 k1 → ∃ k2, (∀ j, j < 659 → cd_R k2 j = cd_gX A (71 + 58 * g) (fun i => P.2.2.2 (8 * k + (5 + i))) (i + 1) j) ∧ cd_frR h1 k2 ∧ f_X8_groupTold_B107 a (nI (cd_FR P.2.2.1 k + P.2.2.1 k)) (nI g) K (nI (cd_FR P.2.2.1 k + 5 + i), k1) = K (nI (cd_FR P.2.2.1 k + 5 + (i + 1)), k2) := by
    intro i k1 K him hR f1
    obtain ⟨g1, g2, g3⟩ := cd_gX_ok (f := fun i => P.2.2.2 (8 * k + (5 + i))) hA hg hn1 i (by omega) (fun i' z => hf i' (by omega))
    have e5 : cd_gX A (71 + 58 * g) (fun i => P.2.2.2 (8 * k + (5 + i))) i (71 + 58 * g + 5) = nI (1 + i) := by rw [← g3]; exact (g1.2.2.2.2.2.1 g (by omega)).2.2.2.2.2.1.1.1
    obtain ⟨h', e', r', f'⟩ := cd_addsEvent (k := nI (P.2.2.2 (8 * k + (5 + i)))) hR (by omega) e5 (by omega)
    have f7 := hf i him
    have kd : f_X8_isKind (nI (P.2.2.2 (8 * k + (5 + i)))) = 1 := cd_in8t (a := 0) (b := 7) (Nat.zero_le _) f7 (by omega)
    refine ⟨cd_u h' 405 (71 + 58 * g + 10 + 3 * (1 + i) + 2) (-1), ?_, (f1.tr f').tr (cd_frR.u (by omega)), ?_⟩
    · have r2 := cd_R_up (j := 71 + 58 * g + 10 + 3 * (1 + i) + 2) (v := -1) r'
      have es := cd_evtS (A := cd_gX A (71 + 58 * g) (fun i => P.2.2.2 (8 * k + (5 + i))) i) (o := 71 + 58 * g) (k := nI (P.2.2.2 (8 * k + (5 + i))))
      rw [g3] at es
      rw [cd_up_self (by rw [show 71 + 58 * g + 10 + 3 * (1 + i) + 2 = 71 + 58 * g + 12 + 3 * (1 + i) by omega]; exact es.symm)] at r2
      exact r2
    · unfold f_X8_groupTold_B107
      dsimp only
      rw [if_neg (by rw [cd_le (by omega) (by omega)]; omega), cd_ckI (by omega) (by omega), cd_cl (by omega), nb i k1 (by omega) f1, kd, if_neg (by decide), cd_ckI (by omega) (by omega), e', cd_bS]
      dsimp only
      rw [cd_eventAt, cd_addL, cd_ckI (by omega) (by omega), cd_cl (by omega), cd_nmE2, cd_nmE2, cd_addL, show cd_FR P.2.2.1 k + 5 + i + 1 = cd_FR P.2.2.1 k + 5 + (i + 1) by omega]
  constructor
  · intro hmE
    have hloop : ∃ q, cd_lp (f_X8_groupTold_B107 a (nI (cd_FR P.2.2.1 k + P.2.2.1 k)) (nI g)) cd_fu (nI (cd_FR P.2.2.1 k + 5), h1) = some q ∧ ∃ v h2, q = .inr (v, h2) ∧ (∀ j, j < 659 → cd_R h2 j = cd_gX A (71 + 58 * g) (fun i => P.2.2.2 (8 * k + (5 + i))) m j) ∧ cd_frR h1 h2 := by
      refine cd_for m (fun i (st : Int32 × cd_Hp) => st.1 = nI (cd_FR P.2.2.1 k + 5 + i) ∧ (∀ j, j < 659 → cd_R st.2 j = cd_gX A (71 + 58 * g) (fun i => P.2.2.2 (8 * k + (5 + i))) i j) ∧ cd_frR h1 st.2) _ ?_ cd_fu 0 (nI (cd_FR P.2.2.1 k + 5), h1) (Nat.zero_le _) (by unfold cd_fu; omega) ⟨rfl, hr, cd_frR.rf⟩
      rintro i ⟨v1, k1⟩ K hi ⟨q1, q2, q3⟩
      dsimp only at q1 q2 q3
      subst q1
      rcases Nat.lt_or_ge i m with hlt | hge
      · left
        obtain ⟨k2, w1, w2, w3⟩ := step i k1 K hlt q2 q3
        exact ⟨hlt, (nI (cd_FR P.2.2.1 k + 5 + (i + 1)), k2), ⟨rfl, w1, w2⟩, w3⟩
      · right
        obtain rfl : i = m := by omega
        unfold f_X8_groupTold_B107
        dsimp only
        rw [if_pos (by rw [cd_le (by omega) (by omega)]; omega)]
        exact ⟨_, rfl, _, _, rfl, q2, q3⟩
    obtain ⟨q, eq, v, h2, rfl, w1, w2⟩ := hloop
    exact ⟨v, h2, eq, w1, w2⟩
  · intro hmL hbad
    have hloop : ∃ q, cd_lp (f_X8_groupTold_B107 a (nI (cd_FR P.2.2.1 k + P.2.2.1 k)) (nI g)) cd_fu (nI (cd_FR P.2.2.1 k + 5), h1) = some q ∧ ∃ h2, q = .inl (0, h2) ∧ cd_frR h1 h2 := by
      refine cd_for m (fun i (st : Int32 × cd_Hp) => st.1 = nI (cd_FR P.2.2.1 k + 5 + i) ∧ (∀ j, j < 659 → cd_R st.2 j = cd_gX A (71 + 58 * g) (fun i => P.2.2.2 (8 * k + (5 + i))) i j) ∧ cd_frR h1 st.2) _ ?_ cd_fu 0 (nI (cd_FR P.2.2.1 k + 5), h1) (Nat.zero_le _) (by unfold cd_fu; omega) ⟨rfl, hr, cd_frR.rf⟩
      rintro i ⟨v1, k1⟩ K hi ⟨q1, q2, q3⟩
      dsimp only at q1 q2 q3
      subst q1
      rcases Nat.lt_or_ge i m with hlt | hge
      · left
        obtain ⟨k2, w1, w2, w3⟩ := step i k1 K hlt q2 q3
        exact ⟨hlt, (nI (cd_FR P.2.2.1 k + 5 + (i + 1)), k2), ⟨rfl, w1, w2⟩, w3⟩
      · right
        obtain rfl : i = m := by omega
        have n9 := o7 (5 + i) (by omega)
        have kd : f_X8_isKind (nI (P.2.2.2 (8 * k + (5 + i)))) = 0 := cd_in8f (a := 0) (b := 7) (by rintro ⟨v, z1, z2, z3⟩; rw [cd_eq (by omega) (by omega)] at z3; omega) (by omega) (by omega)
        unfold f_X8_groupTold_B107
        dsimp only
        rw [if_neg (by rw [cd_le (by omega) (by omega)]; omega), cd_ckI (by omega) (by omega), cd_cl (by omega), nb i k1 hmL q3, kd, if_pos rfl]
        exact ⟨_, rfl, _, rfl, q3⟩
    obtain ⟨q, eq, h2, rfl, w1⟩ := hloop
    exact ⟨h2, eq, w1⟩
theorem cd_firstBad {f : Nat → Nat} {n : Nat} : ∃ m, m ≤ n ∧ (∀ i, i < m → f i ≤ 7) ∧ (m = n ∨ (m < n ∧ 7 < f m)) := by
  induction n with
  | zero => exact ⟨0, Nat.le_refl _, fun i z => absurd z (Nat.not_lt_zero _), Or.inl rfl⟩
  | succ n ih =>
    obtain ⟨m, m1, m2, m3⟩ := ih
    rcases m3 with rfl | m3
    · by_cases z : f m ≤ 7
      · refine ⟨m + 1, Nat.le_refl _, fun i hi => ?_, Or.inl rfl⟩
        by_cases e : i = m
        · rw [e]; exact z
        · exact m2 i (by omega)
      · exact ⟨m, by omega, m2, Or.inr ⟨by omega, by omega⟩⟩
    · exact ⟨m, by omega, m2, Or.inr ⟨by omega, m3.2⟩⟩
theorem cd_od_g (hA : cd_Ok A τ) (hτ : τ + 20 ≤ 500000) (o : cd_Or P k) (hc : P.2.1 k = 103) : cd_Od P k τ A := by
  obtain ⟨o1, o2, o3, o4, o5, o6, o7, o8⟩ := id o
  have hT := hA.2.2.2.1
  have hG := hA.2.2.2.2.1
  have h6 := hG.2
  rw [hc] at o5 o6
  have s5 : 5 ≤ P.2.2.1 k := by have e1 : cd_ls 103 = 5 := rfl; omega
  have s8 : P.2.2.1 k ≤ 8 := by have e1 : cd_mo 103 = 8 := rfl; omega
  have hcl : ∀ h, cd_XC P h → f_X7_carryOut (nI k) h = f_X7_carryOutGroup (nI k) h := fun h x => by
    have n0 := cd_numAt (j := 0) o x (by omega)
    have n1 := cd_numAt (j := 1) o x (by omega)
    have n2 := cd_numAt (j := 2) o x (by omega)
    have l := cd_letAt o x
    rw [hc] at l
    unfold f_X7_carryOut
    rw [show f_X6_numberAt 398 (nI k) 0 h = _ from n0, cd_bS, show f_X6_numberAt 398 (nI k) 1 h = _ from n1, cd_bS, show f_X6_numberAt 398 (nI k) 2 h = _ from n2, cd_bS, l, cd_bS, if_neg (by decide), if_neg (by decide), if_pos (by decide)]
    cases f_X7_carryOutGroup (nI k) h <;> rfl
  have hcg : ∀ h, cd_XC P h → f_X7_carryOutGroup (nI k) h = cd_b (f_X4_addGroup 4 (nI (P.2.2.2 (8 * k))) (nI (P.2.2.2 (8 * k + 1))) (nI (P.2.2.2 (8 * k + 2))) (nI (P.2.2.2 (8 * k + 3))) (nI (P.2.2.2 (8 * k + 4))) h) (fun o11 => cd_nm ((cd_g o11.2 4 3) - 1) (fun x13 => cd_b (cd_lp (f_X7_carryOutGroup_B66 (nI k) x13) cd_fu (o11.1, 5, o11.2)) (fun o24 => some ((o24.1, o24.2.2))))) := fun h x => by
    have n0 := cd_numAt (j := 0) o x (by omega)
    have n1 := cd_numAt (j := 1) o x (by omega)
    have n2 := cd_numAt (j := 2) o x (by omega)
    have n3 := cd_numAt (j := 3) o x (by omega)
    have n4 := cd_numAt (j := 4) o x (by omega)
    rw [if_pos (by omega)] at n0 n1 n2 n3 n4
    unfold f_X7_carryOutGroup
    rw [show f_X6_numberAt 398 (nI k) 0 h = _ from n0, cd_bS, show f_X6_numberAt 398 (nI k) 1 h = _ from n1, cd_bS, show f_X6_numberAt 398 (nI k) 2 h = _ from n2, cd_bS, show f_X6_numberAt 398 (nI k) 3 h = _ from n3, cd_bS, show f_X6_numberAt 398 (nI k) 4 h = _ from n4, cd_bS]
    rfl
  have hob : ∀ h1, cd_XD P h1 → f_X8_obeys (nI k) h1 = (if (f_X8_canGroup (nI (P.2.2.2 (8 * k))) (nI (P.2.2.2 (8 * k + 1))) (nI (P.2.2.2 (8 * k + 2))) (nI (P.2.2.2 (8 * k + 3))) (nI (P.2.2.2 (8 * k + 4))) h1) = 0 then (some ((0, h1))) else (if (cd_g h1 405 70) = 6 then (some ((0, h1))) else (cd_b (f_X8_comesGroup (nI (P.2.2.2 (8 * k))) (nI (P.2.2.2 (8 * k + 1))) (nI (P.2.2.2 (8 * k + 2))) (nI (P.2.2.2 (8 * k + 3))) (nI (P.2.2.2 (8 * k + 4))) h1) (fun o14 => cd_b2 (cd_lp (f_X8_groupTold_B107 (nI (cd_FR P.2.2.1 k)) (nI (cd_FR P.2.2.1 k + P.2.2.1 k)) o14.1) cd_fu (nI (cd_FR P.2.2.1 k + 5), o14.2)) (fun st29 => some ((1, st29.2))))))) := fun h1 x => by
    obtain ⟨e1, e2, e3, e4⟩ := cd_obeyE o x
    have q0 := e4 0 (by omega)
    have q1 := e4 1 (by omega)
    have q2 := e4 2 (by omega)
    have q3 := e4 3 (by omega)
    have q4 := e4 4 (by omega)
    rw [Nat.add_zero] at q0
    rw [Nat.add_zero] at q0
    rw [hc] at e3
    unfold f_X8_obeys f_X8_groupTold
    rw [cd_ckI (by omega) (by omega), cd_cl (by omega), e1, cd_nmE2, cd_ckI (by omega) (by omega), cd_cl (by omega), q0, cd_nmE2, cd_addL, cd_ckI (by omega) (by omega), cd_cl (by omega), q1, cd_nmE2, cd_ckI (by omega) (by omega), e3, if_neg (by decide), if_neg (by decide), if_pos (by decide), cd_addL, cd_ckI (by omega) (by omega), cd_cl (by omega), e2]
    simp (disch := omega) only [cd_addL, cd_ckI, cd_cl, q0, q1, q2, q3, q4, cd_nmE2, cd_c70]
    split
    · rfl
    · split
      · rfl
      · cases f_X8_comesGroup (nI (P.2.2.2 (8 * k))) (nI (P.2.2.2 (8 * k + 1))) (nI (P.2.2.2 (8 * k + 2))) (nI (P.2.2.2 (8 * k + 3))) (nI (P.2.2.2 (8 * k + 4))) h1 with
        | none => rfl
        | some w =>
          rw [cd_bS]
          generalize cd_lp (f_X8_groupTold_B107 (nI (cd_FR P.2.2.1 k)) (nI (cd_FR P.2.2.1 k + P.2.2.1 k)) w.1) cd_fu (nI (cd_FR P.2.2.1 k + 5), w.2) = Z
          match Z with
          | none => rfl
          | some (.inl _) => rfl
          | some (.inr _) => rfl
  by_cases hv : cd_gOk A (nI (P.2.2.2 (8 * k))) (nI (P.2.2.2 (8 * k + 1))) (nI (P.2.2.2 (8 * k + 2))) (nI (P.2.2.2 (8 * k + 3))) (nI (P.2.2.2 (8 * k + 4)))
  · rcases Nat.lt_or_ge (cd_n A 70) 6 with g6 | g6
    · obtain ⟨t, w, p, i, kk, t1, ⟨w1, w2⟩, p1, i1, k1, e0, e1, e2, e3, e4⟩ := id hv
      obtain ⟨m, m1, m2, m3⟩ := cd_firstBad (f := fun i => P.2.2.2 (8 * k + (5 + i))) (n := P.2.2.1 k - 5)
      have ok1 : cd_Ok (cd_grp A t w p i kk) τ := hA.new g6 t1 w1 w2 p1 i1 k1
      have n70 : cd_n (cd_grp A t w p i kk) 70 = cd_n A 70 + 1 := cd_n_nI cd_grp70 (by omega)
      have n5 : cd_n (cd_grp A t w p i kk) (71 + 58 * cd_n A 70 + 5) = 1 := by
        have : cd_grp A t w p i kk (71 + 58 * cd_n A 70 + 5) = nI 1 := by rw [cd_grpB g6 (by omega) (by omega), cd_evt5, cd_blk5]
        exact cd_n_nI this (by omega)
      have cl : ∀ h, cd_St 4 A h → cd_XC P h → ∃ h', cd_St 4 (cd_grp A t w p i kk) h' ∧ cd_XC P h' ∧ cd_fr 1 60 h h' ∧ f_X7_carryOut (nI k) h = cd_b (cd_lp (f_X7_carryOutGroup_B66 (nI k) (nI (cd_n A 70))) cd_fu (nI (cd_n A 70), 5, h')) (fun o24 => some ((o24.1, o24.2.2))) := fun h x xc => by
        obtain ⟨h', a1, a2, a3⟩ := cd_addGroup hA x g6 t1 w1 w2 p1 i1 k1
        have f' := a3.wide (a' := 1) (b' := 60) (by omega) (by omega)
        refine ⟨h', a2, xc.kept (fun a b w1 w2 => f'.1 _ _ (by omega)), f', ?_⟩
        have e70 : cd_g h' 4 3 = nI (cd_n A 70 + 1) := by rw [a2.1.2.2.2.1, cd_grp70]
        rw [hcl h xc, hcg h xc, e0, e1, e2, e3, e4, a1, cd_bS]
        dsimp only
        rw [e70, cd_subL (by omega), cd_nmE2, show cd_n A 70 + 1 - 1 = cd_n A 70 by omega]
      have rl : ∀ h1, (∀ k, k < 659 → cd_R h1 k = A k) → cd_XD P h1 → ∃ h2, (∀ j, j < 659 → cd_R h2 j = cd_grp A t w p i kk j) ∧ cd_XD P h2 ∧ cd_frR h1 h2 ∧ f_X8_obeys (nI k) h1 = cd_b2 (cd_lp (f_X8_groupTold_B107 (nI (cd_FR P.2.2.1 k)) (nI (cd_FR P.2.2.1 k + P.2.2.1 k)) (nI (cd_n A 70))) cd_fu (nI (cd_FR P.2.2.1 k + 5), h2)) (fun st29 => some ((1, st29.2))) := fun h1 hr xd => by
        obtain ⟨h2, a1, a2, a3⟩ := cd_comesGroup (t := t) (w := w) (p := p) (i := i) (k := kk) hr hA g6 p1
        refine ⟨h2, a2, xd.kept (fun a b w => a3 _ _ (by omega)), a3, ?_⟩
        have e70 : cd_g h1 405 70 = nI (cd_n A 70) := (hr 70 (by omega)).trans hG.1
        rw [hob h1 xd, (cd_canGroup8 hr hT).1 hv, if_neg (by decide), e70, if_neg (by rw [cd_eqL (by omega) (by omega)]; omega), e0, e1, e2, e3, e4, a1, cd_bS]
      rcases m3 with m3 | ⟨m3, m4⟩
      · left
        obtain ⟨ok2, -, -⟩ := cd_gX_ok (f := fun i => P.2.2.2 (8 * k + (5 + i))) ok1 (by omega : cd_n A 70 < _) n5 m (by omega) m2
        refine ⟨cd_gX (cd_grp A t w p i kk) (71 + 58 * cd_n A 70) (fun i => P.2.2.2 (8 * k + (5 + i))) m, ok2.mono (by omega) (by omega), fun h x xc => ?_, fun h1 hr xd => ?_⟩
        · obtain ⟨h', c1, c2, c3, c4⟩ := cl h x xc
          obtain ⟨r', v, h2, d1, d2, d3, d4⟩ := (cd_gEv ok1 (by omega : cd_n A 70 < _) n5 o s5 (by omega) m2 (cd_nr_nI (n := cd_n A 70) (by omega)) c1 c2).1 (by omega)
          rw [c4, d1, cd_bS]
          exact ⟨r', h2, rfl, d2, d3, c3.tr d4⟩
        · obtain ⟨h2, c1, c2, c3, c4⟩ := rl h1 hr xd
          obtain ⟨v, h3, d1, d2, d3⟩ := (cd_gEvR (a := nI (cd_FR P.2.2.1 k)) ok1 (by omega : cd_n A 70 < _) n5 o s5 (by omega) m2 c1 c2).1 (by omega)
          rw [c4, d1, cd_b2R]
          exact ⟨h3, rfl, d2, c3.tr d3⟩
      · right
        refine ⟨fun h x xc => ?_, fun h1 hr xd => ?_⟩
        · obtain ⟨h', c1, c2, c3, c4⟩ := cl h x xc
          obtain ⟨v, h2, d1, d4⟩ := (cd_gEv ok1 (by omega : cd_n A 70 < _) n5 o s5 (by omega) m2 (cd_nr_nI (n := cd_n A 70) (by omega)) c1 c2).2 (by omega) m4
          rw [c4, d1, cd_bS]
          exact ⟨_, h2, rfl, cd_ref2.1, c3.tr d4⟩
        · obtain ⟨h2, c1, c2, c3, c4⟩ := rl h1 hr xd
          obtain ⟨h3, d1, d3⟩ := (cd_gEvR (a := nI (cd_FR P.2.2.1 k)) ok1 (by omega : cd_n A 70 < _) n5 o s5 (by omega) m2 c1 c2).2 (by omega) m4
          rw [c4, d1, cd_b2L]
          exact ⟨h3, rfl, c3.tr d3⟩
    · right
      have e6 : cd_n A 70 = 6 := by omega
      refine ⟨fun h x xc => ?_, fun h1 hr xd => ?_⟩
      · rw [hcl h xc, hcg h xc, cd_addGroup_full hA x hv e6, cd_bS]
        dsimp only
        rw [cd_nmE2]
        have hz : cd_lp (f_X7_carryOutGroup_B66 (nI k) (cd_g h 4 3 - 1)) cd_fu (-4, 5, h) = some (-4, 5, h) := by
          show f_X7_carryOutGroup_B66 (nI k) (cd_g h 4 3 - 1) (cd_lp _ 3999) (-4, 5, h) = _
          unfold f_X7_carryOutGroup_B66
          dsimp only
          rw [cd_numsOf o xc, cd_bS]
          split
          · rfl
          · rw [cd_ref2.2.2, if_neg (by decide)]
        rw [hz, cd_bS]
        exact ⟨_, h, rfl, cd_ref2.2.2, cd_fr.rf⟩
      · have e70 : cd_g h1 405 70 = nI 6 := by rw [← e6]; exact (hr 70 (by omega)).trans hG.1
        rw [hob h1 xd, (cd_canGroup8 hr hT).1 hv, if_neg (by decide), e70, if_pos (by decide)]
        exact ⟨h1, rfl, cd_frR.rf⟩
  · right
    refine ⟨fun h x xc => ?_, fun h1 hr xd => ?_⟩
    · rw [hcl h xc, hcg h xc, cd_addGroup_bad hA x hv, cd_bS]
      dsimp only
      rw [cd_nmE2]
      have hz : cd_lp (f_X7_carryOutGroup_B66 (nI k) (cd_g h 4 3 - 1)) cd_fu (-2, 5, h) = some (-2, 5, h) := by
        show f_X7_carryOutGroup_B66 (nI k) (cd_g h 4 3 - 1) (cd_lp _ 3999) (-2, 5, h) = _
        unfold f_X7_carryOutGroup_B66
        dsimp only
        rw [cd_numsOf o xc, cd_bS]
        split
        · rfl
        · rw [cd_ref2.1, if_neg (by decide)]
      rw [hz, cd_bS]
      exact ⟨_, h, rfl, cd_ref2.1, cd_fr.rf⟩
    · rw [hob h1 xd, (cd_canGroup8 hr hT).2 hv, if_pos rfl]
      exact ⟨h1, rfl, cd_frR.rf⟩
theorem cd_od (hA : cd_Ok A τ) (hτ : τ + 20 ≤ 500000) (o : cd_Or P k) : cd_Od P k τ A := by
  rcases ((cd_mo_facts (P.2.1 k)).2.2 o.2.2.2.1).2 with z | z | z | z | z
  · exact cd_od_c hA hτ o z
  · exact cd_od_f hA hτ o z
  · exact cd_od_g hA hτ o z
  · exact cd_od_m hA hτ o z
  · exact cd_od_r hA hτ o z
end
