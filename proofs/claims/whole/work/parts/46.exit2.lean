-- may a task end
def cd_opn (A : Nat → Int32) (t u : Nat) : Prop := A (10 + 10 * u) = nI t ∧ ¬ A (11 + 10 * u) = 1
theorem cd_openChild {q t n : Nat} {A : Nat → Int32} {h : cd_Hp} (x : cd_StT q A h) (h9 : A 9 = nI n) (hn : n ≤ 6) (ht : t < n) : ((∃ u, t < u ∧ u < n ∧ cd_opn A t u) → f_X5_hasOpenChild (q + 2) (nI t) h = some 1) ∧ ((¬ ∃ u, t < u ∧ u < n ∧ cd_opn A t u) → f_X5_hasOpenChild (q + 2) (nI t) h = some 0) := by
  have hloop : ∃ o, cd_lp (f_X5_hasOpenChild_B4 (q + 2) (nI t) h) cd_fu (nI (t + 1)) = some o ∧ ((o = .inl 1 ∧ ∃ u, t < u ∧ u < n ∧ cd_opn A t u) ∨ ((∃ v, o = .inr v) ∧ ¬ ∃ u, t < u ∧ u < n ∧ cd_opn A t u)) := by
    refine cd_for n (fun i (st : Int32) => t < i ∧ st = nI i ∧ ∀ u, t < u → u < i → ¬ cd_opn A t u) _ ?_ cd_fu (t + 1) (nI (t + 1)) (by omega) (by unfold cd_fu; omega) ⟨by omega, rfl, fun u z1 z2 => absurd z1 (by omega)⟩
    rintro i st K hi ⟨hti, rfl, hI⟩
    unfold f_X5_hasOpenChild_B4
    rw [x.1, h9]
    rcases Nat.lt_or_ge i n with hlt | hge
    · rw [if_neg (by rw [cd_le (by omega) (by omega)]; omega), cd_ckI (by omega) (by omega), cd_cl (by omega), (x.2.1 i (by omega)).1, cd_hasEnded5 x (by omega), cd_nmE2, cd_addL, cd_bS]
      by_cases z1 : A (10 + 10 * i) = nI t
      · rw [if_pos z1]
        by_cases z2 : A (11 + 10 * i) = 1
        · rw [if_pos z2, if_neg (by decide)]
          left
          refine ⟨hlt, _, ⟨by omega, rfl, fun u w1 w2 => ?_⟩, rfl⟩
          rcases Nat.lt_or_ge u i with w | w
          · exact hI u w1 w
          · obtain rfl : u = i := by omega
            exact fun z => z.2 z2
        · rw [if_neg z2, if_pos rfl]
          right
          exact ⟨_, rfl, Or.inl ⟨rfl, i, hti, hlt, z1, z2⟩⟩
      · rw [if_neg z1]
        left
        refine ⟨hlt, _, ⟨by omega, rfl, fun u w1 w2 => ?_⟩, rfl⟩
        rcases Nat.lt_or_ge u i with w | w
        · exact hI u w1 w
        · obtain rfl : u = i := by omega
          exact fun z => z1 z.1
    · right
      rw [if_pos (by rw [cd_le (by omega) (by omega)]; omega)]
      exact ⟨_, rfl, Or.inr ⟨⟨_, rfl⟩, fun ⟨u, w1, w2, w3⟩ => hI u w1 (by omega) w3⟩⟩
  obtain ⟨o, eo, ho⟩ := hloop
  unfold f_X5_hasOpenChild
  rw [cd_addL, cd_nmE2, eo]
  rcases ho with ⟨rfl, ho⟩ | ⟨⟨v, rfl⟩, ho⟩
  · exact ⟨fun _ => rfl, fun z => absurd ho z⟩
  · exact ⟨fun z => absurd z ho, fun _ => rfl⟩
theorem cd_canEnd8 {t n τ : Nat} {A : Nat → Int32} {h1 : cd_Hp} (hr : ∀ k, k < 659 → cd_R h1 k = A k) (hA : cd_Ok A τ) (h9 : cd_n A 9 = n) (ht : t < n) : ((¬ A (11 + 10 * t) = 1 ∧ ¬ ∃ u, t < u ∧ u < n ∧ cd_opn A t u) → f_X8_canEnd (nI t) h1 = some 1) ∧ ((A (11 + 10 * t) = 1 ∨ ∃ u, t < u ∧ u < n ∧ cd_opn A t u) → f_X8_canEnd (nI t) h1 = some 0) := by
  have hT := hA.2.2.2.1
  have hn : n ≤ 6 := by rw [← h9]; exact hT.1.1.2
  have e9 : cd_g h1 405 9 = nI n := by rw [← h9]; exact (hr 9 (by omega)).trans hT.1.1.1
  unfold f_X8_canEnd
  rw [cd_hasEnded8' hr (by omega), cd_bS]
  by_cases he : A (11 + 10 * t) = 1
  · rw [if_pos he, if_neg (by decide)]
    have hloop : ∃ o, cd_lp (f_X8_canEnd_B16 (nI t) h1) cd_fu (0, 1) = some o ∧ o.1 = 0 := by
      refine cd_for n (fun i (st : Int32 × Int32) => 1 ≤ i ∧ st = (0, nI i)) _ ?_ cd_fu 1 (0, 1) (by omega) (by unfold cd_fu; omega) ⟨by omega, rfl⟩
      rintro i st K hi ⟨hi1, rfl⟩
      unfold f_X8_canEnd_B16
      dsimp only
      rw [cd_c9, e9]
      rcases Nat.lt_or_ge i n with hlt | hge
      · left
        rw [if_neg (by rw [cd_le (by omega) (by omega)]; omega), if_pos rfl, cd_nmE2, cd_addL]
        exact ⟨hlt, _, ⟨by omega, rfl⟩, rfl⟩
      · right
        rw [if_pos (by rw [cd_le (by omega) (by omega)]; omega)]
        exact ⟨_, rfl, rfl⟩
    obtain ⟨o, eo, ho⟩ := hloop
    rw [eo, cd_bS, ho, cd_ckT (by decide)]
    exact ⟨fun z => absurd he z.1, fun _ => rfl⟩
  · rw [if_neg he, if_pos rfl]
    have hloop : ∃ o, cd_lp (f_X8_canEnd_B16 (nI t) h1) cd_fu (1, 1) = some o ∧ ((o.1 = 0 ∧ ∃ u, t < u ∧ u < n ∧ cd_opn A t u) ∨ (o.1 = 1 ∧ ¬ ∃ u, t < u ∧ u < n ∧ cd_opn A t u)) := by
      refine cd_for n (fun i (st : Int32 × Int32) => 1 ≤ i ∧ st.2 = nI i ∧ ((st.1 = 0 ∧ ∃ u, t < u ∧ u < n ∧ cd_opn A t u) ∨ (st.1 = 1 ∧ ∀ u, t < u → u < i → ¬ cd_opn A t u))) _ ?_ cd_fu 1 (1, 1) (by omega) (by unfold cd_fu; omega) ⟨by omega, rfl, Or.inr ⟨rfl, fun u z1 z2 => absurd z1 (by omega)⟩⟩
      rintro i ⟨s1, s2⟩ K hi ⟨hi1, hs2, hI⟩
      dsimp only at hs2 hI
      subst hs2
      unfold f_X8_canEnd_B16
      dsimp only
      rw [cd_c9, e9]
      rcases Nat.lt_or_ge i n with hlt | hge
      · left
        refine ⟨hlt, ?_⟩
        rw [if_neg (by rw [cd_le (by omega) (by omega)]; omega)]
        rcases hI with ⟨rfl, hI⟩ | ⟨rfl, hI⟩
        · rw [if_pos rfl, cd_nmE2, cd_addL]
          exact ⟨_, ⟨by omega, rfl, Or.inl ⟨rfl, hI⟩⟩, rfl⟩
        · rw [if_neg (by decide), cd_taskAt, cd_ckI (by omega) (by omega), cd_cl (by omega), cd_hasEnded8' hr (by omega)]
          have ei : cd_g h1 405 (10 + 10 * i) = A (10 + 10 * i) := hr _ (by omega)
          have hpar := hT.2.2.1 i (by omega) (by omega)
          rw [ei, cd_nmE2, cd_bS, cd_addL]
          by_cases z1 : A (10 + 10 * i) = nI t
          · have hti : t < i := by
              have := hpar.2
              rw [cd_n_nI z1 (by omega)] at this
              exact this
            rw [if_pos z1]
            by_cases z2 : A (11 + 10 * i) = 1
            · rw [if_pos z2, if_neg (by decide), cd_nmE2]
              refine ⟨_, ⟨by omega, rfl, Or.inr ⟨rfl, fun u w1 w2 => ?_⟩⟩, rfl⟩
              rcases Nat.lt_or_ge u i with w | w
              · exact hI u w1 w
              · obtain rfl : u = i := by omega
                exact fun z => z.2 z2
            · rw [if_neg z2, if_pos rfl]
              exact ⟨_, ⟨by omega, rfl, Or.inl ⟨rfl, i, hti, hlt, z1, z2⟩⟩, rfl⟩
          · rw [if_neg z1]
            refine ⟨_, ⟨by omega, rfl, Or.inr ⟨rfl, fun u w1 w2 => ?_⟩⟩, rfl⟩
            rcases Nat.lt_or_ge u i with w | w
            · exact hI u w1 w
            · obtain rfl : u = i := by omega
              exact fun z => z1 z.1
      · right
        rw [if_pos (by rw [cd_le (by omega) (by omega)]; omega)]
        refine ⟨_, rfl, ?_⟩
        rcases hI with hI | ⟨e1, hI⟩
        · exact Or.inl hI
        · exact Or.inr ⟨e1, fun ⟨u, w1, w2, w3⟩ => hI u w1 (by omega) w3⟩
    obtain ⟨o, eo, ho⟩ := hloop
    rw [eo, cd_bS]
    rcases ho with ⟨e, ho⟩ | ⟨e, ho⟩
    · rw [e, cd_ckT (by decide)]
      exact ⟨fun z => absurd ho z.2, fun _ => rfl⟩
    · rw [e, cd_ckT (by decide)]
      exact ⟨fun _ => rfl, fun z => absurd z (by rintro (z | z); exact he z; exact ho z)⟩
-- the reference's moves
theorem cd_moves8 {a b : Nat} {A : Nat → Int32} {h1 : cd_Hp} (hr : ∀ k, k < 659 → cd_R h1 k = A k) (ha : a < 659) (hb : b < 659) : ∃ h2, f_X8_moves (nI a) (nI b) h1 = some h2 ∧ (∀ k, k < 659 → cd_R h2 k = cd_mv A a b k) ∧ cd_frR h1 h2 := by
  unfold f_X8_moves
  simp (disch := omega) only [cd_ckI, cd_cl, cd_nmE2]
  refine ⟨_, rfl, ?_, (cd_frR.u (by omega)).tr (cd_frR.u (by omega))⟩
  have e : cd_g h1 405 b + cd_g h1 405 a = A b + A a := by
    have z1 := hr b hb
    have z2 := hr a ha
    dsimp only [cd_R] at z1 z2
    rw [z1, z2]
  rw [e]
  exact cd_R_up (cd_R_up hr)
theorem cd_exits8 {t p g τ : Nat} {A : Nat → Int32} {h1 : cd_Hp} (hA : cd_Ok A τ) (hg : g < cd_n A 70) (hr : ∀ k, k < 659 → cd_R h1 k = A k) (ht : t < 6) (hp : p < 6) (htp : t ≠ p) : ∃ h2 h3, f_X8_moves (nI (71 + 58 * g) + 46 + nI t) (nI (71 + 58 * g) + 46 + nI p) h1 = some h2 ∧ f_X8_moves (nI (71 + 58 * g) + 52 + nI t) (nI (71 + 58 * g) + 52 + nI p) h2 = some h3 ∧ ∃ o, cd_lp (f_X8_exits_B114 (nI t) (nI p) (nI g)) cd_fu (0, h3) = some o ∧ (∀ k, k < 659 → cd_R o.2 k = cd_mvG A (71 + 58 * g) t p k) ∧ cd_frR h1 o.2 := by
  have h6 := hA.2.2.2.2.1.2
  have h5 := (hA.2.2.2.2.2.1 g hg).2.2.2.2.2.1.1
  have h5l := h5.2
  simp only [cd_addL, nI_add]
  obtain ⟨h2, e2, r2, f2⟩ := cd_moves8 (a := 71 + 58 * g + 46 + t) (b := 71 + 58 * g + 46 + p) hr (by omega) (by omega)
  obtain ⟨h3, e3, r3, f3⟩ := cd_moves8 (a := 71 + 58 * g + 52 + t) (b := 71 + 58 * g + 52 + p) r2 (by omega) (by omega)
  refine ⟨h2, h3, e2, e3, ?_⟩
  have eR : ∀ e j, j < 71 + 58 * g + 22 → cd_mvE (cd_mv (cd_mv A (71 + 58 * g + 46 + t) (71 + 58 * g + 46 + p)) (71 + 58 * g + 52 + t) (71 + 58 * g + 52 + p)) (71 + 58 * g) t p e j = A j := by
    intro e
    induction e with
    | zero => intro j hj; show cd_mv _ _ _ j = _; rw [cd_mvN (by omega) (by omega), cd_mvN (by omega) (by omega)]
    | succ e ih => intro j hj; show cd_mv _ _ _ j = _; rw [cd_mvN (by omega) (by omega)]; exact ih j hj
  refine cd_for (cd_n A (71 + 58 * g + 5)) (fun i (st : Int32 × cd_Hp) => st.1 = nI i ∧ (∀ k, k < 659 → cd_R st.2 k = cd_mvE (cd_mv (cd_mv A (71 + 58 * g + 46 + t) (71 + 58 * g + 46 + p)) (71 + 58 * g + 52 + t) (71 + 58 * g + 52 + p)) (71 + 58 * g) t p i k) ∧ cd_frR h1 st.2) _ ?_ cd_fu 0 (0, h3) (Nat.zero_le _) (by unfold cd_fu; omega) ⟨rfl, r3, f2.tr f3⟩
  rintro i ⟨v, k1⟩ K hi ⟨hv, hR, hfr⟩
  dsimp only at hv hR hfr
  subst hv
  unfold f_X8_exits_B114
  dsimp only
  have e5 := cd_ofGroup (h := k1) (g := g) (w := 5) (by omega) (by omega)
  have e5' : cd_g k1 405 (71 + 58 * g + 5) = nI (cd_n A (71 + 58 * g + 5)) := by have := hR (71 + 58 * g + 5) (by omega); dsimp only [cd_R] at this; rw [this, eR _ _ (by omega)]; exact h5.1
  rw [show (5 : Int32) = nI 5 from rfl, e5, e5', cd_bS]
  rcases Nat.lt_or_ge i (cd_n A (71 + 58 * g + 5)) with hlt | hge
  · left
    refine ⟨hlt, ?_⟩
    rw [if_neg (by rw [cd_le (by omega) (by omega)]; omega), cd_countAt, cd_countAt]
    obtain ⟨h4, e4, r4, f4⟩ := cd_moves8 (a := 71 + 58 * g + 22 + 6 * i + t) (b := 71 + 58 * g + 22 + 6 * i + p) hR (by omega) (by omega)
    rw [e4, cd_bS, cd_nmE2, cd_addL]
    exact ⟨_, ⟨rfl, r4, hfr.tr f4⟩, rfl⟩
  · right
    obtain rfl : i = cd_n A (71 + 58 * g + 5) := by omega
    rw [if_pos (by rw [cd_le (by omega) (by omega)]; omega)]
    exact ⟨_, rfl, hR, hfr⟩
theorem cd_Ok.ends {A : Nat → Int32} {τ t : Nat} (h : cd_Ok A τ) (ht : t < cd_n A 9) (h0t : t ≠ 0) : cd_Ok (cd_up A (11 + 10 * t) (nI 1)) τ := by
  obtain ⟨h0, ⟨h1, h1'⟩, h2, ⟨⟨t1, t1'⟩, ⟨t2, t2'⟩, t3, t4⟩, hG, hGs, hQ, hS⟩ := h
  have gl := hG.2
  have tl := t1.2
  have e := cd_al.up (A := A) (j := 11 + 10 * t) (v := nI 1)
  refine ⟨h0, ⟨h1.rg e (by omega) (by omega), by rw [cd_n.rg e (by omega) (by omega)]; exact h1'⟩, fun j hj => (h2 j hj).rg e (by omega) (by omega), ⟨⟨t1.rg e (by omega) (by omega), by rw [cd_n.rg e (by omega) (by omega)]; exact t1'⟩, ⟨by rw [e 10 (by omega) (by omega)]; exact t2, by rw [e 11 (by omega) (by omega)]; exact t2'⟩, fun u w1 w2 => ?_, fun u hu => ?_⟩, hG.rg e (by omega) (by omega), fun g hg => ?_, hQ.rg e gl (by omega) (by omega) (fun _ _ => by omega), hS.rg e (by omega)⟩
  · rw [cd_n.rg e (by omega) (by omega)] at w2
    rw [cd_n.rg e (by omega) (by omega)]
    exact ⟨(t3 u w1 w2).1.rg e (by omega) (by omega), (t3 u w1 w2).2⟩
  · rw [cd_n.rg e (by omega) (by omega)] at hu
    refine ⟨?_, fun j hj => ((t4 u hu).2 j hj).rg e (by omega) (by omega)⟩
    by_cases ej : 11 + 10 * u = 11 + 10 * t
    · rw [ej]; exact cd_num.put (by omega) (by omega)
    · exact (t4 u hu).1.rg e (by omega) (by omega)
  · rw [cd_n.rg e (by omega) (by omega)] at hg
    exact (hGs g hg).rg e (by omega) (by omega) (by omega) (by omega)
theorem cd_call4 {n : Nat} {h : cd_Hp} (hI : cd_Inv n h) (hn : n < 512) : cd_q4 cd_Inv n h := by
  intro a1
  have hI2 := hI
  obtain ⟨s, nx, c, hs, t⟩ := hI2
  obtain ⟨-, ⟨hO, hSt⟩, -⟩ := c
  have hT := hO.2.2.2.1
  have h9 := hT.1.1.2
  have h6 := hO.2.2.2.2.1.2
  by_cases hv : ∃ t, t < cd_n (cd_R h) 9 ∧ a1 = nI t
  · obtain ⟨t, ht, rfl⟩ := hv
    have w0 : ∀ h1, cd_St 4 (cd_R h) h1 → f_X5_has (4 + 2) (nI t) h1 = 1 := fun h1 x => by rw [cd_has5 x hT, if_pos ⟨t, ht, rfl⟩]
    have w8 : ∀ h1, (∀ k, k < 659 → cd_R h1 k = cd_R h k) → f_X8_isTask (nI t) h1 = 1 := fun h1 hr => by rw [cd_isTask8 hr hT, if_pos ⟨t, ht, rfl⟩]
    by_cases ht0 : t = 0
    · subst ht0
      obtain ⟨h1, e1, er, hI3⟩ := cd_S_no hI hn (F := fun o => f_X4_endTask 4 (nI 0) o) (i := 0) (r := -2) (by omega) (by decide) (fun h1 hs1 _ => by
        unfold f_X4_endTask
        rw [w0 h1 hs1, if_neg (by decide), if_pos (by decide)])
      refine ⟨_, h1, _, e1, ?_, hI3⟩
      unfold f_X8_exits
      rw [w8 h1 (fun k _ => er k), if_neg (by decide), if_pos (by decide), cd_bad8]
      rfl
    · have htz : ¬ nI t = 0 := by rw [cd_eqL (by omega) (by omega)]; exact ht0
      by_cases hc : ¬ cd_R h (11 + 10 * t) = 1 ∧ ¬ ∃ u, t < u ∧ u < cd_n (cd_R h) 9 ∧ cd_opn (cd_R h) t u
      · have hpar := hT.2.2.1 t (by omega) ht
        have hp5 := hpar.1.2
        have A1ok : cd_Ok (cd_up (cd_R h) (11 + 10 * t) (nI 1)) (800 * (n + 1)) := (hO.mono (by omega) (by omega)).ends ht ht0
        have A1ok' : cd_Ok (cd_up (cd_R h) (11 + 10 * t) (nI 1)) (800 * n) := hO.ends ht ht0
        have e70 : cd_n (cd_up (cd_R h) (11 + 10 * t) (nI 1)) 70 = cd_n (cd_R h) 70 := cd_n.of (cd_upN (by omega))
        have htp : t ≠ cd_n (cd_R h) (10 + 10 * t) := by have := hpar.2; omega
        generalize hp : cd_n (cd_R h) (10 + 10 * t) = p at *
        obtain ⟨k1, k2, e1, l1, e2, hI3⟩ := cd_S_ok hI hn (F := fun o => f_X4_endTask 4 (nI t) o) (K := fun o => cd_ck (cd_ix (f_X8_taskAt (nI t)) 659) (cd_nm (cd_g o 405 ((f_X8_taskAt (nI t)).toNatClampNeg)) (fun x13 => cd_ck (cd_ix ((f_X8_taskAt (nI t)) + 1) 659) (cd_nm (cd_u o 405 (((f_X8_taskAt (nI t)) + 1).toNatClampNeg) 1) (fun h16 => cd_b (cd_lp (f_X8_exits_B58 (nI t) x13) cd_fu (0, h16)) (fun o34 => some ((x13, o34.2)))))))) (r := nI p) (A' := cd_mvGs (cd_up (cd_R h) (11 + 10 * t) (nI 1)) t p (cd_n (cd_R h) 70)) (cd_nr_nI (by omega)) (cd_mvGs_ok A1ok (by omega) (by omega) htp _ (by omega)).1
          (fun o1 hs1 _ => by
            have x := hs1
            unfold f_X4_endTask
            rw [w0 o1 hs1, if_neg (by decide), if_neg htz, cd_hasEnded5 hs1.2.2.1 (by omega), if_neg hc.1, cd_bS, if_pos rfl, (cd_openChild hs1.2.2.1 hT.1.1.1 h9 ht).2 hc.2, cd_bS, if_pos rfl, cd_ckI (by omega) (by omega), cd_cl (by omega), cd_nmE2, (hs1.2.2.1.2.1 t (by omega)).1, hpar.1.1, hp, cd_ckI (by omega) (by omega), cd_nmE2]
            have x1 : cd_St 4 (cd_up (cd_R h) (11 + 10 * t) (nI 1)) (cd_u o1 (4 + 2 + 2) t 1) := by
              obtain ⟨z1, z2, z3, z4⟩ := hO.sz
              obtain ⟨x1, x2, ⟨x3, x4, x5⟩, x6, x7, x8⟩ := hs1
              refine ⟨?_, fun j hj => ?_, ⟨?_, fun u hu => ?_, fun u j hu hj => ?_⟩, cd_StGs.as x6 z1 z2 (fun k w1 w2 => cd_upN (by omega)) (fun y k w1 w2 => cd_gN (by omega)), fun i hi => ?_, x8.as z3 z4 (fun k w1 w2 => cd_upN (by omega)) (fun y k w1 w2 => cd_gN (by omega))⟩
              · simp (disch := omega) only [cd_gN, cd_upN]; exact x1
              · simp (disch := omega) only [cd_gN, cd_upN]; exact x2 j hj
              · simp (disch := omega) only [cd_gN, cd_upN]; exact x3
              · by_cases eu : u = t
                · subst eu; simp (disch := omega) only [cd_gN, cd_gE, cd_upN, cd_upE]; exact ⟨(x4 u hu).1, rfl⟩
                · simp (disch := omega) only [cd_gN, cd_upN]; exact x4 u hu
              · simp (disch := omega) only [cd_gN, cd_upN]; exact x5 u j hu hj
              · simp (disch := omega) only [cd_gN, cd_upN]; exact x7 i hi
            have hloop : ∃ o, cd_lp (f_X4_endTask_B65 4 (nI t) (nI p)) cd_fu (0, cd_u o1 (4 + 2 + 2) t 1) = some o ∧ cd_St 4 (cd_mvGs (cd_up (cd_R h) (11 + 10 * t) (nI 1)) t p (cd_n (cd_R h) 70)) o.2 ∧ cd_fr 4 60 o1 o.2 := by
              refine cd_for (cd_n (cd_R h) 70) (fun i (st : Int32 × cd_Hp) => st.1 = nI i ∧ cd_St 4 (cd_mvGs (cd_up (cd_R h) (11 + 10 * t) (nI 1)) t p i) st.2 ∧ cd_fr 4 60 o1 st.2) _ ?_ cd_fu 0 (0, cd_u o1 (4 + 2 + 2) t 1) (Nat.zero_le _) (by unfold cd_fu; omega) ⟨rfl, x1, cd_fr.u (by omega) (by omega)⟩
              rintro i ⟨v, k1⟩ K hi ⟨hv, hS, hfr⟩
              dsimp only at hv hS hfr
              subst hv
              obtain ⟨m1, m2, m3⟩ := cd_mvGs_ok A1ok' (t := t) (p := p) (by omega) (by omega) htp i (by omega)
              have e3 : cd_g k1 4 3 = nI (cd_n (cd_R h) 70) := by rw [hS.1.2.2.2.1, ← e70, ← m3]; exact m1.2.2.2.2.1.1
              unfold f_X4_endTask_B65
              dsimp only
              rw [e3]
              rcases Nat.lt_or_ge i (cd_n (cd_R h) 70) with hlt | hge
              · left
                refine ⟨hlt, ?_⟩
                obtain ⟨k2, e2, s2, f2⟩ := cd_moveTo (cd_r9_all _ (cd_r4_7 cd_is_4).lt (cd_r4_7 cd_is_4) i (by omega)) (hS.2.2.2.1 i (by omega)) (m1.2.2.2.2.2.1 i (by omega)).2.2.2.2.2.1.1 (t := t) (p := p) (by omega) (by omega) htp
                rw [if_neg (by rw [cd_le (by omega) (by omega)]; omega), cd_ckI (by omega) (by omega), cd_cl (by omega), e2, cd_bS, cd_nmE2, cd_addL]
                refine ⟨_, ⟨rfl, ?_, hfr.tr (f2.wide (by omega) (by omega))⟩, rfl⟩
                exact hS.grp m1 (by omega) (fun j _ hj => (cd_mvG_ok (m1.2.2.2.2.2.1 i (by omega)) (by omega) (by omega) m1.m426 (by omega) (by omega) htp).2 j (by omega)) f2 s2
              · right
                obtain rfl : i = cd_n (cd_R h) 70 := by omega
                rw [if_pos (by rw [cd_le (by omega) (by omega)]; omega)]
                exact ⟨_, rfl, hS, hfr⟩
            obtain ⟨o, eo, so, fo⟩ := hloop
            rw [eo, cd_bS]
            exact ⟨_, rfl, so, fo.wide (by omega) (by omega)⟩)
          (fun o1 hr _ => by
            rw [cd_taskAt, cd_addL, cd_ckI (by omega) (by omega), cd_cl (by omega), cd_nmE2, cd_ckI (by omega) (by omega), cd_cl (by omega), cd_nmE2]
            have ep : cd_g o1 405 (10 + 10 * t) = nI p := by rw [← hp]; exact (hr _ (by omega)).trans hpar.1.1
            rw [ep]
            have hloop : ∃ o, cd_lp (f_X8_exits_B58 (nI t) (nI p)) cd_fu (0, cd_u o1 405 (10 + 10 * t + 1) 1) = some o ∧ (∀ k, k < 659 → cd_R o.2 k = cd_mvGs (cd_up (cd_R h) (11 + 10 * t) (nI 1)) t p (cd_n (cd_R h) 70) k) ∧ cd_frR o1 o.2 := by
              refine cd_for (cd_n (cd_R h) 70) (fun i (st : Int32 × cd_Hp) => st.1 = nI i ∧ (∀ k, k < 659 → cd_R st.2 k = cd_mvGs (cd_up (cd_R h) (11 + 10 * t) (nI 1)) t p i k) ∧ cd_frR o1 st.2) _ ?_ cd_fu 0 (0, cd_u o1 405 (10 + 10 * t + 1) 1) (Nat.zero_le _) (by unfold cd_fu; omega) ⟨rfl, by rw [show 10 + 10 * t + 1 = 11 + 10 * t by omega]; exact cd_R_up hr, cd_frR.u (by omega)⟩
              rintro i ⟨v, k1⟩ K hi ⟨hv, hR, hfr⟩
              dsimp only at hv hR hfr
              subst hv
              obtain ⟨m1, m2, m3⟩ := cd_mvGs_ok A1ok' (t := t) (p := p) (by omega) (by omega) htp i (by omega)
              have e3 : cd_g k1 405 70 = nI (cd_n (cd_R h) 70) := by have := hR 70 (by omega); dsimp only [cd_R] at this; rw [this, ← e70, ← m3]; exact m1.2.2.2.2.1.1
              unfold f_X8_exits_B58
              dsimp only
              rw [cd_c70, e3]
              rcases Nat.lt_or_ge i (cd_n (cd_R h) 70) with hlt | hge
              · left
                refine ⟨hlt, ?_⟩
                obtain ⟨h2, h3, q1, q2, o, q3, q4, q5⟩ := cd_exits8 m1 (g := i) (by omega) hR (t := t) (p := p) (by omega) (by omega) htp
                rw [if_neg (by rw [cd_le (by omega) (by omega)]; omega), cd_groupAt, cd_nmE2, q1, cd_bS, q2, cd_bS, q3, cd_bS, cd_nmE2, cd_addL]
                exact ⟨(nI (i + 1), o.2), ⟨rfl, q4, hfr.tr q5⟩, rfl⟩
              · right
                obtain rfl : i = cd_n (cd_R h) 70 := by omega
                rw [if_pos (by rw [cd_le (by omega) (by omega)]; omega)]
                exact ⟨_, rfl, hR, hfr⟩
            obtain ⟨o, eo, so, fo⟩ := hloop
            rw [eo, cd_bS]
            exact ⟨_, rfl, so, fo⟩)
        refine ⟨_, k1, k2, e1, ?_, hI3⟩
        have hr1 : ∀ k, k < 659 → cd_R k1 k = cd_R h k := fun k _ => l1 _ _ (by omega)
        unfold f_X8_exits
        rw [w8 k1 hr1, if_neg (by decide), if_neg htz, (cd_canEnd8 hr1 hO rfl ht).1 hc, cd_bS, if_neg (by decide)]
        rw [cd_taskAt, cd_addL] at e2 ⊢
        simp (disch := omega) only [cd_ckI, cd_nmE2, cd_cl] at e2 ⊢
        rw [← e2]
        rcases f_X8_remembers k1 with _ | o
        · rfl
        · simp only [cd_bS]
          rcases cd_lp (f_X8_exits_B58 (nI t) (cd_g o 405 (10 + 10 * t))) cd_fu (0, cd_u o 405 (10 + 10 * t + 1) 1) with _ | o'
          · rfl
          · rfl
      · have hc' : cd_R h (11 + 10 * t) = 1 ∨ ∃ u, t < u ∧ u < cd_n (cd_R h) 9 ∧ cd_opn (cd_R h) t u := by
          by_cases z : cd_R h (11 + 10 * t) = 1
          · exact Or.inl z
          · by_cases z2 : ∃ u, t < u ∧ u < cd_n (cd_R h) 9 ∧ cd_opn (cd_R h) t u
            · exact Or.inr z2
            · exact absurd ⟨z, z2⟩ hc
        obtain ⟨h1, e1, er, hI3⟩ := cd_S_no hI hn (F := fun o => f_X4_endTask 4 (nI t) o) (i := 1) (r := -3) (by omega) (by decide) (fun h1 hs1 _ => by
          unfold f_X4_endTask
          rw [w0 h1 hs1, if_neg (by decide), if_neg htz, cd_hasEnded5 hs1.2.2.1 (by omega), cd_bS]
          rcases hc' with z | z
          · rw [if_pos z, if_neg (by decide)]
          · by_cases z1 : cd_R h (11 + 10 * t) = 1
            · rw [if_pos z1, if_neg (by decide)]
            · rw [if_neg z1, if_pos rfl, (cd_openChild hs1.2.2.1 hT.1.1.1 h9 ht).1 z, cd_bS, if_neg (by decide)])
        refine ⟨_, h1, _, e1, ?_, hI3⟩
        unfold f_X8_exits
        rw [w8 h1 (fun k _ => er k), if_neg (by decide), if_neg htz, (cd_canEnd8 (fun k _ => er k) hO rfl ht).2 hc', cd_bS, if_pos rfl, cd_no8]
        rfl
  · obtain ⟨h1, e1, er, hI3⟩ := cd_S_no hI hn (F := fun o => f_X4_endTask 4 a1 o) (i := 0) (r := -2) (by omega) (by decide) (fun h1 hs1 _ => by
      unfold f_X4_endTask
      rw [cd_has5 hs1 hT, if_neg hv, if_pos rfl])
    refine ⟨_, h1, _, e1, ?_, hI3⟩
    unfold f_X8_exits
    rw [cd_isTask8 (fun k _ => er k) hT, if_neg hv, if_pos rfl, cd_bad8]
    rfl
