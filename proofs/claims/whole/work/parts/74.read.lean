-- the class reads a byte
theorem cd_readByte {i c : Nat} {P : cd_PS} {h : cd_Hp} (hw : cd_WF i P) (hi : i < 120) (hc : c < 128) (x : cd_XC P h) :
    (∀ P', cd_st c P = some P' → ∃ h', f_X6_readByte 398 (nI c) h = some (1, h') ∧ cd_XC P' h' ∧ cd_frX h h') ∧ (cd_st c P = none → ∃ h', f_X6_readByte 398 (nI c) h = some (0, h') ∧ cd_frX h h') := by
  obtain ⟨⟨no, lt, fg⟩, LT, SZ, NB⟩ := P
  obtain ⟨w1, w2, w3, w4, w5, w6⟩ := hw
  obtain ⟨x1, x2, x3, x4⟩ := x
  dsimp only at w1 w2 w3 w4 w5 w6 x1 x2 x3 x4
  obtain ⟨m1, m2, -⟩ := cd_mo6 c hc
  generalize hS : cd_st c ((no, lt, fg), LT, SZ, NB) = S
  unfold cd_st at hS
  dsimp only at hS
  unfold f_X6_readByte
  by_cases c32 : c = 32
  · rw [if_pos c32] at hS
    rw [if_pos (by rw [c32]; rfl), cd_nmE2]
    subst hS
    refine ⟨fun P' hP => ?_, fun z => by cases z⟩
    obtain rfl := Option.some.inj hP
    refine ⟨_, rfl, ⟨?_, ?_, cd_gE rfl rfl, fun k hk => ?_⟩, cd_frX.u (by omega)⟩
    · rw [cd_gN (by omega)]; exact x1
    · rw [cd_gN (by omega)]; exact x2
    · obtain ⟨y1, y2, y3⟩ := x4 k hk
      refine ⟨by rw [cd_gN (by omega)]; exact y1, by rw [cd_gN (by omega)]; exact y2, fun j hj => by rw [cd_gN (by omega)]; exact y3 j hj⟩
  · rw [if_neg c32] at hS
    rw [if_neg (by rw [cd_eqL (by omega) (by omega)]; exact c32), x2]
    by_cases l0 : lt = 0
    · obtain ⟨v1, v2, v3⟩ := w1 l0
      rw [if_pos l0] at hS
      rw [if_pos (by rw [l0]; rfl)]
      unfold f_X6_readLetter
      rw [m1]
      by_cases m0 : cd_mo c = 0
      · rw [if_pos m0] at hS
        rw [if_pos (by rw [m0]; rfl), cd_bS]
        subst hS
        exact ⟨fun P' hP => (by cases hP), fun _ => ⟨h, rfl, cd_frX.rf⟩⟩
      · have mo8 := (cd_mo_facts c).1
        rw [if_neg m0] at hS
        rw [if_neg (by rw [cd_eqL (by omega) (by omega)]; exact m0), x1, if_pos (by rw [cd_ltL (by omega) (by omega)]; omega), cd_nmE2, cd_gN (by omega), x1, cd_ckI (by omega) (by omega), cd_cl (by omega), cd_nmE2, cd_gN (by omega), cd_gN (by omega), x1, cd_ckI (by omega) (by omega), cd_cl (by omega), cd_nmE2, cd_bS]
        subst hS
        refine ⟨fun P' hP => ?_, fun z => by cases z⟩
        obtain rfl := Option.some.inj hP
        refine ⟨_, rfl, ⟨?_, ?_, ?_, fun k hk => ?_⟩, (cd_frX.u (by omega)).tr ((cd_frX.u (by omega)).tr (cd_frX.u (by omega)))⟩
        · rw [cd_gN (by omega), cd_gN (by omega), cd_gN (by omega)]; exact x1
        · rw [cd_gN (by omega), cd_gN (by omega), cd_gE rfl rfl]
        · rw [cd_gN (by omega), cd_gN (by omega), cd_gN (by omega)]; exact x3
        · dsimp only at hk ⊢
          by_cases z : k = no
          · subst z
            refine ⟨by rw [cd_gN (by omega), cd_gE rfl rfl, cd_unE rfl], by rw [cd_gE rfl rfl, cd_unE rfl]; rfl, fun j hj => ?_⟩
            rw [cd_unE rfl] at hj
            exact absurd hj (Nat.not_lt_zero _)
          · obtain ⟨y1, y2, y3⟩ := x4 k (by omega)
            refine ⟨by rw [cd_gN (by omega), cd_gN (by omega), cd_gN (by omega), cd_unN z]; exact y1, by rw [cd_gN (by omega), cd_gN (by omega), cd_gN (by omega), cd_unN z]; exact y2, fun j hj => ?_⟩
            rw [cd_unN z] at hj
            rw [cd_gN (by omega), cd_gN (by omega), cd_gN (by omega)]; exact y3 j hj
    · obtain ⟨v1, v2, v3, v4, v5⟩ := w2 l0
      obtain ⟨mo8, ls8, mo3⟩ := cd_mo_facts lt
      have lt128 : lt < 128 := by rcases (mo3 v3).2 with z | z | z | z | z <;> omega
      obtain ⟨n1, n2, -⟩ := cd_mo6 lt lt128
      obtain ⟨y1, y2, y3⟩ := x4 no (Or.inr ⟨rfl, l0⟩)
      rw [if_neg l0] at hS
      rw [if_neg (by rw [cd_eqL (by omega) (by omega)]; exact l0)]
      by_cases cd : 48 ≤ c ∧ c ≤ 57
      · have wi : f_X7_isWithin (nI c) 48 57 = 1 := cd_in7t (a := 48) (b := 57) cd.1 cd.2 (by omega)
        rw [if_pos cd] at hS
        rw [wi, if_neg (show ¬ (1 : Int32) = 0 by decide), cd_subL (by omega)]
        unfold f_X6_readFigure
        rw [x3]
        by_cases f0 : fg = 0
        · rw [if_pos f0] at hS
          rw [if_pos (by rw [f0]; rfl)]
          unfold f_X6_readFirstFigure
          rw [x1, cd_ckI (by omega) (by omega), cd_cl (by omega), y2, x2, n1]
          by_cases hm : SZ no < cd_mo lt
          · rw [if_pos hm] at hS
            rw [if_pos (by rw [cd_lt (by omega) (by omega)]; exact hm), cd_ckI (by omega) (by omega), cd_mulL, nI_add, cd_ckI (by omega) (by omega), cd_cl (by omega), cd_nmE2, cd_gN (by omega), x1, cd_ckI (by omega) (by omega), cd_ckI (by omega) (by omega), cd_cl (by omega), cd_gN (by omega), y2, cd_addL, cd_nmE2, cd_nmE2, cd_bS, cd_bS, show no * 8 + SZ no = 8 * no + SZ no by omega]
            subst hS
            refine ⟨fun P' hP => ?_, fun z => by cases z⟩
            obtain rfl := Option.some.inj hP
            refine ⟨_, rfl, ⟨?_, ?_, cd_gE rfl rfl, fun k hk => ?_⟩, (cd_frX.u (by omega)).tr ((cd_frX.u (by omega)).tr (cd_frX.u (by omega)))⟩
            · rw [cd_gN (by omega), cd_gN (by omega), cd_gN (by omega)]; exact x1
            · rw [cd_gN (by omega), cd_gN (by omega), cd_gN (by omega)]; exact x2
            · dsimp only at hk ⊢
              by_cases z : k = no
              · subst z
                refine ⟨by rw [cd_gN (by omega), cd_gN (by omega), cd_gN (by omega)]; exact y1, by rw [cd_gN (by omega), cd_gE rfl rfl, cd_unE rfl], fun j hj => ?_⟩
                rw [cd_unE rfl] at hj
                rw [cd_gN (by omega), cd_gN (by omega)]
                by_cases zj : j = SZ k
                · subst zj; rw [cd_gE rfl rfl, cd_unE rfl]
                · rw [cd_gN (by omega), cd_unN (by omega)]; exact y3 j (by omega)
              · obtain ⟨u1, u2, u3⟩ := x4 k (by omega)
                have s8 : SZ k ≤ 8 := Nat.le_trans (w5 k (by omega)).2.2 (cd_mo_facts _).1
                refine ⟨by rw [cd_gN (by omega), cd_gN (by omega), cd_gN (by omega)]; exact u1, by rw [cd_gN (by omega), cd_gN (by omega), cd_gN (by omega), cd_unN z]; exact u2, fun j hj => ?_⟩
                rw [cd_unN z] at hj
                rw [cd_gN (by omega), cd_gN (by omega), cd_gN (by omega), cd_unN (by omega)]; exact u3 j hj
          · rw [if_neg hm] at hS
            rw [if_neg (by rw [cd_lt (by omega) (by omega)]; exact hm), cd_bS, cd_bS]
            subst hS
            exact ⟨fun P' hP => (by cases hP), fun _ => ⟨h, rfl, cd_frX.rf⟩⟩
        · rw [if_neg f0] at hS
          rw [if_neg (by rw [cd_eqL (by omega) (by omega)]; exact f0)]
          by_cases f3 : fg < 3
          · obtain ⟨u1, u2⟩ := w3 f0
            have p3 := cd_p10 fg w4
            have en : cd_g h 402 (8 * no + SZ no - 1) = nI (NB (8 * no + SZ no - 1)) := by
              have := y3 (SZ no - 1) (by omega)
              rw [show 8 * no + (SZ no - 1) = 8 * no + SZ no - 1 by omega] at this
              exact this
            rw [if_pos f3] at hS
            rw [if_pos (by rw [cd_ltL (by omega) (by omega)]; exact f3), x1, cd_ckI (by omega) (by omega), cd_cl (by omega), y2, cd_mulL, nI_add, cd_subL (by omega), cd_nmE2, cd_ckI (by omega) (by omega), cd_ckI (by omega) (by omega), cd_cl (by omega), show no * 8 + SZ no - 1 = 8 * no + SZ no - 1 by omega, en, cd_mulR, nI_add, cd_nmE2, cd_gN (by omega), x3, cd_addL, cd_nmE2, cd_bS]
            subst hS
            refine ⟨fun P' hP => ?_, fun z => by cases z⟩
            obtain rfl := Option.some.inj hP
            refine ⟨_, rfl, ⟨?_, ?_, cd_gE rfl rfl, fun k hk => ?_⟩, (cd_frX.u (by omega)).tr (cd_frX.u (by omega))⟩
            · rw [cd_gN (by omega), cd_gN (by omega)]; exact x1
            · rw [cd_gN (by omega), cd_gN (by omega)]; exact x2
            · dsimp only at hk ⊢
              obtain ⟨q1, q2, q3⟩ := x4 k hk
              refine ⟨by rw [cd_gN (by omega), cd_gN (by omega)]; exact q1, by rw [cd_gN (by omega), cd_gN (by omega)]; exact q2, fun j hj => ?_⟩
              rw [cd_gN (by omega)]
              by_cases z : 8 * k + j = 8 * no + SZ no - 1
              · rw [z, cd_gE rfl rfl, cd_unE rfl]
              · rw [cd_gN (by omega), cd_unN z]; exact q3 j hj
          · rw [if_neg f3] at hS
            rw [if_neg (by rw [cd_ltL (by omega) (by omega)]; exact f3), cd_bS]
            subst hS
            exact ⟨fun P' hP => (by cases hP), fun _ => ⟨h, rfl, cd_frX.rf⟩⟩
      · have wi : f_X7_isWithin (nI c) 48 57 = 0 := cd_in7f (a := 48) (b := 57) (by rintro ⟨v, z1, z2, z3⟩; rw [cd_eq (by omega) (by omega)] at z3; omega) (by omega) (by omega)
        rw [if_neg cd] at hS
        rw [wi, if_pos rfl]
        by_cases c59 : c = 59
        · rw [if_pos c59] at hS
          rw [if_pos (by rw [c59]; rfl)]
          unfold f_X6_readEnd
          rw [x1, cd_ckI (by omega) (by omega), x2, n2, cd_cl (by omega), y2]
          by_cases hl : cd_ls lt ≤ SZ no
          · rw [if_pos hl] at hS
            rw [if_pos (by rw [cd_le (by omega) (by omega)]; exact hl), cd_addL, cd_nmE2, cd_nmE2, cd_nmE2, cd_bS, if_neg (show ¬ (1 : Int32) = 0 by decide)]
            subst hS
            refine ⟨fun P' hP => ?_, fun z => by cases z⟩
            obtain rfl := Option.some.inj hP
            refine ⟨_, rfl, ⟨?_, ?_, cd_gE rfl rfl, fun k hk => ?_⟩, (cd_frX.u (by omega)).tr ((cd_frX.u (by omega)).tr (cd_frX.u (by omega)))⟩
            · rw [cd_gN (by omega), cd_gN (by omega), cd_gE rfl rfl]
            · rw [cd_gN (by omega), cd_gE rfl rfl]; rfl
            · dsimp only at hk ⊢
              obtain ⟨q1, q2, q3⟩ := x4 k (by omega)
              refine ⟨by rw [cd_gN (by omega), cd_gN (by omega), cd_gN (by omega)]; exact q1, by rw [cd_gN (by omega), cd_gN (by omega), cd_gN (by omega)]; exact q2, fun j hj => ?_⟩
              rw [cd_gN (by omega), cd_gN (by omega), cd_gN (by omega)]; exact q3 j hj
          · rw [if_neg hl] at hS
            rw [if_neg (by rw [cd_le (by omega) (by omega)]; exact hl), cd_bS, if_pos rfl]
            subst hS
            exact ⟨fun P' hP => (by cases hP), fun _ => ⟨h, rfl, cd_frX.rf⟩⟩
        · rw [if_neg c59] at hS
          rw [if_neg (by rw [cd_eqL (by omega) (by omega)]; exact c59)]
          subst hS
          exact ⟨fun P' hP => (by cases hP), fun _ => ⟨h, rfl, cd_frX.rf⟩⟩
/-- what reading comes to: a fault at f, or all read -/
def cd_Fa (X : Nat → Nat) (L f : Nat) : Prop := (f < L ∧ (∃ P, cd_xr X f = some P) ∧ cd_xr X (f + 1) = none) ∨ (f = L ∧ ∃ P, cd_xr X L = some P ∧ (P.1.2.1 ≠ 0 ∨ P.1.1 = 0))
theorem cd_readC {X : Nat → Nat} {L : Nat} {h : cd_Hp} (hX : ∀ i, X i < 128) (hL : L ≤ 120) (e0 : cd_g h 398 0 = nI L) (eX : ∀ i, i < L → cd_g h 399 i = nI (X i)) :
    (∃ f h', cd_Fa X L f ∧ f_X6_readOrders 398 h = some (nI f, h') ∧ cd_frX h h') ∨ (∃ P h', cd_xr X L = some P ∧ P.1.2.1 = 0 ∧ P.1.1 ≠ 0 ∧ f_X6_readOrders 398 h = some (-1, h') ∧ cd_XC P h' ∧ cd_frX h h') := by
  unfold f_X6_readOrders
  rw [cd_nmE2, cd_nmE2, cd_nmE2]
  have f0 : cd_frX h (cd_u (cd_u (cd_u h 398 1 0) 398 6 0) 398 7 0) := (cd_frX.u (by omega)).tr ((cd_frX.u (by omega)).tr (cd_frX.u (by omega)))
  have x0 : cd_XC cd_xz (cd_u (cd_u (cd_u h 398 1 0) 398 6 0) 398 7 0) := by
    refine ⟨?_, ?_, cd_gE rfl rfl, fun k hk => ?_⟩
    · rw [cd_gN (by omega), cd_gN (by omega), cd_gE rfl rfl]; rfl
    · rw [cd_gN (by omega), cd_gE rfl rfl]; rfl
    · rcases hk with z | z
      · exact absurd z (Nat.not_lt_zero _)
      · exact absurd rfl z.2
  generalize cd_u (cd_u (cd_u h 398 1 0) 398 6 0) 398 7 0 = h0 at f0 x0 ⊢
  have hloop : ∃ o, cd_lp (f_X6_readOrders_B17 398) cd_fu (0, h0) = some o ∧ ((∃ f h', f < L ∧ (∃ P, cd_xr X f = some P) ∧ cd_xr X (f + 1) = none ∧ o = .inl (nI f, h') ∧ cd_frX h h') ∨ (∃ P v h', cd_xr X L = some P ∧ o = .inr (v, h') ∧ cd_XC P h' ∧ cd_frX h h')) := by
    refine cd_for L (fun i (st : Int32 × cd_Hp) => st.1 = nI i ∧ ∃ P, cd_xr X i = some P ∧ cd_XC P st.2 ∧ cd_frX h st.2) _ ?_ cd_fu 0 (0, h0) (Nat.zero_le _) (by unfold cd_fu; omega) ⟨rfl, cd_xz, rfl, x0, f0⟩
    rintro i ⟨v0, k1⟩ K hi ⟨hv0, P, hP, xP, f1⟩
    dsimp only at hv0 xP f1
    subst hv0
    unfold f_X6_readOrders_B17
    dsimp only
    rw [f1 398 0 (by omega), e0]
    rcases Nat.lt_or_ge i L with hlt | hge
    · rw [if_neg (by rw [cd_le (by omega) (by omega)]; omega), cd_ckI (by omega) (by omega), cd_cl (by omega), f1 399 i (by omega), eX i hlt]
      obtain ⟨r1, r2⟩ := cd_readByte (cd_xr_wf hX i P hP) (by omega) (hX i) xP
      cases hs : cd_st (X i) P with
      | none =>
        right
        obtain ⟨h', e', f'⟩ := r2 hs
        rw [e', cd_bS, if_pos rfl]
        exact ⟨_, rfl, Or.inl ⟨i, h', hlt, ⟨P, hP⟩, by rw [cd_xrS hP]; exact hs, rfl, f1.tr f'⟩⟩
      | some P' =>
        left
        obtain ⟨h', e', x', f'⟩ := r1 P' hs
        rw [e', cd_bS, if_neg (show ¬ (1 : Int32) = 0 by decide), cd_nmE2, cd_addL]
        exact ⟨hlt, _, ⟨rfl, P', by rw [cd_xrS hP]; exact hs, x', f1.tr f'⟩, rfl⟩
    · right
      obtain rfl : i = L := by omega
      rw [if_pos (by rw [cd_le (by omega) (by omega)]; omega)]
      exact ⟨_, rfl, Or.inr ⟨P, _, _, hP, rfl, xP, f1⟩⟩
  obtain ⟨o, eo, ho⟩ := hloop
  rw [eo]
  rcases ho with ⟨f, h', z1, z2, z3, rfl, z4⟩ | ⟨P, v, h', z1, rfl, z2, z3⟩
  · rw [cd_b2L]
    exact Or.inl ⟨f, h', Or.inl ⟨z1, z2, z3⟩, rfl, z4⟩
  · rw [cd_b2R]
    have hw := cd_xr_wf hX L P z1
    obtain ⟨y1, y2, y3, y4⟩ := z2
    dsimp only
    rw [y2, y1, z3 398 0 (by omega), e0]
    by_cases l0 : P.1.2.1 = 0
    · have := hw.1 l0
      rw [if_pos (by rw [l0]; rfl)]
      by_cases n0 : P.1.1 = 0
      · rw [if_pos (by rw [n0]; rfl)]
        exact Or.inl ⟨L, h', Or.inr ⟨rfl, P, z1, Or.inr n0⟩, rfl, z3⟩
      · rw [if_neg (by rw [cd_eqL (by omega) (by omega)]; exact n0)]
        exact Or.inr ⟨P, h', z1, l0, n0, rfl, ⟨y1, y2, y3, y4⟩, z3⟩
    · have := hw.2.1 l0
      have lt128 : P.1.2.1 < 128 := by rcases ((cd_mo_facts P.1.2.1).2.2 this.2.2.1).2 with z | z | z | z | z <;> omega
      rw [if_neg (by rw [cd_eqL (by omega) (by omega)]; exact l0)]
      exact Or.inl ⟨L, h', Or.inr ⟨rfl, P, z1, Or.inl l0⟩, rfl, z3⟩
