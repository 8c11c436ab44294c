-- an order
def cd_tailO (x4 M : Int32) (h8 : cd_Hp) : Option (Int32 × cd_Hp) := cd_b (f_X8_blanks h8) (fun o10 => cd_b2 (cd_lp (f_X8_takesOrder_B68 x4 M) cd_fu (0, o10)) (fun st24 => if st24.1 < x4 then (cd_nm (f_X8_fails (cd_g st24.2 404 15) st24.2) (fun o26 => some ((o26.1, o26.2)))) else (cd_b (f_X8_isAt 59 59 st24.2) (fun o28 => if o28 = 0 then (cd_nm (f_X8_fails (cd_g st24.2 404 15) st24.2) (fun o36 => some ((o36.1, o36.2)))) else (cd_nm (cd_u st24.2 404 15 ((cd_g st24.2 404 15) + 1)) (fun h31 => cd_nm (cd_u h31 404 14 ((cd_g h31 404 14) + 1)) (fun h32 => cd_ck (cd_ix ((cd_g h32 404 14) - 1) 61) (cd_ck (cd_ix (cd_g h32 404 14) 61) (cd_nm (cd_u h32 414 ((cd_g h32 404 14).toNatClampNeg) ((cd_g h32 414 (((cd_g h32 404 14) - 1).toNatClampNeg)) + st24.1)) (fun h35 => some ((1, h35))))))))))))
section
variable {X : Nat → Nat} {L : Nat}
/-- in an order, behind k numbers and blanks -/
def cd_Oi (X : Nat → Nat) (L no c k : Nat) (h0 h : cd_Hp) : Prop := ∃ i P, i ≤ L ∧ cd_xr X i = some P ∧ P.1.1 = no ∧ P.1.2.1 = c ∧ P.2.2.1 no = k ∧ (i = L ∨ X i ≠ 32) ∧ (i < L → 48 ≤ X i ∧ X i ≤ 57 → P.1.2.2 = 0) ∧ cd_XR P i h ∧ cd_frY h0 h
theorem cd_takeNs {no c : Nat} {a : Int32} {h0 h : cd_Hp} (hX : ∀ i, X i < 128) (hL : L ≤ 120) (t : cd_XT X L h0) (c0 : c ≠ 0) (hO : cd_Oi X L no c 0 h0 h) :
    ∃ o, cd_lp (f_X8_takesOrder_B68 a (nI (cd_mo c))) cd_fu (0, h) = some o ∧ ((∃ f h', cd_Fa X L f ∧ o = .inl (0, h') ∧ cd_g h' 404 16 = nI f ∧ cd_frY h0 h') ∨ ∃ k h', k ≤ cd_mo c ∧ o = .inr (nI k, h') ∧ cd_Oi X L no c k h0 h' ∧ (k = cd_mo c ∨ ∀ i, cd_g h' 404 15 = nI i → i < L → ¬ (48 ≤ X i ∧ X i ≤ 57))) := by
  have mo8 := (cd_mo_facts c).1
  refine cd_for (cd_mo c) (fun k (st : Int32 × cd_Hp) => st.1 = nI k ∧ cd_Oi X L no c k h0 st.2) _ ?_ cd_fu 0 (0, h) (Nat.zero_le _) (by unfold cd_fu; omega) ⟨rfl, hO⟩
  rintro k ⟨v0, k1⟩ K hk ⟨hv0, hO1⟩
  dsimp only at hv0 hO1
  subst hv0
  obtain ⟨i, P, o1, o2, o3, o4, o5, o6, o7, o8, o9⟩ := id hO1
  unfold f_X8_takesOrder_B68
  dsimp only
  have t1 := t.kept o9
  have ia := cd_isAt (a := 48) (b := 57) hX hL t1 o8.1 o1 (by omega) (by omega)
  rw [show f_X8_isAt 48 57 k1 = _ from ia, cd_bS]
  by_cases z : i < L ∧ 48 ≤ X i ∧ X i ≤ 57
  · rw [if_pos z, if_neg (show ¬ (1 : Int32) = 0 by decide)]
    rcases Nat.lt_or_ge k (cd_mo c) with hlt | hge
    · have hw := cd_xr_wf hX i P o2
      have lt0 : P.1.2.1 ≠ 0 := by rw [o4]; exact c0
      obtain ⟨v1, v2, v3, v4, v5⟩ := hw.2.1 lt0
      obtain ⟨x1, x2, x3, x4, x5⟩ := id o8
      rw [if_neg (by rw [cd_le (by omega) (by omega)]; omega), x2, cd_ckI (by omega) (by omega), cd_cl (by omega), x4 _ (Nat.le_refl _), nI_add]
      have e5 : P.2.2.1 P.1.1 = k := by rw [o3]; exact o5
      have hN := cd_takesN hX hL t1 z.1 z.2 o2 lt0 (o7 z.1 z.2) (by rw [e5, o4]; exact hlt) o8
      rw [e5] at hN
      rcases hN with ⟨f, h', q1, q2, q3, q4⟩ | ⟨d, v, h', q1, q2, q3, q4, q5, q6, q7⟩
      · right
        rw [q2, cd_bS, if_pos rfl]
        exact ⟨_, rfl, Or.inl ⟨f, h', q1, rfl, q3, o9.tr q4⟩⟩
      · left
        obtain ⟨j, h2, b1, b2, b3, b4, b5, b6⟩ := cd_blanks hX hL (t1.kept q7) q2 q4 q6
        rw [q3, cd_bS, if_neg (show ¬ (1 : Int32) = 0 by decide), cd_nmE2, cd_addL, b1, cd_bS]
        obtain ⟨p1, p2, p3, p4⟩ := cd_Pb_eq (P := cd_Pn P d v) (j := j)
        refine ⟨hlt, (nI (k + 1), h2), ⟨rfl, i + d + j, _, b2, b3, ?_, ?_, ?_, b4, fun w1 w2 => ?_, b5, (o9.tr q7).tr b6⟩, rfl⟩
        · rw [p1]; exact o3
        · rw [p2]; exact o4
        · rw [p3]
          show cd_un P.2.2.1 P.1.1 (P.2.2.1 P.1.1 + 1) no = _
          rw [cd_unE o3.symm, e5]
        · by_cases j0 : j = 0
          · rw [j0, Nat.add_zero] at w1 w2
            rcases q5 with q5 | q5
            · omega
            · exact absurd w2 q5
          · exact p4 (by omega)
    · right
      rw [if_pos (by rw [cd_le (by omega) (by omega)]; omega)]
      exact ⟨_, rfl, Or.inr ⟨k, k1, hk, rfl, hO1, Or.inl (by omega)⟩⟩
  · right
    rw [if_neg z, if_pos rfl]
    refine ⟨_, rfl, Or.inr ⟨k, k1, hk, rfl, hO1, Or.inr fun i' e' w1 w2 => ?_⟩⟩
    have : i' = i := by
      have e8 := o8.1
      rw [e'] at e8
      exact (cd_eq (by omega) (by omega)).mp e8
    subst this
    exact z ⟨w1, w2⟩
theorem cd_tailOk {c no i : Nat} {P : cd_PS} {h : cd_Hp} (hX : ∀ i, X i < 128) (hL : L ≤ 120) (t : cd_XT X L h) (c0 : cd_mo c ≠ 0) (hi : i ≤ L) (hP : cd_xr X i = some P) (e1 : P.1.1 = no) (e2 : P.1.2.1 = c) (e3 : P.2.2.1 no = 0) (e4 : P.1.2.2 = 0) (x : cd_XR P i h) :
    (∃ f h', cd_Fa X L f ∧ cd_tailO (nI (cd_ls c)) (nI (cd_mo c)) h = some (0, h') ∧ cd_g h' 404 16 = nI f ∧ cd_frY h h') ∨
    ∃ i' P' h', cd_tailO (nI (cd_ls c)) (nI (cd_mo c)) h = some (1, h') ∧ i' ≤ L ∧ cd_xr X i' = some P' ∧ P'.1.1 = no + 1 ∧ P'.1.2.1 = 0 ∧ cd_XR P' i' h' ∧ cd_frY h h' := by
  obtain ⟨mo8, lsm, mo3⟩ := cd_mo_facts c
  obtain ⟨ls1, cs⟩ := mo3 c0
  have cn0 : c ≠ 0 := by omega
  unfold cd_tailO
  obtain ⟨j, h2, b1, b2, b3, b4, b5, b6⟩ := cd_blanks hX hL t hi hP x
  obtain ⟨p1, p2, p3, p4⟩ := cd_Pb_eq (P := P) (j := j)
  have hO : cd_Oi X L no c 0 h h2 := by
    refine ⟨i + j, _, b2, b3, by rw [p1]; exact e1, by rw [p2]; exact e2, by rw [p3]; exact e3, b4, fun _ _ => ?_, b5, b6⟩
    by_cases j0 : j = 0
    · rw [j0]; exact e4
    · exact p4 (by omega)
  obtain ⟨o, eo, ho⟩ := cd_takeNs (a := nI (cd_ls c)) hX hL t cn0 hO
  rw [b1, cd_bS, eo]
  rcases ho with ⟨f, h', q1, rfl, q2, q3⟩ | ⟨k, h', k1, rfl, hO2, k3⟩
  · rw [cd_b2L]
    exact Or.inl ⟨f, h', q1, rfl, q2, q3⟩
  · rw [cd_b2R]
    obtain ⟨i2, P2, o1, o2, o3, o4, o5, o6, o7, o8, o9⟩ := hO2
    have hw := cd_xr_wf hX i2 P2 o2
    have lt0 : P2.1.2.1 ≠ 0 := by rw [o4]; exact cn0
    obtain ⟨v1, v2, v3, v4, v5⟩ := hw.2.1 lt0
    obtain ⟨x1, x2, x3, x4, x5⟩ := id o8
    have t2 := t.kept o9
    -- a fault here
    have fault : ¬ (i2 < L ∧ X i2 = 59 ∧ cd_ls c ≤ k) → cd_Fa X L i2 := by
      intro nf
      rcases Nat.lt_or_ge i2 L with z | z
      · left
        refine ⟨z, ⟨P2, o2⟩, ?_⟩
        rw [cd_xrS o2]
        have x32 : X i2 ≠ 32 := by omega
        unfold cd_st
        rw [if_neg x32, if_neg lt0, o3, o4, o5]
        by_cases dg : 48 ≤ X i2 ∧ X i2 ≤ 57
        · have km : k = cd_mo c := by
            rcases k3 with w | w
            · exact w
            · exact absurd dg (w i2 x1 z)
          rw [if_pos dg, if_pos (o7 z dg), if_neg (by omega)]
        · rw [if_neg dg]
          by_cases e59 : X i2 = 59
          · rw [if_pos e59, if_neg (by omega)]
          · rw [if_neg e59]
      · right
        exact ⟨by omega, P2, by rw [show L = i2 by omega]; exact o2, Or.inl lt0⟩
    have fails : ∀ r : Int32 × cd_Hp, ¬ (i2 < L ∧ X i2 = 59 ∧ cd_ls c ≤ k) → ∃ f h'', cd_Fa X L f ∧ cd_nm (f_X8_fails (cd_g h' 404 15) h') (fun o26 => some ((o26.1, o26.2))) = some (0, h'') ∧ cd_g h'' 404 16 = nI f ∧ cd_frY h h'' := by
      intro _ nf
      unfold f_X8_fails
      rw [x1, cd_nmE2, cd_nmE2]
      exact ⟨i2, _, fault nf, rfl, cd_gE rfl rfl, o9.tr (cd_frY.u (by omega))⟩
    dsimp only
    by_cases kl : k < cd_ls c
    · rw [if_pos (by rw [cd_lt (by omega) (by omega)]; exact kl)]
      exact Or.inl (fails (0, h') (fun w => by omega))
    · rw [if_neg (by rw [cd_lt (by omega) (by omega)]; exact kl)]
      have ia := cd_isAt (a := 59) (b := 59) hX hL t2 x1 o1 (by omega) (by omega)
      rw [show f_X8_isAt 59 59 h' = _ from ia, cd_bS]
      by_cases z : i2 < L ∧ 59 ≤ X i2 ∧ X i2 ≤ 59
      · rw [if_pos z, if_neg (show ¬ (1 : Int32) = 0 by decide), x1, cd_addL, cd_nmE2, cd_gN (by omega), x2, cd_addL, cd_nmE2, cd_gE rfl rfl, cd_subL (by omega), cd_ckI (by omega) (by omega), cd_ckI (by omega) (by omega), cd_cl (by omega), cd_cl (by omega), cd_gN (by omega), cd_gN (by omega), show P2.1.1 + 1 - 1 = P2.1.1 by omega, x4 _ (Nat.le_refl _), nI_add, cd_nmE2]
        have st : cd_xr X (i2 + 1) = some ((P2.1.1 + 1, 0, 0), P2.2) := by
          rw [cd_xrS o2]
          unfold cd_st
          rw [if_neg (by omega), if_neg lt0, if_neg (by omega), if_pos (by omega), if_pos (by rw [o3, o4, o5]; omega)]
        refine Or.inr ⟨i2 + 1, _, _, rfl, by omega, st, by dsimp only; rw [o3], rfl, ⟨?_, ?_, fun k' hk' => ?_, fun k' hk' => ?_, fun k' hk' j' hj' => ?_⟩, o9.tr ((cd_frY.u (by omega)).tr ((cd_frY.u (by omega)).tr (cd_frY.u (by omega))))⟩
        · rw [cd_gN (by omega), cd_gN (by omega), cd_gE rfl rfl]
        · rw [cd_gN (by omega), cd_gE rfl rfl]
        · dsimp only at hk' ⊢
          rw [cd_gN (by omega), cd_gN (by omega), cd_gN (by omega)]
          exact x3 k' (by omega)
        · dsimp only at hk' ⊢
          by_cases zk : k' = P2.1.1 + 1
          · rw [zk, cd_gE rfl rfl]
            show _ = nI (cd_FR P2.2.2.1 P2.1.1 + P2.2.2.1 P2.1.1)
            rw [o3, o5]
          · rw [cd_gN (by omega), cd_gN (by omega), cd_gN (by omega)]
            exact x4 k' (by omega)
        · dsimp only at hk' hj' ⊢
          rw [cd_gN (by omega), cd_gN (by omega), cd_gN (by omega)]
          exact x5 k' (by omega) j' hj'
      · rw [if_neg z, if_pos rfl]
        exact Or.inl (fails (0, h') (fun w => z ⟨w.1, by omega, by omega⟩))
theorem cd_takesO {i : Nat} {P : cd_PS} {h : cd_Hp} (hX : ∀ i, X i < 128) (hL : L ≤ 120) (t : cd_XT X L h) (hi : i < L) (x32 : X i ≠ 32) (hP : cd_xr X i = some P) (l0 : P.1.2.1 = 0) (x : cd_XR P i h) :
    (∃ f h', cd_Fa X L f ∧ f_X8_takesOrder h = some (0, h') ∧ cd_g h' 404 16 = nI f ∧ cd_frY h h') ∨
    ∃ i' P' h', f_X8_takesOrder h = some (1, h') ∧ i' ≤ L ∧ cd_xr X i' = some P' ∧ P'.1.1 = P.1.1 + 1 ∧ P'.1.2.1 = 0 ∧ cd_XR P' i' h' ∧ cd_frY h h' := by
  have hw := cd_xr_wf hX i P hP
  obtain ⟨v1, v2, v3⟩ := hw.1 l0
  obtain ⟨x1, x2, x3, x4, x5⟩ := x
  have xc := hX i
  obtain ⟨-, -, m3⟩ := cd_mo6 (X i) xc
  obtain ⟨mo8, lsm, mo3⟩ := cd_mo_facts (X i)
  unfold f_X8_takesOrder
  rw [x1, cd_ckI (by omega) (by omega), cd_cl (by omega), t.2 i hi, cd_nmE2, m3, cd_nmE2]
  by_cases m0 : cd_mo (X i) = 0
  · rw [if_pos m0, if_neg (by decide)]
    unfold f_X8_fails
    rw [cd_nmE2, cd_nmE2]
    refine Or.inl ⟨i, _, Or.inl ⟨hi, ⟨P, hP⟩, ?_⟩, rfl, cd_gE rfl rfl, cd_frY.u (by omega)⟩
    rw [cd_xrS hP]
    unfold cd_st
    rw [if_neg x32, if_pos l0, if_pos m0]
  · obtain ⟨ls1, cs⟩ := mo3 m0
    rw [if_neg m0, if_pos (by rw [cd_leR (by omega) (by omega)]; omega), x2, cd_ckI (by omega) (by omega), cd_cl (by omega), cd_nmE2, cd_gN (by omega), x1, cd_addL, cd_nmE2]
    have st : cd_xr X (i + 1) = some ((P.1.1, X i, P.1.2.2), cd_un P.2.1 P.1.1 (X i), cd_un P.2.2.1 P.1.1 0, P.2.2.2) := by
      rw [cd_xrS hP]
      unfold cd_st
      rw [if_neg x32, if_pos l0, if_neg m0]
    have f1 : cd_frY h (cd_u (cd_u h 413 P.1.1 (nI (X i))) 404 15 (nI (i + 1))) := (cd_frY.u (by omega)).tr (cd_frY.u (by omega))
    have x' : cd_XR ((P.1.1, X i, P.1.2.2), cd_un P.2.1 P.1.1 (X i), cd_un P.2.2.1 P.1.1 0, P.2.2.2) (i + 1) (cd_u (cd_u h 413 P.1.1 (nI (X i))) 404 15 (nI (i + 1))) := by
      refine ⟨cd_gE rfl rfl, ?_, fun k hk => ?_, fun k hk => ?_, fun k hk j hj => ?_⟩
      · rw [cd_gN (by omega), cd_gN (by omega)]; exact x2
      · dsimp only at hk ⊢
        rw [cd_gN (by omega)]
        by_cases z : k = P.1.1
        · rw [z, cd_gE rfl rfl, cd_unE rfl]
        · rw [cd_gN (by omega), cd_unN z]; exact x3 k (by omega)
      · dsimp only at hk ⊢
        rw [cd_gN (by omega), cd_gN (by omega), cd_FR_congr (S := P.2.2.1) k (fun j hj => cd_unN (by omega))]; exact x4 k hk
      · dsimp only at hk hj ⊢
        by_cases z : k = P.1.1
        · rw [z, cd_unE rfl] at hj; exact absurd hj (Nat.not_lt_zero _)
        · rw [cd_unN z] at hj
          rw [cd_gN (by omega), cd_gN (by omega), cd_FR_congr (S := P.2.2.1) k (fun j hj => cd_unN (by omega))]
          exact x5 k (by omega) j hj
    have hT := cd_tailOk (no := P.1.1) hX hL (t.kept f1) m0 (by omega) st rfl rfl (cd_unE rfl) v3 x'
    have fin : ∀ Z : Option (Int32 × cd_Hp), Z = cd_tailO (nI (cd_ls (X i))) (nI (cd_mo (X i))) (cd_u (cd_u h 413 P.1.1 (nI (X i))) 404 15 (nI (i + 1))) → ((∃ f h', cd_Fa X L f ∧ Z = some (0, h') ∧ cd_g h' 404 16 = nI f ∧ cd_frY h h') ∨ ∃ i' P' h', Z = some (1, h') ∧ i' ≤ L ∧ cd_xr X i' = some P' ∧ P'.1.1 = P.1.1 + 1 ∧ P'.1.2.1 = 0 ∧ cd_XR P' i' h' ∧ cd_frY h h') := by
      rintro Z rfl
      rcases hT with ⟨f, h', q1, q2, q3, q4⟩ | ⟨i', P', h', q1, q2, q3, q4, q5, q6, q7⟩
      · exact Or.inl ⟨f, h', q1, q2, q3, f1.tr q4⟩
      · exact Or.inr ⟨i', P', h', q1, q2, q3, q4, q5, q6, f1.tr q7⟩
    by_cases cg : X i = 103
    · rw [if_pos (by rw [cg]; rfl)]
      refine fin _ ?_
      have e8 : nI (cd_mo (X i)) = 8 := by rw [cg]; rfl
      rw [e8]
      rfl
    · rw [if_neg (by rw [cd_eqL (by omega) (by omega)]; exact cg)]
      refine fin _ ?_
      have el : cd_ls (X i) = cd_mo (X i) := by unfold cd_ls; rw [if_neg cg]
      rw [el]
      rfl
/-- all of THE TEXT -/
theorem cd_readR {h : cd_Hp} (hX : ∀ i, X i < 128) (hL : L ≤ 120) (t : cd_XT X L h) :
    (∃ f h', cd_Fa X L f ∧ f_X8_isRead h = some (0, h') ∧ cd_g h' 404 16 = nI f ∧ cd_frY h h') ∨
    ∃ P h', cd_xr X L = some P ∧ P.1.2.1 = 0 ∧ P.1.1 ≠ 0 ∧ f_X8_isRead h = some (1, h') ∧ cd_XR P L h' ∧ cd_frY h h' := by
  unfold f_X8_isRead
  rw [cd_nmE2, cd_nmE2, cd_cl0, cd_nmE2]
  have f0 : cd_frY h (cd_u (cd_u (cd_u h 404 15 0) 404 14 0) 414 0 0) := (cd_frY.u (by omega)).tr ((cd_frY.u (by omega)).tr (cd_frY.u (by omega)))
  have x0 : cd_XR cd_xz 0 (cd_u (cd_u (cd_u h 404 15 0) 404 14 0) 414 0 0) := by
    refine ⟨?_, ?_, fun k hk => ?_, fun k hk => ?_, fun k hk j hj => ?_⟩
    · rw [cd_gN (by omega), cd_gN (by omega), cd_gE rfl rfl]; rfl
    · rw [cd_gN (by omega), cd_gE rfl rfl]; rfl
    · rcases hk with z | z
      · exact absurd z (Nat.not_lt_zero _)
      · exact absurd rfl z.2
    · have hk0 : k = 0 := Nat.le_zero.mp hk
      rw [hk0, cd_gE rfl rfl]; rfl
    · rcases hk with z | z
      · exact absurd z (Nat.not_lt_zero _)
      · exact absurd rfl z.2
  generalize cd_u (cd_u (cd_u h 404 15 0) 404 14 0) 414 0 0 = h0 at f0 x0 ⊢
  obtain ⟨j, h1, b1, b2, b3, b4, b5, b6⟩ := cd_blanks hX hL (t.kept f0) (Nat.zero_le _) (rfl : cd_xr X 0 = some cd_xz) x0
  obtain ⟨p1, p2, p3, p4⟩ := cd_Pb_eq (P := cd_xz) (j := j)
  rw [b1, cd_bS]
  have hloop : ∃ o, cd_lp f_X8_isRead_B21 cd_fu h1 = some o ∧ ((∃ f h', cd_Fa X L f ∧ o = .inl (0, h') ∧ cd_g h' 404 16 = nI f ∧ cd_frY h h') ∨ ∃ P h', cd_xr X L = some P ∧ P.1.2.1 = 0 ∧ o = .inr h' ∧ cd_XR P L h' ∧ cd_frY h h') := by
    refine cd_for 40 (fun n (st : cd_Hp) => ∃ i P, i ≤ L ∧ cd_xr X i = some P ∧ P.1.1 = n ∧ P.1.2.1 = 0 ∧ (i = L ∨ X i ≠ 32) ∧ cd_XR P i st ∧ cd_frY h st) _ ?_ cd_fu 0 h1 (Nat.zero_le _) (by unfold cd_fu; omega) ⟨0 + j, _, b2, b3, p1, p2, b4, b5, f0.tr b6⟩
    rintro n k1 K hn ⟨i, P, i1, i2, i3, i4, i5, i6, i7⟩
    unfold f_X8_isRead_B21
    have t1 := t.kept i7
    have hw := (cd_xr_wf hX i P i2).1 i4
    rw [t1.1, i6.1]
    rcases Nat.lt_or_ge i L with z | z
    · rw [if_neg (by rw [cd_le (by omega) (by omega)]; omega)]
      rcases cd_takesO hX hL t1 z (by omega) i2 i4 i6 with ⟨f, h', q1, q2, q3, q4⟩ | ⟨i', P', h', q1, q2, q3, q4, q5, q6, q7⟩
      · right
        rw [q2, cd_bS, if_pos rfl]
        exact ⟨_, rfl, Or.inl ⟨f, h', q1, rfl, q3, i7.tr q4⟩⟩
      · left
        obtain ⟨j', h2, c1, c2, c3, c4, c5, c6⟩ := cd_blanks hX hL (t1.kept q7) q2 q3 q6
        obtain ⟨r1, r2, r3, r4⟩ := cd_Pb_eq (P := P') (j := j')
        rw [q1, cd_bS, if_neg (show ¬ (1 : Int32) = 0 by decide), c1, cd_bS]
        refine ⟨by omega, h2, ⟨i' + j', _, c2, c3, by rw [r1, q4, i3], by rw [r2]; exact q5, c4, c5, (i7.tr q7).tr c6⟩, rfl⟩
    · right
      obtain rfl : i = L := by omega
      rw [if_pos (by rw [cd_le (by omega) (by omega)]; omega)]
      exact ⟨_, rfl, Or.inr ⟨P, k1, i2, i4, rfl, i6, i7⟩⟩
  obtain ⟨o, eo, ho⟩ := hloop
  rw [eo]
  rcases ho with ⟨f, h', q1, rfl, q2, q3⟩ | ⟨P, h', q1, q2, rfl, q3, q4⟩
  · rw [cd_b2L]
    exact Or.inl ⟨f, h', q1, rfl, q2, q3⟩
  · rw [cd_b2R, q3.2.1]
    have hw := (cd_xr_wf hX L P q1).1 q2
    by_cases n0 : P.1.1 = 0
    · rw [if_neg (by rw [cd_ltR (by omega) (by omega)]; omega), (t.kept q4).1]
      unfold f_X8_fails
      rw [cd_nmE2, cd_nmE2, if_pos rfl]
      exact Or.inl ⟨L, _, Or.inr ⟨rfl, P, q1, Or.inr n0⟩, rfl, cd_gE rfl rfl, q4.tr (cd_frY.u (by omega))⟩
    · rw [if_pos (by rw [cd_ltR (by omega) (by omega)]; omega)]
      exact Or.inr ⟨P, h', q1, q2, n0, rfl, q3, q4⟩
end
/-- the fault is one -/
theorem cd_Fa_eq {X : Nat → Nat} {L f f' : Nat} (h : cd_Fa X L f) (h' : cd_Fa X L f') : f = f' := by
  have some_of : ∀ a, (∃ P, cd_xr X a = some P) → ∀ b, b < a → cd_xr X (b + 1) ≠ none := fun a ⟨P, hP⟩ b hb hn => by
    have := cd_xrN (a - (b + 1)) (b + 1) hn
    rw [show b + 1 + (a - (b + 1)) = a by omega, hP] at this
    cases this
  rcases h with ⟨a1, a2, a3⟩ | ⟨rfl, P, a2, -⟩
  · rcases h' with ⟨b1, b2, b3⟩ | ⟨rfl, Q, b2, -⟩
    · rcases Nat.lt_trichotomy f f' with z | z | z
      · exact absurd a3 (some_of f' b2 f z)
      · exact z
      · exact absurd b3 (some_of f a2 f' z)
    · exact absurd a3 (some_of _ ⟨Q, b2⟩ f a1)
  · rcases h' with ⟨b1, b2, b3⟩ | ⟨rfl, Q, b2, -⟩
    · exact absurd b3 (some_of _ ⟨P, a2⟩ f' b1)
    · rfl
theorem cd_Fa_no {X : Nat → Nat} {L f : Nat} {P : cd_PS} (h : cd_Fa X L f) (hP : cd_xr X L = some P) (l0 : P.1.2.1 = 0) (n0 : P.1.1 ≠ 0) : False := by
  rcases h with ⟨a1, a2, a3⟩ | ⟨rfl, Q, a2, a3⟩
  · have := cd_xrN (L - (f + 1)) (f + 1) a3
    rw [show f + 1 + (L - (f + 1)) = L by omega, hP] at this
    cases this
  · rw [hP] at a2
    obtain rfl := Option.some.inj a2
    rcases a3 with z | z
    · exact z l0
    · exact n0 z
