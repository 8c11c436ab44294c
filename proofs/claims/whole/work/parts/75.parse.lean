-- THE REFERENCE READS
def cd_XT (X : Nat → Nat) (L : Nat) (h : cd_Hp) : Prop := cd_g h 404 6 = nI L ∧ ∀ i, i < L → cd_g h 409 i = nI (X i)
def cd_frY (h h' : cd_Hp) : Prop := ∀ x k, (x < 404 ∨ (x = 404 ∧ k < 14) ∨ (405 ≤ x ∧ x ≤ 412)) → cd_g h' x k = cd_g h x k
theorem cd_frY.rf {h : cd_Hp} : cd_frY h h := fun _ _ _ => rfl
theorem cd_frY.tr {h h1 h2 : cd_Hp} (a : cd_frY h h1) (b : cd_frY h1 h2) : cd_frY h h2 := fun x k z => (b x k z).trans (a x k z)
theorem cd_frY.u {h : cd_Hp} {q k : Nat} {v : Int32} (hq : (q = 404 ∧ 14 ≤ k) ∨ 413 ≤ q) : cd_frY h (cd_u h q k v) := fun x j z => cd_gN (by omega)
theorem cd_XT.kept {X : Nat → Nat} {L : Nat} {h h' : cd_Hp} (t : cd_XT X L h) (f : cd_frY h h') : cd_XT X L h' := ⟨by rw [f _ _ (by omega)]; exact t.1, fun i hi => by rw [f _ _ (by omega)]; exact t.2 i hi⟩
def cd_XR (P : cd_PS) (i : Nat) (h : cd_Hp) : Prop := cd_g h 404 15 = nI i ∧ cd_g h 404 14 = nI P.1.1 ∧ (∀ k, (k < P.1.1 ∨ (k = P.1.1 ∧ P.1.2.1 ≠ 0)) → cd_g h 413 k = nI (P.2.1 k)) ∧ (∀ k, k ≤ P.1.1 → cd_g h 414 k = nI (cd_FR P.2.2.1 k)) ∧ ∀ k, (k < P.1.1 ∨ (k = P.1.1 ∧ P.1.2.1 ≠ 0)) → ∀ j, j < P.2.2.1 k → cd_g h 415 (cd_FR P.2.2.1 k + j) = nI (P.2.2.2 (8 * k + j))
theorem cd_isAt {X : Nat → Nat} {L i a b : Nat} {h : cd_Hp} (hX : ∀ i, X i < 128) (hL : L ≤ 120) (t : cd_XT X L h) (e : cd_g h 404 15 = nI i) (hi : i ≤ L) (hab : a ≤ b) (hb : b < 1000) : f_X8_isAt (nI a) (nI b) h = some (if i < L ∧ a ≤ X i ∧ X i ≤ b then 1 else 0) := by
  unfold f_X8_isAt
  rw [t.1, e]
  rcases Nat.lt_or_ge i L with z | z
  · have := hX i
    rw [if_neg (by rw [cd_le (by omega) (by omega)]; omega), cd_ckI (by omega) (by omega), cd_cl (by omega), t.2 i z]
    by_cases y : a ≤ X i ∧ X i ≤ b
    · rw [cd_in8t y.1 y.2 (by omega), if_neg (by decide), if_pos ⟨z, y⟩]
    · rw [cd_in8f (by rintro ⟨v, z1, z2, z3⟩; rw [cd_eq (by omega) (by omega)] at z3; omega) hab (by omega), if_pos rfl, if_neg (fun w => y w.2)]
  · rw [if_pos (by rw [cd_le (by omega) (by omega)]; omega), if_neg (fun w => absurd w.1 (by omega))]
/-- behind blanks -/
def cd_Pb (P : cd_PS) (j : Nat) : cd_PS := if j = 0 then P else ((P.1.1, P.1.2.1, 0), P.2)
theorem cd_Pb_eq {P : cd_PS} {j : Nat} : (cd_Pb P j).1.1 = P.1.1 ∧ (cd_Pb P j).1.2.1 = P.1.2.1 ∧ (cd_Pb P j).2 = P.2 ∧ (0 < j → (cd_Pb P j).1.2.2 = 0) := by
  unfold cd_Pb
  by_cases z : j = 0
  · rw [if_pos z]; exact ⟨rfl, rfl, rfl, fun w => by omega⟩
  · rw [if_neg z]; exact ⟨rfl, rfl, rfl, fun _ => rfl⟩
theorem cd_blanks {X : Nat → Nat} {L i : Nat} {P : cd_PS} {h : cd_Hp} (hX : ∀ i, X i < 128) (hL : L ≤ 120) (t : cd_XT X L h) (hi : i ≤ L) (hP : cd_xr X i = some P) (x : cd_XR P i h) :
    ∃ j h', f_X8_blanks h = some h' ∧ i + j ≤ L ∧ cd_xr X (i + j) = some (cd_Pb P j) ∧ (i + j = L ∨ X (i + j) ≠ 32) ∧ cd_XR (cd_Pb P j) (i + j) h' ∧ cd_frY h h' := by
  unfold f_X8_blanks
  have hloop : ∃ o, cd_lp f_X8_blanks_B0 cd_fu h = some o ∧ ∃ j, i + j ≤ L ∧ cd_xr X (i + j) = some (cd_Pb P j) ∧ (i + j = L ∨ X (i + j) ≠ 32) ∧ cd_g o 404 15 = nI (i + j) ∧ ∀ a b, ¬ (a = 404 ∧ b = 15) → cd_g o a b = cd_g h a b := by
    refine cd_for (L - i) (fun j (st : cd_Hp) => cd_xr X (i + j) = some (cd_Pb P j) ∧ cd_g st 404 15 = nI (i + j) ∧ ∀ a b, ¬ (a = 404 ∧ b = 15) → cd_g st a b = cd_g h a b) _ ?_ cd_fu 0 h (Nat.zero_le _) (by unfold cd_fu; omega) ⟨hP, x.1, fun _ _ _ => rfl⟩
    rintro j k1 K hj ⟨h1, h2, h3⟩
    unfold f_X8_blanks_B0
    have t1 : cd_XT X L k1 := ⟨by rw [h3 _ _ (by omega)]; exact t.1, fun i hi => by rw [h3 _ _ (by omega)]; exact t.2 i hi⟩
    have ia := cd_isAt (a := 32) (b := 32) hX hL t1 h2 (by omega) (Nat.le_refl _) (by omega)
    rw [show (32 : Int32) = nI 32 from rfl, ia, cd_bS]
    by_cases z : i + j < L ∧ 32 ≤ X (i + j) ∧ X (i + j) ≤ 32
    · left
      have e32 : X (i + j) = 32 := by omega
      rw [if_pos z, if_neg (show ¬ (1 : Int32) = 0 by decide), h2, cd_addL, cd_nmE2]
      refine ⟨by omega, _, ⟨?_, cd_gE rfl (by omega), fun a b w => by rw [cd_gN w]; exact h3 a b w⟩, rfl⟩
      rw [show i + (j + 1) = i + j + 1 by omega, cd_xrS h1, e32]
      obtain ⟨q1, q2, q3, -⟩ := cd_Pb_eq (P := P) (j := j)
      unfold cd_st
      rw [if_pos rfl, q1, q2, q3]
      unfold cd_Pb
      rw [if_neg (by omega)]
    · right
      rw [if_neg z, if_pos rfl]
      exact ⟨_, rfl, j, by omega, h1, by omega, h2, h3⟩
  obtain ⟨o, eo, j, o1, o2, o3, o4, o5⟩ := hloop
  rw [eo, cd_bS]
  obtain ⟨x1, x2, x3, x4, x5⟩ := x
  obtain ⟨q1, q2, q3, -⟩ := cd_Pb_eq (P := P) (j := j)
  refine ⟨j, o, rfl, o1, o2, o3, ⟨o4, ?_, fun k hk => ?_, fun k hk => ?_, fun k hk l hl => ?_⟩, fun a b z => o5 a b (by omega)⟩
  · rw [o5 _ _ (by omega), q1]; exact x2
  · rw [q1, q2] at hk; rw [o5 _ _ (by omega), q3]; exact x3 k hk
  · rw [q1] at hk; rw [o5 _ _ (by omega), q3]; exact x4 k hk
  · rw [q1, q2] at hk; rw [q3] at hl ⊢; rw [o5 _ _ (by omega)]; exact x5 k hk l hl
theorem cd_un_un {f : Nat → Nat} {k a b : Nat} : cd_un (cd_un f k a) k b = cd_un f k b := by
  funext j
  by_cases z : j = k
  · rw [cd_unE z, cd_unE z]
  · rw [cd_unN z, cd_unN z, cd_unN z]
/-- a number whose figures so far tell v -/
def cd_Pn (P : cd_PS) (d v : Nat) : cd_PS := ((P.1.1, P.1.2.1, d), P.2.1, cd_un P.2.2.1 P.1.1 (P.2.2.1 P.1.1 + 1), cd_un P.2.2.2 (8 * P.1.1 + P.2.2.1 P.1.1) v)
theorem cd_takesN {X : Nat → Nat} {L i : Nat} {P : cd_PS} {h : cd_Hp} (hX : ∀ i, X i < 128) (hL : L ≤ 120) (t : cd_XT X L h) (hi : i < L) (hd : 48 ≤ X i ∧ X i ≤ 57) (hP : cd_xr X i = some P) (l0 : P.1.2.1 ≠ 0) (f0 : P.1.2.2 = 0) (hm : P.2.2.1 P.1.1 < cd_mo P.1.2.1) (x : cd_XR P i h) :
    (∃ f h', cd_Fa X L f ∧ f_X8_takesNumber (nI (cd_FR P.2.2.1 P.1.1 + P.2.2.1 P.1.1)) h = some (0, h') ∧ cd_g h' 404 16 = nI f ∧ cd_frY h h') ∨
    ∃ d v h', 1 ≤ d ∧ i + d ≤ L ∧ f_X8_takesNumber (nI (cd_FR P.2.2.1 P.1.1 + P.2.2.1 P.1.1)) h = some (1, h') ∧ cd_xr X (i + d) = some (cd_Pn P d v) ∧ (i + d = L ∨ ¬ (48 ≤ X (i + d) ∧ X (i + d) ≤ 57)) ∧ cd_XR (cd_Pn P d v) (i + d) h' ∧ cd_frY h h' := by
  have hw := cd_xr_wf hX i P hP
  obtain ⟨v1, v2, v3, v4, v5⟩ := hw.2.1 l0
  obtain ⟨x1, x2, x3, x4, x5⟩ := x
  unfold f_X8_takesNumber
  rw [x1, cd_nmE2]
  have hloop : ∃ o, cd_lp (f_X8_takesNumber_B7 (nI (cd_FR P.2.2.1 P.1.1 + P.2.2.1 P.1.1)) (nI i)) cd_fu (0, h) = some o ∧ ((∃ f h', cd_Fa X L f ∧ o = .inl (0, h') ∧ cd_g h' 404 16 = nI f ∧ cd_frY h h') ∨ ∃ d v h', 1 ≤ d ∧ i + d ≤ L ∧ o = .inr (nI v, h') ∧ cd_xr X (i + d) = some (cd_Pn P d v) ∧ (i + d = L ∨ ¬ (48 ≤ X (i + d) ∧ X (i + d) ≤ 57)) ∧ cd_g h' 404 15 = nI (i + d) ∧ ∀ a b, ¬ (a = 404 ∧ b = 15) → cd_g h' a b = cd_g h a b) := by
    refine cd_for 3 (fun d (st : Int32 × cd_Hp) => ∃ v, v < 1000 ∧ st.1 = nI v ∧ i + d ≤ L ∧ ((d = 0 ∧ v = 0) ∨ (1 ≤ d ∧ cd_xr X (i + d) = some (cd_Pn P d v))) ∧ cd_g st.2 404 15 = nI (i + d) ∧ ∀ a b, ¬ (a = 404 ∧ b = 15) → cd_g st.2 a b = cd_g h a b) _ ?_ cd_fu 0 (0, h) (Nat.zero_le _) (by unfold cd_fu; omega) ⟨0, by omega, rfl, by omega, Or.inl ⟨rfl, rfl⟩, x1, fun _ _ _ => rfl⟩
    rintro d ⟨v0, k1⟩ K hd3 ⟨v, hv, hv0, hdL, hst, h2, h3⟩
    dsimp only at hv0 h2 h3
    subst hv0
    unfold f_X8_takesNumber_B7
    dsimp only
    have t1 : cd_XT X L k1 := ⟨by rw [h3 _ _ (by omega)]; exact t.1, fun i hi => by rw [h3 _ _ (by omega)]; exact t.2 i hi⟩
    have ia := cd_isAt (a := 48) (b := 57) hX hL t1 h2 hdL (by omega) (by omega)
    rw [show (57 : Int32) = nI 57 from rfl, show f_X8_isAt 48 (nI 57) k1 = _ from ia, cd_bS]
    by_cases z : i + d < L ∧ 48 ≤ X (i + d) ∧ X (i + d) ≤ 57
    · rw [if_pos z, if_neg (show ¬ (1 : Int32) = 0 by decide), h2, cd_addL]
      have nx := hX (i + d)
      rcases Nat.lt_or_ge d 3 with d3 | d3
      · left
        have w0 : cd_xr X (i + d) = some (if d = 0 then P else cd_Pn P d v) := by
          rcases hst with ⟨rfl, -⟩ | ⟨w1, w2⟩
          · rw [if_pos rfl]; exact hP
          · rw [if_neg (by omega)]; exact w2
        have step : cd_xr X (i + d + 1) = some (cd_Pn P (d + 1) (10 * v + (X (i + d) - 48))) := by
          rw [cd_xrS w0]
          unfold cd_st
          by_cases d0 : d = 0
          · have v00 : v = 0 := by omega
            rw [if_pos d0, if_neg (by omega), if_neg l0, if_pos z.2, if_pos f0, if_pos hm, d0, v00]
            unfold cd_Pn
            rw [show 10 * 0 + (X (i + 0) - 48) = X (i + 0) - 48 by omega]
          · rw [if_neg d0, if_neg (by omega)]
            unfold cd_Pn
            dsimp only
            rw [if_neg l0, if_pos z.2, if_neg d0, if_pos d3, cd_unE rfl, show 8 * P.1.1 + (P.2.2.1 P.1.1 + 1) - 1 = 8 * P.1.1 + P.2.2.1 P.1.1 by omega, cd_unE rfl, cd_un_un]
        have hvn : 10 * v + (X (i + d) - 48) < 1000 := by
          have wn := cd_xr_wf hX (i + d + 1) _ step
          have := wn.2.2.1 (by show d + 1 ≠ 0; omega)
          have p3 := cd_p10 (d + 1) (by omega)
          have e : (cd_Pn P (d + 1) (10 * v + (X (i + d) - 48))).2.2.2 (8 * (cd_Pn P (d + 1) (10 * v + (X (i + d) - 48))).1.1 + (cd_Pn P (d + 1) (10 * v + (X (i + d) - 48))).2.2.1 (cd_Pn P (d + 1) (10 * v + (X (i + d) - 48))).1.1 - 1) = 10 * v + (X (i + d) - 48) := by
            unfold cd_Pn
            dsimp only
            rw [cd_unE (f := P.2.2.1) rfl]
            exact cd_unE (by omega)
          have h22 := this.2
          rw [e] at h22
          exact Nat.lt_of_lt_of_le h22 p3
        rw [if_neg (by rw [cd_eq (by omega) (by omega)]; omega), cd_ckI (by omega) (by omega), cd_cl (by omega), t1.2 _ z.1, cd_mulR, nI_add, cd_subL (by omega), cd_nmE2, cd_addL, cd_nmE2]
        refine ⟨d3, (nI (10 * v + (X (i + d) - 48)), cd_u k1 404 15 (nI (i + d + 1))), ⟨_, hvn, rfl, by omega, Or.inr ⟨by omega, step⟩, cd_gE rfl (by omega), fun a b w => by rw [cd_gN w]; exact h3 a b w⟩, ?_⟩
        rw [show 10 * v + X (i + d) - 48 = 10 * v + (X (i + d) - 48) by omega]
      · right
        obtain rfl : d = 3 := by omega
        rw [if_pos rfl]
        unfold f_X8_fails
        rw [cd_nmE2, cd_nmE2]
        obtain ⟨w1, w2⟩ : 1 ≤ 3 ∧ cd_xr X (i + 3) = some (cd_Pn P 3 v) := by
          rcases hst with ⟨w, -⟩ | w
          · omega
          · exact w
        refine ⟨_, rfl, Or.inl ⟨i + 3, _, Or.inl ⟨z.1, ⟨_, w2⟩, ?_⟩, rfl, cd_gE rfl rfl, fun a b w => by rw [cd_gN (by omega)]; exact h3 a b (by omega)⟩⟩
        rw [cd_xrS w2]
        unfold cd_st cd_Pn
        dsimp only
        rw [if_neg (by omega), if_neg l0, if_pos z.2, if_neg (by omega), if_neg (by omega)]
    · right
      rw [if_neg z, if_pos rfl]
      rcases hst with ⟨rfl, -⟩ | ⟨w1, w2⟩
      · exact absurd ⟨hi, hd⟩ z
      · exact ⟨_, rfl, Or.inr ⟨d, v, k1, w1, hdL, rfl, w2, by omega, h2, h3⟩⟩
  obtain ⟨o, eo, ho⟩ := hloop
  rw [eo]
  rcases ho with ⟨f, h', z1, rfl, z2, z3⟩ | ⟨d, v, h', z1, z2, rfl, z3, z4, z5, z6⟩
  · rw [cd_b2L]
    exact Or.inl ⟨f, h', z1, rfl, z2, z3⟩
  · rw [cd_b2R, cd_ckI (by omega) (by omega), cd_cl (by omega), cd_nmE2]
    refine Or.inr ⟨d, v, _, z1, z2, rfl, z3, z4, ⟨?_, ?_, fun k hk => ?_, fun k hk => ?_, fun k hk j hj => ?_⟩, fun a b w => by rw [cd_gN (by omega)]; exact z6 a b (by omega)⟩
    · rw [cd_gN (by omega)]; exact z5
    · rw [cd_gN (by omega), z6 _ _ (by omega)]; exact x2
    · rw [cd_gN (by omega), z6 _ _ (by omega)]; exact x3 k hk
    · unfold cd_Pn at hk ⊢
      dsimp only at hk ⊢
      rw [cd_gN (by omega), z6 _ _ (by omega), cd_FR_congr (S := P.2.2.1) k (fun j hj => cd_unN (by omega))]; exact x4 k hk
    · unfold cd_Pn at hk hj ⊢
      dsimp only at hk hj ⊢
      rw [cd_FR_congr (S := P.2.2.1) k (fun j hj => cd_unN (by omega))]
      by_cases zk : k = P.1.1
      · rw [zk] at hj ⊢
        rw [cd_unE rfl] at hj
        by_cases zj : j = P.2.2.1 P.1.1
        · rw [zj, cd_gE rfl rfl, cd_unE rfl]
        · rw [cd_gN (by omega), z6 _ _ (by omega), cd_unN (by omega)]; exact x5 _ (Or.inr ⟨rfl, l0⟩) j (by omega)
      · rw [cd_unN zk] at hj
        have kl : k < P.1.1 := by omega
        have s8 : P.2.2.1 k ≤ 8 := Nat.le_trans (hw.2.2.2.2.1 k kl).2.2 (cd_mo_facts _).1
        have fr : ∀ m a, cd_FR P.2.2.1 a ≤ cd_FR P.2.2.1 (a + m) := by
          intro m
          induction m with
          | zero => intro a; exact Nat.le_refl _
          | succ m ih => intro a; exact Nat.le_trans (ih a) (Nat.le_add_right _ _)
        have f1 := fr (P.1.1 - (k + 1)) (k + 1)
        rw [show k + 1 + (P.1.1 - (k + 1)) = P.1.1 by omega] at f1
        have f2 : cd_FR P.2.2.1 (k + 1) = cd_FR P.2.2.1 k + P.2.2.1 k := rfl
        rw [cd_gN (by omega), z6 _ _ (by omega), cd_unN (by omega)]; exact x5 k (Or.inl kl) j hj
