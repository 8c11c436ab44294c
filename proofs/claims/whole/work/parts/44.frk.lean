-- A TASK COMES of another
def cd_frk (A : Nat → Int32) (t : Nat) : Nat → Int32 := fun j => if j = 9 then nI (cd_n A 9 + 1) else if j = 10 + 10 * cd_n A 9 then nI t else if j = 11 + 10 * cd_n A 9 then 0 else if 12 + 10 * cd_n A 9 ≤ j ∧ j < 20 + 10 * cd_n A 9 then A (12 + 10 * t + (j - (12 + 10 * cd_n A 9))) else A j
section FRK
variable {A : Nat → Int32} {t : Nat}
theorem cd_frk9 : cd_frk A t 9 = nI (cd_n A 9 + 1) := if_pos rfl
theorem cd_frkP : cd_frk A t (10 + 10 * cd_n A 9) = nI t := by unfold cd_frk; rw [if_neg (by omega), if_pos rfl]
theorem cd_frkE : cd_frk A t (11 + 10 * cd_n A 9) = 0 := by unfold cd_frk; rw [if_neg (by omega), if_neg (by omega), if_pos rfl]
theorem cd_frkR {k : Nat} (hk : k < 8) : cd_frk A t (12 + 10 * cd_n A 9 + k) = A (12 + 10 * t + k) := by
  unfold cd_frk; rw [if_neg (by omega), if_neg (by omega), if_neg (by omega), if_pos (by omega)]; exact congrArg A (by omega)
theorem cd_frkN {j : Nat} (h9 : j ≠ 9) (h : j < 10 + 10 * cd_n A 9 ∨ 20 + 10 * cd_n A 9 ≤ j) : cd_frk A t j = A j := by unfold cd_frk; rw [if_neg h9, if_neg (by omega), if_neg (by omega), if_neg (by omega)]
theorem cd_Ok.frk {τ : Nat} (h : cd_Ok A τ) (ht : t < cd_n A 9) (h6 : cd_n A 9 < 6) : cd_Ok (cd_frk A t) τ := by
  obtain ⟨h0, ⟨h1, h1'⟩, h2, ⟨⟨t1, t1'⟩, ⟨t2, t2'⟩, t3, t4⟩, hG, hGs, hQ, hS⟩ := h
  have gl := hG.2
  have e9 : cd_n (cd_frk A t) 9 = cd_n A 9 + 1 := cd_n_nI cd_frk9 (by omega)
  refine ⟨h0, ⟨h1.of (cd_frkN (by omega) (by omega)), by rw [cd_n.of (cd_frkN (by omega) (by omega))]; exact h1'⟩, fun j hj => (h2 j hj).of (cd_frkN (by omega) (by omega)), ⟨⟨cd_numI cd_frk9 (by omega) (by omega), by omega⟩, ⟨by rw [cd_frkN (by omega) (by omega)]; exact t2, by rw [cd_frkN (by omega) (by omega)]; exact t2'⟩, fun u w1 w2 => ?_, fun u hu => ?_⟩, hG.of (cd_frkN (by omega) (by omega)), fun g hg => ?_, hQ.on (fun j _ _ => cd_frkN (by omega) (by omega)) (by rw [cd_n.of (B := cd_frk A t) (cd_frkN (by omega) (by omega))]; exact Nat.le_refl _) (fun g hg => cd_frkN (by omega) (by omega)), hS.on (fun j _ _ => cd_frkN (by omega) (by omega))⟩
  · rw [e9] at w2
    rcases Nat.lt_or_ge u (cd_n A 9) with z | z
    · rw [cd_n.of (cd_frkN (by omega) (by omega))]
      exact ⟨(t3 u w1 z).1.of (cd_frkN (by omega) (by omega)), (t3 u w1 z).2⟩
    · obtain rfl : u = cd_n A 9 := by omega
      rw [cd_n_nI cd_frkP (by omega)]
      exact ⟨cd_numI cd_frkP (by omega) (by omega), ht⟩
  · rw [e9] at hu
    rcases Nat.lt_or_ge u (cd_n A 9) with z | z
    · exact ⟨(t4 u z).1.of (cd_frkN (by omega) (by omega)), fun k hk => ((t4 u z).2 k hk).of (cd_frkN (by omega) (by omega))⟩
    · obtain rfl : u = cd_n A 9 := by omega
      refine ⟨cd_numI (n := 0) cd_frkE (by omega) (by omega), fun k hk => ?_⟩
      have y := (t4 t ht).2 k hk
      have e := cd_frkR (A := A) (t := t) hk
      have en : cd_n (cd_frk A t) (12 + 10 * cd_n A 9 + k) = cd_n A (12 + 10 * t + k) := by unfold cd_n; rw [show (A 9).toNatClampNeg = cd_n A 9 from rfl, e]
      unfold cd_num
      rw [en, e]; exact y
  · have e70 : cd_n (cd_frk A t) 70 = cd_n A 70 := cd_n.of (cd_frkN (by omega) (by omega))
    rw [e70] at hg
    refine (hGs g hg).on (fun j _ _ => cd_frkN (by omega) (by omega)) (by omega) ?_
    rw [cd_n.of (B := cd_frk A t) (cd_frkN (by omega) (by omega))]; exact Nat.le_refl _
end FRK
theorem cd_hasEnded5 {q t : Nat} {A : Nat → Int32} {h : cd_Hp} (x : cd_StT q A h) (ht : t < 6) : f_X5_hasEnded (q + 2) (nI t) h = some (if A (11 + 10 * t) = 1 then 1 else 0) := by
  unfold f_X5_hasEnded
  rw [cd_ckI ht (by omega), cd_cl (by omega), (x.2.1 t ht).2]
  split <;> rfl
theorem cd_hasEnded8' {t : Nat} {A : Nat → Int32} {h1 : cd_Hp} (hr : ∀ k, k < 659 → cd_R h1 k = A k) (ht : t < 6) : f_X8_hasEnded (nI t) h1 = some (if A (11 + 10 * t) = 1 then 1 else 0) := by
  rw [cd_hasEnded8 ht]
  have := hr (10 + 10 * t + 1) (by omega)
  dsimp only [cd_R] at this
  rw [this, show 10 + 10 * t + 1 = 11 + 10 * t by omega]
theorem cd_cq8 {a b : Nat} (ha : a ≤ 40) (hb : b ≤ 40) : cd_cq (nI a) (nI b) 8 48 48 = true := by
  unfold cd_cq
  have e1 : (nI a).toNatClampNeg = a := cd_cl (by omega)
  have e2 : (nI b).toNatClampNeg = b := cd_cl (by omega)
  have e3 : ¬ nI a < 0 := nI_pos (by omega)
  have e4 : ¬ nI b < 0 := nI_pos (by omega)
  have e5 : Int32.toNatClampNeg 8 = 8 := by decide
  have e6 : ¬ (8 : Int32) < 0 := by decide
  simp [e1, e2, e3, e4, e5, e6]
  omega
theorem cd_fork5 {q τ t : Nat} {A : Nat → Int32} {h : cd_Hp} (hA : cd_Ok A τ) (x : cd_St q A h) (ht : t < cd_n A 9) (h6 : cd_n A 9 < 6) (he : ¬ A (11 + 10 * t) = 1) : ∃ h', f_X5_fork (q + 2) (nI t) h = some (nI (cd_n A 9), h') ∧ cd_St q (cd_frk A t) h' ∧ cd_fr q (q + 56) h h' := by
  obtain ⟨s1, s2, s3, s4⟩ := hA.sz
  have hT := hA.2.2.2.1
  have w0 : f_X5_has (q + 2) (nI t) h = 1 := by rw [cd_has5 x hT, if_pos ⟨t, ht, rfl⟩]
  have w1 := cd_hasEnded5 x.2.2.1 (t := t) (by omega)
  rw [if_neg he] at w1
  obtain ⟨x1, x2, ⟨x3, x4, x5⟩, x6, x7, x8⟩ := x
  have e0 : cd_g h (q + 2) 0 = nI (cd_n A 9) := by rw [x3]; exact hT.1.1.1
  unfold f_X5_fork
  rw [w0, if_neg (by decide), w1, cd_bS, if_pos rfl, e0, if_pos (by rw [cd_ltL (by omega) (by omega)]; exact h6)]
  simp (disch := omega) only [cd_nmE2, cd_addL, cd_ckI, cd_cl, cd_mulL]
  rw [cd_ckT (cd_cq8 (by omega) (by omega)), show Int32.toNatClampNeg 8 = 8 by decide]
  refine ⟨_, rfl, ⟨?_, fun j hj => ?_, ⟨?_, fun u hu => ?_, fun u k hu hk => ?_⟩, cd_StGs.as x6 s1 s2 (fun j _ _ => cd_frkN (by omega) (by omega)) (fun y j _ _ => by simp (disch := omega) only [cd_gcpN, cd_gN]), fun j hj => ?_, x8.as s3 s4 (fun j _ _ => cd_frkN (by omega) (by omega)) (fun y j _ _ => by simp (disch := omega) only [cd_gcpN, cd_gN])⟩, fun y j hy => ?_, rfl⟩
  · simp (disch := omega) only [cd_gcpN, cd_gN, cd_frkN]; exact x1
  · simp (disch := omega) only [cd_gcpN, cd_gN, cd_frkN]; exact x2 j hj
  · simp (disch := omega) only [cd_gcpN, cd_gN, cd_gE]; exact cd_frk9.symm
  · by_cases eu : u = cd_n A 9
    · subst eu
      simp (disch := omega) only [cd_gcpN, cd_gN, cd_gE]; exact ⟨cd_frkP.symm, cd_frkE.symm⟩
    · simp (disch := omega) only [cd_gcpN, cd_gN, cd_frkN]; exact x4 u hu
  · by_cases eu : u = cd_n A 9
    · subst eu
      rw [cd_frkR hk, cd_gcpE rfl (by omega) (by omega)]
      simp (disch := omega) only [cd_gN]
      rw [← x5 t k (by omega) hk]; exact congrArg (cd_g h _) (by omega)
    · simp (disch := omega) only [cd_gcpN, cd_gN, cd_frkN]; exact x5 u k hu hk
  · simp (disch := omega) only [cd_gcpN, cd_gN, cd_frkN]; exact x7 j hj
  · simp (disch := omega) only [cd_gcpN, cd_gN]
theorem cd_comesOf {τ t : Nat} {A : Nat → Int32} {h1 : cd_Hp} (hr : ∀ k, k < 659 → cd_R h1 k = A k) (hA : cd_Ok A τ) (ht : t < cd_n A 9) (h6 : cd_n A 9 < 6) : ∃ h2, f_X8_comesOf (nI t) h1 = some (nI (cd_n A 9), h2) ∧ (∀ j, j < 659 → cd_R h2 j = cd_frk A t j) ∧ cd_frR h1 h2 := by
  have e9 : cd_g h1 405 9 = nI (cd_n A 9) := (hr 9 (by omega)).trans hA.2.2.2.1.1.1.1
  unfold f_X8_comesOf
  simp (disch := omega) only [cd_c9, cd_nmE2, e9, cd_taskAt, cd_ckI, cd_cl, cd_addL]
  generalize hx : cd_u (cd_u h1 405 (10 + 10 * cd_n A 9) (nI t)) 405 (10 + 10 * cd_n A 9 + 1) 0 = hX
  have hloop : ∃ o, cd_lp (f_X8_comesOf_B29 (nI t) (nI (10 + 10 * cd_n A 9))) cd_fu (0, hX) = some o ∧ (∀ k, k < 8 → cd_g o.2 405 (12 + 10 * cd_n A 9 + k) = A (12 + 10 * t + k)) ∧ (∀ x k, ¬ (x = 405 ∧ 12 + 10 * cd_n A 9 ≤ k ∧ k < 12 + 10 * cd_n A 9 + 8) → cd_g o.2 x k = cd_g hX x k) ∧ o.2.2 = hX.2 := by
    refine cd_for 8 (fun i st => st.1 = nI i ∧ (∀ k, k < i → cd_g st.2 405 (12 + 10 * cd_n A 9 + k) = A (12 + 10 * t + k)) ∧ (∀ x k, ¬ (x = 405 ∧ 12 + 10 * cd_n A 9 ≤ k ∧ k < 12 + 10 * cd_n A 9 + i) → cd_g st.2 x k = cd_g hX x k) ∧ st.2.2 = hX.2) _ ?_ cd_fu 0 (0, hX) (Nat.zero_le _) (by unfold cd_fu; omega) ⟨rfl, fun k h1 => absurd h1 (by omega), fun _ _ _ => rfl, rfl⟩
    rintro i ⟨v, k1⟩ K hi ⟨hv, hI, hfr, h2⟩
    dsimp only at hv hI hfr h2
    subst hv
    unfold f_X8_comesOf_B29
    dsimp only
    rcases Nat.lt_or_ge i 8 with hlt | hge
    · left
      refine ⟨hlt, ?_⟩
      rw [if_neg (by rw [cd_leR (by omega) (by omega)]; omega), cd_rateOf8 (by omega) hlt, cd_bS]
      simp (disch := omega) only [nI_add, cd_ckI, cd_cl, cd_nmE2, cd_addL]
      refine ⟨_, ⟨rfl, fun k h1 => ?_, fun x k hx => ?_, h2⟩, rfl⟩
      · dsimp only
        rcases Nat.lt_or_ge k i with z | z
        · rw [cd_gN (by omega)]; exact hI k z
        · obtain rfl : k = i := by omega
          rw [cd_gE rfl (by omega), hfr _ _ (by omega), ← hx, cd_gN (by omega), cd_gN (by omega), show 10 + 10 * t + 2 + k = 12 + 10 * t + k by omega]
          exact hr _ (by omega)
      · dsimp only
        rw [cd_gN (by omega)]; exact hfr x k (by omega)
    · right
      obtain rfl : i = 8 := by omega
      rw [if_pos (by rw [cd_leR (by omega) (by omega)]; omega)]
      exact ⟨_, rfl, hI, hfr, h2⟩
  obtain ⟨o, eo, o1, o2, o3⟩ := hloop
  have f9 : cd_g o.2 405 9 = nI (cd_n A 9) := by rw [o2 _ _ (by omega), ← hx, cd_gN (by omega), cd_gN (by omega)]; exact e9
  rw [eo, cd_bS]
  simp (disch := omega) only [f9, cd_gE, cd_addL, cd_subL]
  rw [show cd_n A 9 + 1 - 1 = cd_n A 9 by omega]
  refine ⟨_, rfl, fun j hj => ?_, ?_⟩
  · dsimp only [cd_R]
    by_cases y9 : j = 9
    · rw [cd_gE rfl y9, y9, cd_frk9]
    rw [cd_gN (by omega)]
    by_cases yr : 12 + 10 * cd_n A 9 ≤ j ∧ j < 20 + 10 * cd_n A 9
    · obtain ⟨k, rfl⟩ := Nat.exists_eq_add_of_le yr.1
      rw [o1 k (by omega), cd_frkR (by omega)]
    rw [o2 _ _ (by omega), ← hx]
    by_cases ye : j = 11 + 10 * cd_n A 9
    · rw [cd_gE rfl (by omega), ye, cd_frkE]
    rw [cd_gN (by omega)]
    by_cases yp : j = 10 + 10 * cd_n A 9
    · rw [cd_gE rfl yp, yp, cd_frkP]
    rw [cd_gN (by omega), cd_frkN y9 (by omega)]; exact hr j hj
  · intro x j z
    rw [cd_gN (by omega), o2 _ _ (by omega), ← hx, cd_gN (by omega), cd_gN (by omega)]
theorem cd_call3 {n : Nat} {h : cd_Hp} (hI : cd_Inv n h) (hn : n < 512) : cd_q3 cd_Inv n h := by
  intro a1
  have hI2 := hI
  obtain ⟨s, nx, c, hs, t⟩ := hI2
  obtain ⟨-, ⟨hO, hSt⟩, -⟩ := c
  have hT := hO.2.2.2.1
  have h9 := hT.1.1.2
  by_cases hv : ∃ t, t < cd_n (cd_R h) 9 ∧ a1 = nI t
  · obtain ⟨t, ht, rfl⟩ := hv
    have w0 : ∀ h1, cd_St 4 (cd_R h) h1 → f_X5_has (4 + 2) (nI t) h1 = 1 := fun h1 x => by rw [cd_has5 x hT, if_pos ⟨t, ht, rfl⟩]
    have w8 : ∀ h1, (∀ k, k < 659 → cd_R h1 k = cd_R h k) → f_X8_isTask (nI t) h1 = 1 ∧ cd_g h1 405 9 = nI (cd_n (cd_R h) 9) := fun h1 hr => ⟨by rw [cd_isTask8 hr hT, if_pos ⟨t, ht, rfl⟩], (hr 9 (by omega)).trans hT.1.1.1⟩
    by_cases he : cd_R h (11 + 10 * t) = 1
    · obtain ⟨h1, e1, er, hI3⟩ := cd_S_no hI hn (F := fun o => f_X5_fork (4 + 2) (nI t) o) (i := 1) (r := -3) (by omega) (by decide) (fun h1 hs1 _ => by
        unfold f_X5_fork
        rw [w0 h1 hs1, if_neg (by decide), cd_hasEnded5 hs1.2.2.1 (by omega), if_pos he, cd_bS, if_neg (by decide)])
      refine ⟨_, h1, _, e1, ?_, hI3⟩
      unfold f_X8_forks
      rw [(w8 h1 (fun k _ => er k)).1, if_neg (by decide), cd_hasEnded8' (fun k _ => er k) (by omega), if_pos he, cd_bS, if_neg (by decide), cd_no8]
      rfl
    · rcases Nat.lt_or_ge (cd_n (cd_R h) 9) 6 with h6 | h6'
      · obtain ⟨k1, k2, e1, l1, e2, hI3⟩ := cd_S_ok hI hn (F := fun o => f_X5_fork (4 + 2) (nI t) o) (K := fun o => f_X8_comesOf (nI t) o) (r := nI (cd_n (cd_R h) 9)) (A' := cd_frk (cd_R h) t) (cd_nr_nI (by omega)) ((hO.mono (by omega) (by omega)).frk ht h6)
          (fun o1 hs1 _ => by
            obtain ⟨h', e', s', f'⟩ := cd_fork5 hO hs1 ht h6 he
            exact ⟨h', e', s', f'.wide (by omega) (by omega)⟩)
          (fun o1 hr _ => cd_comesOf hr hO ht h6)
        refine ⟨_, k1, k2, e1, ?_, hI3⟩
        have hr1 : ∀ k, k < 659 → cd_R k1 k = cd_R h k := fun k _ => l1 _ _ (by omega)
        unfold f_X8_forks
        rw [(w8 k1 hr1).1, if_neg (by decide), cd_hasEnded8' hr1 (by omega), if_neg he, cd_bS, if_pos rfl, cd_c9, (w8 k1 hr1).2, if_neg (by rw [cd_eqL (by omega) (by omega)]; omega)]
        exact e2
      · have h6 : cd_n (cd_R h) 9 = 6 := by omega
        obtain ⟨h1, e1, er, hI3⟩ := cd_S_no hI hn (F := fun o => f_X5_fork (4 + 2) (nI t) o) (i := 2) (r := -4) (by omega) (by decide) (fun h1 hs1 _ => by
          have e0 : cd_g h1 (4 + 2) 0 = nI 6 := by rw [hs1.2.2.1.1, ← h6]; exact hT.1.1.1
          unfold f_X5_fork
          rw [w0 h1 hs1, if_neg (by decide), cd_hasEnded5 hs1.2.2.1 (by omega), if_neg he, cd_bS, if_pos rfl, e0, if_neg (by decide)])
        refine ⟨_, h1, _, e1, ?_, hI3⟩
        unfold f_X8_forks
        rw [(w8 h1 (fun k _ => er k)).1, if_neg (by decide), cd_hasEnded8' (fun k _ => er k) (by omega), if_neg he, cd_bS, if_pos rfl, cd_c9, (w8 h1 (fun k _ => er k)).2, h6, if_pos (by decide), cd_full8]
        rfl
  · obtain ⟨h1, e1, er, hI3⟩ := cd_S_no hI hn (F := fun o => f_X5_fork (4 + 2) a1 o) (i := 0) (r := -2) (by omega) (by decide) (fun h1 hs1 _ => by
      unfold f_X5_fork
      rw [cd_has5 hs1 hT, if_neg hv, if_pos rfl])
    refine ⟨_, h1, _, e1, ?_, hI3⟩
    unfold f_X8_forks
    rw [cd_isTask8 (fun k _ => er k) hT, if_neg hv, if_pos rfl, cd_bad8]
    rfl
