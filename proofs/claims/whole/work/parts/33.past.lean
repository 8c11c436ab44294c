-- STATES TO GO BACK TO
theorem cd_hold {nx τ : Nat} {A : Nat → Int32} {h : cd_Hp} (hn : cd_g h 60 1 = nI nx) (hx : nx < 6) (hA : cd_Ok A τ) (hS : cd_St 4 A h) : ∃ h', f_X1_hold 60 4 h = some h' ∧ cd_St (62 + 56 * nx) A h' ∧ cd_fr (62 + 56 * nx) (62 + 56 * nx + 56) h h' := by
  unfold f_X1_hold
  rw [hn, cd_ckI hx (by omega), cd_cl (by omega)]
  obtain ⟨h', e, s, f⟩ := cd_become (q := 60 + 1 + 1 + 56 * nx) (cd_is_p nx hx) cd_is_4 (by omega) hA hS
  rw [e, cd_bS]
  exact ⟨h', rfl, s, f⟩
theorem cd_undo {nx τ : Nat} {A : Nat → Int32} {h : cd_Hp} (hn : cd_g h 60 1 = nI nx) (hx : nx < 6) (hA : cd_Ok A τ) (hS : cd_St (62 + 56 * nx) A h) : ∃ h', f_X1_undo 60 4 h = some h' ∧ cd_St 4 A h' ∧ cd_fr 4 60 h h' := by
  unfold f_X1_undo
  rw [hn, cd_ckI hx (by omega), cd_cl (by omega)]
  obtain ⟨h', e, s, f⟩ := cd_become (r := 60 + 1 + 1 + 56 * nx) cd_is_4 (cd_is_p nx hx) (by omega) hA hS
  rw [e, cd_bS]
  exact ⟨h', rfl, s, f⟩
theorem cd_keep_n : ∀ n, n < 6 → (nI n + 1) - (nI n + 1) / 6 * 6 = nI ((n + 1) % 6) := by decide +kernel
theorem cd_keep_s : ∀ s, s ≤ 5 → (if 5 < nI s + 1 then 5 else nI s + 1) = nI (min (s + 1) 5) := by decide +kernel
theorem cd_back_n : ∀ n, n < 6 → ((nI n + 6) - 1) - ((nI n + 6) - 1) / 6 * 6 = nI ((n + 5) % 6) := by decide +kernel
theorem cd_keep {nx s : Nat} {h : cd_Hp} (hn : cd_g h 60 1 = nI nx) (hx : nx < 6) (hs : cd_g h 60 0 = nI s) (h5 : s ≤ 5) : f_X1_keep 60 h = cd_u (cd_u h 60 1 (nI ((nx + 1) % 6))) 60 0 (nI (min (s + 1) 5)) := by
  unfold f_X1_keep
  simp (disch := omega) only [cd_nmE2, hn, cd_keep_n nx hx, cd_gN, hs, cd_keep_s s h5]
theorem cd_stepBack {nx s τ : Nat} {A : Nat → Int32} {h : cd_Hp} (hn : cd_g h 60 1 = nI nx) (hx : nx < 6) (hs : cd_g h 60 0 = nI s) (h5 : s ≤ 5) (h0 : 0 < s) (hA : cd_Ok A τ) (hS : cd_St (62 + 56 * ((nx + 5) % 6)) A h) : ∃ h', f_X1_stepBack 60 4 h = some (nI (s - 1), h') ∧ cd_St 4 A h' ∧ cd_g h' 60 0 = nI (s - 1) ∧ cd_g h' 60 1 = nI ((nx + 5) % 6) ∧ (∀ x k, (x < 4 ∨ 60 ≤ x) → x ≠ 60 → cd_g h' x k = cd_g h x k) ∧ h'.2 = h.2 := by
  unfold f_X1_stepBack
  have hm : (nx + 5) % 6 < 6 := by omega
  rw [hs, if_pos (by rw [cd_ltR (by omega) (by omega)]; exact h0)]
  simp (disch := omega) only [cd_nmE2, hn, cd_back_n nx hx, cd_gN, cd_gE, hs, cd_ckI, cd_cl, cd_subL]
  generalize hh : cd_u (cd_u h 60 1 (nI ((nx + 5) % 6))) 60 0 (nI (s - 1)) = h2
  have r2 : cd_fr 60 61 h h2 := by
    rw [← hh]; exact (cd_fr.u (by omega) (by omega)).tr (cd_fr.u (by omega) (by omega))
  have e0 : cd_g h2 60 0 = nI (s - 1) := by rw [← hh]; exact cd_gE rfl rfl
  have e1 : cd_g h2 60 1 = nI ((nx + 5) % 6) := by rw [← hh, cd_gN (by omega)]; exact cd_gE rfl rfl
  have hG : cd_n A 70 ≤ 6 := hA.2.2.2.2.1.2
  have hS2 : cd_St (62 + 56 * ((nx + 5) % 6)) A h2 := hS.kept hG (fun y k w1 w2 => r2.1 _ _ (by omega))
  obtain ⟨h', e, s', f⟩ := cd_become (r := 60 + 1 + 1 + 56 * ((nx + 5) % 6)) cd_is_4 (cd_is_p _ hm) (by omega) hA hS2
  rw [e, cd_bS, f.1 60 0 (by omega), e0]
  exact ⟨h', rfl, s', by rw [f.1 60 0 (by omega), e0], by rw [f.1 60 1 (by omega), e1], fun x k z1 z2 => by rw [f.1 _ _ (by omega), r2.1 _ _ (by omega)], f.2.trans r2.2⟩
-- the reference's copies of rows
theorem cd_remB51 {s : Nat} {h : cd_Hp} (hs : cd_g h 404 3 = nI s) (h5 : s < 5) : ∃ o, cd_lp f_X8_remembers_B51 cd_fu (0, h) = some o ∧ (∀ k, k < 659 → cd_g o.2 407 (659 * s + k) = cd_g h 405 k) ∧ (∀ x k, ¬ (x = 407 ∧ 659 * s ≤ k ∧ k < 659 * s + 659) → cd_g o.2 x k = cd_g h x k) ∧ o.2.2 = h.2 := by
  refine cd_for 659 (fun i st => st.1 = nI i ∧ (∀ k, k < i → cd_g st.2 407 (659 * s + k) = cd_g h 405 k) ∧ (∀ x k, ¬ (x = 407 ∧ 659 * s ≤ k ∧ k < 659 * s + i) → cd_g st.2 x k = cd_g h x k) ∧ st.2.2 = h.2) _ ?_ cd_fu 0 (0, h) (Nat.zero_le _) (by unfold cd_fu; omega) ⟨rfl, fun k hk => absurd hk (by omega), fun _ _ _ => rfl, rfl⟩
  rintro i ⟨v, k1⟩ K hi ⟨hv, hI, hfr, h2⟩
  dsimp only at hv hI hfr h2
  subst hv
  unfold f_X8_remembers_B51
  dsimp only
  have e3 : cd_g k1 404 3 = nI s := by rw [hfr _ _ (by omega)]; exact hs
  rcases Nat.lt_or_ge i 659 with hlt | hge
  · left
    refine ⟨hlt, ?_⟩
    rw [if_neg (by rw [cd_leR (by omega) (by omega)]; omega), e3]
    simp (disch := omega) only [cd_mulR, nI_add, cd_ckI, cd_cl, cd_nmE2, cd_addL]
    refine ⟨_, ⟨rfl, fun k hk => ?_, fun x k hx => ?_, h2⟩, rfl⟩
    · dsimp only
      rcases Nat.lt_or_ge k i with z | z
      · rw [cd_gN (by omega)]; exact hI k z
      · rw [cd_gE rfl (by omega), hfr _ _ (by omega)]; exact congrArg (cd_g h _) (by omega)
    · dsimp only
      rw [cd_gN (by omega)]; exact hfr x k (by omega)
  · right
    obtain rfl : i = 659 := by omega
    rw [if_pos (by rw [cd_leR (by omega) (by omega)]; omega)]
    exact ⟨_, rfl, hI, hfr, h2⟩
theorem cd_remB10 {h : cd_Hp} : ∃ o, cd_lp f_X8_remembers_B10 cd_fu (0, h) = some o ∧ (∀ k, k < 2636 → cd_g o.2 407 k = cd_g h 407 (k + 659)) ∧ (∀ x k, ¬ (x = 407 ∧ k < 2636) → cd_g o.2 x k = cd_g h x k) ∧ o.2.2 = h.2 := by
  refine cd_for 2636 (fun i st => st.1 = nI i ∧ (∀ k, k < i → cd_g st.2 407 k = cd_g h 407 (k + 659)) ∧ (∀ x k, ¬ (x = 407 ∧ k < i) → cd_g st.2 x k = cd_g h x k) ∧ st.2.2 = h.2) _ ?_ cd_fu 0 (0, h) (Nat.zero_le _) (by unfold cd_fu; omega) ⟨rfl, fun k hk => absurd hk (by omega), fun _ _ _ => rfl, rfl⟩
  rintro i ⟨v, k1⟩ K hi ⟨hv, hI, hfr, h2⟩
  dsimp only at hv hI hfr h2
  subst hv
  unfold f_X8_remembers_B10
  dsimp only
  rcases Nat.lt_or_ge i 2636 with hlt | hge
  · left
    refine ⟨hlt, ?_⟩
    rw [if_neg (by rw [cd_leR (by omega) (by omega)]; omega)]
    simp (disch := omega) only [cd_addL, cd_ckI, cd_cl, cd_nmE2]
    refine ⟨_, ⟨rfl, fun k hk => ?_, fun x k hx => ?_, h2⟩, rfl⟩
    · dsimp only
      rcases Nat.lt_or_ge k i with z | z
      · rw [cd_gN (by omega)]; exact hI k z
      · rw [cd_gE rfl (by omega), hfr _ _ (by omega)]; exact congrArg (cd_g h _) (by omega)
    · dsimp only
      rw [cd_gN (by omega)]; exact hfr x k (by omega)
  · right
    obtain rfl : i = 2636 := by omega
    rw [if_pos (by rw [cd_leR (by omega) (by omega)]; omega)]
    exact ⟨_, rfl, hI, hfr, h2⟩
/-- the row of the reference, its rows to go back to -/
abbrev cd_R (h : cd_Hp) : Nat → Int32 := fun k => cd_g h 405 k
abbrev cd_PR (h : cd_Hp) (i : Nat) : Nat → Int32 := fun k => cd_g h 407 (659 * i + k)
theorem cd_remembers {s : Nat} {h : cd_Hp} (hs : cd_g h 404 3 = nI s) (h5 : s ≤ 5) : ∃ h', f_X8_remembers h = some h' ∧ cd_g h' 404 3 = nI (min (s + 1) 5) ∧ (∀ i k, i + 1 < min (s + 1) 5 → k < 659 → cd_PR h' i k = cd_PR h (if s = 5 then i + 1 else i) k) ∧ (∀ k, k < 659 → cd_PR h' (min (s + 1) 5 - 1) k = cd_R h k) ∧ (∀ x k, x ≠ 407 → ¬ (x = 404 ∧ k = 3) → cd_g h' x k = cd_g h x k) ∧ h'.2 = h.2 := by
  unfold f_X8_remembers
  rw [hs]
  by_cases e5 : s = 5
  · subst e5
    rw [if_pos (show nI 5 = 5 from rfl)]
    obtain ⟨o, eo, o1, o2, o3⟩ := cd_remB10 (h := h)
    rw [eo, cd_bS]
    have es : cd_g o.2 404 3 = nI 5 := by rw [o2 _ _ (by omega)]; exact hs
    rw [es]
    simp (disch := omega) only [cd_subL, cd_nmE2]
    obtain ⟨p, ep, p1, p2, p3⟩ := cd_remB51 (s := 4) (h := cd_u o.2 404 3 (nI (5 - 1))) (cd_gE rfl rfl) (by omega)
    rw [ep, cd_bS, p2 _ _ (by omega), cd_gE rfl rfl]
    refine ⟨_, rfl, ?_, fun i k hi hk => ?_, fun k hk => ?_, fun x k hx hx2 => ?_, ?_⟩
    · rw [cd_gE rfl rfl]; rfl
    · dsimp only [cd_PR]
      rw [cd_gN (by omega), p2 _ _ (by omega), cd_gN (by omega), o1 _ (by omega), if_pos trivial]; exact congrArg (cd_g h 407) (by omega)
    · dsimp only [cd_PR, cd_R]
      rw [cd_gN (by omega)]
      have := p1 k hk
      rw [cd_gN (by omega), o2 _ _ (by omega)] at this
      exact this
    · rw [cd_gN (by omega), p2 _ _ (by omega), cd_gN (by omega), o2 _ _ (by omega)]
    · exact p3.trans o3
  · rw [if_neg (by rw [cd_eqL (by omega) (by omega)]; exact e5)]
    obtain ⟨p, ep, p1, p2, p3⟩ := cd_remB51 (s := s) (h := h) hs (by omega)
    have es : cd_g p.2 404 3 = nI s := by rw [p2 _ _ (by omega)]; exact hs
    rw [ep, cd_bS, es]
    simp only [cd_nmE2, cd_addL]
    have em : min (s + 1) 5 = s + 1 := by omega
    rw [em]
    refine ⟨_, rfl, ?_, fun i k hi hk => ?_, fun k hk => ?_, fun x k hx hx2 => ?_, ?_⟩
    · rw [cd_gE rfl rfl]
    · dsimp only [cd_PR]
      rw [cd_gN (by omega), p2 _ _ (by omega), if_neg e5]
    · dsimp only [cd_PR, cd_R]
      rw [cd_gN (by omega)]
      exact p1 k hk
    · rw [cd_gN (by omega), p2 _ _ (by omega)]
    · exact p3
theorem cd_back8 {s : Nat} {h : cd_Hp} (hs : cd_g h 404 3 = nI s) (h5 : s ≤ 5) (h0 : 0 < s) : ∃ h', f_X8_back h = some (nI (s - 1), h') ∧ cd_g h' 404 3 = nI (s - 1) ∧ (∀ k, k < 659 → cd_R h' k = cd_PR h (s - 1) k) ∧ (∀ x k, x ≠ 405 → ¬ (x = 404 ∧ k = 3) → cd_g h' x k = cd_g h x k) ∧ h'.2 = h.2 := by
  unfold f_X8_back
  rw [hs, if_neg (by rw [cd_eqL (by omega) (by omega)]; omega)]
  simp (disch := omega) only [cd_subL, cd_nmE2]
  generalize hh : cd_u h 404 3 (nI (s - 1)) = h2
  have r2 : ∀ x k, ¬ (x = 404 ∧ k = 3) → cd_g h2 x k = cd_g h x k := fun x k z => by rw [← hh, cd_gN z]
  have e2 : cd_g h2 404 3 = nI (s - 1) := by rw [← hh, cd_gE rfl rfl]
  have e22 : h2.2 = h.2 := by rw [← hh]; rfl
  have hloop : ∃ o, cd_lp f_X8_back_B24 cd_fu (0, h2) = some o ∧ (∀ k, k < 659 → cd_g o.2 405 k = cd_g h 407 (659 * (s - 1) + k)) ∧ (∀ x k, x ≠ 405 → cd_g o.2 x k = cd_g h2 x k) ∧ o.2.2 = h2.2 := by
    refine cd_for 659 (fun i st => st.1 = nI i ∧ (∀ k, k < i → cd_g st.2 405 k = cd_g h 407 (659 * (s - 1) + k)) ∧ (∀ x k, x ≠ 405 → cd_g st.2 x k = cd_g h2 x k) ∧ st.2.2 = h2.2) _ ?_ cd_fu 0 (0, h2) (Nat.zero_le _) (by unfold cd_fu; omega) ⟨rfl, fun k hk => absurd hk (by omega), fun _ _ _ => rfl, rfl⟩
    rintro i ⟨v, k1⟩ K hi ⟨hv, hI, hfr, h2⟩
    dsimp only at hv hI hfr h2
    subst hv
    unfold f_X8_back_B24
    dsimp only
    have e3 : cd_g k1 404 3 = nI (s - 1) := by rw [hfr _ _ (by omega)]; exact e2
    rcases Nat.lt_or_ge i 659 with hlt | hge
    · left
      refine ⟨hlt, ?_⟩
      rw [if_neg (by rw [cd_leR (by omega) (by omega)]; omega), e3]
      simp (disch := omega) only [cd_mulR, nI_add, cd_ckI, cd_cl, cd_nmE2, cd_addL]
      refine ⟨_, ⟨rfl, fun k hk => ?_, fun x k hx => ?_, h2⟩, rfl⟩
      · dsimp only
        rcases Nat.lt_or_ge k i with z | z
        · rw [cd_gN (by omega)]; exact hI k z
        · obtain rfl : k = i := by omega
          rw [cd_gE rfl rfl, hfr _ _ (by omega), r2 _ _ (by omega)]
      · dsimp only
        rw [cd_gN (by omega)]; exact hfr x k (by omega)
    · right
      obtain rfl : i = 659 := by omega
      rw [if_pos (by rw [cd_leR (by omega) (by omega)]; omega)]
      exact ⟨_, rfl, hI, hfr, h2⟩
  obtain ⟨o, eo, o1, o2, o3⟩ := hloop
  rw [eo, cd_bS, o2 _ _ (by omega), e2]
  exact ⟨_, rfl, by rw [o2 _ _ (by omega), e2], o1, fun x k z1 z2 => by rw [o2 _ _ z1, r2 _ _ z2], o3.trans e22⟩
theorem cd_swap {h : cd_Hp} : ∃ h', f_X8_swapsAside h = some h' ∧ (∀ k, k < 659 → cd_g h' 405 k = cd_g h 406 k ∧ cd_g h' 406 k = cd_g h 405 k) ∧ (∀ x k, x ≠ 405 → x ≠ 406 → cd_g h' x k = cd_g h x k) ∧ h'.2 = h.2 := by
  unfold f_X8_swapsAside
  have hloop : ∃ o, cd_lp f_X8_swapsAside_B2 cd_fu (0, h) = some o ∧ (∀ k, k < 659 → cd_g o.2 405 k = cd_g h 406 k ∧ cd_g o.2 406 k = cd_g h 405 k) ∧ (∀ x k, x ≠ 405 → x ≠ 406 → cd_g o.2 x k = cd_g h x k) ∧ o.2.2 = h.2 := by
    refine cd_for 659 (fun i st => st.1 = nI i ∧ (∀ k, k < i → cd_g st.2 405 k = cd_g h 406 k ∧ cd_g st.2 406 k = cd_g h 405 k) ∧ (∀ x k, (x ≠ 405 ∧ x ≠ 406 ∨ i ≤ k) → cd_g st.2 x k = cd_g h x k) ∧ st.2.2 = h.2) _ ?_ cd_fu 0 (0, h) (Nat.zero_le _) (by unfold cd_fu; omega) ⟨rfl, fun k hk => absurd hk (by omega), fun _ _ _ => rfl, rfl⟩
    rintro i ⟨v, k1⟩ K hi ⟨hv, hI, hfr, h2⟩
    dsimp only at hv hI hfr h2
    subst hv
    unfold f_X8_swapsAside_B2
    dsimp only
    rcases Nat.lt_or_ge i 659 with hlt | hge
    · left
      refine ⟨hlt, ?_⟩
      rw [if_neg (by rw [cd_leR (by omega) (by omega)]; omega)]
      simp (disch := omega) only [cd_ckI, cd_cl, cd_nmE2, cd_addL]
      refine ⟨_, ⟨rfl, fun k hk => ?_, fun x k hx => ?_, h2⟩, rfl⟩
      · dsimp only
        rcases Nat.lt_or_ge k i with z | z
        · simp (disch := omega) only [cd_gN]; exact hI k z
        · obtain rfl : k = i := by omega
          simp (disch := omega) only [cd_gN, cd_gE]
          rw [hfr 406 k (by omega), hfr 405 k (by omega)]; exact ⟨rfl, rfl⟩
      · dsimp only
        simp (disch := omega) only [cd_gN]; exact hfr x k (by omega)
    · right
      obtain rfl : i = 659 := by omega
      rw [if_pos (by rw [cd_leR (by omega) (by omega)]; omega)]
      exact ⟨_, rfl, hI, fun x k z1 z2 => hfr x k (by omega), h2⟩
  obtain ⟨o, eo, o1, o2, o3⟩ := hloop
  rw [eo, cd_bS]
  exact ⟨_, rfl, o1, o2, o3⟩
theorem cd_aside {h : cd_Hp} : ∃ o, cd_lp f_X8_does_B17 cd_fu (0, h) = some o ∧ (∀ k, k < 659 → cd_g o.2 406 k = cd_g h 405 k) ∧ (∀ x k, x ≠ 406 → cd_g o.2 x k = cd_g h x k) ∧ o.2.2 = h.2 := by
  refine cd_for 659 (fun i st => st.1 = nI i ∧ (∀ k, k < i → cd_g st.2 406 k = cd_g h 405 k) ∧ (∀ x k, x ≠ 406 → cd_g st.2 x k = cd_g h x k) ∧ st.2.2 = h.2) _ ?_ cd_fu 0 (0, h) (Nat.zero_le _) (by unfold cd_fu; omega) ⟨rfl, fun k hk => absurd hk (by omega), fun _ _ _ => rfl, rfl⟩
  rintro i ⟨v, k1⟩ K hi ⟨hv, hI, hfr, h2⟩
  dsimp only at hv hI hfr h2
  subst hv
  unfold f_X8_does_B17
  dsimp only
  rcases Nat.lt_or_ge i 659 with hlt | hge
  · left
    refine ⟨hlt, ?_⟩
    rw [if_neg (by rw [cd_leR (by omega) (by omega)]; omega)]
    simp (disch := omega) only [cd_ckI, cd_cl, cd_nmE2, cd_addL]
    refine ⟨_, ⟨rfl, fun k hk => ?_, fun x k hx => ?_, h2⟩, rfl⟩
    · dsimp only
      rcases Nat.lt_or_ge k i with z | z
      · rw [cd_gN (by omega)]; exact hI k z
      · obtain rfl : k = i := by omega
        rw [cd_gE rfl rfl, hfr _ _ (by omega)]
    · dsimp only
      rw [cd_gN (by omega)]; exact hfr x k (by omega)
  · right
    obtain rfl : i = 659 := by omega
    rw [if_pos (by rw [cd_leR (by omega) (by omega)]; omega)]
    exact ⟨_, rfl, hI, hfr, h2⟩
