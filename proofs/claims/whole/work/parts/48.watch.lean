-- BITS
theorem cd_bitOr : ∀ g, g < 6 → ∀ b, b < 64 → b < 2 ^ g → nI b ||| (1 <<< (nI g &&& 31)) = nI (b + 2 ^ g) := by decide +kernel
theorem cd_bitIn : ∀ g, g < 6 → ∀ b, b < 64 → f_X4_isIn (nI b) (nI g) = if b.testBit g then 1 else 0 := by decide +kernel
theorem cd_bitHas : ∀ g, g < 6 → ∀ b, b < 64 → f_X8_has (nI b) (nI g) = if b.testBit g then 1 else 0 := by decide +kernel
theorem cd_bitT : ∀ g, g < 6 → ∀ b, b < 64 → b < 2 ^ g → ∀ i, i < 6 → (b + 2 ^ g).testBit i = (decide (i = g) || b.testBit i) := by decide +kernel
theorem cd_bitZ : ∀ g, g < 6 → ∀ b, b < 64 → b < 2 ^ g → ∀ i, i < 6 → g ≤ i → b.testBit i = false := by decide +kernel
theorem cd_or0 {x : Int32} : x ||| 0 = x := by
  apply Int32.toBitVec_inj.mp
  simp
theorem cd_pow2 {g : Nat} (h : g ≤ 6) : 2 ^ g ≤ 64 := by
  have : g = 0 ∨ g = 1 ∨ g = 2 ∨ g = 3 ∨ g = 4 ∨ g = 5 ∨ g = 6 := by omega
  rcases this with rfl | rfl | rfl | rfl | rfl | rfl | rfl <;> decide
-- WHO WATCHES
def cd_rch (A : Nat → Int32) (s : Nat) : Nat → Nat → Bool
  | 0, _ => false
  | f + 1, t => if t = 0 then false else (cd_n A (10 + 10 * t) == s) || cd_rch A s f (cd_n A (10 + 10 * t))
def cd_wt (A : Nat → Int32) (t g : Nat) : Bool := (cd_n A (71 + 58 * g + 4) == 1) && ((cd_n A (71 + 58 * g) == t) || ((cd_n A (71 + 58 * g + 3) == 1) && cd_rch A (cd_n A (71 + 58 * g)) 6 t))
def cd_Wa (A : Nat → Int32) (t : Nat) : Nat → Nat
  | 0 => 0
  | g + 1 => cd_Wa A t g + if cd_wt A t g then 2 ^ g else 0
theorem cd_Wa_lt {A : Nat → Int32} {t : Nat} : ∀ g, cd_Wa A t g < 2 ^ g := by
  intro g
  induction g with
  | zero => exact Nat.one_pos
  | succ g ih =>
    unfold cd_Wa
    rw [Nat.pow_succ]
    split <;> omega
theorem cd_Wa_bit {A : Nat → Int32} {t : Nat} : ∀ g, g ≤ 6 → ∀ i, i < g → (cd_Wa A t g).testBit i = cd_wt A t i := by
  intro g
  induction g with
  | zero => intro _ i hi; omega
  | succ g ih =>
    intro hg i hi
    have lt := cd_Wa_lt (A := A) (t := t) g
    have p := cd_pow2 (g := g) (by omega)
    unfold cd_Wa
    rcases Nat.lt_or_ge i g with z | z
    · split
      · rw [cd_bitT g (by omega) _ (by omega) lt i (by omega), ih (by omega) i z, decide_eq_false (by omega), Bool.false_or]
      · rw [Nat.add_zero]; exact ih (by omega) i z
    · obtain rfl : i = g := by omega
      split
      · next h => rw [cd_bitT i (by omega) _ (by omega) lt i (by omega), decide_eq_true rfl, Bool.true_or, h]
      · next h => rw [Nat.add_zero, cd_bitZ i (by omega) _ (by omega) lt i (by omega) (Nat.le_refl _)]; exact (Bool.eq_false_iff.mpr h).symm
theorem cd_Wa_hi {A : Nat → Int32} {t : Nat} : ∀ g, g ≤ 6 → ∀ i, i < 6 → g ≤ i → (cd_Wa A t g).testBit i = false := by
  intro g hg i hi hgi
  have lt := cd_Wa_lt (A := A) (t := t) g
  have p := cd_pow2 (g := g) (by omega)
  exact cd_bitZ g (by omega) _ (by omega) lt i hi hgi
theorem cd_nI_inj {a b : Nat} (ha : a < 2147483648) (hb : b < 2147483648) : nI a = nI b ↔ a = b := cd_eq ha hb
-- the class's
theorem cd_reaches {q t s n : Nat} {A : Nat → Int32} {h : cd_Hp} (x : cd_StT q A h) (hT : cd_OkT A) (hn : cd_n A 9 = n) (ht : t < n) (hs : s < 100) : f_X5_reachesByParents (q + 2) (nI t) (nI s) h = some (if cd_rch A s 6 t then 1 else 0) := by
  have h6 : n ≤ 6 := by rw [← hn]; exact hT.1.1.2
  have hloop : ∃ o, cd_lp (f_X5_reachesByParents_B5 (q + 2) (nI t) (nI s) h) cd_fu (nI t, 0) = some o ∧ ((o = .inl 1 ∧ cd_rch A s 6 t = true) ∨ ((∃ v, o = .inr v) ∧ cd_rch A s 6 t = false)) := by
    refine cd_for 6 (fun i (st : Int32 × Int32) => ∃ u, u < n ∧ st = (nI u, nI i) ∧ cd_rch A s (6 - i) u = cd_rch A s 6 t) _ ?_ cd_fu 0 (nI t, 0) (by omega) (by unfold cd_fu; omega) ⟨t, ht, rfl, rfl⟩
    rintro i st K hi ⟨u, hu, rfl, hI⟩
    unfold f_X5_reachesByParents_B5
    dsimp only
    rcases Nat.lt_or_ge i 6 with hlt | hge
    · rw [if_neg (by rw [cd_leR (by omega) (by omega)]; omega)]
      rcases Nat.eq_zero_or_pos u with h0 | h0
      · subst h0
        right
        rw [if_pos (by decide)]
        refine ⟨_, rfl, Or.inr ⟨⟨_, rfl⟩, ?_⟩⟩
        rw [← hI, show 6 - i = (5 - i) + 1 by omega]
        rfl
      · have w : f_X7_isWithin (nI u) 1 5 = 1 := cd_in7t (a := 1) (b := 5) (by omega) (by omega) (by omega)
        have hp := hT.2.2.1 u (by omega) (by omega)
        have hp2 := hp.1.2
        rw [w, if_neg (by decide), cd_ckI (by omega) (by omega), cd_cl (by omega), cd_nmE2, (x.2.1 u (by omega)).1, hp.1.1]
        have hst : cd_rch A s (6 - i) u = ((cd_n A (10 + 10 * u) == s) || cd_rch A s (5 - i) (cd_n A (10 + 10 * u))) := by
          rw [show 6 - i = (5 - i) + 1 by omega]
          show (if u = 0 then false else _) = _
          rw [if_neg (by omega)]
        by_cases z : cd_n A (10 + 10 * u) = s
        · right
          rw [if_pos (by rw [z])]
          refine ⟨_, rfl, Or.inl ⟨rfl, ?_⟩⟩
          rw [← hI, hst, z]
          simp
        · left
          rw [if_neg (by rw [cd_eq (by omega) (by omega)]; exact z), cd_nmE2, cd_addL]
          refine ⟨hlt, _, ⟨cd_n A (10 + 10 * u), by omega, rfl, ?_⟩, rfl⟩
          rw [← hI, hst, show 6 - (i + 1) = 5 - i by omega, beq_eq_false_iff_ne.mpr z, Bool.false_or]
    · right
      obtain rfl : i = 6 := by omega
      rw [if_pos (by decide)]
      refine ⟨_, rfl, Or.inr ⟨⟨_, rfl⟩, ?_⟩⟩
      rw [← hI]; rfl
  obtain ⟨o, eo, ho⟩ := hloop
  unfold f_X5_reachesByParents
  rw [eo]
  rcases ho with ⟨rfl, ho⟩ | ⟨⟨v, rfl⟩, ho⟩
  · rw [ho]; rfl
  · rw [ho]; rfl
theorem cd_num01 {A : Nat → Int32} {k : Nat} (h : cd_num A k 1) : (A k = 0 ∧ cd_n A k = 0) ∨ (A k = 1 ∧ cd_n A k = 1) := by
  obtain ⟨h1, h2⟩ := h
  have : cd_n A k = 0 ∨ cd_n A k = 1 := by omega
  rcases this with e | e
  · left; rw [e] at h1; exact ⟨h1, e⟩
  · right; rw [e] at h1; exact ⟨h1, e⟩
theorem cd_watch4 {q t τ : Nat} {A : Nat → Int32} {h : cd_Hp} (hA : cd_Ok A τ) (x : cd_St q A h) (ht : t < cd_n A 9) : f_X4_watchersOf q (nI t) h = some (nI (cd_Wa A t (cd_n A 70))) := by
  have hG := hA.2.2.2.2.1
  have h6 := hG.2
  have hT := hA.2.2.2.1
  have h9 := hT.1.1.2
  have hloop : ∃ o, cd_lp (f_X4_watchersOf_B4 q (nI t) h) cd_fu (0, 0) = some o ∧ o.1 = nI (cd_Wa A t (cd_n A 70)) := by
    refine cd_for (cd_n A 70) (fun i (st : Int32 × Int32) => st = (nI (cd_Wa A t i), nI i)) _ ?_ cd_fu 0 (0, 0) (Nat.zero_le _) (by unfold cd_fu; omega) rfl
    rintro i st K hi rfl
    unfold f_X4_watchersOf_B4
    dsimp only
    have e3 : cd_g h q 3 = nI (cd_n A 70) := by rw [x.1.2.2.2.1]; exact hG.1
    rw [e3]
    rcases Nat.lt_or_ge i (cd_n A 70) with hlt | hge
    · left
      refine ⟨hlt, (nI (cd_Wa A t (i + 1)), nI (i + 1)), rfl, ?_⟩
      have hg := hA.2.2.2.2.2.1 i hlt
      obtain ⟨⟨g0, g0'⟩, -, -, g3, g4, -⟩ := hg
      have g05 := g0.2
      obtain ⟨y0, -, -, y3, y4, -⟩ := (x.2.2.2.1 i hlt).1
      have lt := cd_Wa_lt (A := A) (t := t) i
      have p2 := cd_pow2 (g := i) (by omega)
      have eor := cd_bitOr i (by omega) (cd_Wa A t i) (by omega) lt
      have hz : cd_Wa A t (i + 1) = cd_Wa A t i + if cd_wt A t i then 2 ^ i else 0 := rfl
      have hw : cd_wt A t i = ((cd_n A (71 + 58 * i + 4) == 1) && ((cd_n A (71 + 58 * i) == t) || ((cd_n A (71 + 58 * i + 3) == 1) && cd_rch A (cd_n A (71 + 58 * i)) 6 t))) := rfl
      rw [if_neg (by rw [cd_le (by omega) (by omega)]; omega), cd_ckI (by omega) (by omega), cd_cl (by omega), y0, y3, y4, g0.1]
      have er := cd_reaches (s := cd_n A (71 + 58 * i)) x.2.2.1 hT rfl ht (by omega)
      rw [er]
      simp only [cd_nmE2, cd_bS, cd_addL, eor]
      by_cases z0 : cd_n A (71 + 58 * i) = t
      · rw [if_pos (by rw [z0])]
        rcases cd_num01 g4 with ⟨v4, m4⟩ | ⟨v4, m4⟩
        · have : cd_wt A t i = false := by rw [hw, m4]; rfl
          rw [v4, hz, this]
          simp
        · have : cd_wt A t i = true := by rw [hw, m4, z0]; simp
          rw [v4, hz, this]
          simp
      · rw [if_neg (by rw [cd_eq (by omega) (by omega)]; exact z0)]
        rcases cd_num01 g3 with ⟨v3, m3⟩ | ⟨v3, m3⟩
        · have : cd_wt A t i = false := by rw [hw, m3, beq_eq_false_iff_ne.mpr z0]; simp
          rw [v3, hz, this]
          simp
        · rcases cd_num01 g4 with ⟨v4, m4⟩ | ⟨v4, m4⟩
          · have : cd_wt A t i = false := by rw [hw, m4]; rfl
            rw [v3, v4, hz, this]
            simp
          · by_cases zr : cd_rch A (cd_n A (71 + 58 * i)) 6 t = true
            · have : cd_wt A t i = true := by rw [hw, m3, m4, zr]; simp
              rw [v3, v4, hz, this, zr]
              simp
            · have zr' : cd_rch A (cd_n A (71 + 58 * i)) 6 t = false := by simpa using zr
              have : cd_wt A t i = false := by rw [hw, zr', beq_eq_false_iff_ne.mpr z0]; simp
              rw [v3, v4, hz, this, zr']
              simp
    · right
      obtain rfl : i = cd_n A 70 := by omega
      rw [if_pos (by rw [cd_le (by omega) (by omega)]; omega)]
      exact ⟨_, rfl, rfl⟩
  obtain ⟨o, eo, ho⟩ := hloop
  unfold f_X4_watchersOf
  rw [eo, cd_bS, ho]
-- the reference's
theorem cd_isOf8 {g t τ : Nat} {A : Nat → Int32} {h1 : cd_Hp} (hr : ∀ k, k < 659 → cd_R h1 k = A k) (hA : cd_Ok A τ) (hg : g < cd_n A 70) (ht : t < cd_n A 9) : f_X8_isOf (nI g) (nI t) h1 = some (if (cd_n A (71 + 58 * g) == t) || ((cd_n A (71 + 58 * g + 3) == 1) && cd_rch A (cd_n A (71 + 58 * g)) 6 t) then 1 else 0) := by
  have h6 := hA.2.2.2.2.1.2
  have hT := hA.2.2.2.1
  have h9 := hT.1.1.2
  obtain ⟨⟨g0, g0'⟩, -, -, g3, -⟩ := hA.2.2.2.2.2.1 g hg
  have g05 := g0.2
  generalize hs : cd_n A (71 + 58 * g) = s at *
  have e0 : f_X8_ofGroup (nI g) 0 h1 = some (nI s) := by
    have := cd_ofGroup (h := h1) (g := g) (w := 0) (by omega) (by omega)
    rw [show (0 : Int32) = nI 0 from rfl, this]
    have e := hr (71 + 58 * g) (by omega)
    dsimp only [cd_R] at e
    rw [Nat.add_zero, e, g0.1, hs]
  have e3 : f_X8_ofGroup (nI g) 3 h1 = some (A (71 + 58 * g + 3)) := by
    have := cd_ofGroup (h := h1) (g := g) (w := 3) (by omega) (by omega)
    rw [show (3 : Int32) = nI 3 from rfl, this]
    exact congrArg some (hr (71 + 58 * g + 3) (by omega))
  have hloop : ∀ v fin, ((v = 1 ∧ fin = true) ∨ (v = 0 ∧ fin = ((cd_n A (71 + 58 * g + 3) == 1) && cd_rch A s 6 t))) → ∃ o, cd_lp (f_X8_isOf_B30 (nI g) (nI t) (nI s) h1) cd_fu (v, A (10 + 10 * t)) = some o ∧ o.1 = if fin = true then 1 else 0 := by
    intro v fin hv
    refine cd_for 6 (fun i (st : Int32 × Int32) => ∃ u, u < cd_n A 9 ∧ u + i ≤ 5 ∧ st.2 = A (10 + 10 * u) ∧ ((st.1 = 1 ∧ fin = true) ∨ (st.1 = 0 ∧ fin = ((cd_n A (71 + 58 * g + 3) == 1) && cd_rch A s (6 - i) u)))) _ ?_ cd_fu 0 (v, A (10 + 10 * t)) (by omega) (by unfold cd_fu; omega) ⟨t, ht, by omega, rfl, hv⟩
    rintro i ⟨w, cur⟩ K hi ⟨u, hu, hui, hcur, hI⟩
    dsimp only at hcur hI
    subst hcur
    unfold f_X8_isOf_B30
    dsimp only
    rcases Nat.eq_zero_or_pos u with h0 | h0
    · subst h0
      right
      have ez : A (10 + 10 * 0) = -1 := hT.2.1.1
      rw [if_pos ez]
      refine ⟨_, rfl, ?_⟩
      rcases hI with ⟨rfl, hI⟩ | ⟨rfl, hI⟩
      · rw [hI]; rfl
      · have : cd_rch A s (6 - i) 0 = false := by rw [show 6 - i = (5 - i) + 1 by omega]; rfl
        rw [this, Bool.and_false] at hI
        rw [hI]; rfl
    · left
      have hp := hT.2.2.1 u (by omega) hu
      have hp2 := hp.1.2
      refine ⟨by omega, ?_⟩
      have hst : cd_rch A s (6 - i) u = ((cd_n A (10 + 10 * u) == s) || cd_rch A s (5 - i) (cd_n A (10 + 10 * u))) := by
        rw [show 6 - i = (5 - i) + 1 by omega]
        show (if u = 0 then false else _) = _
        rw [if_neg (by omega)]
      have hne : ¬ A (10 + 10 * u) = -1 := by rw [hp.1.1]; exact cd_neg1 (by omega)
      have hcl : cd_g h1 405 (10 + 10 * cd_n A (10 + 10 * u)) = A (10 + 10 * cd_n A (10 + 10 * u)) := hr _ (by omega)
      rw [if_neg hne, hp.1.1, cd_taskAt, e3, cd_bS]
      simp (disch := omega) only [cd_ckI, cd_cl, cd_nmE2, hcl]
      rcases hI with ⟨rfl, hI⟩ | ⟨rfl, hI⟩
      · rw [if_neg (by decide)]
        exact ⟨_, ⟨cd_n A (10 + 10 * u), by omega, by omega, rfl, Or.inl ⟨rfl, hI⟩⟩, rfl⟩
      · rw [if_pos rfl]
        rcases cd_num01 g3 with ⟨v3, m3⟩ | ⟨v3, m3⟩
        · rw [v3, if_neg (by decide)]
          refine ⟨_, ⟨cd_n A (10 + 10 * u), by omega, by omega, rfl, Or.inr ⟨rfl, ?_⟩⟩, rfl⟩
          rw [hI, m3]; rfl
        · rw [v3, if_pos rfl]
          by_cases z : cd_n A (10 + 10 * u) = s
          · rw [if_pos (by rw [z])]
            refine ⟨_, ⟨cd_n A (10 + 10 * u), by omega, by omega, rfl, Or.inl ⟨rfl, ?_⟩⟩, rfl⟩
            rw [hI, hst, z, m3]; simp
          · rw [if_neg (by rw [cd_eq (by omega) (by omega)]; exact z)]
            refine ⟨_, ⟨cd_n A (10 + 10 * u), by omega, by omega, rfl, Or.inr ⟨rfl, ?_⟩⟩, rfl⟩
            rw [hI, hst, show 6 - (i + 1) = 5 - i by omega, beq_eq_false_iff_ne.mpr z, Bool.false_or]
  have ep : cd_g h1 405 (10 + 10 * t) = A (10 + 10 * t) := hr _ (by omega)
  unfold f_X8_isOf
  rw [e0, cd_bS, cd_taskAt]
  simp (disch := omega) only [cd_ckI, cd_cl, cd_nmE2, ep]
  by_cases z : s = t
  · rw [if_pos (by rw [z])]
    obtain ⟨o, eo, ho⟩ := hloop 1 true (Or.inl ⟨rfl, rfl⟩)
    rw [eo, cd_bS, ho, cd_ckT (by decide), z]
    simp
  · rw [if_neg (by rw [cd_eq (by omega) (by omega)]; exact z)]
    obtain ⟨o, eo, ho⟩ := hloop 0 _ (Or.inr ⟨rfl, rfl⟩)
    rw [eo, cd_bS, ho, cd_ckT (by split <;> decide), beq_eq_false_iff_ne.mpr z, Bool.false_or]
theorem cd_watch8 {t τ : Nat} {A : Nat → Int32} {h1 : cd_Hp} (hr : ∀ k, k < 659 → cd_R h1 k = A k) (hA : cd_Ok A τ) (ht : t < cd_n A 9) : f_X8_watchers (nI t) h1 = some (nI (cd_Wa A t (cd_n A 70))) := by
  have hG := hA.2.2.2.2.1
  have h6 := hG.2
  have e70 : cd_g h1 405 70 = nI (cd_n A 70) := (hr 70 (by omega)).trans hG.1
  have hloop : ∃ o, cd_lp (f_X8_watchers_B4 (nI t) h1) cd_fu (0, 0) = some o ∧ o.1 = nI (cd_Wa A t (cd_n A 70)) := by
    refine cd_for (cd_n A 70) (fun i (st : Int32 × Int32) => st = (nI (cd_Wa A t i), nI i)) _ ?_ cd_fu 0 (0, 0) (Nat.zero_le _) (by unfold cd_fu; omega) rfl
    rintro i st K hi rfl
    unfold f_X8_watchers_B4
    dsimp only
    rw [cd_c70, e70]
    rcases Nat.lt_or_ge i (cd_n A 70) with hlt | hge
    · left
      refine ⟨hlt, (nI (cd_Wa A t (i + 1)), nI (i + 1)), rfl, ?_⟩
      obtain ⟨⟨g0, g0'⟩, -, -, g3, g4, -⟩ := hA.2.2.2.2.2.1 i hlt
      have lt := cd_Wa_lt (A := A) (t := t) i
      have p2 := cd_pow2 (g := i) (by omega)
      have eor := cd_bitOr i (by omega) (cd_Wa A t i) (by omega) lt
      have hz : cd_Wa A t (i + 1) = cd_Wa A t i + if cd_wt A t i then 2 ^ i else 0 := rfl
      have hw : cd_wt A t i = ((cd_n A (71 + 58 * i + 4) == 1) && ((cd_n A (71 + 58 * i) == t) || ((cd_n A (71 + 58 * i + 3) == 1) && cd_rch A (cd_n A (71 + 58 * i)) 6 t))) := rfl
      have e4 : f_X8_ofGroup (nI i) 4 h1 = some (A (71 + 58 * i + 4)) := by
        have := cd_ofGroup (h := h1) (g := i) (w := 4) (by omega) (by omega)
        rw [show (4 : Int32) = nI 4 from rfl, this]
        exact congrArg some (hr (71 + 58 * i + 4) (by omega))
      rw [if_neg (by rw [cd_le (by omega) (by omega)]; omega), e4, cd_bS, cd_isOf8 hr hA hlt ht]
      simp only [cd_nmE2, cd_bS, cd_addL, eor, cd_or0]
      rcases cd_num01 g4 with ⟨v4, m4⟩ | ⟨v4, m4⟩
      · have : cd_wt A t i = false := by rw [hw, m4]; rfl
        rw [v4, hz, this]
        simp
      · rw [m4] at hw
        rw [v4, if_pos rfl, hz, hw]
        by_cases zz : ((cd_n A (71 + 58 * i) == t) || ((cd_n A (71 + 58 * i + 3) == 1) && cd_rch A (cd_n A (71 + 58 * i)) 6 t)) = true
        · rw [zz]; simp
        · have zz' : ((cd_n A (71 + 58 * i) == t) || ((cd_n A (71 + 58 * i + 3) == 1) && cd_rch A (cd_n A (71 + 58 * i)) 6 t)) = false := by simpa using zz
          rw [zz']; simp
    · right
      obtain rfl : i = cd_n A 70 := by omega
      rw [if_pos (by rw [cd_le (by omega) (by omega)]; omega)]
      exact ⟨_, rfl, rfl⟩
  obtain ⟨o, eo, ho⟩ := hloop
  unfold f_X8_watchers
  rw [eo, cd_bS, ho]
