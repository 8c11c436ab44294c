-- where those that joined stand
theorem cd_pP_in {B : Nat → Int32} {g g' e : Nat} (hg : g' < g) (hn : ¬ (B (71 + 58 * g' + 2) = 0 ∨ B (71 + 58 * g' + 9) = 0)) (he : e < cd_n B (71 + 58 * g' + 5)) : cd_pP B g' + e < cd_pP B g := by
  have h1 : cd_pP B (g' + 1) = cd_pP B g' + cd_n B (71 + 58 * g' + 5) := by
    show cd_pP B g' + _ = _
    rw [if_neg hn]
  have h2 := cd_pP_le (B := B) (g - (g' + 1)) (g' + 1)
  rw [show g' + 1 + (g - (g' + 1)) = g by omega] at h2
  omega
theorem cd_pQ_in {B : Nat → Int32} {i i' e : Nat} (hi : i' < i) (hn : ¬ B (71 + 58 * cd_n B (420 + i') + 9) = 0) (he : e < cd_n B (71 + 58 * cd_n B (420 + i') + 5)) : cd_pQ B i' + e < cd_pQ B i := by
  have h1 : cd_pQ B (i' + 1) = cd_pQ B i' + cd_n B (71 + 58 * cd_n B (420 + i') + 5) := by
    show cd_pQ B i' + _ = _
    rw [if_neg hn]
  have h2 := cd_pQ_le (B := B) (i - (i' + 1)) (i' + 1)
  rw [show i' + 1 + (i - (i' + 1)) = i by omega] at h2
  omega
theorem cd_jP_en {A : Nat → Int32} {τ W : Nat} (hA : cd_Ok A τ) : ∀ g, g ≤ cd_n A 70 → cd_EP (cd_jP A W g).1 (cd_jP A W g).2.2 g ∧ (cd_jP A W g).2.1 = cd_pP (cd_jP A W g).1 g ∧ ∀ g', g' < cd_n A 70 → (g ≤ g' ∨ A (71 + 58 * g' + 2) = 0) → (cd_jP A W g).1 (71 + 58 * g' + 9) = 0 := by
  intro g
  have h6 := hA.sz.1
  induction g with
  | zero =>
    intro _
    exact ⟨fun g' z => absurd z (Nat.not_lt_zero _), rfl, fun g' hg' _ => (cd_jc_ja hA (cd_n A 70) (Nat.le_refl _)).2.1 g' hg'⟩
  | succ g ih =>
    intro h
    have hI := ih (by omega)
    have hJ := (cd_jP_ok (W := W) hA g (by omega)).1
    have e : cd_jP A W (g + 1) = if W.testBit g = true ∧ A (71 + 58 * g + 2) = 1 then cd_jn true (cd_jP A W g) g else cd_jP A W g := rfl
    rw [e]
    clear e ih
    generalize cd_jP A W g = S at hI hJ ⊢
    obtain ⟨i1, i2, i3⟩ := hI
    by_cases hw : W.testBit g = true ∧ A (71 + 58 * g + 2) = 1
    · rw [if_pos hw]
      have ek : ∀ v k, k ≠ 71 + 58 * g + 9 → k ≠ 71 + 58 * g + 4 → cd_jw true S.1 g v k = S.1 k := fun v k z1 z2 => cd_jwN z1 z2
      have pe : ∀ v g', g' ≤ g → cd_pP (cd_jw true S.1 g v) g' = cd_pP S.1 g' := fun v g' z => cd_pP_congr g' (fun g'' z2 => by
        rw [ek v _ (by omega) (by omega), ek v _ (by omega) (by omega), cd_n.of (ek v (71 + 58 * g'' + 5) (by omega) (by omega))])
      have b2 : ∀ v, cd_jw true S.1 g v (71 + 58 * g + 2) = 1 := fun v => by rw [ek v _ (by omega) (by omega), hJ.eq (by omega) (by omega)]; exact hw.2
      have old : ∀ v g', g' < g → ¬ (cd_jw true S.1 g v (71 + 58 * g' + 2) = 0 ∨ cd_jw true S.1 g v (71 + 58 * g' + 9) = 0) → ∀ e, e < cd_n (cd_jw true S.1 g v) (71 + 58 * g' + 5) → cd_pP S.1 g' + e < S.2.1 ∧ S.2.2 (cd_pP S.1 g' + e) = 71 + 58 * g' + 10 + 3 * e := fun v g' z hn e he => by
        rw [ek v _ (by omega) (by omega), ek v _ (by omega) (by omega)] at hn
        rw [cd_n.of (ek v _ (by omega) (by omega))] at he
        exact ⟨by rw [i2]; exact cd_pP_in z hn he, i1 g' z hn e he⟩
      have off : ∀ v g', g' < cd_n A 70 → (g + 1 ≤ g' ∨ A (71 + 58 * g' + 2) = 0) → cd_jw true S.1 g v (71 + 58 * g' + 9) = 0 := fun v g' hg' hz => by
        have hne : g' ≠ g := by
          rintro rfl
          rcases hz with z | z
          · omega
          · rw [hw.2] at z; exact absurd z (by decide)
        rw [ek v _ (by omega) (by omega)]
        exact i3 g' hg' (hz.imp (fun z => by omega) id)
      by_cases hc : cd_can S.1 (S.2.1 + cd_n S.1 (71 + 58 * g + 5)) (cd_ea S.2.2 S.2.1 (71 + 58 * g))
      · rw [cd_jnT hc]
        dsimp only
        refine ⟨fun g' hg' hn e he => ?_, ?_, off 1⟩
        · rw [pe 1 g' (by omega)]
          by_cases z : g' = g
          · subst z; rw [← i2]; exact cd_eaR
          · obtain ⟨o1, o2⟩ := old 1 g' (by omega) hn e he
            rw [cd_eaL o1]; exact o2
        · show _ = cd_pP (cd_jw true S.1 g 1) g + _
          rw [if_neg (by rw [b2, cd_jw9]; decide), pe 1 g (Nat.le_refl _), ← i2, cd_n.of (ek 1 _ (by omega) (by omega))]
      · rw [cd_jnF hc]
        dsimp only
        refine ⟨fun g' hg' hn e he => ?_, ?_, off 0⟩
        · rw [pe 0 g' (by omega)]
          by_cases z : g' = g
          · subst z; exact absurd (Or.inr cd_jw9) hn
          · exact (old 0 g' (by omega) hn e he).2
        · show _ = cd_pP (cd_jw true S.1 g 0) g + _
          rw [if_pos (Or.inr (show cd_jw true S.1 g 0 (71 + 58 * g + 9) = 0 from cd_jw9)), pe 0 g (Nat.le_refl _), ← i2]
          rfl
    · rw [if_neg hw]
      have b9 := i3 g (by omega) (Or.inl (Nat.le_refl _))
      refine ⟨fun g' hg' hn e he => ?_, ?_, fun g' hg' hz => i3 g' hg' (hz.imp (fun z => by omega) id)⟩
      · by_cases z : g' = g
        · subst z; exact absurd (Or.inr b9) hn
        · exact i1 g' (by omega) hn e he
      · show _ = cd_pP S.1 g + _
        rw [if_pos (Or.inr b9), ← i2]
        rfl
theorem cd_jQ_en {A : Nat → Int32} {τ W : Nat} (hA : cd_Ok A τ) : ∀ i, i ≤ cd_n A 419 → cd_EP (cd_jQ A W i).1 (cd_jQ A W i).2.2 (cd_n A 70) ∧ cd_EQ (cd_jQ A W i).1 (cd_jQ A W i).2.2 (cd_pP (cd_jQ A W i).1 (cd_n A 70)) i ∧ (cd_jQ A W i).2.1 = cd_pP (cd_jQ A W i).1 (cd_n A 70) + cd_pQ (cd_jQ A W i).1 i ∧ ∀ i', i ≤ i' → i' < cd_n A 419 → (cd_jQ A W i).1 (71 + 58 * cd_n A (420 + i') + 9) = 0 := by
  intro i
  have h6 := hA.sz.1
  obtain ⟨q1, q2, q3⟩ := hA.2.2.2.2.2.2.1
  have ql := q1.2
  induction i with
  | zero =>
    intro _
    obtain ⟨e1, e2, e3⟩ := cd_jP_en (W := W) hA (cd_n A 70) (Nat.le_refl _)
    exact ⟨e1, fun i' z => absurd z (Nat.not_lt_zero _), e2, fun i' _ hi' => e3 _ (q2 i' hi').2.1 (Or.inr (q2 i' hi').2.2)⟩
  | succ i ih =>
    intro h
    have hI := ih (by omega)
    have hJ := (cd_jQ_ok (W := W) hA i (by omega)).1
    have e : cd_jQ A W (i + 1) = if W.testBit (cd_n A (420 + i)) = true then cd_jn false (cd_jQ A W i) (cd_n A (420 + i)) else cd_jQ A W i := rfl
    rw [e]
    clear e ih
    obtain ⟨-, l1, l2⟩ := q2 i (by omega)
    have l3 : ∀ i', i' ≠ i → i' < cd_n A 419 → cd_n A (420 + i') ≠ cd_n A (420 + i) := fun i' z1 z2 => by
      rcases Nat.lt_or_ge i' i with z | z
      · exact q3 i' i z (by omega)
      · exact fun w => q3 i i' (by omega) z2 w.symm
    have lg : ∀ i', i' < cd_n A 419 → cd_n A (420 + i') < 6 := fun i' z => by have := (q2 i' z).2.1; omega
    generalize cd_jQ A W i = S at hI hJ ⊢
    generalize hln : cd_n A (420 + i) = ln at l1 l2 l3 ⊢
    obtain ⟨i1, i2, i3, i4⟩ := hI
    have l6 : ln < 6 := by omega
    have n420 : ∀ i', i' < cd_n A 419 → cd_n S.1 (420 + i') = cd_n A (420 + i') := fun i' z => hJ.n (by omega) (by omega)
    have s2 : S.1 (71 + 58 * ln + 2) = 0 := by rw [hJ.eq (by omega) (by omega)]; exact l2
    by_cases hw : W.testBit ln = true
    · rw [if_pos hw]
      have ek : ∀ v k, k ≠ 71 + 58 * ln + 9 → k ≠ 71 + 58 * ln + 4 → cd_jw false S.1 ln v k = S.1 k := fun v k z1 z2 => cd_jwN z1 z2
      have m420 : ∀ v i', i' < cd_n A 419 → cd_n (cd_jw false S.1 ln v) (420 + i') = cd_n A (420 + i') := fun v i' z => by rw [cd_n.of (ek v _ (by omega) (by omega))]; exact n420 i' z
      have b2 : ∀ v, cd_jw false S.1 ln v (71 + 58 * ln + 2) = 0 := fun v => by rw [ek v _ (by omega) (by omega)]; exact s2
      have pe : ∀ v g', cd_pP (cd_jw false S.1 ln v) g' = cd_pP S.1 g' := fun v g' => cd_pP_congr g' (fun g'' z2 => by
        by_cases z : g'' = ln
        · subst z
          rw [if_pos (Or.inl (b2 v)), if_pos (Or.inl s2)]
        · rw [ek v _ (by omega) (by omega), ek v _ (by omega) (by omega), cd_n.of (ek v (71 + 58 * g'' + 5) (by omega) (by omega))])
      have qe : ∀ v i', i' ≤ i → cd_pQ (cd_jw false S.1 ln v) i' = cd_pQ S.1 i' := fun v i' z => cd_pQ_congr i' (fun i'' z2 => by
        have z3 := l3 i'' (by omega) (by omega)
        rw [m420 v i'' (by omega), n420 i'' (by omega), ek v _ (by omega) (by omega), cd_n.of (ek v (71 + 58 * cd_n A (420 + i'') + 5) (by omega) (by omega))])
      have oldP : ∀ v g', g' < cd_n A 70 → ¬ (cd_jw false S.1 ln v (71 + 58 * g' + 2) = 0 ∨ cd_jw false S.1 ln v (71 + 58 * g' + 9) = 0) → ∀ e, e < cd_n (cd_jw false S.1 ln v) (71 + 58 * g' + 5) → cd_pP S.1 g' + e < S.2.1 ∧ S.2.2 (cd_pP S.1 g' + e) = 71 + 58 * g' + 10 + 3 * e := fun v g' z hn e he => by
        have hne : g' ≠ ln := fun w => hn (Or.inl (by rw [w]; exact b2 v))
        rw [ek v _ (by omega) (by omega), ek v _ (by omega) (by omega)] at hn
        rw [cd_n.of (ek v _ (by omega) (by omega))] at he
        have := cd_pP_in z hn he
        exact ⟨by rw [i3]; omega, i1 g' z hn e he⟩
      have oldQ : ∀ v i', i' < i → ¬ cd_jw false S.1 ln v (71 + 58 * cd_n A (420 + i') + 9) = 0 → ∀ e, e < cd_n (cd_jw false S.1 ln v) (71 + 58 * cd_n A (420 + i') + 5) → cd_pP S.1 (cd_n A 70) + cd_pQ S.1 i' + e < S.2.1 ∧ S.2.2 (cd_pP S.1 (cd_n A 70) + cd_pQ S.1 i' + e) = 71 + 58 * cd_n A (420 + i') + 10 + 3 * e := fun v i' z hn e he => by
        have z3 := l3 i' (by omega) (by omega)
        rw [ek v _ (by omega) (by omega)] at hn
        rw [cd_n.of (ek v _ (by omega) (by omega))] at he
        rw [← n420 i' (by omega)] at hn he ⊢
        have := cd_pQ_in z hn he
        exact ⟨by rw [i3]; omega, i2 i' z hn e he⟩
      have off : ∀ v i', i + 1 ≤ i' → i' < cd_n A 419 → cd_jw false S.1 ln v (71 + 58 * cd_n A (420 + i') + 9) = 0 := fun v i' z1 z2 => by
        have z3 := l3 i' (by omega) z2
        rw [ek v _ (by omega) (by omega)]
        exact i4 i' (by omega) z2
      by_cases hc : cd_can S.1 (S.2.1 + cd_n S.1 (71 + 58 * ln + 5)) (cd_ea S.2.2 S.2.1 (71 + 58 * ln))
      · rw [cd_jnT hc]
        dsimp only
        refine ⟨fun g' hg' hn e he => ?_, fun i' hi' hn e he => ?_, ?_, off 1⟩
        · obtain ⟨o1, o2⟩ := oldP 1 g' hg' hn e he
          rw [pe, cd_eaL o1]; exact o2
        · rw [m420 1 i' (by omega)] at hn he ⊢
          rw [pe, qe 1 i' (by omega)]
          by_cases z : i' = i
          · subst z
            rw [hln, ← i3]; exact cd_eaR
          · obtain ⟨o1, o2⟩ := oldQ 1 i' (by omega) hn e he
            rw [cd_eaL o1]; exact o2
        · show _ = _ + (cd_pQ (cd_jw false S.1 ln 1) i + _)
          rw [m420 1 i (by omega), hln, if_neg (by rw [cd_jw9]; decide), pe, qe 1 i (Nat.le_refl _), cd_n.of (ek 1 _ (by omega) (by omega)), i3]
          omega
      · rw [cd_jnF hc]
        dsimp only
        refine ⟨fun g' hg' hn e he => ?_, fun i' hi' hn e he => ?_, ?_, off 0⟩
        · rw [pe]; exact (oldP 0 g' hg' hn e he).2
        · rw [m420 0 i' (by omega)] at hn he ⊢
          rw [pe, qe 0 i' (by omega)]
          by_cases z : i' = i
          · subst z
            rw [hln] at hn
            exact absurd cd_jw9 hn
          · exact (oldQ 0 i' (by omega) hn e he).2
        · show _ = _ + (cd_pQ (cd_jw false S.1 ln 0) i + _)
          rw [m420 0 i (by omega), hln, if_pos (by rw [cd_jw9]; rfl), pe, qe 0 i (Nat.le_refl _), i3]
          rfl
    · rw [if_neg hw]
      have b9 : S.1 (71 + 58 * ln + 9) = 0 := by rw [← hln]; exact i4 i (Nat.le_refl _) (by omega)
      have b9' : S.1 (71 + 58 * cd_n S.1 (420 + i) + 9) = 0 := by rw [n420 i (by omega), hln]; exact b9
      refine ⟨i1, fun i' hi' hn e he => ?_, ?_, fun i' z1 z2 => i4 i' (by omega) z2⟩
      · by_cases z : i' = i
        · subst z; exact absurd b9' hn
        · exact i2 i' (by omega) hn e he
      · show _ = _ + (cd_pQ S.1 i + _)
        rw [if_pos b9', i3]
        rfl
-- the seats are laid
def cd_sw (B : Nat → Int32) (es f : Nat → Nat) : Nat → Nat → Int32
  | 0 => B
  | j + 1 => cd_up (cd_sw B es f j) (es j + 2) (nI (f j))
theorem cd_sw_ja {A B : Nat → Int32} {τ m : Nat} {es f : Nat → Nat} (hA : cd_Ok A τ) (x : cd_Ja A B) (hE : cd_Es B m es) (hf : ∀ j, f j ≤ 3) : ∀ j, j ≤ m → cd_Ja A (cd_sw B es f j) ∧ ∀ k, (∀ g e, g < 6 → e < 4 → k ≠ 71 + 58 * g + 12 + 3 * e) → cd_sw B es f j k = B k := by
  intro j
  have h6 := hA.sz.1
  induction j with
  | zero => intro _; exact ⟨x, fun _ _ => rfl⟩
  | succ j ih =>
    intro h
    obtain ⟨i1, i2⟩ := ih (by omega)
    obtain ⟨g, e, z1, z2, z3⟩ := hE.2 j (by omega)
    rw [x.n (by omega) (by omega)] at z1
    rw [x.n (by omega) (by omega)] at z2
    have h4 := hA.sz.2.1 g z1
    have ep : es j + 2 = 71 + 58 * g + 12 + 3 * e := by omega
    constructor
    · show cd_Ja A (cd_up (cd_sw B es f j) (es j + 2) (nI (f j)))
      rw [ep]
      exact i1.upS h6 hA.sz.2.1 (by omega) (by omega) (Or.inr ⟨_, hf j, rfl⟩)
    · intro k hk
      show cd_up (cd_sw B es f j) (es j + 2) (nI (f j)) k = _
      rw [cd_upN (by rw [ep]; exact hk g e (by omega) (by omega))]
      exact i2 k hk
theorem cd_fst_ex {w : Nat → Nat} {n m : Nat} : ∀ v, v < 4 ^ m → cd_vd w n m v → ∃ v, cd_fst w n m v := by
  intro v
  induction v using Nat.strongRecOn with
  | _ v ih =>
    intro h1 h2
    by_cases h : ∃ u, u < v ∧ cd_vd w n m u
    · obtain ⟨u, z1, z2⟩ := h
      exact ih u z1 (by omega) z2
    · exact ⟨v, h1, h2, fun u z1 z2 => h ⟨u, z1, z2⟩⟩
/-- only watched groups are on -/
theorem cd_jP_w {A : Nat → Int32} {τ W : Nat} (hA : cd_Ok A τ) : ∀ g, g ≤ cd_n A 70 → ∀ g', g' < cd_n A 70 → (cd_jP A W g).1 (71 + 58 * g' + 9) = 1 → W.testBit g' = true := by
  intro g
  induction g with
  | zero =>
    intro _ g' hg' h
    have := (cd_jc_ja hA (cd_n A 70) (Nat.le_refl _)).2.1 g' hg'
    exact absurd ((Eq.symm this).trans h) (by decide)
  | succ g ih =>
    intro h g' hg' h1
    have e : cd_jP A W (g + 1) = if W.testBit g = true ∧ A (71 + 58 * g + 2) = 1 then cd_jn true (cd_jP A W g) g else cd_jP A W g := rfl
    rw [e] at h1
    by_cases hw : W.testBit g = true ∧ A (71 + 58 * g + 2) = 1
    · rw [if_pos hw] at h1
      by_cases z : g' = g
      · rw [z]; exact hw.1
      · refine ih (by omega) g' hg' ?_
        unfold cd_jn at h1
        split at h1
        · dsimp only at h1; rw [cd_jwN (by omega) (by omega)] at h1; exact h1
        · dsimp only at h1; rw [cd_jwN (by omega) (by omega)] at h1; exact h1
    · rw [if_neg hw] at h1
      exact ih (by omega) g' hg' h1
theorem cd_jQ_w {A : Nat → Int32} {τ W : Nat} (hA : cd_Ok A τ) : ∀ i, i ≤ cd_n A 419 → ∀ g', g' < cd_n A 70 → (cd_jQ A W i).1 (71 + 58 * g' + 9) = 1 → W.testBit g' = true := by
  intro i
  induction i with
  | zero => intro _; exact cd_jP_w hA _ (Nat.le_refl _)
  | succ i ih =>
    intro h g' hg' h1
    have e : cd_jQ A W (i + 1) = if W.testBit (cd_n A (420 + i)) = true then cd_jn false (cd_jQ A W i) (cd_n A (420 + i)) else cd_jQ A W i := rfl
    rw [e] at h1
    by_cases hw : W.testBit (cd_n A (420 + i)) = true
    · rw [if_pos hw] at h1
      by_cases z : g' = cd_n A (420 + i)
      · rw [z]; exact hw
      · refine ih (by omega) g' hg' ?_
        unfold cd_jn at h1
        split at h1
        · dsimp only at h1; rw [cd_jwN (by omega) (by omega)] at h1; exact h1
        · dsimp only at h1; rw [cd_jwN (by omega) (by omega)] at h1; exact h1
    · rw [if_neg hw] at h1
      exact ih (by omega) g' hg' h1
