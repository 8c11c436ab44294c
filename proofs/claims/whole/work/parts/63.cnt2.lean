-- counting, on both sides
theorem cd_Bk.row {A A' C C' : Nat → Int32} {o t b : Nat} (h54 : cd_n A (o + 5) ≤ 4) (ht : t < 6) (k : cd_Bk A C o t b) (eA : ∀ k, o ≤ k → k < o + 58 → A' k = A k) (eC : ∀ k, o ≤ k → k < o + 58 → C' k = C k) : cd_Bk A' C' o t b := by
  obtain ⟨k1, k2, k3, k4, k5⟩ := k
  have n : ∀ k, o ≤ k → k < o + 58 → cd_n A' k = cd_n A k := fun k z1 z2 => cd_n.of (eA k z1 z2)
  unfold cd_Bk
  rw [eC _ (by omega) (by omega), eC _ (by omega) (by omega), n (o + 46 + t) (by omega) (by omega), n (o + 52 + t) (by omega) (by omega), n (o + 9) (by omega) (by omega), n (o + 5) (by omega) (by omega)]
  refine ⟨k1, k2, fun e he => ?_, fun e he => (k4 e he).of (eC _ (by omega) (by omega)), fun k w1 w2 w3 w4 w5 w6 => by rw [eC k w1 w2, eA k w1 w2]; exact k5 k w1 w2 w3 w4 w5 w6⟩
  obtain ⟨r, r1, r2⟩ := k3 e he
  exact ⟨r, r1, by rw [eC _ (by omega) (by omega), n _ (by omega) (by omega)]; exact r2⟩
theorem cd_cn_ok {A : Nat → Int32} {τ W t : Nat} (hA : cd_Ok A τ) (ht : t < cd_n A 9) : ∀ g, g ≤ cd_n A 70 → (∀ k, (k < 71 ∨ 71 + 58 * g ≤ k) → cd_cn A W t g k = A k) ∧ ∀ g', g' < g → cd_Bk A (cd_cn A W t g) (71 + 58 * g') t (cd_bw W g') := by
  have h6 := hA.sz.1
  have h9 := hA.2.2.2.1.1.1.2
  intro g
  induction g with
  | zero => intro _; exact ⟨fun _ _ => rfl, fun g' z => absurd z (Nat.not_lt_zero _)⟩
  | succ g ih =>
    intro h
    obtain ⟨i1, i2⟩ := ih (by omega)
    have hg := hA.2.2.2.2.2.1 g (by omega)
    have e5 : cd_n (cd_cn A W t g) (71 + 58 * g + 5) = cd_n A (71 + 58 * g + 5) := cd_n.of (i1 _ (by omega))
    have h54 := hg.2.2.2.2.2.1.1.2
    have out : ∀ k, (k < 71 + 58 * g ∨ 71 + 58 * g + 58 ≤ k) → cd_cn A W t (g + 1) k = cd_cn A W t g k := fun k z => cd_cnG_N (by omega) (by omega) z
    refine ⟨fun k z => by rw [out k (by omega)]; exact i1 k (by omega), fun g' hg' => ?_⟩
    by_cases z : g' = g
    · subst z
      have hgk : cd_OkG (71 + 58 * g') (cd_cn A W t g') := hg.on (fun k z1 z2 => i1 k (by omega)) (Nat.le_of_eq (cd_n.of (i1 9 (by omega))).symm) (Nat.le_of_eq (cd_n.of (i1 426 (by omega))).symm)
      have hb := cd_cnG_bk (b := cd_bw W g') (by omega : t < 6) hgk (fun k hk => ((hA.2.2.2.1.2.2.2 t ht).2 k hk).of (i1 _ (by omega))) (by omega)
      exact hb.row (by omega) (by omega) (fun k z1 z2 => (i1 k (by omega)).symm) (fun _ _ _ => rfl)
    · exact (i2 g' (by omega)).row (hA.sz.2.1 g' (by omega)) (by omega) (fun _ _ _ => rfl) (fun k z1 z2 => out k (by omega))
theorem cd_maxC {p r : Nat} (hp : p < 2147483648) (hr : r < 2147483648) : (if nI p < nI r then nI r else nI p) = nI (max p r) := by
  by_cases z : p < r
  · rw [if_pos (by rw [cd_lt hp hr]; exact z), Nat.max_eq_right (by omega)]
  · rw [if_neg (by rw [cd_lt hp hr]; exact z), Nat.max_eq_left (by omega)]
theorem cd_cnE_sz {A : Nat → Int32} {g t : Nat} (z : cd_Sz A) (hg : g < 6) (ht : t < 6) : ∀ e, e ≤ 4 → cd_Sz (cd_cnE A (71 + 58 * g) t e) := by
  intro e
  induction e with
  | zero => intro _; exact z
  | succ e ih => intro h; exact ((ih (by omega)).upK (j := 22 + (6 * e + t)) hg (by omega) (by omega) (by omega)).upK (j := 11 + 3 * e) hg (by omega) (by omega) (by omega)
/-- the class's count of one group, RUNNING first -/
theorem cd_cntE {B : Nat → Int32} {g t : Nat} {h : cd_Hp} (x : cd_St 4 B h) (z : cd_Sz B) (hg : g < cd_n B 70) (ht : t < 6) (n5 : cd_num B (71 + 58 * g + 5) 4) (n52 : cd_num B (71 + 58 * g + 52 + t) 1000000) (nK : ∀ e, e < cd_n B (71 + 58 * g + 5) → cd_num B (71 + 58 * g + 10 + 3 * e) 7 ∧ cd_num B (71 + 58 * g + 11 + 3 * e) 99) (nC : ∀ k, k < 24 → cd_num B (71 + 58 * g + 22 + k) 100000000) (nT : ∀ k, k < 8 → cd_num B (12 + 10 * t + k) 99) :
    ∃ h', f_X0_countSlice (4 + 6 + 8 + 7 * g) (4 + 2) (nI t) h = some h' ∧ cd_St 4 (cd_cnE (cd_up B (71 + 58 * g + 52 + t) (nI (cd_n B (71 + 58 * g + 52 + t) + 1))) (71 + 58 * g) t (cd_n B (71 + 58 * g + 5))) h' ∧ cd_fr 4 60 h h' := by
  have h6 := z.1
  have h54 := n5.2
  have e52 : cd_g h (4 + 6 + 8 + 7 * g + 6) t = nI (cd_n B (71 + 58 * g + 52 + t)) := by rw [((x.2.2.2.1 g hg).2.2.2 t ht).2]; exact n52.1
  unfold f_X0_countSlice
  rw [cd_ckI (by omega) (by omega), cd_ckI (by omega) (by omega), cd_cl (by omega), e52, cd_addL, cd_nmE2]
  have x2 := x.pN (v := nI (cd_n B (71 + 58 * g + 52 + t) + 1)) z hg (Or.inr (Or.inr ⟨rfl, rfl, ht⟩))
  have z2 : cd_Sz (cd_up B (71 + 58 * g + 52 + t) (nI (cd_n B (71 + 58 * g + 52 + t) + 1))) := z.up (by omega) (by omega) (by omega) (fun g' hg' => by omega)
  have eA2 : ∀ k, k ≠ 71 + 58 * g + 52 + t → cd_up B (71 + 58 * g + 52 + t) (nI (cd_n B (71 + 58 * g + 52 + t) + 1)) k = B k := fun k z => cd_upN z
  generalize cd_up B (71 + 58 * g + 52 + t) (nI (cd_n B (71 + 58 * g + 52 + t) + 1)) = A2 at x2 z2 eA2 ⊢
  have nA2 : ∀ k, k ≠ 71 + 58 * g + 52 + t → cd_n A2 k = cd_n B k := fun k z => cd_n.of (eA2 k z)
  have hloop : ∃ o, cd_lp (f_X0_countSlice_B12 (4 + 6 + 8 + 7 * g) (4 + 2) (nI t)) cd_fu (0, cd_u h (4 + 6 + 8 + 7 * g + 6) t (nI (cd_n B (71 + 58 * g + 52 + t) + 1))) = some o ∧ (cd_St 4 (cd_cnE A2 (71 + 58 * g) t (cd_n B (71 + 58 * g + 5))) o.2 ∧ cd_fr 4 60 h o.2) := by
    refine cd_for (cd_n B (71 + 58 * g + 5)) (fun i (st : Int32 × cd_Hp) => st.1 = nI i ∧ cd_St 4 (cd_cnE A2 (71 + 58 * g) t i) st.2 ∧ cd_fr 4 60 h st.2) _ ?_ cd_fu 0 (0, cd_u h (4 + 6 + 8 + 7 * g + 6) t (nI (cd_n B (71 + 58 * g + 52 + t) + 1))) (Nat.zero_le _) (by unfold cd_fu; omega) ⟨rfl, x2, cd_fr.u (by omega) (by omega)⟩
    rintro i ⟨v0, k1⟩ K hi ⟨hv0, hS, f1⟩
    dsimp only at hv0 hS f1
    subst hv0
    unfold f_X0_countSlice_B12
    dsimp only
    have eD : ∀ k, (k < 71 + 58 * g + 11 ∨ (71 + 58 * g + 11 + 3 * i ≤ k ∧ k < 71 + 58 * g + 22) ∨ (k = 71 + 58 * g + 22 + (6 * i + t)) ∨ 71 + 58 * g + 46 ≤ k) → k ≠ 71 + 58 * g + 52 + t → cd_cnE A2 (71 + 58 * g) t i k = B k := fun k z1 z2 => by rw [cd_cnE_N i (fun e' _ => by omega) (fun e' _ => by omega)]; exact eA2 k z2
    have sz := cd_cnE_sz z2 (by omega : g < 6) ht i (by omega)
    have e70 : cd_n (cd_cnE A2 (71 + 58 * g) t i) 70 = cd_n B 70 := cd_n.of (eD _ (by omega) (by omega))
    have e5 : cd_n (cd_cnE A2 (71 + 58 * g) t i) (71 + 58 * g + 5) = cd_n B (71 + 58 * g + 5) := cd_n.of (eD _ (by omega) (by omega))
    obtain ⟨y1, y2, y3, y4⟩ := hS.2.2.2.1 g (by omega)
    have e6 : cd_g k1 (4 + 6 + 8 + 7 * g) 6 = nI (cd_n B (71 + 58 * g + 5)) := by rw [y1.2.2.2.2.2.2.1, eD _ (by omega) (by omega)]; exact n5.1
    rw [e6]
    rcases Nat.lt_or_ge i (cd_n B (71 + 58 * g + 5)) with hlt | hge
    · left
      refine ⟨hlt, ?_⟩
      obtain ⟨nk, np⟩ := nK i hlt
      have k7 := nk.2
      have nr := nT (cd_n B (71 + 58 * g + 10 + 3 * i)) (by omega)
      have nc := nC (6 * i + t) (by omega)
      obtain ⟨w1, w2, -⟩ := y2 i (by omega)
      have ek : cd_g k1 (4 + 6 + 8 + 7 * g + 1) i = nI (cd_n B (71 + 58 * g + 10 + 3 * i)) := by rw [w1, cd_cnE_N i (fun e' _ => by omega) (fun e' _ => by omega), eA2 _ (by omega)]; exact nk.1
      have ep : cd_g k1 (4 + 6 + 8 + 7 * g + 2) i = nI (cd_n B (71 + 58 * g + 11 + 3 * i)) := by rw [w2, eD _ (by omega) (by omega)]; exact np.1
      have er : cd_g k1 (4 + 2 + 3) (8 * t + cd_n B (71 + 58 * g + 10 + 3 * i)) = nI (cd_n B (12 + 10 * t + cd_n B (71 + 58 * g + 10 + 3 * i))) := by rw [hS.2.2.1.2.2 t _ ht (by omega), eD _ (by omega) (by omega)]; exact nr.1
      have ec : cd_g k1 (4 + 6 + 8 + 7 * g + 4) (6 * i + t) = nI (cd_n B (71 + 58 * g + 22 + (6 * i + t))) := by rw [y3 _ (by omega), eD _ (by omega) (by omega)]; exact nc.1
      have c8 := nc.2
      have r9 := nr.2
      have p9 := np.2
      rw [if_neg (by rw [cd_le (by omega) (by omega)]; omega), cd_ckI (by omega) (by omega), cd_cl (by omega), ek, cd_rateOf5 ht (by omega), er, cd_bS, cd_mulL, nI_add, show i * 6 + t = 6 * i + t by omega, cd_ckI (by omega) (by omega), cd_ckI (by omega) (by omega), cd_cl (by omega), ec, nI_add, cd_nmE2, cd_ckI (by omega) (by omega), cd_ckI (by omega) (by omega), cd_gN (by omega), ep, cd_maxC (by omega) (by omega), cd_nmE2, cd_nmE2, cd_addL]
      refine ⟨_, ⟨rfl, ?_, f1.tr ((cd_fr.u (by omega) (by omega)).tr (cd_fr.u (by omega) (by omega)))⟩, rfl⟩
      show cd_St 4 (cd_up (cd_up (cd_cnE A2 (71 + 58 * g) t i) (71 + 58 * g + 22 + (6 * i + t)) _) (71 + 58 * g + 11 + 3 * i) _) _
      rw [nA2 _ (by omega), nA2 (71 + 58 * g + 10 + 3 * i) (by omega), nA2 _ (by omega), nA2 _ (by omega)]
      have s1 := hS.pN (g := g) (v := nI (cd_n B (71 + 58 * g + 22 + (6 * i + t)) + cd_n B (12 + 10 * t + cd_n B (71 + 58 * g + 10 + 3 * i)))) sz (by omega) (Or.inl ⟨rfl, rfl, (by omega : 6 * i + t < 24)⟩)
      exact s1.pE (g := g) (sz.upK (g := g) (j := 22 + (6 * i + t)) (by omega) (by omega) (by omega) (by omega)) (by rw [cd_n.of (cd_upN (by omega))]; omega) (by rw [cd_n.of (cd_upN (by omega))]; omega) (Or.inl ⟨rfl, rfl⟩)
    · right
      obtain rfl : i = cd_n B (71 + 58 * g + 5) := by omega
      rw [if_pos (by rw [cd_le (by omega) (by omega)]; omega)]
      exact ⟨_, rfl, hS, f1⟩
  obtain ⟨o, eo, o1, o2⟩ := hloop
  rw [eo, cd_bS]
  exact ⟨_, rfl, o1, o2⟩
/-- ENABLED stands: the rest of one group -/
theorem cd_cntT {C : Nat → Int32} {g t b : Nat} {h : cd_Hp} (hC : cd_OkG (71 + 58 * g) C) (z : cd_Sz C) (hg : g < cd_n C 70) (ht : t < 6) (nT : ∀ k, k < 8 → cd_num C (12 + 10 * t + k) 99) (x : cd_St 4 (cd_up C (71 + 58 * g + 46 + t) (nI (cd_n C (71 + 58 * g + 46 + t) + b))) h) :
    (C (71 + 58 * g + 9) = 0 → cd_St 4 (cd_cnG C (71 + 58 * g) t b) h) ∧ (C (71 + 58 * g + 9) = 1 → ∃ h', f_X0_countSlice (4 + 6 + 8 + 7 * g) (4 + 2) (nI t) h = some h' ∧ cd_St 4 (cd_cnG C (71 + 58 * g) t b) h' ∧ cd_fr 4 60 h h') := by
  obtain ⟨h0, h1, h2, h3, h4, ⟨h5, h5'⟩, h6, h7, h8, h9, h10, h11, h12, h13, h14, h15⟩ := hC
  have g6 := z.1
  constructor
  · intro z9
    have n9 : cd_n C (71 + 58 * g + 9) = 0 := cd_n_nI (n := 0) z9 (by omega)
    have e : cd_cnG C (71 + 58 * g) t b = cd_up C (71 + 58 * g + 46 + t) (nI (cd_n C (71 + 58 * g + 46 + t) + b)) := by
      unfold cd_cnG cd_cn2
      rw [if_neg (by rw [z9]; decide), n9, Nat.add_zero]
      exact cd_up_self (by rw [cd_upN (by omega)]; exact (h12 t ht).2.1.symm)
    rw [e]
    exact x
  · intro z9
    have n9 : cd_n C (71 + 58 * g + 9) = 1 := cd_n_nI (n := 1) z9 (by omega)
    have eN : ∀ k, k ≠ 71 + 58 * g + 46 + t → cd_up C (71 + 58 * g + 46 + t) (nI (cd_n C (71 + 58 * g + 46 + t) + b)) k = C k := fun k z => cd_upN z
    have e : cd_cnG C (71 + 58 * g) t b = cd_cnE (cd_up (cd_up C (71 + 58 * g + 46 + t) (nI (cd_n C (71 + 58 * g + 46 + t) + b))) (71 + 58 * g + 52 + t) (nI (cd_n (cd_up C (71 + 58 * g + 46 + t) (nI (cd_n C (71 + 58 * g + 46 + t) + b))) (71 + 58 * g + 52 + t) + 1))) (71 + 58 * g) t (cd_n (cd_up C (71 + 58 * g + 46 + t) (nI (cd_n C (71 + 58 * g + 46 + t) + b))) (71 + 58 * g + 5)) := by
      unfold cd_cnG cd_cn2
      rw [if_pos z9, n9, cd_n.of (eN (71 + 58 * g + 52 + t) (by omega)), cd_n.of (eN (71 + 58 * g + 5) (by omega))]
    rw [e]
    refine cd_cntE x (z.up (by omega) (by omega) (by omega) (fun g' hg' => by omega)) (by rw [cd_n.of (eN 70 (by omega))]; exact hg) ht (h5.of (eN _ (by omega))) ((h12 t ht).2.of (eN _ (by omega))) (fun e he => ?_) (fun k hk => (h11 k hk).of (eN _ (by omega))) (fun k hk => (nT k hk).of (eN _ (by omega)))
    have h54 := h5.2
    rw [cd_n.of (eN (71 + 58 * g + 5) (by omega))] at he
    exact ⟨(h10 e he).1.of (eN _ (by omega)), (h10 e he).2.1.of (eN _ (by omega))⟩
theorem cd_cntC {A : Nat → Int32} {τ W t : Nat} {h : cd_Hp} (hA : cd_Ok A τ) (hW : W < 64) (ht : t < cd_n A 9) (x : cd_St 4 A h) : ∃ h', f_X4_countSlice 4 (nI t) (nI W) h = some h' ∧ cd_St 4 (cd_cn A W t (cd_n A 70)) h' ∧ cd_fr 4 60 h h' := by
  have hG := hA.2.2.2.2.1
  have h6 := hG.2
  have h9 := hA.2.2.2.1.1.1.2
  unfold f_X4_countSlice
  have hloop : ∃ o, cd_lp (f_X4_countSlice_B2 4 (nI t) (nI W)) cd_fu (0, h) = some o ∧ (cd_St 4 (cd_cn A W t (cd_n A 70)) o.2 ∧ cd_fr 4 60 h o.2) := by
    refine cd_for (cd_n A 70) (fun i (st : Int32 × cd_Hp) => st.1 = nI i ∧ cd_St 4 (cd_cn A W t i) st.2 ∧ cd_fr 4 60 h st.2) _ ?_ cd_fu 0 (0, h) (Nat.zero_le _) (by unfold cd_fu; omega) ⟨rfl, x, cd_fr.rf⟩
    rintro i ⟨v0, k1⟩ K hi ⟨hv0, hS, f1⟩
    dsimp only at hv0 hS f1
    subst hv0
    unfold f_X4_countSlice_B2
    dsimp only
    obtain ⟨i1, i2⟩ := cd_cn_ok (W := W) hA ht i hi
    have en : cd_cn A W t (i + 1) = cd_cnG (cd_cn A W t i) (71 + 58 * i) t (cd_bw W i) := rfl
    have szC : cd_Sz (cd_cn A W t i) := by
      refine ⟨by rw [cd_n.of (i1 70 (by omega))]; exact h6, fun g hg => ?_, by rw [cd_n.of (i1 466 (by omega))]; exact hA.sz.2.2.1, by rw [cd_n.of (i1 429 (by omega))]; exact hA.sz.2.2.2⟩
      rw [cd_n.of (i1 70 (by omega))] at hg
      rcases Nat.lt_or_ge g i with z | z
      · rw [cd_n.of ((i2 g z).2.2.2.2 (71 + 58 * g + 5) (by omega) (by omega) (by omega) (by omega) (fun e _ => by omega) (fun e _ => by omega))]; exact hA.sz.2.1 g hg
      · rw [cd_n.of (i1 _ (by omega))]; exact hA.sz.2.1 g hg
    generalize hCn : cd_cn A W t i = C at hS i1 en szC
    have e70 : cd_n C 70 = cd_n A 70 := cd_n.of (i1 70 (by omega))
    have e3 : cd_g k1 4 3 = nI (cd_n A 70) := by rw [hS.1.2.2.2.1, i1 _ (by omega)]; exact hG.1
    rw [e3]
    rcases Nat.lt_or_ge i (cd_n A 70) with hlt | hge
    · left
      refine ⟨hlt, ?_⟩
      have hgk : cd_OkG (71 + 58 * i) C := (hA.2.2.2.2.2.1 i hlt).on (fun k z1 z2 => i1 k (by omega)) (Nat.le_of_eq (cd_n.of (i1 9 (by omega))).symm) (Nat.le_of_eq (cd_n.of (i1 426 (by omega))).symm)
      have n46 := (hgk.2.2.2.2.2.2.2.2.2.2.2.2.1 t (by omega)).1
      have n9 := hgk.2.2.2.2.2.2.2.2.2.1
      have nT : ∀ k, k < 8 → cd_num C (12 + 10 * t + k) 99 := fun k hk => ((hA.2.2.2.1.2.2.2 t ht).2 k hk).of (i1 _ (by omega))
      have eon : ∀ k2 : cd_Hp, (∀ y, cd_g k2 (4 + 6 + 8 + 7 * i) y = cd_g k1 (4 + 6 + 8 + 7 * i) y) → cd_g k2 (4 + 6 + 8 + 7 * i) 5 = C (71 + 58 * i + 9) := fun k2 z => by rw [z, (hS.2.2.2.1 i (by omega)).1.2.2.2.2.2.1]
      have e46 : cd_g k1 (4 + 6 + 8 + 7 * i + 5) t = nI (cd_n C (71 + 58 * i + 46 + t)) := by rw [((hS.2.2.2.1 i (by omega)).2.2.2 t (by omega)).1]; exact n46.1
      rw [if_neg (by rw [cd_le (by omega) (by omega)]; omega), cd_bitIn i (by omega) W hW]
      by_cases hb : W.testBit i = true
      · have eb : cd_bw W i = 1 := by unfold cd_bw; rw [if_pos hb]
        rw [eb] at en
        rw [if_pos hb, if_neg (show ¬ (1 : Int32) = 0 by decide), cd_ckI (by omega) (by omega), cd_ckI (by omega) (by omega), cd_ckI (by omega) (by omega), cd_cl (by omega), cd_cl (by omega), e46, cd_addL, cd_nmE2, cd_ckI (by omega) (by omega), eon _ (fun y => cd_gN (by omega))]
        have x1 := hS.pN (g := i) (v := nI (cd_n C (71 + 58 * i + 46 + t) + 1)) szC (by omega) (Or.inr (Or.inl ⟨rfl, rfl, (by omega : t < 6)⟩))
        obtain ⟨t0, t1⟩ := cd_cntT (b := 1) hgk szC (by omega) (by omega) nT x1
        rcases cd_num01 n9 with ⟨z, -⟩ | ⟨z, -⟩
        · rw [z, if_pos rfl, cd_nmE2, cd_addL]
          exact ⟨_, ⟨rfl, by rw [en]; exact t0 z, f1.tr (cd_fr.u (by omega) (by omega))⟩, rfl⟩
        · obtain ⟨h', e', s', f'⟩ := t1 z
          rw [z, if_neg (show ¬ (1 : Int32) = 0 by decide), cd_ckI (by omega) (by omega), e', cd_bS, cd_nmE2, cd_addL]
          exact ⟨_, ⟨rfl, by rw [en]; exact s', (f1.tr (cd_fr.u (by omega) (by omega))).tr f'⟩, rfl⟩
      · have eb : cd_bw W i = 0 := by unfold cd_bw; rw [if_neg hb]
        rw [eb] at en
        rw [if_neg hb, if_pos rfl, cd_ckI (by omega) (by omega), cd_cl (by omega), eon _ (fun y => rfl)]
        have x1 : cd_St 4 (cd_up C (71 + 58 * i + 46 + t) (nI (cd_n C (71 + 58 * i + 46 + t) + 0))) k1 := by rw [Nat.add_zero (cd_n C (71 + 58 * i + 46 + t)), cd_up_self n46.1.symm]; exact hS
        obtain ⟨t0, t1⟩ := cd_cntT (b := 0) hgk szC (by omega) (by omega) nT x1
        rcases cd_num01 n9 with ⟨z, -⟩ | ⟨z, -⟩
        · rw [z, if_pos rfl, cd_nmE2, cd_addL]
          exact ⟨_, ⟨rfl, by rw [en]; exact t0 z, f1⟩, rfl⟩
        · obtain ⟨h', e', s', f'⟩ := t1 z
          rw [z, if_neg (show ¬ (1 : Int32) = 0 by decide), cd_ckI (by omega) (by omega), e', cd_bS, cd_nmE2, cd_addL]
          exact ⟨_, ⟨rfl, by rw [en]; exact s', f1.tr f'⟩, rfl⟩
    · right
      obtain rfl : i = cd_n A 70 := by omega
      rw [if_pos (by rw [cd_le (by omega) (by omega)]; omega)]
      exact ⟨_, rfl, by rw [hCn]; exact hS, f1⟩
  obtain ⟨o, eo, o1, o2⟩ := hloop
  rw [eo, cd_bS]
  exact ⟨_, rfl, o1, o2⟩
