-- the reference's comesGroup
theorem cd_c70 : Int32.toNatClampNeg 70 = 70 := by decide
theorem cd_c9 : Int32.toNatClampNeg 9 = 9 := by decide
theorem cd_c419 : Int32.toNatClampNeg 419 = 419 := by decide
theorem cd_evt_congr {A B : Nat → Int32} {o j : Nat} {k : Int32} (e : ∀ j, o ≤ j → j < o + 58 → A j = B j) (h1 : o ≤ j) (h2 : j < o + 58) : cd_evt A o k j = cd_evt B o k j := by
  unfold cd_evt
  rw [cd_n.of (e (o + 5) (by omega) (by omega)), e j h1 h2]
theorem cd_comes19 {G o : Nat} {a1 a2 a3 a4 a5 : Int32} {h : cd_Hp} (ho : o + 58 ≤ 659) : ∃ p, cd_lp (f_X8_comesGroup_B19 a1 a2 a3 a4 a5 (nI G) (nI o)) cd_fu (0, h) = some p ∧ (∀ k, o ≤ k → k < o + 58 → cd_g p.2 405 k = 0) ∧ (∀ x k, ¬ (x = 405 ∧ o ≤ k ∧ k < o + 58) → cd_g p.2 x k = cd_g h x k) ∧ p.2.2 = h.2 := by
  refine cd_for 58 (fun i st => st.1 = nI i ∧ (∀ k, o ≤ k → k < o + i → cd_g st.2 405 k = 0) ∧ (∀ x k, ¬ (x = 405 ∧ o ≤ k ∧ k < o + i) → cd_g st.2 x k = cd_g h x k) ∧ st.2.2 = h.2) _ ?_ cd_fu 0 (0, h) (Nat.zero_le _) (by unfold cd_fu; omega) ⟨rfl, fun k h1 h2 => absurd h1 (by omega), fun _ _ _ => rfl, rfl⟩
  rintro i ⟨v, k1⟩ K hi ⟨hv, hI, hfr, h2⟩
  dsimp only at hv hI hfr h2
  subst hv
  unfold f_X8_comesGroup_B19
  dsimp only
  rcases Nat.lt_or_ge i 58 with hlt | hge
  · left
    refine ⟨hlt, ?_⟩
    rw [if_neg (by rw [cd_leR (by omega) (by omega)]; omega)]
    simp (disch := omega) only [nI_add, cd_ckI, cd_cl, cd_nmE2, cd_addL]
    refine ⟨_, ⟨rfl, fun k h1 h2 => ?_, fun x k hx => ?_, h2⟩, rfl⟩
    · dsimp only
      rcases Nat.lt_or_ge k (o + i) with z | z
      · rw [cd_gN (by omega)]; exact hI k h1 z
      · rw [cd_gE rfl (by omega)]
    · dsimp only
      rw [cd_gN (by omega)]; exact hfr x k (by omega)
  · right
    obtain rfl : i = 58 := by omega
    rw [if_pos (by rw [cd_leR (by omega) (by omega)]; omega)]
    exact ⟨_, rfl, hI, hfr, h2⟩
theorem cd_comesGroup {τ t w p i k : Nat} {A : Nat → Int32} {h1 : cd_Hp} (hr : ∀ k, k < 659 → cd_R h1 k = A k) (hA : cd_Ok A τ) (h6 : cd_n A 70 < 6) (hp : p ≤ 1) : ∃ h2, f_X8_comesGroup (nI t) (nI w) (nI p) (nI i) (nI k) h1 = some (nI (cd_n A 70), h2) ∧ (∀ j, j < 659 → cd_R h2 j = cd_grp A t w p i k j) ∧ cd_frR h1 h2 := by
  have hql := hA.ql
  have e70 : cd_g h1 405 70 = nI (cd_n A 70) := (hr 70 (by omega)).trans hA.2.2.2.2.1.1
  have e419 : cd_g h1 405 419 = nI (cd_n A 419) := (hr 419 (by omega)).trans hA.2.2.2.2.2.2.1.1.1
  unfold f_X8_comesGroup
  simp only [cd_c70, cd_c419, cd_nmE2, e70, cd_groupAt]
  obtain ⟨o, eo, o1, o2, o3⟩ := cd_comes19 (G := cd_n A 70) (o := 71 + 58 * cd_n A 70) (a1 := nI t) (a2 := nI w) (a3 := nI p) (a4 := nI i) (a5 := nI k) (h := h1) (by omega)
  rw [eo, cd_bS]
  have f70 : cd_g o.2 405 70 = nI (cd_n A 70) := by rw [o2 _ _ (by omega)]; exact e70
  have f419 : cd_g o.2 405 419 = nI (cd_n A 419) := by rw [o2 _ _ (by omega)]; exact e419
  simp (disch := omega) only [cd_addL, cd_ckI, cd_cl, cd_nmE2, cd_gN, cd_gE, f70, f419, cd_addR]
  generalize hx : cd_u (cd_u (cd_u (cd_u (cd_u (cd_u o.2 405 (71 + 58 * cd_n A 70) (nI t)) 405 (71 + 58 * cd_n A 70 + 1) (nI w)) 405 (71 + 58 * cd_n A 70 + 2) (nI p)) 405 (71 + 58 * cd_n A 70 + 3) (nI i)) 405 (71 + 58 * cd_n A 70 + 4) 1) 405 70 (nI (cd_n A 70 + 1)) = hX
  have bl : ∀ j, 71 + 58 * cd_n A 70 ≤ j → j < 71 + 58 * cd_n A 70 + 58 → cd_g hX 405 j = cd_blk (71 + 58 * cd_n A 70) t w p i j := by
    intro j z1 z2
    rw [← hx]
    simp only [cd_gif, true_and]
    unfold cd_blk
    rw [if_neg (by omega)]
    by_cases y4 : j = 71 + 58 * cd_n A 70 + 4
    · rw [if_pos y4, if_neg (by omega), if_neg (by omega), if_neg (by omega), if_neg (by omega), if_pos y4]
    by_cases y3 : j = 71 + 58 * cd_n A 70 + 3
    · rw [if_neg y4, if_pos y3, if_neg (by omega), if_neg (by omega), if_neg (by omega), if_pos y3]
    by_cases y2 : j = 71 + 58 * cd_n A 70 + 2
    · rw [if_neg y4, if_neg y3, if_pos y2, if_neg (by omega), if_neg (by omega), if_pos y2]
    by_cases y1 : j = 71 + 58 * cd_n A 70 + 1
    · rw [if_neg y4, if_neg y3, if_neg y2, if_pos y1, if_neg (by omega), if_pos y1]
    by_cases y0 : j = 71 + 58 * cd_n A 70
    · rw [if_neg y4, if_neg y3, if_neg y2, if_neg y1, if_pos y0, if_pos y0]
    · rw [if_neg y4, if_neg y3, if_neg y2, if_neg y1, if_neg y0, if_neg y0, if_neg y1, if_neg y2, if_neg y3, if_neg y4, o1 _ z1 z2]
  have g70 : cd_g hX 405 70 = nI (cd_n A 70 + 1) := by rw [← hx, cd_gE rfl rfl]
  have gN : ∀ j, j < 659 → j ≠ 70 → (j < 71 + 58 * cd_n A 70 ∨ 71 + 58 * cd_n A 70 + 58 ≤ j) → cd_g hX 405 j = A j := by
    intro j z0 z1 z2
    rw [← hx]
    simp (disch := omega) only [cd_gN]
    rw [o2 _ _ (by omega)]; exact hr j z0
  have frX : cd_frR h1 hX := by
    intro x j z
    rw [← hx]
    simp (disch := omega) only [cd_gN]
    exact o2 _ _ (by omega)
  by_cases ep : p = 0
  · rw [if_pos (by rw [ep]; rfl), show 419 + (cd_n A 419 + 1) = 420 + cd_n A 419 by omega]
    generalize hy : cd_u (cd_u hX 405 419 (nI (cd_n A 419 + 1))) 405 (420 + cd_n A 419) (nI (cd_n A 70)) = hY
    have by1 : ∀ j, 71 + 58 * cd_n A 70 ≤ j → j < 71 + 58 * cd_n A 70 + 58 → cd_R hY j = cd_blk (71 + 58 * cd_n A 70) t w p i j := fun j z1 z2 => by
      dsimp only [cd_R]
      rw [← hy, cd_gN (by omega), cd_gN (by omega)]; exact bl j z1 z2
    obtain ⟨h2, e2, r2, q2⟩ := cd_addsEvent (A := cd_R hY) (g := cd_n A 70) (E := 0) (k := nI k) (h1 := hY) (fun _ _ => rfl) h6 (by rw [by1 _ (by omega) (by omega), cd_blkZ (by omega)]; rfl) (by omega)
    rw [e2, cd_bS, if_pos (show (0 : Int32) ≤ nI 0 by decide)]
    refine ⟨h2, rfl, fun j hj => ?_, frX.tr ((show cd_frR hX hY from by rw [← hy]; exact (cd_frR.u (by omega)).tr (cd_frR.u (by omega))).tr q2)⟩
    rw [r2 j hj]
    by_cases hb : 71 + 58 * cd_n A 70 ≤ j ∧ j < 71 + 58 * cd_n A 70 + 58
    · rw [cd_grpB h6 hb.1 hb.2]; exact cd_evt_congr by1 hb.1 hb.2
    · have n0 : cd_n (cd_R hY) (71 + 58 * cd_n A 70 + 5) = 0 := by rw [cd_n.of (by1 _ (by omega) (by omega)), cd_blk5]
      rw [cd_evtN (by omega) (by omega)]
      dsimp only [cd_R]
      rw [← hy]
      by_cases y1 : j = 420 + cd_n A 419
      · rw [cd_gE rfl y1, y1, cd_grpQ ep]
      by_cases y2 : j = 419
      · rw [cd_gN (by omega), cd_gE rfl y2, y2, cd_grp419 ep]
      rw [cd_gN (by omega), cd_gN (by omega)]
      by_cases y3 : j = 70
      · rw [y3, g70, cd_grp70]
      · rw [gN j hj y3 (by omega), cd_grpN y3 (by omega) (by omega)]
  · rw [if_neg (by have : p = 1 := by omega
                   rw [this]; decide)]
    obtain ⟨h2, e2, r2, q2⟩ := cd_addsEvent (A := cd_R hX) (g := cd_n A 70) (E := 0) (k := nI k) (h1 := hX) (fun _ _ => rfl) h6 (by dsimp only [cd_R]; rw [bl _ (by omega) (by omega), cd_blkZ (by omega)]; rfl) (by omega)
    rw [e2, cd_bS, if_pos (show (0 : Int32) ≤ nI 0 by decide)]
    refine ⟨h2, rfl, fun j hj => ?_, frX.tr q2⟩
    rw [r2 j hj]
    by_cases hb : 71 + 58 * cd_n A 70 ≤ j ∧ j < 71 + 58 * cd_n A 70 + 58
    · rw [cd_grpB h6 hb.1 hb.2]; exact cd_evt_congr bl hb.1 hb.2
    · have n0 : cd_n (cd_R hX) (71 + 58 * cd_n A 70 + 5) = 0 := by rw [cd_n.of (A := cd_blk (71 + 58 * cd_n A 70) t w p i) (bl _ (by omega) (by omega)), cd_blk5]
      rw [cd_evtN (by omega) (by omega)]
      dsimp only [cd_R]
      by_cases y3 : j = 70
      · rw [y3, g70, cd_grp70]
      · rw [gN j hj y3 (by omega), cd_grpN y3 (by omega) (by omega)]
-- which groups are refused
theorem cd_ifP {α : Type} {P : Prop} [Decidable P] {X Y : α} : (if (if P then (1 : Int32) else 0) = 0 then X else Y) = if P then Y else X := by
  by_cases h : P
  · rw [if_pos h, if_pos h, if_neg (by decide)]
  · rw [if_neg h, if_neg h, if_pos rfl]
theorem cd_in7x {x : Int32} (a b : Nat) (ha : a ≤ b) (hb : b < 2147483648) : f_X7_isWithin x (nI a) (nI b) = if ∃ v, v < b + 1 ∧ (a ≤ v ∧ x = nI v) then 1 else 0 := by
  rw [cd_in7]
  by_cases h : ∃ v, v < b + 1 ∧ (a ≤ v ∧ x = nI v)
  · rw [if_pos h, if_pos ((cd_win hb ha).mpr (by obtain ⟨v, h1, h2, h3⟩ := h; exact ⟨v, h2, by omega, h3⟩))]
  · rw [if_neg h, if_neg (fun z => h (by obtain ⟨v, h1, h2, h3⟩ := (cd_win hb ha).mp z; exact ⟨v, by omega, h1, h3⟩))]
theorem cd_in8x {x : Int32} (a b : Nat) (ha : a ≤ b) (hb : b < 2147483648) : f_X8_in x (nI a) (nI b) = if ∃ v, v < b + 1 ∧ (a ≤ v ∧ x = nI v) then 1 else 0 := by
  rw [cd_in8]
  by_cases h : ∃ v, v < b + 1 ∧ (a ≤ v ∧ x = nI v)
  · rw [if_pos h, if_pos ((cd_win hb ha).mpr (by obtain ⟨v, h1, h2, h3⟩ := h; exact ⟨v, h2, by omega, h3⟩))]
  · rw [if_neg h, if_neg (fun z => h (by obtain ⟨v, h1, h2, h3⟩ := (cd_win hb ha).mp z; exact ⟨v, by omega, h1, h3⟩))]
def cd_gOk (A : Nat → Int32) (a1 a2 a3 a4 a5 : Int32) : Prop := ∃ t w p i k : Nat, t < cd_n A 9 ∧ (1 ≤ w ∧ w ≤ 5) ∧ p ≤ 1 ∧ i ≤ 1 ∧ k ≤ 7 ∧ a1 = nI t ∧ a2 = nI w ∧ a3 = nI p ∧ a4 = nI i ∧ a5 = nI k
theorem cd_gOk_iff {A : Nat → Int32} {a1 a2 a3 a4 a5 : Int32} : cd_gOk A a1 a2 a3 a4 a5 ↔ (∃ t, t < cd_n A 9 ∧ a1 = nI t) ∧ (∃ v, v < 5 + 1 ∧ (1 ≤ v ∧ a2 = nI v)) ∧ (∃ v, v < 1 + 1 ∧ (0 ≤ v ∧ a3 = nI v)) ∧ (∃ v, v < 1 + 1 ∧ (0 ≤ v ∧ a4 = nI v)) ∧ ∃ v, v < 7 + 1 ∧ (0 ≤ v ∧ a5 = nI v) := by
  constructor
  · rintro ⟨t, w, p, i, k, h1, ⟨h2, h3⟩, h4, h5, h6, e1, e2, e3, e4, e5⟩
    exact ⟨⟨t, h1, e1⟩, ⟨w, by omega, h2, e2⟩, ⟨p, by omega, Nat.zero_le _, e3⟩, ⟨i, by omega, Nat.zero_le _, e4⟩, ⟨k, by omega, Nat.zero_le _, e5⟩⟩
  · rintro ⟨⟨t, h1, e1⟩, ⟨w, h2, h3, e2⟩, ⟨p, h4, -, e3⟩, ⟨i, h5, -, e4⟩, ⟨k, h6, -, e5⟩⟩
    exact ⟨t, w, p, i, k, h1, ⟨h3, by omega⟩, by omega, by omega, by omega, e1, e2, e3, e4, e5⟩
theorem cd_addGroup_bad {q τ : Nat} {A : Nat → Int32} {h : cd_Hp} {a1 a2 a3 a4 a5 : Int32} (hA : cd_Ok A τ) (x : cd_St q A h) (hv : ¬ cd_gOk A a1 a2 a3 a4 a5) : f_X4_addGroup q a1 a2 a3 a4 a5 h = some (-2, h) := by
  rw [cd_gOk_iff] at hv
  unfold f_X4_addGroup
  rw [cd_has5 x hA.2.2.2.1]
  by_cases z1 : ∃ t, t < cd_n A 9 ∧ a1 = nI t
  · rw [if_pos z1, if_neg (by decide)]
    have y2 : f_X7_isWithin a2 1 5 = _ := cd_in7x 1 5 (by omega) (by omega)
    rw [y2]
    by_cases z2 : ∃ v, v < 5 + 1 ∧ (1 ≤ v ∧ a2 = nI v)
    · rw [if_pos z2, if_neg (by decide)]
      have y3 : f_X7_isWithin a3 0 1 = _ := cd_in7x 0 1 (by omega) (by omega)
      rw [y3]
      by_cases z3 : ∃ v, v < 1 + 1 ∧ (0 ≤ v ∧ a3 = nI v)
      · rw [if_pos z3, if_neg (by decide)]
        have y4 : f_X7_isWithin a4 0 1 = _ := cd_in7x 0 1 (by omega) (by omega)
        rw [y4]
        by_cases z4 : ∃ v, v < 1 + 1 ∧ (0 ≤ v ∧ a4 = nI v)
        · rw [if_pos z4, if_neg (by decide)]
          have y5 : f_X7_isWithin a5 0 7 = _ := cd_in7x 0 7 (by omega) (by omega)
          rw [y5, if_neg (fun z5 => hv ⟨z1, z2, z3, z4, z5⟩), if_pos rfl]
        · rw [if_neg z4, if_pos rfl]
      · rw [if_neg z3, if_pos rfl]
    · rw [if_neg z2, if_pos rfl]
  · rw [if_neg z1, if_pos rfl]
theorem cd_addGroup_full {q τ : Nat} {A : Nat → Int32} {h : cd_Hp} {a1 a2 a3 a4 a5 : Int32} (hA : cd_Ok A τ) (x : cd_St q A h) (hv : cd_gOk A a1 a2 a3 a4 a5) (h6 : cd_n A 70 = 6) : f_X4_addGroup q a1 a2 a3 a4 a5 h = some (-4, h) := by
  rw [cd_gOk_iff] at hv
  obtain ⟨z1, z2, z3, z4, z5⟩ := hv
  have y2 : f_X7_isWithin a2 1 5 = _ := cd_in7x 1 5 (by omega) (by omega)
  have y3 : f_X7_isWithin a3 0 1 = _ := cd_in7x 0 1 (by omega) (by omega)
  have y4 : f_X7_isWithin a4 0 1 = _ := cd_in7x 0 1 (by omega) (by omega)
  have y5 : f_X7_isWithin a5 0 7 = _ := cd_in7x 0 7 (by omega) (by omega)
  have e3 : cd_g h q 3 = nI 6 := by rw [x.1.2.2.2.1, ← h6]; exact hA.2.2.2.2.1.1
  unfold f_X4_addGroup
  rw [cd_has5 x hA.2.2.2.1, y2, y3, y4, y5, if_pos z1, if_pos z2, if_pos z3, if_pos z4, if_pos z5]
  rw [if_neg (by decide), if_neg (by decide), if_neg (by decide), if_neg (by decide), if_neg (by decide), e3, if_neg (by decide)]
theorem cd_canGroup8 {h1 : cd_Hp} {A : Nat → Int32} (hr : ∀ k, k < 659 → cd_R h1 k = A k) (hT : cd_OkT A) {a1 a2 a3 a4 a5 : Int32} : (cd_gOk A a1 a2 a3 a4 a5 → f_X8_canGroup a1 a2 a3 a4 a5 h1 = 1) ∧ (¬ cd_gOk A a1 a2 a3 a4 a5 → f_X8_canGroup a1 a2 a3 a4 a5 h1 = 0) := by
  rw [cd_gOk_iff]
  unfold f_X8_canGroup f_X8_isKind
  have y2 : f_X8_in a2 1 5 = _ := cd_in8x 1 5 (by omega) (by omega)
  have y3 : f_X8_in a3 0 1 = _ := cd_in8x 0 1 (by omega) (by omega)
  have y4 : f_X8_in a4 0 1 = _ := cd_in8x 0 1 (by omega) (by omega)
  have y5 : f_X8_in a5 0 7 = _ := cd_in8x 0 7 (by omega) (by omega)
  rw [cd_isTask8 hr hT, y2, y3, y4, y5]
  constructor
  · rintro ⟨z1, z2, z3, z4, z5⟩
    rw [if_pos z1, if_pos z2, if_pos z3, if_pos z4, if_pos z5]
    rw [if_neg (by decide), if_neg (by decide), if_neg (by decide), if_neg (by decide), if_neg (by decide)]
  · intro hv
    by_cases z1 : ∃ t, t < cd_n A 9 ∧ a1 = nI t
    · rw [if_pos z1, if_neg (by decide)]
      by_cases z2 : ∃ v, v < 5 + 1 ∧ (1 ≤ v ∧ a2 = nI v)
      · rw [if_pos z2, if_neg (by decide)]
        by_cases z3 : ∃ v, v < 1 + 1 ∧ (0 ≤ v ∧ a3 = nI v)
        · rw [if_pos z3, if_neg (by decide)]
          by_cases z4 : ∃ v, v < 1 + 1 ∧ (0 ≤ v ∧ a4 = nI v)
          · rw [if_pos z4, if_neg (by decide), if_neg (fun z5 => hv ⟨z1, z2, z3, z4, z5⟩), if_pos rfl]
          · rw [if_neg z4, if_pos rfl]
        · rw [if_neg z3, if_pos rfl]
      · rw [if_neg z2, if_pos rfl]
    · rw [if_neg z1, if_pos rfl]
theorem cd_call5 {n : Nat} {h : cd_Hp} (hI : cd_Inv n h) (hn : n < 512) : cd_q5 cd_Inv n h := by
  intro a1 a2 a3 a4 a5
  have hI2 := hI
  obtain ⟨s, nx, c, hs, t⟩ := hI2
  obtain ⟨-, ⟨hO, hSt⟩, -⟩ := c
  have hG := hO.2.2.2.2.1
  have h6 := hG.2
  have hT := hO.2.2.2.1
  by_cases hv : cd_gOk (cd_R h) a1 a2 a3 a4 a5
  · rcases Nat.lt_or_ge (cd_n (cd_R h) 70) 6 with h6 | h6'
    · have hv2 := hv
      obtain ⟨t, w, p, i, k, h1, ⟨h2, h3⟩, h4, h5, h7, rfl, rfl, rfl, rfl, rfl⟩ := hv2
      obtain ⟨k1, k2, e1, l1, e2, hI3⟩ := cd_S_ok hI hn (F := fun o => f_X4_addGroup 4 (nI t) (nI w) (nI p) (nI i) (nI k) o) (K := fun o => f_X8_comesGroup (nI t) (nI w) (nI p) (nI i) (nI k) o) (r := nI (cd_n (cd_R h) 70)) (A' := cd_grp (cd_R h) t w p i k) (cd_nr_nI (by omega)) ((hO.mono (by omega) (by omega)).new h6 h1 h2 h3 h4 h5 h7)
        (fun o1 hs1 _ => by
          obtain ⟨h', e', s', f'⟩ := cd_addGroup hO hs1 h6 h1 h2 h3 h4 h5 h7
          exact ⟨h', e', s', f'.wide (by omega) (by omega)⟩)
        (fun o1 hr _ => cd_comesGroup hr hO h6 h4)
      refine ⟨_, k1, k2, e1, ?_, hI3⟩
      have hr1 : ∀ k, k < 659 → cd_R k1 k = cd_R h k := fun k _ => l1 _ _ (by omega)
      have e70 : cd_g k1 405 70 = nI (cd_n (cd_R h) 70) := (hr1 70 (by omega)).trans hG.1
      unfold f_X8_group
      rw [(cd_canGroup8 hr1 hT).1 hv, if_neg (by decide), cd_c70, e70, if_neg (by rw [cd_eqL (by omega) (by omega)]; omega)]
      exact e2
    · have h6 : cd_n (cd_R h) 70 = 6 := by omega
      obtain ⟨h1, e1, er, hI3⟩ := cd_S_no hI hn (F := fun o => f_X4_addGroup 4 a1 a2 a3 a4 a5 o) (i := 2) (r := -4) (by omega) (by decide) (fun h1 hs1 _ => cd_addGroup_full hO hs1 hv h6)
      refine ⟨_, h1, _, e1, ?_, hI3⟩
      have e70 : cd_g h1 405 70 = nI 6 := by rw [← h6]; exact (er 70).trans hG.1
      unfold f_X8_group
      rw [(cd_canGroup8 (fun k _ => er k) hT).1 hv, if_neg (by decide), cd_c70, e70, if_pos (by decide), cd_full8]
      rfl
  · obtain ⟨h1, e1, er, hI3⟩ := cd_S_no hI hn (F := fun o => f_X4_addGroup 4 a1 a2 a3 a4 a5 o) (i := 0) (r := -2) (by omega) (by decide) (fun h1 hs1 _ => cd_addGroup_bad hO hs1 hv)
    refine ⟨_, h1, _, e1, ?_, hI3⟩
    unfold f_X8_group
    rw [(cd_canGroup8 (fun k _ => er k) hT).2 hv, if_pos rfl, cd_bad8]
    rfl
