-- A GROUP COMES
theorem cd_pig : ∀ (G L : Nat) (f : Nat → Nat), (∀ i, i < L → f i < G) → (∀ i j, i < j → j < L → f i ≠ f j) → L ≤ G := by
  intro G
  induction G with
  | zero => intro L f h1 _; rcases Nat.eq_zero_or_pos L with h | h; omega; have := h1 0 h; omega
  | succ G ih =>
    intro L f h1 h2
    by_cases hx : ∃ i0, i0 < L ∧ f i0 = G
    · obtain ⟨i0, hi0, hf⟩ := hx
      have := ih (L - 1) (fun j => if j < i0 then f j else f (j + 1)) (fun j hj => by
        split
        · have a := h1 j (by omega); have b := h2 j i0 (by omega) hi0; omega
        · have a := h1 (j + 1) (by omega); have b := h2 i0 (j + 1) (by omega) (by omega); omega) (fun i j hij hj => by
        split
        · split
          · exact h2 i j hij (by omega)
          · exact h2 i (j + 1) (by omega) (by omega)
        · rw [if_neg (by omega)]; exact h2 (i + 1) (j + 1) (by omega) (by omega))
      omega
    · have := ih L f (fun i hi => by have a := h1 i hi; have : f i ≠ G := fun z => hx ⟨i, hi, z⟩; omega) h2
      omega
theorem cd_Ok.ql {A : Nat → Int32} {τ : Nat} (h : cd_Ok A τ) : cd_n A 419 ≤ cd_n A 70 := by
  obtain ⟨-, q2, q3⟩ := h.2.2.2.2.2.2.1
  exact cd_pig _ _ (fun i => cd_n A (420 + i)) (fun i hi => (q2 i hi).2.1) q3
def cd_blk (o t w p i : Nat) : Nat → Int32 := fun j => if j = o then nI t else if j = o + 1 then nI w else if j = o + 2 then nI p else if j = o + 3 then nI i else if j = o + 4 then 1 else 0
theorem cd_blk0 {o t w p i j : Nat} (h : j = o) : cd_blk o t w p i j = nI t := if_pos h
theorem cd_blk1 {o t w p i j : Nat} (h : j = o + 1) : cd_blk o t w p i j = nI w := by unfold cd_blk; rw [if_neg (by omega), if_pos h]
theorem cd_blk2 {o t w p i j : Nat} (h : j = o + 2) : cd_blk o t w p i j = nI p := by unfold cd_blk; rw [if_neg (by omega), if_neg (by omega), if_pos h]
theorem cd_blk3 {o t w p i j : Nat} (h : j = o + 3) : cd_blk o t w p i j = nI i := by unfold cd_blk; rw [if_neg (by omega), if_neg (by omega), if_neg (by omega), if_pos h]
theorem cd_blk4 {o t w p i j : Nat} (h : j = o + 4) : cd_blk o t w p i j = 1 := by unfold cd_blk; rw [if_neg (by omega), if_neg (by omega), if_neg (by omega), if_neg (by omega), if_pos h]
theorem cd_blkZ {o t w p i j : Nat} (h : o + 4 < j) : cd_blk o t w p i j = 0 := by unfold cd_blk; rw [if_neg (by omega), if_neg (by omega), if_neg (by omega), if_neg (by omega), if_neg (by omega)]
theorem cd_blk5 {o t w p i : Nat} : cd_n (cd_blk o t w p i) (o + 5) = 0 := cd_n_nI (n := 0) (cd_blkZ (by omega)) (by omega)
def cd_grp (A : Nat → Int32) (t w p i k : Nat) : Nat → Int32 := fun j =>
  if j = 70 then nI (cd_n A 70 + 1) else if p = 0 ∧ j = 419 then nI (cd_n A 419 + 1) else if p = 0 ∧ j = 420 + cd_n A 419 then nI (cd_n A 70) else
  if 71 + 58 * cd_n A 70 ≤ j ∧ j < 71 + 58 * cd_n A 70 + 58 then cd_evt (cd_blk (71 + 58 * cd_n A 70) t w p i) (71 + 58 * cd_n A 70) (nI k) j else A j
section GRP
variable {A : Nat → Int32} {t w p i k : Nat}
theorem cd_grp70 : cd_grp A t w p i k 70 = nI (cd_n A 70 + 1) := if_pos rfl
theorem cd_grp419 (hp : p = 0) : cd_grp A t w p i k 419 = nI (cd_n A 419 + 1) := by unfold cd_grp; rw [if_neg (by omega), if_pos ⟨hp, rfl⟩]
theorem cd_grpQ (hp : p = 0) : cd_grp A t w p i k (420 + cd_n A 419) = nI (cd_n A 70) := by unfold cd_grp; rw [if_neg (by omega), if_neg (by omega), if_pos ⟨hp, rfl⟩]
theorem cd_grpB {j : Nat} (h6 : cd_n A 70 < 6) (h1 : 71 + 58 * cd_n A 70 ≤ j) (h2 : j < 71 + 58 * cd_n A 70 + 58) : cd_grp A t w p i k j = cd_evt (cd_blk (71 + 58 * cd_n A 70) t w p i) (71 + 58 * cd_n A 70) (nI k) j := by unfold cd_grp; rw [if_neg (by omega), if_neg (by omega), if_neg (by omega), if_pos ⟨h1, h2⟩]
theorem cd_grpN {j : Nat} (h0 : j ≠ 70) (h1 : j < 71 + 58 * cd_n A 70 ∨ 71 + 58 * cd_n A 70 + 58 ≤ j) (h2 : p ≠ 0 ∨ (j ≠ 419 ∧ j ≠ 420 + cd_n A 419)) : cd_grp A t w p i k j = A j := by unfold cd_grp; rw [if_neg h0, if_neg (by omega), if_neg (by omega), if_neg (by omega)]
theorem cd_OkG.new (h6 : cd_n A 70 < 6) (ht : t < cd_n A 9) (h9 : cd_n A 9 ≤ 6) (hw : 1 ≤ w) (hw5 : w ≤ 5) (hp : p ≤ 1) (hi : i ≤ 1) (hk : k ≤ 7) : cd_OkG (71 + 58 * cd_n A 70) (cd_grp A t w p i k) := by
  have e5 := cd_blk5 (o := 71 + 58 * cd_n A 70) (t := t) (w := w) (p := p) (i := i)
  have rd : ∀ j, 71 + 58 * cd_n A 70 ≤ j → j < 71 + 58 * cd_n A 70 + 58 → j ≠ 71 + 58 * cd_n A 70 + 5 → (j < 71 + 58 * cd_n A 70 + 10 ∨ 71 + 58 * cd_n A 70 + 13 ≤ j) → cd_grp A t w p i k j = cd_blk (71 + 58 * cd_n A 70) t w p i j := fun j z1 z2 z3 z4 => by rw [cd_grpB h6 z1 z2, cd_evtN z3 (by rw [e5]; omega)]
  have r5 : cd_grp A t w p i k (71 + 58 * cd_n A 70 + 5) = nI 1 := by rw [cd_grpB h6 (by omega) (by omega), cd_evt5, e5]
  have z0 : ∀ j, 71 + 58 * cd_n A 70 + 5 < j → j < 71 + 58 * cd_n A 70 + 58 → (j < 71 + 58 * cd_n A 70 + 10 ∨ 71 + 58 * cd_n A 70 + 13 ≤ j) → cd_grp A t w p i k j = nI 0 := fun j z1 z2 z3 => by rw [rd j (by omega) z2 (by omega) z3, cd_blkZ (by omega)]; rfl
  have n0 : ∀ j, 71 + 58 * cd_n A 70 + 5 < j → j < 71 + 58 * cd_n A 70 + 58 → (j < 71 + 58 * cd_n A 70 + 10 ∨ 71 + 58 * cd_n A 70 + 13 ≤ j) → cd_n (cd_grp A t w p i k) j = 0 := fun j z1 z2 z3 => cd_n_nI (z0 j z1 z2 z3) (by omega)
  have m0 : ∀ j m, m < 2147483648 → 71 + 58 * cd_n A 70 + 5 < j → j < 71 + 58 * cd_n A 70 + 58 → (j < 71 + 58 * cd_n A 70 + 10 ∨ 71 + 58 * cd_n A 70 + 13 ≤ j) → cd_num (cd_grp A t w p i k) j m := fun j m zm z1 z2 z3 => cd_numI (z0 j z1 z2 z3) (by omega) zm
  have s0 : ∀ a, 71 + 58 * cd_n A 70 + 13 ≤ a → a + 5 < 71 + 58 * cd_n A 70 + 58 → cd_S6 (cd_grp A t w p i k) a = 0 := fun a z1 z2 => by unfold cd_S6; rw [n0 _ (by omega) (by omega) (by omega), n0 _ (by omega) (by omega) (by omega), n0 _ (by omega) (by omega) (by omega), n0 _ (by omega) (by omega) (by omega), n0 _ (by omega) (by omega) (by omega), n0 _ (by omega) (by omega) (by omega)]
  have r0 : cd_grp A t w p i k (71 + 58 * cd_n A 70) = nI t := by rw [rd _ (by omega) (by omega) (by omega) (by omega), cd_blk0 rfl]
  have r1 : cd_grp A t w p i k (71 + 58 * cd_n A 70 + 1) = nI w := by rw [rd _ (by omega) (by omega) (by omega) (by omega), cd_blk1 rfl]
  have r2 : cd_grp A t w p i k (71 + 58 * cd_n A 70 + 2) = nI p := by rw [rd _ (by omega) (by omega) (by omega) (by omega), cd_blk2 rfl]
  have r3 : cd_grp A t w p i k (71 + 58 * cd_n A 70 + 3) = nI i := by rw [rd _ (by omega) (by omega) (by omega) (by omega), cd_blk3 rfl]
  have r4 : cd_grp A t w p i k (71 + 58 * cd_n A 70 + 4) = nI 1 := by rw [rd _ (by omega) (by omega) (by omega) (by omega), cd_blk4 rfl]; rfl
  have r9 : cd_n (cd_grp A t w p i k) 9 = cd_n A 9 := cd_n.of (cd_grpN (by omega) (by omega) (by omega))
  unfold cd_OkG
  rw [cd_n_nI r0 (by omega), cd_n_nI r1 (by omega), cd_n_nI r5 (by omega), n0 (71 + 58 * cd_n A 70 + 6) (by omega) (by omega) (by omega), n0 (71 + 58 * cd_n A 70 + 7) (by omega) (by omega) (by omega), n0 (71 + 58 * cd_n A 70 + 8) (by omega) (by omega) (by omega), s0 (71 + 58 * cd_n A 70 + 46) (by omega) (by omega), s0 (71 + 58 * cd_n A 70 + 52) (by omega) (by omega), r9]
  refine ⟨⟨cd_numI r0 (by omega) (by omega), ht⟩, ⟨cd_numI r1 (by omega) (by omega), hw⟩, cd_numI r2 hp (by omega), cd_numI r3 hi (by omega), cd_numI r4 (by omega) (by omega), ⟨cd_numI r5 (by omega) (by omega), by omega⟩, ⟨m0 _ _ (by omega) (by omega) (by omega) (by omega), by omega⟩, ⟨m0 _ _ (by omega) (by omega) (by omega) (by omega), by omega⟩, ⟨m0 _ _ (by omega) (by omega) (by omega) (by omega), by omega⟩, m0 _ _ (by omega) (by omega) (by omega) (by omega), fun e he => ?_, fun j hj => m0 _ _ (by omega) (by omega) (by omega) (by omega), fun u hu => ⟨m0 _ _ (by omega) (by omega) (by omega) (by omega), m0 _ _ (by omega) (by omega) (by omega) (by omega)⟩, by omega, by omega, fun e he => by rw [s0 _ (by omega) (by omega)]; omega⟩
  obtain rfl : e = 0 := by omega
  have q1 := cd_evtK (A := cd_blk (71 + 58 * cd_n A 70) t w p i) (o := 71 + 58 * cd_n A 70) (k := nI k)
  have q2 := cd_evtP (A := cd_blk (71 + 58 * cd_n A 70) t w p i) (o := 71 + 58 * cd_n A 70) (k := nI k)
  have q3 := cd_evtS (A := cd_blk (71 + 58 * cd_n A 70) t w p i) (o := 71 + 58 * cd_n A 70) (k := nI k)
  rw [e5] at q1 q2 q3
  rw [← cd_grpB h6 (by omega) (by omega)] at q1 q2 q3
  exact ⟨cd_numI q1 hk (by omega), cd_numI (n := 0) q2 (by omega) (by omega), Or.inl q3⟩
theorem cd_Ok.new {τ : Nat} (h : cd_Ok A τ) (h6 : cd_n A 70 < 6) (ht : t < cd_n A 9) (hw : 1 ≤ w) (hw5 : w ≤ 5) (hp : p ≤ 1) (hi : i ≤ 1) (hk : k ≤ 7) : cd_Ok (cd_grp A t w p i k) τ := by
  have hql := h.ql
  obtain ⟨h0, ⟨h1, h1'⟩, h2, hT, hG, hGs, ⟨q1, q2, q3⟩, hS⟩ := h
  have h9 := hT.1.1.2
  have e70 : cd_n (cd_grp A t w p i k) 70 = cd_n A 70 + 1 := cd_n_nI cd_grp70 (by omega)
  refine ⟨h0, ⟨h1.of (cd_grpN (by omega) (by omega) (by omega)), by rw [cd_n.of (cd_grpN (by omega) (by omega) (by omega))]; exact h1'⟩, fun j hj => (h2 j hj).of (cd_grpN (by omega) (by omega) (by omega)), hT.on (fun j _ _ => cd_grpN (by omega) (by omega) (by omega)), cd_numI cd_grp70 (by omega) (by omega), fun g hg => ?_, ?_, hS.on (fun j _ _ => cd_grpN (by omega) (by omega) (by omega))⟩
  · rw [e70] at hg
    rcases Nat.lt_or_ge g (cd_n A 70) with z | z
    · refine (hGs g z).on (fun j _ _ => cd_grpN (by omega) (by omega) (by omega)) ?_ ?_
      · rw [cd_n.of (cd_grpN (by omega) (by omega) (by omega))]; exact Nat.le_refl _
      · rw [cd_n.of (cd_grpN (by omega) (by omega) (by omega))]; exact Nat.le_refl _
    · obtain rfl : g = cd_n A 70 := by omega
      exact cd_OkG.new h6 ht h9 hw hw5 hp hi hk
  · by_cases ep : p = 0
    · have e419 : cd_n (cd_grp A t w p i k) 419 = cd_n A 419 + 1 := cd_n_nI (cd_grp419 ep) (by omega)
      unfold cd_OkQ
      rw [e419, e70]
      refine ⟨cd_numI (cd_grp419 ep) (by omega) (by omega), fun j hj => ?_, fun j l w1 w2 => ?_⟩
      · rcases Nat.lt_or_ge j (cd_n A 419) with z | z
        · obtain ⟨y1, y2, y3⟩ := q2 j z
          have ej : cd_grp A t w p i k (420 + j) = A (420 + j) := cd_grpN (by omega) (by omega) (by omega)
          rw [cd_n.of ej, cd_grpN (by omega) (by omega) (by omega)]
          exact ⟨y1.of ej, by omega, y3⟩
        · obtain rfl : j = cd_n A 419 := by omega
          rw [cd_n_nI (cd_grpQ ep) (by omega)]
          exact ⟨cd_numI (cd_grpQ ep) (by omega) (by omega), by omega, by rw [cd_grpB h6 (by omega) (by omega), cd_evtN (by omega) (by omega), cd_blk2 rfl, ep]; rfl⟩
      · have ej : cd_grp A t w p i k (420 + j) = A (420 + j) := cd_grpN (by omega) (by omega) (by omega)
        rw [cd_n.of ej]
        rcases Nat.lt_or_ge l (cd_n A 419) with z | z
        · have el : cd_grp A t w p i k (420 + l) = A (420 + l) := cd_grpN (by omega) (by omega) (by omega)
          rw [cd_n.of el]; exact q3 j l w1 z
        · obtain rfl : l = cd_n A 419 := by omega
          rw [cd_n_nI (cd_grpQ ep) (by omega)]
          have := (q2 j (by omega)).2.1
          omega
    · exact cd_OkQ.on ⟨q1, q2, q3⟩ (fun j _ _ => cd_grpN (by omega) (by omega) (by omega)) (by omega) (fun g hg => cd_grpN (by omega) (by omega) (by omega))
end GRP
-- the class's begin
theorem cd_begin54 {c : Nat} {a1 a2 a3 a4 : Int32} {h : cd_Hp} : ∃ o, cd_lp (f_X0_begin_B54 c a1 a2 a3 a4) cd_fu (0, h) = some o ∧ (∀ k, k < 24 → cd_g o.2 (c + 4) k = 0) ∧ (∀ x k, x ≠ c + 4 → cd_g o.2 x k = cd_g h x k) ∧ o.2.2 = h.2 := by
  refine cd_for 24 (fun i st => st.1 = nI i ∧ (∀ k, k < i → cd_g st.2 (c + 4) k = 0) ∧ (∀ x k, x ≠ c + 4 → cd_g st.2 x k = cd_g h x k) ∧ st.2.2 = h.2) _ ?_ cd_fu 0 (0, h) (Nat.zero_le _) (by unfold cd_fu; omega) ⟨rfl, fun k hk => absurd hk (by omega), fun _ _ _ => rfl, rfl⟩
  rintro i ⟨v, k1⟩ K hi ⟨hv, hI, hfr, h2⟩
  dsimp only at hv hI hfr h2
  subst hv
  unfold f_X0_begin_B54
  dsimp only
  rcases Nat.lt_or_ge i 24 with hlt | hge
  · left
    refine ⟨hlt, ?_⟩
    rw [if_neg (by rw [cd_le (by omega) (by omega)]; omega)]
    simp (disch := omega) only [cd_ckI, cd_cl, cd_nmE2, cd_addL]
    refine ⟨_, ⟨rfl, fun k hk => ?_, fun x k hx => ?_, h2⟩, rfl⟩
    · dsimp only
      rcases Nat.lt_or_ge k i with z | z
      · rw [cd_gN (by omega)]; exact hI k z
      · rw [cd_gE rfl (by omega)]
    · dsimp only
      rw [cd_gN (by omega)]; exact hfr x k hx
  · right
    obtain rfl : i = 24 := by omega
    rw [if_pos (by rw [cd_le (by omega) (by omega)]; omega)]
    exact ⟨_, rfl, hI, hfr, h2⟩
theorem cd_begin81 {c : Nat} {a1 a2 a3 a4 : Int32} {h : cd_Hp} : ∃ o, cd_lp (f_X0_begin_B81 c a1 a2 a3 a4) cd_fu (0, h) = some o ∧ (∀ k, k < 6 → cd_g o.2 (c + 5) k = 0 ∧ cd_g o.2 (c + 6) k = 0) ∧ (∀ x k, x ≠ c + 5 → x ≠ c + 6 → cd_g o.2 x k = cd_g h x k) ∧ o.2.2 = h.2 := by
  refine cd_for 6 (fun i st => st.1 = nI i ∧ (∀ k, k < i → cd_g st.2 (c + 5) k = 0 ∧ cd_g st.2 (c + 6) k = 0) ∧ (∀ x k, x ≠ c + 5 → x ≠ c + 6 → cd_g st.2 x k = cd_g h x k) ∧ st.2.2 = h.2) _ ?_ cd_fu 0 (0, h) (Nat.zero_le _) (by unfold cd_fu; omega) ⟨rfl, fun k hk => absurd hk (by omega), fun _ _ _ _ => rfl, rfl⟩
  rintro i ⟨v, k1⟩ K hi ⟨hv, hI, hfr, h2⟩
  dsimp only at hv hI hfr h2
  subst hv
  unfold f_X0_begin_B81
  dsimp only
  rcases Nat.lt_or_ge i 6 with hlt | hge
  · left
    refine ⟨hlt, ?_⟩
    rw [if_neg (by rw [cd_leR (by omega) (by omega)]; omega)]
    simp (disch := omega) only [cd_ckI, cd_cl, cd_nmE2, cd_addL]
    refine ⟨_, ⟨rfl, fun k hk => ?_, fun x k hx hx2 => ?_, h2⟩, rfl⟩
    · dsimp only
      rcases Nat.lt_or_ge k i with z | z
      · simp (disch := omega) only [cd_gN]; exact hI k z
      · simp (disch := omega) only [cd_gN, cd_gE, and_self]
    · dsimp only
      simp (disch := omega) only [cd_gN]; exact hfr x k hx hx2
  · right
    obtain rfl : i = 6 := by omega
    rw [if_pos (by rw [cd_leR (by omega) (by omega)]; omega)]
    exact ⟨_, rfl, hI, hfr, h2⟩
theorem cd_bo1 {p : Nat} (hp : p ≤ 1) : cd_bo (nI p) = true := by
  have : p = 0 ∨ p = 1 := by omega
  rcases this with rfl | rfl <;> decide
theorem cd_beginG {c o t w p i : Nat} {h : cd_Hp} (hp : p ≤ 1) (hi : i ≤ 1) : ∃ h', f_X0_begin c (nI t) (nI w) (nI p) (nI i) h = some h' ∧ cd_StG c o (cd_blk o t w p i) h' ∧ cd_fr c (c + 7) h h' := by
  unfold f_X0_begin
  simp only [cd_nmE2]
  rw [cd_ckT (cd_bo1 hp), cd_ckT (cd_bo1 hi)]
  generalize hh : cd_u (cd_u (cd_u (cd_u (cd_u (cd_u (cd_u (cd_u (cd_u (cd_u h c 0 (nI t)) c 1 (nI w)) c 2 (nI p)) c 3 (nI i)) c 4 1) c 5 0) c 6 0) c 7 0) c 8 0) c 9 0 = h9
  obtain ⟨o1, e1, a1, b1, c1⟩ := cd_begin54 (c := c) (a1 := nI t) (a2 := nI w) (a3 := nI p) (a4 := nI i) (h := h9)
  rw [e1, cd_bS]
  obtain ⟨o2, e2, a2, b2, c2⟩ := cd_begin81 (c := c) (a1 := nI t) (a2 := nI w) (a3 := nI p) (a4 := nI i) (h := o1.2)
  rw [e2, cd_bS]
  refine ⟨_, rfl, ⟨?_, fun e he => ?_, fun k hk => ?_, fun u hu => ?_⟩, ?_, ?_⟩
  · have rd : ∀ k, cd_g o2.2 c k = cd_g h9 c k := fun k => by rw [b2 _ _ (by omega) (by omega), b1 _ _ (by omega)]
    simp only [rd]
    rw [← hh]
    simp (disch := omega) only [cd_gN, cd_gE, cd_blk0, cd_blk1, cd_blk2, cd_blk3, cd_blk4, cd_blkZ, and_self]
  · rw [cd_blk5] at he; omega
  · rw [b2 _ _ (by omega) (by omega), a1 k hk, cd_blkZ (by omega)]
  · rw [(a2 u hu).1, (a2 u hu).2, cd_blkZ (by omega), cd_blkZ (by omega)]; exact ⟨rfl, rfl⟩
  · intro x k hx
    rw [b2 _ _ (by omega) (by omega), b1 _ _ (by omega), ← hh]
    simp (disch := omega) only [cd_gN]
  · rw [c2, c1, ← hh]; rfl
/-- the class's addGroup -/
theorem cd_addGroup {q τ t w p i k : Nat} {A : Nat → Int32} {h : cd_Hp} (hA : cd_Ok A τ) (x : cd_St q A h) (h6 : cd_n A 70 < 6) (ht : t < cd_n A 9) (hw : 1 ≤ w) (hw5 : w ≤ 5) (hp : p ≤ 1) (hi : i ≤ 1) (hk : k ≤ 7) : ∃ h', f_X4_addGroup q (nI t) (nI w) (nI p) (nI i) (nI k) h = some (nI (cd_n A 70), h') ∧ cd_St q (cd_grp A t w p i k) h' ∧ cd_fr q (q + 56) h h' := by
  have hql := hA.ql
  obtain ⟨s1, s2, s3, s4⟩ := hA.sz
  have hG := hA.2.2.2.2.1
  have hT := hA.2.2.2.1
  have h9 := hT.1.1.2
  have hQ := hA.2.2.2.2.2.2.1.1
  have w0 : f_X5_has (q + 2) (nI t) h = 1 := by rw [cd_has5 x hT, if_pos ⟨t, ht, rfl⟩]
  have w1 : f_X7_isWithin (nI w) 1 5 = 1 := cd_in7t (a := 1) (b := 5) hw hw5 (by omega)
  have w2 : f_X7_isWithin (nI p) 0 1 = 1 := cd_in7t (a := 0) (b := 1) (by omega) hp (by omega)
  have w3 : f_X7_isWithin (nI i) 0 1 = 1 := cd_in7t (a := 0) (b := 1) (by omega) hi (by omega)
  have w4 : f_X7_isWithin (nI k) 0 7 = 1 := cd_in7t (a := 0) (b := 7) (by omega) hk (by omega)
  obtain ⟨x1, x2, x3, x6, x7, x8⟩ := x
  have e3 : cd_g h q 3 = nI (cd_n A 70) := by rw [x1.2.2.2.1]; exact hG.1
  have e4 : cd_g h q 4 = nI (cd_n A 419) := by rw [x1.2.2.2.2]; exact hQ.1
  obtain ⟨h1, eb, sb, fb⟩ := cd_beginG (c := q + 6 + 8 + 7 * cd_n A 70) (o := 71 + 58 * cd_n A 70) (t := t) (w := w) (h := cd_u h q 3 (nI (cd_n A 70 + 1))) hp hi
  obtain ⟨h2, ea, sa, fa⟩ := cd_append (k := nI k) (E := 0) sb (cd_blkZ (by omega)) (by omega)
  have f2 : ∀ y j, (y < q + 6 + 8 + 7 * cd_n A 70 ∨ q + 6 + 8 + 7 * cd_n A 70 + 7 ≤ y) → cd_g h2 y j = cd_g (cd_u h q 3 (nI (cd_n A 70 + 1))) y j := fun y j z => by rw [fa.1 _ _ z, fb.1 _ _ z]
  have g4 : cd_g h2 q 4 = nI (cd_n A 419) := by rw [f2 _ _ (by omega), cd_gN (by omega)]; exact e4
  have hsg : ∀ g, g < cd_n (cd_grp A t w p i k) 70 → ∀ h3, (∀ y j, (q + 14 ≤ y ∧ y < q + 56) → cd_g h3 y j = cd_g h2 y j) → cd_StG (q + 6 + 8 + 7 * g) (71 + 58 * g) (cd_grp A t w p i k) h3 := by
    intro g hg h3 f3
    rw [cd_n_nI cd_grp70 (by omega)] at hg
    rcases Nat.lt_or_ge g (cd_n A 70) with z | z
    · exact (x6 g z).as (s2 g z) (fun j z1 z2 => cd_grpN (by omega) (by omega) (by omega)) (fun y j z1 z2 => by rw [f3 _ _ (by omega), f2 _ _ (by omega), cd_gN (by omega)])
    · obtain rfl : g = cd_n A 70 := by omega
      exact sa.as (by rw [cd_n_nI cd_evt5 (by rw [cd_blk5]; omega), cd_blk5]; omega) (fun j z1 z2 => cd_grpB h6 z1 z2) (fun y j z1 z2 => f3 _ _ (by omega))
  have hbody : ∀ X : Option (Int32 × cd_Hp), X = (if nI p = 0 then (if 6 ≤ (cd_g h2 q 4) then (some ((nI (cd_n A 70), h2))) else (cd_ck (cd_ix (cd_g h2 q 4) 6) (cd_nm (cd_u h2 (q + 7) ((cd_g h2 q 4).toNatClampNeg) (nI (cd_n A 70))) (fun h56 => cd_nm (cd_u h56 q 4 ((cd_g h56 q 4) + 1)) (fun h57 => some ((nI (cd_n A 70), h57))))))) else (some ((nI (cd_n A 70), h2)))) → ∃ h', X = some (nI (cd_n A 70), h') ∧ cd_St q (cd_grp A t w p i k) h' ∧ cd_fr q (q + 56) h h' := by
    intro X hX
    subst hX
    by_cases ep : p = 0
    · rw [if_pos (by rw [ep]; rfl), g4, if_neg (by rw [cd_leR (by omega) (by omega)]; omega)]
      simp (disch := omega) only [cd_ckI, cd_cl, cd_nmE2, cd_gN, g4, cd_addL]
      refine ⟨_, rfl, ⟨?_, fun j hj => ?_, x3.as (fun j _ _ => cd_grpN (by omega) (by omega) (by omega)) (fun y j _ _ => by rw [cd_gN (by omega), cd_gN (by omega), f2 _ _ (by omega), cd_gN (by omega)]), fun g hg => hsg g hg _ (fun y j z => by rw [cd_gN (by omega), cd_gN (by omega)]), fun j hj => ?_, x8.as s3 s4 (fun j _ _ => cd_grpN (by omega) (by omega) (by omega)) (fun y j _ _ => by rw [cd_gN (by omega), cd_gN (by omega), f2 _ _ (by omega), cd_gN (by omega)])⟩, fun y j hy => ?_, ?_⟩
      · rw [cd_grp70, cd_grp419 ep, cd_grpN (by omega) (by omega) (by omega), cd_grpN (by omega) (by omega) (by omega), cd_grpN (by omega) (by omega) (by omega)]
        simp (disch := omega) only [cd_gN, cd_gE, f2]
        exact ⟨x1.1, x1.2.1, x1.2.2.1, trivial, trivial⟩
      · rw [cd_gN (by omega), cd_gN (by omega), f2 _ _ (by omega), cd_gN (by omega), cd_grpN (by omega) (by omega) (by omega)]; exact x2 j hj
      · by_cases ej : j = cd_n A 419
        · rw [cd_gN (by omega), cd_gE rfl ej, ej, cd_grpQ ep]
        · rw [cd_gN (by omega), cd_gN (by omega), f2 _ _ (by omega), cd_gN (by omega), cd_grpN (by omega) (by omega) (by omega)]; exact x7 j hj
      · rw [cd_gN (by omega), cd_gN (by omega), f2 _ _ (by omega), cd_gN (by omega)]
      · exact fa.2.trans (fb.2.trans rfl)
    · have ep1 : p = 1 := by omega
      rw [if_neg (by rw [ep1]; decide)]
      refine ⟨_, rfl, ⟨?_, fun j hj => ?_, x3.as (fun j _ _ => cd_grpN (by omega) (by omega) (by omega)) (fun y j _ _ => by rw [f2 _ _ (by omega), cd_gN (by omega)]), fun g hg => hsg g hg _ (fun y j z => rfl), fun j hj => ?_, x8.as s3 s4 (fun j _ _ => cd_grpN (by omega) (by omega) (by omega)) (fun y j _ _ => by rw [f2 _ _ (by omega), cd_gN (by omega)])⟩, fun y j hy => ?_, ?_⟩
      · rw [cd_grp70, cd_grpN (by omega) (by omega) (by omega), cd_grpN (by omega) (by omega) (by omega), cd_grpN (by omega) (by omega) (by omega), cd_grpN (by omega) (by omega) (by omega)]
        simp (disch := omega) only [cd_gN, cd_gE, f2]
        exact ⟨x1.1, x1.2.1, x1.2.2.1, trivial, x1.2.2.2.2⟩
      · rw [f2 _ _ (by omega), cd_gN (by omega), cd_grpN (by omega) (by omega) (by omega)]; exact x2 j hj
      · rw [f2 _ _ (by omega), cd_gN (by omega), cd_grpN (by omega) (by omega) (by omega)]; exact x7 j hj
      · rw [f2 _ _ (by omega), cd_gN (by omega)]
      · exact fa.2.trans (fb.2.trans rfl)
  apply hbody
  unfold f_X4_addGroup
  rw [w0, if_neg (by decide), w1, if_neg (by decide), w2, if_neg (by decide), w3, if_neg (by decide), w4, if_neg (by decide), e3, if_pos (by rw [cd_ltL (by omega) (by omega)]; omega)]
  simp (disch := omega) only [cd_nmE2, cd_addL, cd_ckI, cd_cl]
  have hp2 : p = 0 ∨ p = 1 := by omega
  have hi2 : i = 0 ∨ i = 1 := by omega
  rcases hp2 with rfl | rfl
  · rw [if_neg (show ¬ nI 0 = 1 by decide)]
    rcases hi2 with rfl | rfl
    · rw [if_neg (show ¬ nI 0 = 1 by decide), show (0 : Int32) = nI 0 from rfl, eb, cd_bS, ea, cd_bS]
    · rw [if_pos (show nI 1 = 1 by decide), show (0 : Int32) = nI 0 from rfl, show (1 : Int32) = nI 1 from rfl, eb, cd_bS, ea, cd_bS]
  · rw [if_pos (show nI 1 = 1 by decide)]
    rcases hi2 with rfl | rfl
    · rw [if_neg (show ¬ nI 0 = 1 by decide), show (0 : Int32) = nI 0 from rfl, show (1 : Int32) = nI 1 from rfl, eb, cd_bS, ea, cd_bS]
    · rw [if_pos (show nI 1 = 1 by decide), show (1 : Int32) = nI 1 from rfl, eb, cd_bS, ea, cd_bS]
