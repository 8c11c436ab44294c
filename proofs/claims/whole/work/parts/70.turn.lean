-- TURNS
def cd_rtp (A : Nat → Int32) (i j : Nat) : Nat → Int32 := fun k => if 420 + i ≤ k ∧ k < 420 + j then A (k + 1) else A k
def cd_rt (A : Nat → Int32) (i Q : Nat) : Nat → Int32 := cd_up (cd_rtp A i (Q - 1)) (420 + (Q - 1)) (A (420 + i))
theorem cd_rtp_0 {A : Nat → Int32} {i : Nat} : cd_rtp A i i = A := by
  funext k
  unfold cd_rtp
  rw [if_neg (by omega)]
theorem cd_rtp_s {A : Nat → Int32} {i j : Nat} (h : i ≤ j) : cd_up (cd_rtp A i j) (420 + j) (A (420 + j + 1)) = cd_rtp A i (j + 1) := by
  funext k
  by_cases z : k = 420 + j
  · rw [cd_upE z]; unfold cd_rtp; rw [if_pos (by omega), z]
  · rw [cd_upN z]
    unfold cd_rtp
    by_cases y : 420 + i ≤ k ∧ k < 420 + j
    · rw [if_pos y, if_pos (by omega)]
    · rw [if_neg y, if_neg (by omega)]
theorem cd_rtp_N {A : Nat → Int32} {i j k : Nat} (h : k < 420 + i ∨ 420 + j ≤ k) : cd_rtp A i j k = A k := by
  unfold cd_rtp; rw [if_neg (by omega)]
theorem cd_rt_N {A : Nat → Int32} {i Q k : Nat} (hQ : i < Q) (h : k < 420 ∨ 420 + Q ≤ k) : cd_rt A i Q k = A k := by
  unfold cd_rt; rw [cd_upN (by omega), cd_rtp_N (by omega)]
/-- who stands where then -/
def cd_sg (i Q k : Nat) : Nat := if k < i then k else if k + 1 < Q then k + 1 else i
theorem cd_rt_sg {A : Nat → Int32} {i Q k : Nat} (hi : i < Q) (hk : k < Q) : cd_rt A i Q (420 + k) = A (420 + cd_sg i Q k) ∧ cd_sg i Q k < Q := by
  unfold cd_sg cd_rt
  by_cases z1 : k < i
  · rw [if_pos z1, cd_upN (by omega), cd_rtp_N (by omega)]; exact ⟨rfl, by omega⟩
  · rw [if_neg z1]
    by_cases z2 : k + 1 < Q
    · rw [if_pos z2, cd_upN (by omega)]; unfold cd_rtp; rw [if_pos (by omega)]; exact ⟨rfl, by omega⟩
    · rw [if_neg z2, cd_upE (by omega)]; exact ⟨rfl, by omega⟩
theorem cd_sg_ne {i Q k k' : Nat} (hi : i < Q) (hk : k < k') (hk' : k' < Q) : cd_sg i Q k ≠ cd_sg i Q k' := by
  unfold cd_sg
  by_cases a1 : k < i
  · rw [if_pos a1]
    by_cases b1 : k' < i
    · rw [if_pos b1]; omega
    · rw [if_neg b1]; split <;> omega
  · rw [if_neg a1, if_neg (by omega : ¬ k' < i), if_pos (by omega : k + 1 < Q)]
    split <;> omega
theorem cd_OkQ.rt {A : Nat → Int32} {i : Nat} (h : cd_OkQ A) (h70 : cd_n A 70 ≤ 6) (hi : i < cd_n A 419) : cd_OkQ (cd_rt A i (cd_n A 419)) := by
  obtain ⟨q1, q2, q3⟩ := h
  have ql := q1.2
  have lo : ∀ k, k < 420 → cd_rt A i (cd_n A 419) k = A k := fun k z => cd_rt_N hi (by omega)
  have sg : ∀ k, k < cd_n A 419 → cd_n (cd_rt A i (cd_n A 419)) (420 + k) = cd_n A (420 + cd_sg i (cd_n A 419) k) ∧ cd_sg i (cd_n A 419) k < cd_n A 419 := fun k hk => by
    obtain ⟨s1, s2⟩ := cd_rt_sg (A := A) hi hk
    exact ⟨by unfold cd_n; exact congrArg _ (by unfold cd_n at s1; exact s1), s2⟩
  unfold cd_OkQ
  rw [cd_n.of (lo 419 (by omega)), cd_n.of (lo 70 (by omega))]
  refine ⟨q1.of (lo _ (by omega)), fun k hk => ?_, fun k k' hk hk' => ?_⟩
  · obtain ⟨s1, s2⟩ := sg k hk
    obtain ⟨y1, y2, y3⟩ := q2 _ s2
    rw [s1, lo _ (by omega)]
    refine ⟨⟨?_, by rw [s1]; exact y1.2⟩, y2, y3⟩
    rw [s1, (cd_rt_sg (A := A) hi hk).1]; exact y1.1
  · obtain ⟨s1, s2⟩ := sg k (by omega)
    obtain ⟨t1, t2⟩ := sg k' hk'
    rw [s1, t1]
    have hne := cd_sg_ne hi hk hk'
    rcases Nat.lt_or_ge (cd_sg i (cd_n A 419) k) (cd_sg i (cd_n A 419) k') with z | z
    · exact q3 _ _ z t2
    · exact fun w => q3 _ _ (by omega) s2 w.symm
theorem cd_M_up {A : Nat → Int32} {T k : Nat} {v : Int32} (h1 : k ≠ 426) (h2 : k ≠ 466) : cd_M (cd_up A k v) T = cd_up (cd_M A T) k v := by
  funext j
  by_cases z : j = k
  · rw [cd_MN (by omega) (by omega), cd_upE z, cd_upE z]
  · rw [cd_upN z]
    by_cases y1 : j = 426
    · rw [y1, cd_M426, cd_M426]
    · by_cases y2 : j = 466
      · rw [y2, cd_M466, cd_M466]
      · rw [cd_MN y1 y2, cd_MN y1 y2, cd_upN z]
theorem cd_M_rt {A : Nat → Int32} {T i Q : Nat} (hi : i < Q) (hQ : Q ≤ 6) : cd_M (cd_rt A i Q) T = cd_rt (cd_M A T) i Q := by
  funext j
  by_cases y1 : j = 426
  · rw [y1, cd_M426, cd_rt_N hi (by omega), cd_M426]
  · by_cases y2 : j = 466
    · rw [y2, cd_M466, cd_rt_N hi (by omega), cd_M466]
    · rw [cd_MN y1 y2]
      by_cases z : j < 420 ∨ 420 + Q ≤ j
      · rw [cd_rt_N hi z, cd_rt_N hi z, cd_MN y1 y2]
      · obtain ⟨k, rfl⟩ : ∃ k, j = 420 + k := ⟨j - 420, by omega⟩
        obtain ⟨s1, s2⟩ := cd_rt_sg (A := A) hi (k := k) (by omega)
        obtain ⟨t1, -⟩ := cd_rt_sg (A := cd_M A T) hi (k := k) (by omega)
        rw [s1, t1, cd_MN (by omega) (by omega)]
/-- a turn is over -/
theorem cd_Ok.turn {A : Nat → Int32} {τ g v : Nat} (h : cd_Ok A τ) (hg : g < cd_n A 70) (hv : v < cd_n A (71 + 58 * g + 1)) : cd_Ok (cd_up A (71 + 58 * g + 6) (nI v)) τ := by
  have h6 := h.sz.1
  have hgg := h.2.2.2.2.2.1 g hg
  refine h.grp hg (cd_al.up.wide (by omega) (by omega)) (cd_upN (by omega)) ?_
  obtain ⟨h0, ⟨h1, -⟩, h2, h3, h4, h5, ⟨h6a, h6b⟩, ⟨h7a, h7b⟩, ⟨h8a, h8b⟩, h9, -⟩ := id hgg
  have w5 := h1.2
  refine cd_OkG.fl hgg (by omega) (by omega) (fun k _ _ z _ _ _ => cd_upN z) (h4.of (cd_upN (by omega))) ⟨cd_num.put (by omega) (by omega), by rw [cd_n_up (by omega)]; exact hv⟩ ⟨h7a.of (cd_upN (by omega)), ?_⟩ ⟨h8a.of (cd_upN (by omega)), ?_⟩ (h9.of (cd_upN (by omega)))
  · rw [cd_n.of (cd_upN (by omega))]; exact h7b
  · rw [cd_n.of (cd_upN (by omega)), cd_n.of (k := 71 + 58 * g + 8) (cd_upN (by omega))]; exact h8b
theorem cd_Ok.rt {A : Nat → Int32} {τ i : Nat} (h : cd_Ok A τ) (hi : i < cd_n A 419) : cd_Ok (cd_rt A i (cd_n A 419)) τ := by
  obtain ⟨g0, ⟨g1, g1'⟩, g2, gT, gG, gGs, gQ, gS⟩ := h
  have h6 := gG.2
  have q6 := gQ.1.2
  have e : ∀ k, (k < 420 ∨ 426 ≤ k) → cd_rt A i (cd_n A 419) k = A k := fun k z => cd_rt_N hi (by omega)
  refine ⟨g0, ⟨g1.of (e _ (by omega)), by rw [cd_n.of (e 0 (by omega))]; exact g1'⟩, fun k hk => (g2 k hk).of (e _ (by omega)), gT.on (fun k z1 z2 => e k (by omega)), gG.of (e _ (by omega)), fun g hg => ?_, gQ.rt h6 hi, gS.on (fun k z1 z2 => e k (by omega))⟩
  rw [cd_n.of (e 70 (by omega))] at hg
  exact (gGs g hg).on (fun k z1 z2 => e k (by omega)) (Nat.le_of_eq (cd_n.of (e 9 (by omega))).symm) (Nat.le_of_eq (cd_n.of (e 426 (by omega))).symm)
-- the class's queue
theorem cd_St.ln {A : Nat → Int32} {h : cd_Hp} {i : Nat} {v : Int32} (x : cd_St 4 A h) (z : cd_Sz A) (hi : i < 6) : cd_St 4 (cd_up A (420 + i) v) (cd_u h (4 + 7) i v) := by
  obtain ⟨x1, x2, x3, x6, x7, x8⟩ := x
  refine ⟨?_, fun k hk => ?_, x3.as (fun k w1 w2 => cd_upN (by omega)) (fun y k w1 w2 => cd_gN (by omega)), cd_StGs.as x6 z.1 z.2.1 (fun k w1 w2 => cd_upN (by omega)) (fun y k w1 w2 => cd_gN (by omega)), fun j hj => ?_, x8.as z.2.2.1 z.2.2.2 (fun k w1 w2 => cd_upN (by omega)) (fun y k w1 w2 => cd_gN (by omega))⟩
  · simp (disch := omega) only [cd_gN, cd_upN]; exact x1
  · rw [cd_gN (by omega), cd_upN (by omega)]; exact x2 k hk
  · by_cases e : j = i
    · subst e; rw [cd_gE rfl rfl, cd_upE rfl]
    · rw [cd_gN (by omega), cd_upN (by omega)]; exact x7 j hj
theorem cd_Sz.rtp {A : Nat → Int32} {i j : Nat} (z : cd_Sz A) (hj : j ≤ 6) : cd_Sz (cd_rtp A i j) := by
  have h6 := z.1
  have e : ∀ k, (k < 420 ∨ 426 ≤ k) → cd_rtp A i j k = A k := fun k hk => cd_rtp_N (by omega)
  refine ⟨by rw [cd_n.of (e 70 (by omega))]; exact h6, fun g hg => ?_, by rw [cd_n.of (e 466 (by omega))]; exact z.2.2.1, by rw [cd_n.of (e 429 (by omega))]; exact z.2.2.2⟩
  rw [cd_n.of (e 70 (by omega))] at hg
  rw [cd_n.of (e _ (by omega))]
  exact z.2.1 g hg
theorem cd_moveE {A : Nat → Int32} {h : cd_Hp} {i : Nat} (x : cd_St 4 A h) (z : cd_Sz A) (n419 : cd_num A 419 6) (hi : i < cd_n A 419) : ∃ h', f_X4_moveToEnd 4 (nI i) h = some h' ∧ cd_St 4 (cd_rt A i (cd_n A 419)) h' ∧ cd_fr 4 60 h h' := by
  have q6 := n419.2
  unfold f_X4_moveToEnd
  rw [cd_ckI (by omega) (by omega), cd_cl (by omega), x.2.2.2.2.1 i (by omega), cd_nmE2]
  have hloop : ∃ o, cd_lp (f_X4_moveToEnd_B9 4 (nI i) (A (420 + i))) cd_fu (nI i, h) = some o ∧ (cd_St 4 (cd_rtp A i (cd_n A 419 - 1)) o.2 ∧ cd_fr 4 60 h o.2) := by
    refine cd_for (cd_n A 419 - 1 - i) (fun j (st : Int32 × cd_Hp) => st.1 = nI (i + j) ∧ cd_St 4 (cd_rtp A i (i + j)) st.2 ∧ cd_fr 4 60 h st.2) _ ?_ cd_fu 0 (nI i, h) (Nat.zero_le _) (by unfold cd_fu; omega) ⟨rfl, by rw [Nat.add_zero, cd_rtp_0]; exact x, cd_fr.rf⟩
    rintro j ⟨v0, k1⟩ K hj ⟨hv0, hS, f1⟩
    dsimp only at hv0 hS f1
    subst hv0
    unfold f_X4_moveToEnd_B9
    dsimp only
    have e4 : cd_g k1 4 4 = nI (cd_n A 419) := by rw [hS.1.2.2.2.2, cd_rtp_N (by omega)]; exact n419.1
    rw [e4, cd_addL]
    rcases Nat.lt_or_ge j (cd_n A 419 - 1 - i) with hlt | hge
    · left
      refine ⟨hlt, ?_⟩
      have e7 : cd_g k1 (4 + 7) (i + j + 1) = A (420 + (i + j) + 1) := by rw [hS.2.2.2.2.1 _ (by omega), cd_rtp_N (by omega), show 420 + (i + j + 1) = 420 + (i + j) + 1 by omega]
      rw [if_neg (by rw [cd_le (by omega) (by omega)]; omega), cd_ckI (by omega) (by omega), cd_ckI (by omega) (by omega), cd_cl (by omega), cd_cl (by omega), e7, cd_nmE2, cd_nmE2]
      have s1 := hS.ln (i := i + j) (v := A (420 + (i + j) + 1)) (z.rtp (by omega)) (by omega)
      rw [cd_rtp_s (by omega)] at s1
      exact ⟨(nI (i + j + 1), _), ⟨rfl, s1, f1.tr (cd_fr.u (by omega) (by omega))⟩, rfl⟩
    · right
      obtain rfl : j = cd_n A 419 - 1 - i := by omega
      rw [if_pos (by rw [cd_le (by omega) (by omega)]; omega)]
      rw [show i + (cd_n A 419 - 1 - i) = cd_n A 419 - 1 by omega] at hS
      exact ⟨_, rfl, hS, f1⟩
  obtain ⟨o, eo, o1, o2⟩ := hloop
  have e4 : cd_g o.2 4 4 = nI (cd_n A 419) := by rw [o1.1.2.2.2.2, cd_rtp_N (by omega)]; exact n419.1
  rw [eo, cd_bS, e4, cd_subL (by omega), cd_ckI (by omega) (by omega), cd_cl (by omega), cd_nmE2]
  exact ⟨_, rfl, o1.ln (z.rtp (by omega)) (by omega), o2.tr (cd_fr.u (by omega) (by omega))⟩
/-- the row behind the turn of the i-th of the queue -/
def cd_tu (A : Nat → Int32) (i : Nat) : Nat → Int32 := if cd_n A (71 + 58 * cd_n A (420 + i) + 6) + 1 < cd_n A (71 + 58 * cd_n A (420 + i) + 1) then cd_up A (71 + 58 * cd_n A (420 + i) + 6) (nI (cd_n A (71 + 58 * cd_n A (420 + i) + 6) + 1)) else cd_rt (cd_up A (71 + 58 * cd_n A (420 + i) + 6) 0) i (cd_n A 419)
section
variable {A : Nat → Int32} {W : Nat}
def cd_QA (A : Nat → Int32) : Prop := cd_Sz A ∧ cd_num A 419 6 ∧ ∀ i, i < cd_n A 419 → cd_num A (420 + i) 5 ∧ cd_n A (420 + i) < cd_n A 70 ∧ cd_num A (71 + 58 * cd_n A (420 + i) + 6) 4 ∧ cd_num A (71 + 58 * cd_n A (420 + i) + 1) 5
theorem cd_turn0 {h : cd_Hp} (hA : cd_QA A) (hW : W < 64) (x : cd_St 4 A h) (hn : ∀ j, j < cd_n A 419 → ¬ W.testBit (cd_n A (420 + j)) = true) : f_X4_takeTurn 4 (nI W) h = some h := by
  obtain ⟨z, q1, q2⟩ := hA
  have q6 := q1.2
  have h6 := z.1
  have hloop : ∃ o, cd_lp (f_X4_takeTurn_B2 4 (nI W)) cd_fu (0, h) = some o ∧ ∃ v, o = .inr (v, h) := by
    refine cd_for (cd_n A 419) (fun j (st : Int32 × cd_Hp) => st = (nI j, h)) _ ?_ cd_fu 0 (0, h) (Nat.zero_le _) (by unfold cd_fu; omega) rfl
    rintro j st K hj rfl
    unfold f_X4_takeTurn_B2
    dsimp only
    rw [x.1.2.2.2.2, q1.1]
    rcases Nat.lt_or_ge j (cd_n A 419) with hlt | hge
    · left
      obtain ⟨l0, l1, -, -⟩ := q2 j hlt
      refine ⟨hlt, _, rfl, ?_⟩
      rw [if_neg (by rw [cd_le (by omega) (by omega)]; omega), cd_ckI (by omega) (by omega), cd_cl (by omega), x.2.2.2.2.1 j (by omega), l0.1, cd_bitIn _ (by omega) W hW, if_neg (hn j hlt), if_pos rfl, cd_nmE2, cd_addL]
    · right
      obtain rfl : j = cd_n A 419 := by omega
      rw [if_pos (by rw [cd_le (by omega) (by omega)]; omega)]
      exact ⟨_, rfl, _, rfl⟩
  obtain ⟨o, eo, v, rfl⟩ := hloop
  unfold f_X4_takeTurn
  rw [eo, cd_b2R]
theorem cd_turn1 {h : cd_Hp} {i : Nat} (hA : cd_QA A) (hW : W < 64) (x : cd_St 4 A h) (hi : i < cd_n A 419) (hb : W.testBit (cd_n A (420 + i)) = true) (hn : ∀ j, j < i → ¬ W.testBit (cd_n A (420 + j)) = true) : ∃ h', f_X4_takeTurn 4 (nI W) h = some h' ∧ cd_St 4 (cd_tu A i) h' ∧ cd_fr 4 60 h h' := by
  obtain ⟨z, q1, q2⟩ := hA
  have q6 := q1.2
  have h6 := z.1
  have hloop : ∃ o, cd_lp (f_X4_takeTurn_B2 4 (nI W)) cd_fu (0, h) = some o ∧ ∃ h', o = .inl h' ∧ cd_St 4 (cd_tu A i) h' ∧ cd_fr 4 60 h h' := by
    refine cd_for i (fun j (st : Int32 × cd_Hp) => st = (nI j, h)) _ ?_ cd_fu 0 (0, h) (Nat.zero_le _) (by unfold cd_fu; omega) rfl
    rintro j st K hj rfl
    unfold f_X4_takeTurn_B2
    dsimp only
    rw [x.1.2.2.2.2, q1.1]
    obtain ⟨l0, l1, l2, l3⟩ := q2 j (by omega)
    rw [if_neg (by rw [cd_le (by omega) (by omega)]; omega), cd_ckI (by omega) (by omega), cd_cl (by omega), x.2.2.2.2.1 j (by omega), l0.1, cd_bitIn _ (by omega) W hW]
    rcases Nat.lt_or_ge j i with hlt | hge
    · left
      refine ⟨hlt, _, rfl, ?_⟩
      rw [if_neg (hn j hlt), if_pos rfl, cd_nmE2, cd_addL]
    · right
      obtain rfl : j = i := by omega
      obtain ⟨y1, -⟩ := x.2.2.2.1 _ l1
      have t4 := l2.2
      have w5 := l3.2
      have e7 : cd_g h (4 + 6 + 8 + 7 * cd_n A (420 + j)) 7 = nI (cd_n A (71 + 58 * cd_n A (420 + j) + 6)) := by rw [y1.2.2.2.2.2.2.2.1]; exact l2.1
      have e1 : cd_g h (4 + 6 + 8 + 7 * cd_n A (420 + j)) 1 = nI (cd_n A (71 + 58 * cd_n A (420 + j) + 1)) := by rw [y1.2.1]; exact l3.1
      rw [if_pos hb, if_neg (show ¬ (1 : Int32) = 0 by decide), cd_ckI (by omega) (by omega), cd_ckI (by omega) (by omega), cd_cl (by omega), e7, cd_addL, cd_nmE2, cd_gE rfl rfl, cd_gN (by omega), e1]
      have s1 := fun v => x.pF (g := cd_n A (420 + j)) (v := v) z l1 (Or.inr (Or.inr (Or.inl ⟨rfl, rfl⟩)))
      unfold cd_tu
      by_cases zw : cd_n A (71 + 58 * cd_n A (420 + j) + 6) + 1 < cd_n A (71 + 58 * cd_n A (420 + j) + 1)
      · rw [if_pos (by rw [cd_lt (by omega) (by omega)]; exact zw), if_pos zw]
        exact ⟨_, rfl, _, rfl, s1 _, cd_fr.u (by omega) (by omega)⟩
      · rw [if_neg (by rw [cd_lt (by omega) (by omega)]; exact zw), if_neg zw, cd_nmE2]
        have s2 := (s1 (nI (cd_n A (71 + 58 * cd_n A (420 + j) + 6) + 1))).pF (g := cd_n A (420 + j)) (v := 0) (z.upG (by omega) (by omega) (by omega)) (by rw [cd_n.of (cd_upN (by omega))]; exact l1) (Or.inr (Or.inr (Or.inl ⟨rfl, rfl⟩)))
        rw [cd_up_up] at s2
        have n419 : cd_n (cd_up A (71 + 58 * cd_n A (420 + j) + 6) 0) 419 = cd_n A 419 := cd_n.of (cd_upN (by omega))
        obtain ⟨h', e', s', f'⟩ := cd_moveE s2 (z.upG (by omega) (by omega) (by omega)) (q1.of (cd_upN (by omega))) (i := j) (by omega)
        rw [n419] at s'
        rw [e', cd_bS]
        exact ⟨_, rfl, _, rfl, s', ((cd_fr.u (by omega) (by omega)).tr (cd_fr.u (by omega) (by omega))).tr f'⟩
  obtain ⟨o, eo, h', rfl, s', f'⟩ := hloop
  unfold f_X4_takeTurn
  rw [eo, cd_b2L]
  exact ⟨_, rfl, s', f'⟩
end
