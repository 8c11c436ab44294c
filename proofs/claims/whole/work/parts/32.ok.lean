-- WHAT HOLDS OF A ROW: tau bounds its slices
def cd_S6 (A : Nat → Int32) (a : Nat) : Nat := cd_n A a + cd_n A (a + 1) + cd_n A (a + 2) + cd_n A (a + 3) + cd_n A (a + 4) + cd_n A (a + 5)
def cd_OkG (o : Nat) (A : Nat → Int32) : Prop :=
  (cd_num A o 5 ∧ cd_n A o < cd_n A 9) ∧ (cd_num A (o + 1) 5 ∧ 1 ≤ cd_n A (o + 1)) ∧ cd_num A (o + 2) 1 ∧ cd_num A (o + 3) 1 ∧ cd_num A (o + 4) 1 ∧ (cd_num A (o + 5) 4 ∧ 1 ≤ cd_n A (o + 5)) ∧ (cd_num A (o + 6) 4 ∧ cd_n A (o + 6) < cd_n A (o + 1)) ∧
  (cd_num A (o + 7) 200 ∧ (cd_n A (o + 7) = 0 ∨ 30 ≤ cd_n A (o + 7))) ∧ (cd_num A (o + 8) 199 ∧ (cd_n A (o + 7) = 0 ∨ cd_n A (o + 8) < cd_n A (o + 7))) ∧ cd_num A (o + 9) 1 ∧
  (∀ e, e < cd_n A (o + 5) → cd_num A (o + 10 + 3 * e) 7 ∧ cd_num A (o + 11 + 3 * e) 99 ∧ (A (o + 12 + 3 * e) = -1 ∨ cd_num A (o + 12 + 3 * e) 3)) ∧
  (∀ k, k < 24 → cd_num A (o + 22 + k) 100000000) ∧ (∀ t, t < 6 → cd_num A (o + 46 + t) 1000000 ∧ cd_num A (o + 52 + t) 1000000) ∧
  cd_S6 A (o + 46) ≤ cd_n A 426 ∧ cd_S6 A (o + 52) ≤ cd_S6 A (o + 46) ∧ ∀ e, e < 4 → cd_S6 A (o + 22 + 6 * e) ≤ 99 * cd_S6 A (o + 52)
/-- how many of the first w that wait are due at d or later -/
def cd_ct (A : Nat → Int32) (d : Nat) : Nat → Nat
  | 0 => 0
  | w + 1 => cd_ct A d w + if d ≤ cd_n A (468 + 2 * w) then 1 else 0
def cd_OkT (A : Nat → Int32) : Prop :=
  (cd_num A 9 6 ∧ 1 ≤ cd_n A 9) ∧ (A 10 = -1 ∧ A 11 = 0) ∧ (∀ t, 1 ≤ t → t < cd_n A 9 → cd_num A (10 + 10 * t) 4 ∧ cd_n A (10 + 10 * t) < t) ∧ ∀ t, t < cd_n A 9 → cd_num A (11 + 10 * t) 1 ∧ ∀ k, k < 8 → cd_num A (12 + 10 * t + k) 99
def cd_OkQ (A : Nat → Int32) : Prop :=
  cd_num A 419 6 ∧ (∀ i, i < cd_n A 419 → cd_num A (420 + i) 5 ∧ cd_n A (420 + i) < cd_n A 70 ∧ A (71 + 58 * cd_n A (420 + i) + 2) = 0) ∧ ∀ i j, i < j → j < cd_n A 419 → cd_n A (420 + i) ≠ cd_n A (420 + j)
def cd_OkS (A : Nat → Int32) (τ : Nat) : Prop :=
  cd_num A 426 τ ∧ cd_num A 427 3 ∧ cd_num A 428 (64 * τ) ∧ (cd_num A 429 12 ∧ ∀ i, i < cd_n A 429 → cd_num A (430 + 3 * i) 5 ∧ cd_num A (431 + 3 * i) 5 ∧ cd_num A (432 + 3 * i) τ) ∧
  (cd_num A 466 48 ∧ ∀ i, i < cd_n A 466 → cd_num A (467 + 2 * i) 5 ∧ cd_num A (468 + 2 * i) (τ + 3)) ∧ ∀ j, j ≤ 3 → cd_ct A (cd_n A 426 + j) (cd_n A 466) ≤ 16 * (3 - j)
def cd_Ok (A : Nat → Int32) (τ : Nat) : Prop :=
  τ ≤ 500000 ∧ (cd_num A 0 4 ∧ 1 ≤ cd_n A 0) ∧ (∀ k, k < 8 → cd_num A (1 + k) 15) ∧ cd_OkT A ∧ cd_num A 70 6 ∧ (∀ g, g < cd_n A 70 → cd_OkG (71 + 58 * g) A) ∧ cd_OkQ A ∧ cd_OkS A τ
theorem cd_num.bo {A : Nat → Int32} {k : Nat} (h : cd_num A k 1) : cd_bo (A k) = true := by
  obtain ⟨h1, h2⟩ := h
  rw [h1]
  have : cd_n A k = 0 ∨ cd_n A k = 1 := by omega
  rcases this with e | e <;> rw [e] <;> decide
theorem cd_num.up {A : Nat → Int32} {k m m' : Nat} (h : cd_num A k m) (hm : m ≤ m') : cd_num A k m' := ⟨h.1, Nat.le_trans h.2 hm⟩
theorem cd_n_nI {A : Nat → Int32} {k n : Nat} (h : A k = nI n) (hn : n < 2147483648) : cd_n A k = n := by unfold cd_n; rw [h, cd_cl hn]
theorem cd_numI {A : Nat → Int32} {k n m : Nat} (h : A k = nI n) (hn : n ≤ m) (hm : m < 2147483648) : cd_num A k m := by
  have e := cd_n_nI h (by omega)
  exact ⟨by rw [e]; exact h, by omega⟩
theorem cd_cl0 : Int32.toNatClampNeg 0 = 0 := by decide
-- copying a State
theorem cd_tbecome {q r : Nat} {h : cd_Hp} (hq : cd_is 5 q) (hr : cd_is 5 r) (hqr : q + 4 ≤ r ∨ r + 4 ≤ q) : ∃ h', f_X5_become q r h = some h' ∧ cd_g h' q 0 = cd_g h r 0 ∧ (∀ k, k < 6 → cd_g h' (q + 1) k = cd_g h (r + 1) k ∧ cd_g h' (q + 2) k = cd_g h (r + 2) k) ∧ (∀ k, k < 48 → cd_g h' (q + 3) k = cd_g h (r + 3) k) ∧ cd_fr q (q + 4) h h' := by
  unfold f_X5_become
  simp (disch := first | omega | assumption) only [cd_nmE2, cd_bS, cd_copyRow (cd_r5_1 hr) (cd_r5_1 hq), cd_copyRow (cd_r5_2 hr) (cd_r5_2 hq), cd_copyRow (cd_r5_3 hr) (cd_r5_3 hq)]
  refine ⟨_, rfl, ?_, ?_, ?_, ?_, rfl⟩
  · simp (disch := omega) only [cd_gcpN, cd_gE, cd_gN]
  · intro k hk
    simp (disch := omega) only [cd_gcpN, cd_gcpE, cd_gE, cd_gN, Nat.zero_add, Nat.sub_zero, and_self]
  · intro k hk
    simp (disch := omega) only [cd_gcpN, cd_gcpE, cd_gE, cd_gN, Nat.zero_add, Nat.sub_zero]
  · intro x k hx
    simp (disch := omega) only [cd_gcpN, cd_gE, cd_gN]
theorem cd_cqT {n n0 n1 : Nat} (h0 : n ≤ n0) (h1 : n ≤ n1) (hn : n < 2147483648) : cd_cq 0 0 (nI n) n0 n1 = true := by
  unfold cd_cq
  have e1 : (nI n).toNatClampNeg = n := cd_cl hn
  have e2 : ¬ nI n < 0 := nI_pos hn
  have e3 : Int32.toNatClampNeg 0 = 0 := by decide
  simp [e1, e2, e3, h0, h1]
theorem cd_sbecome {q r w m : Nat} {h : cd_Hp} (hqr : q + 6 ≤ r ∨ r + 6 ≤ q) (hw : cd_g h r 0 = nI w) (hw2 : w ≤ 64) (hm : cd_g h r 1 = nI m) (hm2 : m ≤ 12) : ∃ h', f_X2_become q r h = some h' ∧ (cd_g h' q 0 = cd_g h r 0 ∧ cd_g h' q 1 = cd_g h r 1 ∧ cd_g h' q 2 = cd_g h r 2) ∧ (∀ k, k < w → cd_g h' (q + 1) k = cd_g h (r + 1) k ∧ cd_g h' (q + 2) k = cd_g h (r + 2) k) ∧ (∀ k, k < m → cd_g h' (q + 3) k = cd_g h (r + 3) k ∧ cd_g h' (q + 4) k = cd_g h (r + 4) k ∧ cd_g h' (q + 5) k = cd_g h (r + 5) k) ∧ cd_fr q (q + 6) h h' := by
  unfold f_X2_become
  simp (disch := first | omega | assumption) only [cd_nmE2, cd_gcpN, cd_gE, cd_gN, hw, hm, cd_ckT, cd_cqT, cd_cl, cd_cl0]
  refine ⟨_, rfl, ?_, ?_, ?_, ?_, rfl⟩
  · simp (disch := omega) only [cd_gcpN, cd_gE, cd_gN, and_self]
  · intro k hk
    simp (disch := omega) only [cd_gcpN, cd_gcpE, cd_gE, cd_gN, Nat.zero_add, Nat.sub_zero, and_self]
  · intro k hk
    simp (disch := omega) only [cd_gcpN, cd_gcpE, cd_gE, cd_gN, Nat.zero_add, Nat.sub_zero, and_self]
  · intro x k hx
    simp (disch := omega) only [cd_gcpN, cd_gE, cd_gN]
theorem cd_become {q r τ : Nat} {A : Nat → Int32} {h : cd_Hp} (hq : cd_is 4 q) (hr : cd_is 4 r) (hqr : q ≠ r) (hA : cd_Ok A τ) (hS : cd_St r A h) : ∃ h', f_X4_become q r h = some h' ∧ cd_St q A h' ∧ cd_fr q (q + 56) h h' := by
  have hap := cd_st_apart hq hr
  obtain ⟨-, -, -, -, hG, hGs, -, -, -, -, ⟨hk, -⟩, ⟨hw, -⟩, -⟩ := hA
  obtain ⟨x1, x2, ⟨x3, x4, x5⟩, x6, x7, x8, x9, x10⟩ := hS
  have aq : ∀ g, g < 6 → cd_is 0 (q + 6 + 8 + 7 * g) := fun g hg => cd_r9_all _ (cd_r4_7 hq).lt (cd_r4_7 hq) g hg
  have ar : ∀ g, g < 6 → cd_is 0 (r + 6 + 8 + 7 * g) := fun g hg => cd_r9_all _ (cd_r4_7 hr).lt (cd_r4_7 hr) g hg
  unfold f_X4_become
  simp only [cd_nmE2]
  -- the fields
  generalize hh5 : cd_u (cd_u (cd_u (cd_u (cd_u h q 0 (cd_g h r 0)) q 1 _) q 2 _) q 3 _) q 4 _ = h5
  have f5 : (cd_g h5 q 0 = A 0 ∧ cd_g h5 q 1 = A 427 ∧ cd_g h5 q 2 = A 426 ∧ cd_g h5 q 3 = A 70 ∧ cd_g h5 q 4 = A 419) ∧ cd_fr q (q + 1) h h5 := by
    rw [← hh5]
    refine ⟨?_, ?_, rfl⟩
    · simp (disch := omega) only [cd_gE, cd_gN]; exact x1
    · intro x k hx
      simp (disch := omega) only [cd_gN]
  clear hh5
  obtain ⟨f5, r5⟩ := f5
  rw [cd_copyRow (cd_r4_5 hr) (cd_r4_5 hq) (by omega), cd_bS]
  generalize hh6 : cd_cp h5 (r + 1) 0 (q + 1) 0 8 = h6
  have f6 : (∀ k, k < 8 → cd_g h6 (q + 1) k = A (1 + k)) ∧ cd_fr (q + 1) (q + 2) h5 h6 := by
    rw [← hh6]
    refine ⟨fun k hk => ?_, fun x k hx => ?_, rfl⟩
    · simp (disch := omega) only [cd_gcpE, Nat.zero_add, Nat.sub_zero]
      rw [r5.1 _ _ (by omega)]; exact x2 k hk
    · simp (disch := omega) only [cd_gcpN]
  clear hh6
  obtain ⟨f6, r6⟩ := f6
  obtain ⟨h8, e8, t1, t2, t3, r8⟩ := cd_tbecome (h := h6) (cd_r4_6 hq) (cd_r4_6 hr) (by omega)
  rw [e8, cd_bS]
  -- the loop over groups
  have hloop : ∃ o, cd_lp (f_X4_become_B64 q r) cd_fu (0, h8) = some o ∧ ((∀ g, g < cd_n A 70 → cd_StG (q + 6 + 8 + 7 * g) (71 + 58 * g) A o.2) ∧ cd_fr (q + 14) (q + 56) h8 o.2) := by
    refine cd_for (cd_n A 70) (fun i st => st.1 = nI i ∧ (∀ g, g < i → cd_StG (q + 6 + 8 + 7 * g) (71 + 58 * g) A st.2) ∧ cd_fr (q + 14) (q + 56) h8 st.2) _ ?_ cd_fu 0 (0, h8) (Nat.zero_le _) (by have := hG.2; unfold cd_fu; omega) ⟨rfl, fun g hg => absurd hg (by omega), cd_fr.rf⟩
    rintro i ⟨v, k1⟩ K hi ⟨hv, hI, hfr⟩
    dsimp only at hv hI hfr
    subst hv
    unfold f_X4_become_B64
    dsimp only
    have e3 : cd_g k1 q 3 = nI (cd_n A 70) := by rw [hfr.1 _ _ (by omega), r8.1 _ _ (by omega), r6.1 _ _ (by omega), f5.2.2.2.1]; exact hG.1
    have h6 := hG.2
    rw [e3]
    rcases Nat.lt_or_ge i (cd_n A 70) with hlt | hge
    · left
      refine ⟨hlt, ?_⟩
      rw [if_neg (by rw [cd_le (by omega) (by omega)]; omega), cd_ckI (by omega) (by omega), cd_ckI (by omega) (by omega), cd_cl (by omega)]
      obtain ⟨y1, y2, y3, y4⟩ := x6 i hlt
      obtain ⟨g1, g2, g3, g4, g5, ⟨g6, -⟩, g7, g8, g9, g10, g11⟩ := hGs i hlt
      have rd : ∀ x k, r ≤ x → x < r + 56 → cd_g k1 x k = cd_g h x k := fun x k z1 z2 => by rw [hfr.1 _ _ (by omega), r8.1 _ _ (by omega), r6.1 _ _ (by omega), r5.1 _ _ (by omega)]
      obtain ⟨k2, e2, z1, z2, z3, z4, z5⟩ := cd_gbecome (h := k1) (aq i (by omega)) (ar i (by omega)) (by omega) (by rw [rd _ _ (by omega) (by omega), y1.2.2.1]; exact g3.bo) (by rw [rd _ _ (by omega) (by omega), y1.2.2.2.1]; exact g4.bo) (by rw [rd _ _ (by omega) (by omega), y1.2.2.2.2.1]; exact g5.bo) (by rw [rd _ _ (by omega) (by omega), y1.2.2.2.2.2.1]; exact g10.bo)
      rw [e2]
      simp only [cd_bS, cd_nmE2]
      refine ⟨(nI i + 1, k2), ⟨nI_1 i, ?_, hfr.tr (z5.wide (by omega) (by omega))⟩, rfl⟩
      intro g hg
      dsimp only
      rcases Nat.lt_or_ge g i with hgi | hgi
      · exact (hI g hgi).kept (fun y k w1 w2 => z5.1 _ _ (by omega))
      · obtain rfl : g = i := by omega
        refine ⟨?_, fun e he => ?_, fun k hk => ?_, fun t ht => ?_⟩
        · simp (disch := omega) only [z1, rd]; exact y1
        · have h4 := g6.2
          obtain ⟨w1, w2, w3⟩ := z2 e (by omega)
          simp (disch := omega) only [w1, w2, w3, rd]; exact y2 e he
        · simp (disch := omega) only [z3, rd]; exact y3 k hk
        · obtain ⟨w1, w2⟩ := z4 t ht
          simp (disch := omega) only [w1, w2, rd]; exact y4 t ht
    · right
      obtain rfl : i = cd_n A 70 := by omega
      rw [if_pos (by rw [cd_le (by omega) (by omega)]; omega)]
      exact ⟨_, rfl, hI, hfr⟩
  obtain ⟨o, eo, l1, l2⟩ := hloop
  rw [eo, cd_bS, cd_copyRow (cd_r4_8 hr) (cd_r4_8 hq) (by omega), cd_bS]
  generalize hh9 : cd_cp o.2 (r + 7) 0 (q + 7) 0 6 = h9
  have rd0 : ∀ x k, r ≤ x → x < r + 56 → cd_g o.2 x k = cd_g h x k := fun x k z1 z2 => by rw [l2.1 _ _ (by omega), r8.1 _ _ (by omega), r6.1 _ _ (by omega), r5.1 _ _ (by omega)]
  have f9 : (∀ k, k < 6 → cd_g h9 (q + 7) k = A (420 + k)) ∧ cd_fr (q + 7) (q + 8) o.2 h9 := by
    rw [← hh9]
    refine ⟨fun k hk => ?_, fun x k hx => ?_, rfl⟩
    · simp (disch := omega) only [cd_gcpE, Nat.zero_add, Nat.sub_zero]
      rw [rd0 _ _ (by omega) (by omega)]; exact x7 k hk
    · simp (disch := omega) only [cd_gcpN]
  clear hh9
  obtain ⟨f9, r9⟩ := f9
  have rd9 : ∀ x k, r ≤ x → x < r + 56 → cd_g h9 x k = cd_g h x k := fun x k z1 z2 => by rw [r9.1 _ _ (by omega), rd0 _ _ z1 z2]
  obtain ⟨h10, e10, s1, s2, s3, r10⟩ := cd_sbecome (q := q + 8) (r := r + 8) (w := cd_n A 466) (m := cd_n A 429) (h := h9) (by omega) (by rw [rd9 _ _ (by omega) (by omega), x8.1]; exact hw.1) (by have := hw.2; omega) (by rw [rd9 _ _ (by omega) (by omega), x8.2.1]; exact hk.1) hk.2
  rw [e10, cd_bS]
  refine ⟨h10, rfl, ?_, ?_⟩
  · have up : ∀ x k, (x < q + 7 ∨ q + 14 ≤ x) → cd_g h10 x k = cd_g o.2 x k := fun x k z => by rw [r10.1 _ _ (by omega), r9.1 _ _ (by omega)]
    have lo : ∀ x k, x < q + 7 → cd_g h10 x k = cd_g h8 x k := fun x k z => by rw [up _ _ (by omega), l2.1 _ _ (by omega)]
    refine ⟨?_, fun k hk => ?_, ⟨?_, fun t ht => ?_, fun t k ht hk => ?_⟩, fun g hg => (l1 g hg).kept (fun y k w1 w2 => up _ _ (by omega)), fun i hi => ?_, ?_, fun i hi => ?_, fun i hi => ?_⟩
    · simp (disch := omega) only [lo]
      rw [r8.1 _ _ (by omega), r8.1 _ _ (by omega), r8.1 _ _ (by omega), r8.1 _ _ (by omega), r8.1 _ _ (by omega), r6.1 _ _ (by omega), r6.1 _ _ (by omega), r6.1 _ _ (by omega), r6.1 _ _ (by omega), r6.1 _ _ (by omega)]
      exact f5
    · rw [lo _ _ (by omega), r8.1 _ _ (by omega)]; exact f6 k hk
    · rw [lo _ _ (by omega), t1, r6.1 _ _ (by omega), r5.1 _ _ (by omega)]; exact x3
    · obtain ⟨w1, w2⟩ := t2 t ht
      rw [lo _ _ (by omega), lo _ _ (by omega), w1, w2, r6.1 _ _ (by omega), r5.1 _ _ (by omega), r6.1 _ _ (by omega), r5.1 _ _ (by omega)]
      exact x4 t ht
    · rw [lo _ _ (by omega), t3 _ (by omega), r6.1 _ _ (by omega), r5.1 _ _ (by omega)]; exact x5 t k ht hk
    · rw [r10.1 _ _ (by omega)]; exact f9 i hi
    · rw [s1.1, s1.2.1, s1.2.2, rd9 _ _ (by omega) (by omega), rd9 _ _ (by omega) (by omega), rd9 _ _ (by omega) (by omega)]; exact x8
    · obtain ⟨w1, w2⟩ := s2 i hi
      rw [w1, w2, rd9 _ _ (by omega) (by omega), rd9 _ _ (by omega) (by omega)]; exact x9 i hi
    · obtain ⟨w1, w2, w3⟩ := s3 i hi
      rw [w1, w2, w3, rd9 _ _ (by omega) (by omega), rd9 _ _ (by omega) (by omega), rd9 _ _ (by omega) (by omega)]; exact x10 i hi
  · exact (r5.wide (by omega) (by omega)).tr ((r6.wide (by omega) (by omega)).tr ((r8.wide (by omega) (by omega)).tr ((l2.wide (by omega) (by omega)).tr ((r9.wide (by omega) (by omega)).tr (r10.wide (by omega) (by omega))))))
