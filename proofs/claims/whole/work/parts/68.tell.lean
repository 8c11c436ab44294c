-- WHAT IS TOLD
def cd_t1 (A : Nat → Int32) (v : Int32) (t : Nat) : Nat → Int32 := if cd_n A 429 = 12 then cd_up A 428 (nI (cd_n A 428 + 1)) else cd_up (cd_up (cd_up (cd_up A (430 + 3 * cd_n A 429) v) (431 + 3 * cd_n A 429) (nI t)) (432 + 3 * cd_n A 429) (A 426)) 429 (nI (cd_n A 429 + 1))
def cd_td (A : Nat → Int32) (t T : Nat) : Nat → (Nat → Int32) × Nat
  | 0 => (A, 0)
  | i + 1 => if T < cd_n A (468 + 2 * i) then (cd_up (cd_up (cd_td A t T i).1 (467 + 2 * (cd_td A t T i).2) (A (467 + 2 * i))) (468 + 2 * (cd_td A t T i).2) (A (468 + 2 * i)), (cd_td A t T i).2 + 1) else (cd_t1 (cd_td A t T i).1 (A (467 + 2 * i)) t, (cd_td A t T i).2)
def cd_tF (A : Nat → Int32) (l : Nat) : Nat → Int32 := cd_up (fun k => if 467 + 2 * l ≤ k then 0 else A k) 466 (nI l)
theorem cd_t1_N {A : Nat → Int32} {v : Int32} {t k : Nat} (h12 : cd_n A 429 ≤ 12) (h : k < 428 ∨ 466 ≤ k) : cd_t1 A v t k = A k := by
  unfold cd_t1
  split
  · exact cd_upN (by omega)
  · rw [cd_upN (by omega), cd_upN (by omega), cd_upN (by omega), cd_upN (by omega)]
/-- samples told and lost, so far; b bounds those lost -/
def cd_Kp (A : Nat → Int32) (τ b : Nat) : Prop := cd_num A 428 b ∧ cd_num A 429 12 ∧ ∀ i, i < cd_n A 429 → cd_num A (430 + 3 * i) 5 ∧ cd_num A (431 + 3 * i) 5 ∧ cd_num A (432 + 3 * i) τ
theorem cd_t1_ok {A : Nat → Int32} {v t T τ b : Nat} (h : cd_Kp A τ b) (hv : v ≤ 5) (ht : t ≤ 5) (e : A 426 = nI T) (hT : T ≤ τ) (hτ : τ ≤ 500000) (hb : b ≤ 100000000) : cd_Kp (cd_t1 A (nI v) t) τ (b + 1) := by
  obtain ⟨h1, h2, h3⟩ := h
  have k12 := h2.2
  have b2 := h1.2
  unfold cd_t1
  by_cases z : cd_n A 429 = 12
  · rw [if_pos z]
    have e429 : cd_n (cd_up A 428 (nI (cd_n A 428 + 1))) 429 = cd_n A 429 := cd_n.of (cd_upN (by omega))
    refine ⟨cd_numI (cd_upE rfl) (by omega) (by omega), h2.of (cd_upN (by omega)), fun i hi => ?_⟩
    rw [e429] at hi
    obtain ⟨y1, y2, y3⟩ := h3 i hi
    exact ⟨y1.of (cd_upN (by omega)), y2.of (cd_upN (by omega)), y3.of (cd_upN (by omega))⟩
  · rw [if_neg z]
    generalize hk : cd_n A 429 = k at *
    have e429 : cd_n (cd_up (cd_up (cd_up (cd_up A (430 + 3 * k) (nI v)) (431 + 3 * k) (nI t)) (432 + 3 * k) (A 426)) 429 (nI (k + 1))) 429 = k + 1 := cd_n_nI (cd_upE rfl) (by omega)
    refine ⟨(h1.up (by omega)).of (by rw [cd_upN (by omega), cd_upN (by omega), cd_upN (by omega), cd_upN (by omega)]), cd_numI (cd_upE rfl) (by omega) (by omega), fun i hi => ?_⟩
    rw [e429] at hi
    by_cases zi : i = k
    · subst zi
      refine ⟨cd_numI (n := v) ?_ hv (by omega), cd_numI (n := t) ?_ ht (by omega), cd_numI (n := T) ?_ hT (by omega)⟩
      · rw [cd_upN (by omega), cd_upN (by omega), cd_upN (by omega), cd_upE rfl]
      · rw [cd_upN (by omega), cd_upN (by omega), cd_upE rfl]
      · rw [cd_upN (by omega), cd_upE rfl]; exact e
    · obtain ⟨y1, y2, y3⟩ := h3 i (by omega)
      refine ⟨y1.of ?_, y2.of ?_, y3.of ?_⟩
      · rw [cd_upN (by omega), cd_upN (by omega), cd_upN (by omega), cd_upN (by omega)]
      · rw [cd_upN (by omega), cd_upN (by omega), cd_upN (by omega), cd_upN (by omega)]
      · rw [cd_upN (by omega), cd_upN (by omega), cd_upN (by omega), cd_upN (by omega)]
/-- the row at the start -/
def cd_TA (A : Nat → Int32) (T τ w b : Nat) : Prop := A 426 = nI T ∧ T ≤ τ ∧ τ ≤ 500000 ∧ cd_Wt A T w ∧ w ≤ 64 ∧ cd_Kp A τ b ∧ b ≤ 99999000
def cd_TI (A : Nat → Int32) (T τ b i : Nat) (S : (Nat → Int32) × Nat) : Prop := S.2 ≤ i ∧ (∀ k, (k < 428 ∨ k = 466 ∨ 467 + 2 * i ≤ k) → S.1 k = A k) ∧ (∀ j, j < S.2 → cd_num S.1 (467 + 2 * j) 5 ∧ cd_num S.1 (468 + 2 * j) (T + 3)) ∧ (∀ d, T + 1 ≤ d → cd_ct S.1 d S.2 = cd_ct A d i) ∧ S.2 = cd_ct A (T + 1) i ∧ cd_Kp S.1 τ (b + i)
theorem cd_td_ok {A : Nat → Int32} {t T τ w b : Nat} (h : cd_TA A T τ w b) (ht : t ≤ 5) : ∀ i, i ≤ w → cd_TI A T τ b i (cd_td A t T i) := by
  obtain ⟨a1, a2, a3, a4, a5, a6, a7⟩ := h
  intro i
  induction i with
  | zero => intro _; exact ⟨Nat.le_refl _, fun _ _ => rfl, fun j z => absurd z (Nat.not_lt_zero _), fun _ _ => rfl, rfl, a6⟩
  | succ i ih =>
    intro hi
    obtain ⟨i1, i2, i3, i4, i5, i6⟩ := ih (by omega)
    obtain ⟨n1, n2⟩ := a4.2 i (by omega)
    have e : cd_td A t T (i + 1) = if T < cd_n A (468 + 2 * i) then (cd_up (cd_up (cd_td A t T i).1 (467 + 2 * (cd_td A t T i).2) (A (467 + 2 * i))) (468 + 2 * (cd_td A t T i).2) (A (468 + 2 * i)), (cd_td A t T i).2 + 1) else (cd_t1 (cd_td A t T i).1 (A (467 + 2 * i)) t, (cd_td A t T i).2) := rfl
    have ec : ∀ d, cd_ct A d (i + 1) = cd_ct A d i + if d ≤ cd_n A (468 + 2 * i) then 1 else 0 := fun d => rfl
    rw [e]
    clear e ih
    generalize cd_td A t T i = S at i1 i2 i3 i4 i5 i6 ⊢
    by_cases z : T < cd_n A (468 + 2 * i)
    · rw [if_pos z]
      have old : ∀ j, j < S.2 → cd_up (cd_up S.1 (467 + 2 * S.2) (A (467 + 2 * i))) (468 + 2 * S.2) (A (468 + 2 * i)) (467 + 2 * j) = S.1 (467 + 2 * j) ∧ cd_up (cd_up S.1 (467 + 2 * S.2) (A (467 + 2 * i))) (468 + 2 * S.2) (A (468 + 2 * i)) (468 + 2 * j) = S.1 (468 + 2 * j) := fun j hj => by
        rw [cd_upN (by omega), cd_upN (by omega), cd_upN (by omega), cd_upN (by omega)]
        exact ⟨rfl, rfl⟩
      have p1 : cd_up (cd_up S.1 (467 + 2 * S.2) (A (467 + 2 * i))) (468 + 2 * S.2) (A (468 + 2 * i)) (467 + 2 * S.2) = A (467 + 2 * i) := by rw [cd_upN (by omega), cd_upE rfl]
      have p2 : cd_up (cd_up S.1 (467 + 2 * S.2) (A (467 + 2 * i))) (468 + 2 * S.2) (A (468 + 2 * i)) (468 + 2 * S.2) = A (468 + 2 * i) := cd_upE rfl
      have lo : ∀ k, k < 467 → cd_up (cd_up S.1 (467 + 2 * S.2) (A (467 + 2 * i))) (468 + 2 * S.2) (A (468 + 2 * i)) k = S.1 k := fun k hk => by rw [cd_upN (by omega), cd_upN (by omega)]
      refine ⟨by dsimp only; omega, fun k hk => ?_, fun j hj => ?_, fun d hd => ?_, ?_, ?_⟩
      · dsimp only
        rw [cd_upN (by omega), cd_upN (by omega)]
        exact i2 k (by omega)
      · dsimp only at hj ⊢
        by_cases zj : j = S.2
        · rw [zj]
          exact ⟨⟨by rw [p1, cd_n.of (B := cd_up _ _ _) (k := 467 + 2 * S.2) rfl]; unfold cd_n; rw [p1]; exact n1.1, by unfold cd_n; rw [p1]; exact n1.2⟩, ⟨by unfold cd_n; rw [p2]; exact n2.1, by unfold cd_n; rw [p2]; exact n2.2⟩⟩
        · exact ⟨(i3 j (by omega)).1.of (old j (by omega)).1, (i3 j (by omega)).2.of (old j (by omega)).2⟩
      · dsimp only
        show cd_ct (cd_up (cd_up S.1 (467 + 2 * S.2) (A (467 + 2 * i))) (468 + 2 * S.2) (A (468 + 2 * i))) d S.2 + (if d ≤ cd_n (cd_up (cd_up S.1 (467 + 2 * S.2) (A (467 + 2 * i))) (468 + 2 * S.2) (A (468 + 2 * i))) (468 + 2 * S.2) then 1 else 0) = _
        rw [ec d, cd_ct_congr _ (fun j hj => (old j hj).2), i4 d hd]
        unfold cd_n
        rw [p2]
      · dsimp only
        rw [ec (T + 1), if_pos (by omega), ← i5]
      · dsimp only
        obtain ⟨q1, q2, q3⟩ := i6
        have k12 := q2.2
        refine ⟨(q1.up (by omega)).of (lo _ (by omega)), q2.of (lo _ (by omega)), fun j hj => ?_⟩
        rw [cd_n.of (lo 429 (by omega))] at hj
        obtain ⟨y1, y2, y3⟩ := q3 j hj
        exact ⟨y1.of (lo _ (by omega)), y2.of (lo _ (by omega)), y3.of (lo _ (by omega))⟩
    · rw [if_neg z]
      have k12 := i6.2.1.2
      have hi6 : ∀ k, k < 428 ∨ 466 ≤ k → cd_t1 S.1 (A (467 + 2 * i)) t k = S.1 k := fun k hk => cd_t1_N k12 hk
      refine ⟨by dsimp only; omega, fun k hk => ?_, fun j hj => ?_, fun d hd => ?_, ?_, ?_⟩
      · dsimp only
        rw [hi6 k (by omega)]
        exact i2 k (by omega)
      · dsimp only at hj ⊢
        exact ⟨(i3 j hj).1.of (hi6 _ (by omega)), (i3 j hj).2.of (hi6 _ (by omega))⟩
      · dsimp only
        rw [ec d, if_neg (by omega), cd_ct_congr (A := S.1) _ (fun j hj => hi6 _ (by omega)), i4 d hd]
        rfl
      · dsimp only
        rw [ec (T + 1), if_neg (by omega), ← i5]
        rfl
      · dsimp only
        rw [n1.1]
        exact cd_t1_ok (b := b + i) i6 n1.2 ht (by rw [i2 426 (by omega)]; exact a1) a2 a3 (by omega)
-- the class's rows of samples
theorem cd_StS.wt {A : Nat → Int32} {h : cd_Hp} {j b d : Nat} {v : Int32} (x : cd_StS 4 A h) (h12 : cd_n A 429 ≤ 12) (hj : j < cd_n A 466) (hb : (b = 1 ∧ d = 467) ∨ (b = 2 ∧ d = 468)) : cd_StS 4 (cd_up A (d + 2 * j) v) (cd_u h (4 + 8 + b) j v) := by
  obtain ⟨x1, x2, x3⟩ := x
  have e466 : cd_n (cd_up A (d + 2 * j) v) 466 = cd_n A 466 := cd_n.of (cd_upN (by omega))
  have e429 : cd_n (cd_up A (d + 2 * j) v) 429 = cd_n A 429 := cd_n.of (cd_upN (by omega))
  refine ⟨?_, fun i hi => ?_, fun i hi => ?_⟩
  · simp (disch := omega) only [cd_gN, cd_upN]; exact x1
  · rw [e466] at hi
    obtain ⟨y1, y2⟩ := x2 i hi
    rcases hb with ⟨rfl, rfl⟩ | ⟨rfl, rfl⟩
    · refine ⟨?_, ?_⟩
      · by_cases z : i = j
        · subst z; rw [cd_gE rfl rfl, cd_upE rfl]
        · rw [cd_gN (by omega), cd_upN (by omega)]; exact y1
      · rw [cd_gN (by omega), cd_upN (by omega)]; exact y2
    · refine ⟨?_, ?_⟩
      · rw [cd_gN (by omega), cd_upN (by omega)]; exact y1
      · by_cases z : i = j
        · subst z; rw [cd_gE rfl rfl, cd_upE rfl]
        · rw [cd_gN (by omega), cd_upN (by omega)]; exact y2
  · rw [e429] at hi
    have := x3 i hi
    simp (disch := omega) only [cd_gN, cd_upN]; exact this
theorem cd_keepS {A : Nat → Int32} {h : cd_Hp} {v : Int32} {t T b : Nat} (x : cd_St 4 A h) (z : cd_Sz A) (e : A 426 = nI T) (n429 : cd_num A 429 12) (n428 : cd_num A 428 b) (hb : b ≤ 100000000) : ∃ h', f_X2_keep (4 + 8) v (nI t) (nI T) h = some h' ∧ cd_St 4 (cd_t1 A v t) h' ∧ cd_fr 4 60 h h' := by
  obtain ⟨⟨y1, y2, y3⟩, y4, y5⟩ := x.2.2.2.2.2
  have k12 := n429.2
  have b2 := n428.2
  have e1 : cd_g h (4 + 8) 1 = nI (cd_n A 429) := y2.trans n429.1
  have e2 : cd_g h (4 + 8) 2 = nI (cd_n A 428) := y3.trans n428.1
  unfold f_X2_keep cd_t1
  rw [e1]
  by_cases zk : cd_n A 429 = 12
  · rw [if_pos zk, if_neg (by rw [cd_ltL (by omega) (by omega)]; omega), e2, cd_addL, cd_nmE2]
    refine ⟨_, rfl, x.smp z (fun k hk => cd_upN (by omega)) (fun y k w1 w2 w3 => cd_gN (by omega)) ⟨⟨?_, ?_, ?_⟩, fun i hi => ?_, fun i hi => ?_⟩, cd_fr.u (by omega) (by omega)⟩
    · rw [cd_gN (by omega), cd_upN (by omega)]; exact y1
    · rw [cd_gN (by omega), cd_upN (by omega)]; exact y2
    · rw [cd_gE rfl rfl, cd_upE rfl]
    · rw [cd_n.of (cd_upN (by omega))] at hi
      have := y4 i hi
      simp (disch := omega) only [cd_gN, cd_upN]; exact this
    · rw [cd_n.of (cd_upN (by omega))] at hi
      have := y5 i hi
      simp (disch := omega) only [cd_gN, cd_upN]; exact this
  · rw [if_neg zk, if_pos (by rw [cd_ltL (by omega) (by omega)]; omega), e]
    simp (disch := omega) only [cd_ckI, cd_cl, cd_nmE2, cd_gN, e1, cd_addL]
    refine ⟨_, rfl, x.smp z (fun k hk => ?_) (fun y k w1 w2 w3 => ?_) ⟨⟨?_, ?_, ?_⟩, fun i hi => ?_, fun i hi => ?_⟩, (cd_fr.u (by omega) (by omega)).tr ((cd_fr.u (by omega) (by omega)).tr ((cd_fr.u (by omega) (by omega)).tr (cd_fr.u (by omega) (by omega))))⟩
    · simp (disch := omega) only [cd_upN]
    · simp (disch := omega) only [cd_gN]
    · simp (disch := omega) only [cd_gN, cd_upN]; exact y1
    · rw [cd_gE rfl rfl, cd_upE rfl]
    · simp (disch := omega) only [cd_gN, cd_upN]; exact y3
    · have e466 : cd_n (cd_up (cd_up (cd_up (cd_up A (430 + 3 * cd_n A 429) v) (431 + 3 * cd_n A 429) (nI t)) (432 + 3 * cd_n A 429) (nI T)) 429 (nI (cd_n A 429 + 1))) 466 = cd_n A 466 := cd_n.of (by simp (disch := omega) only [cd_upN])
      rw [e466] at hi
      have := y4 i hi
      simp (disch := omega) only [cd_gN, cd_upN]; exact this
    · have e429 : cd_n (cd_up (cd_up (cd_up (cd_up A (430 + 3 * cd_n A 429) v) (431 + 3 * cd_n A 429) (nI t)) (432 + 3 * cd_n A 429) (nI T)) 429 (nI (cd_n A 429 + 1))) 429 = cd_n A 429 + 1 := cd_n_nI (cd_upE rfl) (by omega)
      rw [e429] at hi
      by_cases zi : i = cd_n A 429
      · subst zi
        simp (disch := omega) only [cd_gN, cd_gE, cd_upN, cd_upE, and_self]
      · have := y5 i (by omega)
        simp (disch := omega) only [cd_gN, cd_upN]; exact this
