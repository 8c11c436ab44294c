-- WHAT IS COUNTED
theorem cd_up_self {A : Nat → Int32} {k : Nat} {v : Int32} (h : v = A k) : cd_up A k v = A := by
  funext j
  by_cases z : j = k
  · rw [cd_upE z, z, h]
  · rw [cd_upN z]
-- the row as it becomes
def cd_cnE (A : Nat → Int32) (o t : Nat) : Nat → Nat → Int32
  | 0 => A
  | e + 1 => cd_up (cd_up (cd_cnE A o t e) (o + 22 + (6 * e + t)) (nI (cd_n A (o + 22 + (6 * e + t)) + cd_n A (12 + 10 * t + cd_n A (o + 10 + 3 * e))))) (o + 11 + 3 * e) (nI (max (cd_n A (o + 11 + 3 * e)) (cd_n A (12 + 10 * t + cd_n A (o + 10 + 3 * e)))))
def cd_cn2 (A : Nat → Int32) (o t b : Nat) : Nat → Int32 := cd_up (cd_up A (o + 46 + t) (nI (cd_n A (o + 46 + t) + b))) (o + 52 + t) (nI (cd_n A (o + 52 + t) + cd_n A (o + 9)))
def cd_cnG (A : Nat → Int32) (o t b : Nat) : Nat → Int32 := if A (o + 9) = 1 then cd_cnE (cd_cn2 A o t b) o t (cd_n A (o + 5)) else cd_cn2 A o t b
def cd_bw (W g : Nat) : Nat := if W.testBit g = true then 1 else 0
def cd_cn (A : Nat → Int32) (W t : Nat) : Nat → Nat → Int32
  | 0 => A
  | g + 1 => cd_cnG (cd_cn A W t g) (71 + 58 * g) t (cd_bw W g)
theorem cd_cnE_N {A : Nat → Int32} {o t k : Nat} : ∀ e, (∀ e', e' < e → k ≠ o + 22 + (6 * e' + t)) → (∀ e', e' < e → k ≠ o + 11 + 3 * e') → cd_cnE A o t e k = A k := by
  intro e
  induction e with
  | zero => intro _ _; rfl
  | succ e ih =>
    intro h1 h2
    show cd_up (cd_up (cd_cnE A o t e) (o + 22 + (6 * e + t)) _) (o + 11 + 3 * e) _ k = _
    rw [cd_upN (h2 e (by omega)), cd_upN (h1 e (by omega))]
    exact ih (fun e' z => h1 e' (by omega)) (fun e' z => h2 e' (by omega))
theorem cd_cnE_C {A : Nat → Int32} {o t e' : Nat} (ht : t < 6) : ∀ e, e ≤ 4 → e' < e → cd_cnE A o t e (o + 22 + (6 * e' + t)) = nI (cd_n A (o + 22 + (6 * e' + t)) + cd_n A (12 + 10 * t + cd_n A (o + 10 + 3 * e'))) := by
  intro e
  induction e with
  | zero => intro _ h; omega
  | succ e ih =>
    intro h4 h
    show cd_up (cd_up (cd_cnE A o t e) (o + 22 + (6 * e + t)) _) (o + 11 + 3 * e) _ _ = _
    rw [cd_upN (by omega)]
    by_cases z : e' = e
    · subst z; exact cd_upE rfl
    · rw [cd_upN (by omega)]; exact ih (by omega) (by omega)
theorem cd_cnE_P {A : Nat → Int32} {o t e' : Nat} (ht : t < 6) : ∀ e, e ≤ 4 → e' < e → cd_cnE A o t e (o + 11 + 3 * e') = nI (max (cd_n A (o + 11 + 3 * e')) (cd_n A (12 + 10 * t + cd_n A (o + 10 + 3 * e')))) := by
  intro e
  induction e with
  | zero => intro _ h; omega
  | succ e ih =>
    intro h4 h
    show cd_up (cd_up (cd_cnE A o t e) (o + 22 + (6 * e + t)) _) (o + 11 + 3 * e) _ _ = _
    by_cases z : e' = e
    · subst z; exact cd_upE rfl
    · rw [cd_upN (by omega), cd_upN (by omega)]; exact ih (by omega) (by omega)
theorem cd_cn2_N {A : Nat → Int32} {o t b k : Nat} (h1 : k ≠ o + 46 + t) (h2 : k ≠ o + 52 + t) : cd_cn2 A o t b k = A k := by
  unfold cd_cn2; rw [cd_upN h2, cd_upN h1]
/-- of one group: what its block becomes -/
def cd_Bk (A C : Nat → Int32) (o t b : Nat) : Prop := C (o + 46 + t) = nI (cd_n A (o + 46 + t) + b) ∧ C (o + 52 + t) = nI (cd_n A (o + 52 + t) + cd_n A (o + 9)) ∧ (∀ e, e < 4 → ∃ r, r ≤ 99 * cd_n A (o + 9) ∧ C (o + 22 + (6 * e + t)) = nI (cd_n A (o + 22 + (6 * e + t)) + r)) ∧ (∀ e, e < cd_n A (o + 5) → cd_num C (o + 11 + 3 * e) 99) ∧ ∀ k, o ≤ k → k < o + 58 → k ≠ o + 46 + t → k ≠ o + 52 + t → (∀ e, e < 4 → k ≠ o + 22 + (6 * e + t)) → (∀ e, e < 4 → k ≠ o + 11 + 3 * e) → C k = A k
theorem cd_cnG_N {A : Nat → Int32} {o t b k : Nat} (ht : t < 6) (h4 : cd_n A (o + 5) ≤ 4) (h : k < o ∨ o + 58 ≤ k) : cd_cnG A o t b k = A k := by
  unfold cd_cnG
  split
  · rw [cd_cnE_N _ (fun e' z => by omega) (fun e' z => by omega), cd_cn2_N (by omega) (by omega)]
  · exact cd_cn2_N (by omega) (by omega)
theorem cd_cnG_bk {A : Nat → Int32} {o t b : Nat} (ht : t < 6) (h : cd_OkG o A) (hT : ∀ k, k < 8 → cd_num A (12 + 10 * t + k) 99) (h70 : 71 ≤ o) : cd_Bk A (cd_cnG A o t b) o t b := by
  obtain ⟨h0, h1, h2, h3, h4, ⟨h5, h5'⟩, h6, h7, h8, h9, h10, h11, h12, h13, h14, h15⟩ := h
  have h54 := h5.2
  have n2 : ∀ k, k ≠ o + 46 + t → k ≠ o + 52 + t → cd_n (cd_cn2 A o t b) k = cd_n A k := fun k z1 z2 => cd_n.of (cd_cn2_N z1 z2)
  unfold cd_cnG
  rcases cd_num01 h9 with ⟨z, z'⟩ | ⟨z, z'⟩
  · rw [z, if_neg (by decide)]
    unfold cd_Bk
    rw [z']
    refine ⟨?_, ?_, fun e he => ⟨0, by omega, ?_⟩, fun e he => (h10 e he).2.1.of (cd_cn2_N (by omega) (by omega)), fun k w1 w2 w3 w4 _ _ => cd_cn2_N w3 w4⟩
    · unfold cd_cn2; rw [cd_upN (by omega), cd_upE rfl]
    · unfold cd_cn2; rw [cd_upE rfl, z']
    · rw [cd_cn2_N (by omega) (by omega), Nat.add_zero, show o + 22 + (6 * e + t) = o + 22 + (6 * e + t) from rfl]
      exact (h11 (6 * e + t) (by omega)).1
  · rw [z, if_pos rfl]
    unfold cd_Bk
    rw [z']
    have rt : ∀ e, e < cd_n A (o + 5) → cd_n A (12 + 10 * t + cd_n A (o + 10 + 3 * e)) ≤ 99 := fun e he => (hT _ (by have := (h10 e he).1.2; omega)).2
    refine ⟨?_, ?_, fun e he => ?_, fun e he => ?_, fun k w1 w2 w3 w4 w5 w6 => ?_⟩
    · rw [cd_cnE_N _ (fun e' _ => by omega) (fun e' _ => by omega)]
      unfold cd_cn2; rw [cd_upN (by omega), cd_upE rfl]
    · rw [cd_cnE_N _ (fun e' _ => by omega) (fun e' _ => by omega)]
      unfold cd_cn2; rw [cd_upE rfl, z']
    · by_cases he2 : e < cd_n A (o + 5)
      · have k7 := (h10 e he2).1.2
        refine ⟨cd_n A (12 + 10 * t + cd_n A (o + 10 + 3 * e)), by have := rt e he2; omega, ?_⟩
        rw [cd_cnE_C ht _ h54 he2, n2 _ (by omega) (by omega), n2 (o + 10 + 3 * e) (by omega) (by omega), n2 _ (by omega) (by omega)]
      · refine ⟨0, by omega, ?_⟩
        rw [cd_cnE_N _ (fun e' _ => by omega) (fun e' _ => by omega), cd_cn2_N (by omega) (by omega), Nat.add_zero]
        exact (h11 (6 * e + t) (by omega)).1
    · have k7 := (h10 e he).1.2
      have p9 := (h10 e he).2.1.2
      have r9 := rt e he
      refine cd_numI (cd_cnE_P ht _ h54 he) ?_ (by omega)
      rw [n2 (o + 10 + 3 * e) (by omega) (by omega), n2 _ (by omega) (by omega), n2 _ (by omega) (by omega)]
      omega
    · rw [cd_cnE_N _ (fun e' _ => w5 e' (by omega)) (fun e' _ => w6 e' (by omega)), cd_cn2_N w3 w4]
theorem cd_S6_up {A C : Nat → Int32} {a t d : Nat} (ht : t < 6) (e1 : C (a + t) = nI (cd_n A (a + t) + d)) (hb : cd_n A (a + t) + d < 2147483648) (e2 : ∀ i, i < 6 → i ≠ t → C (a + i) = A (a + i)) : cd_S6 C a = cd_S6 A a + d := by
  have n1 : cd_n C (a + t) = cd_n A (a + t) + d := cd_n_nI e1 hb
  have n2 : ∀ i, i < 6 → i ≠ t → cd_n C (a + i) = cd_n A (a + i) := fun i z1 z2 => cd_n.of (e2 i z1 z2)
  have q0 := n2 0 (by omega); have q1 := n2 1 (by omega); have q2 := n2 2 (by omega); have q3 := n2 3 (by omega); have q4 := n2 4 (by omega); have q5 := n2 5 (by omega)
  rw [Nat.add_zero] at q0
  unfold cd_S6
  have : t = 0 ∨ t = 1 ∨ t = 2 ∨ t = 3 ∨ t = 4 ∨ t = 5 := by omega
  rcases this with rfl | rfl | rfl | rfl | rfl | rfl
  · rw [Nat.add_zero] at n1; rw [n1, q1 (by omega), q2 (by omega), q3 (by omega), q4 (by omega), q5 (by omega)]; omega
  · rw [q0 (by omega), n1, q2 (by omega), q3 (by omega), q4 (by omega), q5 (by omega)]; omega
  · rw [q0 (by omega), q1 (by omega), n1, q3 (by omega), q4 (by omega), q5 (by omega)]; omega
  · rw [q0 (by omega), q1 (by omega), q2 (by omega), n1, q4 (by omega), q5 (by omega)]; omega
  · rw [q0 (by omega), q1 (by omega), q2 (by omega), q3 (by omega), n1, q5 (by omega)]; omega
  · rw [q0 (by omega), q1 (by omega), q2 (by omega), q3 (by omega), q4 (by omega), n1]; omega
theorem cd_S6_mem {A : Nat → Int32} {a i : Nat} (hi : i < 6) : cd_n A (a + i) ≤ cd_S6 A a := by
  unfold cd_S6
  have : i = 0 ∨ i = 1 ∨ i = 2 ∨ i = 3 ∨ i = 4 ∨ i = 5 := by omega
  rcases this with rfl | rfl | rfl | rfl | rfl | rfl
  · rw [Nat.add_zero]; omega
  all_goals omega
theorem cd_OkG.cnt {A C : Nat → Int32} {o t b : Nat} (h : cd_OkG o A) (ht : t < 6) (h500 : cd_n A 426 < 500000) (hb : b ≤ 1) (hon : cd_n A (o + 9) ≤ b) (h9 : C 9 = A 9) (h426 : C 426 = nI (cd_n A 426 + 1)) (k : cd_Bk A C o t b) : cd_OkG o C := by
  obtain ⟨⟨h0, h0'⟩, ⟨h1, h1'⟩, h2, h3, h4, ⟨h5, h5'⟩, ⟨h6, h6'⟩, ⟨h7, h7'⟩, ⟨h8, h8'⟩, h9', h10, h11, h12, h13, h14, h15⟩ := h
  obtain ⟨k1, k2, k3, k4, k5⟩ := k
  have h54 := h5.2
  have e9 : cd_n C 9 = cd_n A 9 := cd_n.of h9
  have e426 : cd_n C 426 = cd_n A 426 + 1 := cd_n_nI h426 (by omega)
  have lo : ∀ j, j < 11 → C (o + j) = A (o + j) := fun j hj => k5 _ (by omega) (by omega) (by omega) (by omega) (fun e _ => by omega) (fun e _ => by omega)
  have lo0 : C o = A o := lo 0 (by omega)
  have s46 : cd_S6 C (o + 46) = cd_S6 A (o + 46) + b := cd_S6_up ht k1 (by have := (h12 t ht).1.2; omega) (fun i z1 z2 => k5 _ (by omega) (by omega) (by omega) (by omega) (fun e _ => by omega) (fun e _ => by omega))
  have s52 : cd_S6 C (o + 52) = cd_S6 A (o + 52) + cd_n A (o + 9) := cd_S6_up ht k2 (by have := (h12 t ht).2.2; have := h9'.2; omega) (fun i z1 z2 => k5 _ (by omega) (by omega) (by omega) (by omega) (fun e _ => by omega) (fun e _ => by omega))
  have s22 : ∀ e, e < 4 → ∃ r, r ≤ 99 * cd_n A (o + 9) ∧ C (o + 22 + 6 * e + t) = nI (cd_n A (o + 22 + 6 * e + t) + r) ∧ cd_S6 C (o + 22 + 6 * e) = cd_S6 A (o + 22 + 6 * e) + r := fun e he => by
    obtain ⟨r, r1, r2⟩ := k3 e he
    have hn := (h11 (6 * e + t) (by omega)).2
    have hv := h9'.2
    rw [show o + 22 + (6 * e + t) = o + 22 + 6 * e + t by omega] at r2 hn
    exact ⟨r, r1, r2, cd_S6_up ht r2 (by omega) (fun i z1 z2 => k5 _ (by omega) (by omega) (by omega) (by omega) (fun e' _ => by omega) (fun e' _ => by omega))⟩
  have hv := h9'.2
  have c15 : ∀ e, e < 4 → cd_S6 C (o + 22 + 6 * e) ≤ 99 * cd_S6 C (o + 52) := fun e he => by
    obtain ⟨r, r1, -, r3⟩ := s22 e he
    have := h15 e he
    rw [r3, s52]
    omega
  have c14 : cd_S6 C (o + 52) ≤ cd_S6 C (o + 46) := by rw [s52, s46]; omega
  have c13 : cd_S6 C (o + 46) ≤ cd_n C 426 := by rw [s46, e426]; omega
  unfold cd_OkG
  rw [cd_n.of lo0, e9, cd_n.of (lo 1 (by omega)), cd_n.of (lo 5 (by omega)), cd_n.of (lo 6 (by omega)), cd_n.of (lo 7 (by omega)), cd_n.of (lo 8 (by omega))]
  refine ⟨⟨h0.of lo0, h0'⟩, ⟨h1.of (lo 1 (by omega)), h1'⟩, h2.of (lo 2 (by omega)), h3.of (lo 3 (by omega)), h4.of (lo 4 (by omega)), ⟨h5.of (lo 5 (by omega)), h5'⟩, ⟨h6.of (lo 6 (by omega)), h6'⟩, ⟨h7.of (lo 7 (by omega)), h7'⟩, ⟨h8.of (lo 8 (by omega)), h8'⟩, h9'.of (lo 9 (by omega)), fun e he => ?_, fun j hj => ?_, fun i hi => ?_, c13, c14, c15⟩
  · obtain ⟨y1, y2, y3⟩ := h10 e he
    have q1 : C (o + 10 + 3 * e) = A (o + 10 + 3 * e) := k5 _ (by omega) (by omega) (by omega) (by omega) (fun e' _ => by omega) (fun e' _ => by omega)
    have q3 : C (o + 12 + 3 * e) = A (o + 12 + 3 * e) := k5 _ (by omega) (by omega) (by omega) (by omega) (fun e' _ => by omega) (fun e' _ => by omega)
    exact ⟨y1.of q1, k4 e he, y3.imp (fun w => by rw [q3]; exact w) (fun w => w.of q3)⟩
  · by_cases z : j % 6 = t
    · have ej : o + 22 + j = o + 22 + 6 * (j / 6) + t := by omega
      obtain ⟨r, r1, r2, r3⟩ := s22 (j / 6) (by omega)
      have m1 := cd_S6_mem (A := C) (a := o + 22 + 6 * (j / 6)) ht
      have m2 := c15 (j / 6) (by omega)
      have hn := (h11 j hj).2
      rw [ej] at hn ⊢
      have nn : cd_n C (o + 22 + 6 * (j / 6) + t) = cd_n A (o + 22 + 6 * (j / 6) + t) + r := cd_n_nI r2 (by omega)
      refine ⟨by rw [nn]; exact r2, ?_⟩
      omega
    · exact (h11 j hj).of (k5 _ (by omega) (by omega) (by omega) (by omega) (fun e' _ => by omega) (fun e' _ => by omega))
  · obtain ⟨y1, y2⟩ := h12 i hi
    constructor
    · by_cases z : i = t
      · subst z
        have m1 := cd_S6_mem (A := C) (a := o + 46) hi
        have y12 := y1.2
        have nn : cd_n C (o + 46 + i) = cd_n A (o + 46 + i) + b := cd_n_nI k1 (by omega)
        exact ⟨by rw [nn]; exact k1, by omega⟩
      · exact y1.of (k5 _ (by omega) (by omega) (by omega) (by omega) (fun e' _ => by omega) (fun e' _ => by omega))
    · by_cases z : i = t
      · subst z
        have m1 := cd_S6_mem (A := C) (a := o + 52) hi
        have y22 := y2.2
        have nn : cd_n C (o + 52 + i) = cd_n A (o + 52 + i) + cd_n A (o + 9) := cd_n_nI k2 (by omega)
        exact ⟨by rw [nn]; exact k2, by omega⟩
      · exact y2.of (k5 _ (by omega) (by omega) (by omega) (by omega) (fun e' _ => by omega) (fun e' _ => by omega))
