-- THE RELATION of a State (cells q .. q + 55) to a row A of the reference
def cd_n (A : Nat → Int32) (k : Nat) : Nat := (A k).toNatClampNeg
/-- A k is a number from 0 to m -/
def cd_num (A : Nat → Int32) (k m : Nat) : Prop := A k = nI (cd_n A k) ∧ cd_n A k ≤ m
def cd_StG (c o : Nat) (A : Nat → Int32) (h : cd_Hp) : Prop :=
  (cd_g h c 0 = A o ∧ cd_g h c 1 = A (o + 1) ∧ cd_g h c 2 = A (o + 2) ∧ cd_g h c 3 = A (o + 3) ∧ cd_g h c 4 = A (o + 4) ∧ cd_g h c 5 = A (o + 9) ∧ cd_g h c 6 = A (o + 5) ∧ cd_g h c 7 = A (o + 6) ∧ cd_g h c 8 = A (o + 7) ∧ cd_g h c 9 = A (o + 8)) ∧
  (∀ e, e < cd_n A (o + 5) → cd_g h (c + 1) e = A (o + 10 + 3 * e) ∧ cd_g h (c + 2) e = A (o + 11 + 3 * e) ∧ cd_g h (c + 3) e = A (o + 12 + 3 * e)) ∧
  (∀ k, k < 24 → cd_g h (c + 4) k = A (o + 22 + k)) ∧ (∀ t, t < 6 → cd_g h (c + 5) t = A (o + 46 + t) ∧ cd_g h (c + 6) t = A (o + 52 + t))
def cd_StT (q : Nat) (A : Nat → Int32) (h : cd_Hp) : Prop :=
  cd_g h (q + 2) 0 = A 9 ∧ (∀ t, t < 6 → cd_g h (q + 2 + 1) t = A (10 + 10 * t) ∧ cd_g h (q + 2 + 2) t = A (11 + 10 * t)) ∧ ∀ t k, t < 6 → k < 8 → cd_g h (q + 2 + 3) (8 * t + k) = A (12 + 10 * t + k)
def cd_StS (q : Nat) (A : Nat → Int32) (h : cd_Hp) : Prop :=
  (cd_g h (q + 8) 0 = A 466 ∧ cd_g h (q + 8) 1 = A 429 ∧ cd_g h (q + 8) 2 = A 428) ∧
  (∀ i, i < cd_n A 466 → cd_g h (q + 8 + 1) i = A (467 + 2 * i) ∧ cd_g h (q + 8 + 2) i = A (468 + 2 * i)) ∧
  (∀ i, i < cd_n A 429 → cd_g h (q + 8 + 3) i = A (430 + 3 * i) ∧ cd_g h (q + 8 + 4) i = A (431 + 3 * i) ∧ cd_g h (q + 8 + 5) i = A (432 + 3 * i))
def cd_St (q : Nat) (A : Nat → Int32) (h : cd_Hp) : Prop :=
  (cd_g h q 0 = A 0 ∧ cd_g h q 1 = A 427 ∧ cd_g h q 2 = A 426 ∧ cd_g h q 3 = A 70 ∧ cd_g h q 4 = A 419) ∧
  (∀ k, k < 8 → cd_g h (q + 1) k = A (1 + k)) ∧ cd_StT q A h ∧
  (∀ g, g < cd_n A 70 → cd_StG (q + 6 + 8 + 7 * g) (71 + 58 * g) A h) ∧
  (∀ i, i < 6 → cd_g h (q + 7) i = A (420 + i)) ∧ cd_StS q A h
/-- outside of the cells from a to b nothing is other -/
def cd_fr (a b : Nat) (h h' : cd_Hp) : Prop := (∀ x k, (x < a ∨ b ≤ x) → cd_g h' x k = cd_g h x k) ∧ h'.2 = h.2
theorem cd_fr.rf {a b : Nat} {h : cd_Hp} : cd_fr a b h h := ⟨fun _ _ _ => rfl, rfl⟩
theorem cd_fr.tr {a b : Nat} {h h1 h2 : cd_Hp} (x : cd_fr a b h h1) (y : cd_fr a b h1 h2) : cd_fr a b h h2 := ⟨fun c k z => (y.1 c k z).trans (x.1 c k z), y.2.trans x.2⟩
theorem cd_fr.wide {a b a' b' : Nat} {h h' : cd_Hp} (x : cd_fr a b h h') (h1 : a' ≤ a) (h2 : b ≤ b') : cd_fr a' b' h h' := ⟨fun c k z => x.1 c k (by omega), x.2⟩
theorem cd_fr.u {a b q k : Nat} {v : Int32} {h : cd_Hp} (h1 : a ≤ q) (h2 : q < b) : cd_fr a b h (cd_u h q k v) := ⟨fun c j z => cd_gN (by omega), rfl⟩
theorem cd_StG.kept {c o : Nat} {A : Nat → Int32} {h h' : cd_Hp} (x : cd_StG c o A h) (e : ∀ y k, c ≤ y → y < c + 7 → cd_g h' y k = cd_g h y k) : cd_StG c o A h' := by
  obtain ⟨x1, x2, x3, x4⟩ := x
  refine ⟨?_, fun i hi => ?_, fun k hk => ?_, fun t ht => ?_⟩
  · simp only [e c _ (Nat.le_refl _) (by omega)]; exact x1
  · simp only [e (c + 1) _ (by omega) (by omega), e (c + 2) _ (by omega) (by omega), e (c + 3) _ (by omega) (by omega)]; exact x2 i hi
  · rw [e (c + 4) _ (by omega) (by omega)]; exact x3 k hk
  · simp only [e (c + 5) _ (by omega) (by omega), e (c + 6) _ (by omega) (by omega)]; exact x4 t ht
theorem cd_St.kept {q : Nat} {A : Nat → Int32} {h h' : cd_Hp} (x : cd_St q A h) (hG : cd_n A 70 ≤ 6) (e : ∀ y k, q ≤ y → y < q + 56 → cd_g h' y k = cd_g h y k) : cd_St q A h' := by
  obtain ⟨x1, x2, ⟨x3, x4, x5⟩, x6, x7, x8, x9, x10⟩ := x
  refine ⟨?_, fun k hk => ?_, ⟨?_, fun t ht => ?_, fun t k ht hk => ?_⟩, fun g hg => (x6 g hg).kept (fun y k h1 h2 => e y k (by omega) (by omega)), fun i hi => ?_, ?_, fun i hi => ?_, fun i hi => ?_⟩
  · simp only [e q _ (Nat.le_refl _) (by omega)]; exact x1
  · rw [e _ _ (by omega) (by omega)]; exact x2 k hk
  · rw [e _ _ (by omega) (by omega)]; exact x3
  · rw [e _ _ (by omega) (by omega), e _ _ (by omega) (by omega)]; exact x4 t ht
  · rw [e _ _ (by omega) (by omega)]; exact x5 t k ht hk
  · rw [e _ _ (by omega) (by omega)]; exact x7 i hi
  · rw [e _ _ (by omega) (by omega), e _ _ (by omega) (by omega), e _ _ (by omega) (by omega)]; exact x8
  · rw [e _ _ (by omega) (by omega), e _ _ (by omega) (by omega)]; exact x9 i hi
  · rw [e _ _ (by omega) (by omega), e _ _ (by omega) (by omega), e _ _ (by omega) (by omega)]; exact x10 i hi
/-- only the row's places matter -/
theorem cd_St.row {q : Nat} {A B : Nat → Int32} {h : cd_Hp} (x : cd_St q A h) (hG : cd_n A 70 ≤ 6) (hE : ∀ g, g < cd_n A 70 → cd_n A (71 + 58 * g + 5) ≤ 4) (hw : cd_n A 466 ≤ 64) (hk : cd_n A 429 ≤ 12) (e : ∀ k, k < 659 → B k = A k) : cd_St q B h := by
  obtain ⟨x1, x2, ⟨x3, x4, x5⟩, x6, x7, x8, x9, x10⟩ := x
  have e70 : cd_n B 70 = cd_n A 70 := by unfold cd_n; rw [e 70 (by omega)]
  have e466 : cd_n B 466 = cd_n A 466 := by unfold cd_n; rw [e 466 (by omega)]
  have e429 : cd_n B 429 = cd_n A 429 := by unfold cd_n; rw [e 429 (by omega)]
  refine ⟨?_, fun k hk => ?_, ⟨?_, fun t ht => ?_, fun t k ht hk => ?_⟩, fun g hg => ?_, fun i hi => ?_, ?_, fun i hi => ?_, fun i hi => ?_⟩
  · simp (disch := omega) only [e]; exact x1
  · rw [e _ (by omega)]; exact x2 k hk
  · rw [e _ (by omega)]; exact x3
  · simp (disch := omega) only [e]; exact x4 t ht
  · rw [e _ (by omega)]; exact x5 t k ht hk
  · rw [e70] at hg
    obtain ⟨y1, y2, y3, y4⟩ := x6 g hg
    have e5 : cd_n B (71 + 58 * g + 5) = cd_n A (71 + 58 * g + 5) := by unfold cd_n; rw [e _ (by omega)]
    have h4 := hE g hg
    refine ⟨?_, fun i hi => ?_, fun k hk => ?_, fun t ht => ?_⟩
    · simp (disch := omega) only [e]; exact y1
    · rw [e5] at hi; simp (disch := omega) only [e]; exact y2 i hi
    · rw [e _ (by omega)]; exact y3 k hk
    · simp (disch := omega) only [e]; exact y4 t ht
  · rw [e _ (by omega)]; exact x7 i hi
  · simp (disch := omega) only [e]; exact x8
  · rw [e466] at hi; simp (disch := omega) only [e]; exact x9 i hi
  · rw [e429] at hi; simp (disch := omega) only [e]; exact x10 i hi
theorem cd_st_all : ∀ q, q < 416 → cd_tb[q]? = some (4, 0) → q = 4 ∨ q = 62 ∨ q = 118 ∨ q = 174 ∨ q = 230 ∨ q = 286 ∨ q = 342 := by decide +kernel
theorem cd_st_apart {q r : Nat} (hq : cd_is 4 q) (hr : cd_is 4 r) : q = r ∨ q + 56 ≤ r ∨ r + 56 ≤ q := by
  have h1 := cd_st_all q hq.lt hq
  have h2 := cd_st_all r hr.lt hr
  omega
theorem cd_gcpE {h : cd_Hp} {q x r y n q2 k2 : Nat} (e1 : q2 = r) (e2 : y ≤ k2) (e3 : k2 < y + n) : cd_g (cd_cp h q x r y n) q2 k2 = cd_g h q (x + (k2 - y)) := by rw [cd_gcp, if_pos ⟨e1, e2, e3⟩]
theorem cd_gcpN {h : cd_Hp} {q x r y n q2 k2 : Nat} (e : ¬ (q2 = r ∧ y ≤ k2 ∧ k2 < y + n)) : cd_g (cd_cp h q x r y n) q2 k2 = cd_g h q2 k2 := by rw [cd_gcp, if_neg e]
-- copying a State
theorem cd_gbecome {c d : Nat} {h : cd_Hp} (hc : cd_is 0 c) (hd : cd_is 0 d) (hcd : c + 7 ≤ d ∨ d + 7 ≤ c) (b2 : cd_bo (cd_g h d 2) = true) (b3 : cd_bo (cd_g h d 3) = true) (b4 : cd_bo (cd_g h d 4) = true) (b5 : cd_bo (cd_g h d 5) = true) : ∃ h', f_X0_become c d h = some h' ∧ (∀ k, k < 10 → cd_g h' c k = cd_g h d k) ∧ (∀ k, k < 4 → cd_g h' (c + 1) k = cd_g h (d + 1) k ∧ cd_g h' (c + 2) k = cd_g h (d + 2) k ∧ cd_g h' (c + 3) k = cd_g h (d + 3) k) ∧ (∀ k, k < 24 → cd_g h' (c + 4) k = cd_g h (d + 4) k) ∧ (∀ k, k < 6 → cd_g h' (c + 5) k = cd_g h (d + 5) k ∧ cd_g h' (c + 6) k = cd_g h (d + 6) k) ∧ cd_fr c (c + 7) h h' := by
  unfold f_X0_become
  simp (disch := first | omega | assumption) only [cd_nmE2, cd_gN, cd_ckT, cd_bS, cd_copyRow (cd_r0_10 hd) (cd_r0_10 hc), cd_copyRow (cd_r0_11 hd) (cd_r0_11 hc), cd_copyRow (cd_r0_12 hd) (cd_r0_12 hc), cd_copyRow (cd_r0_13 hd) (cd_r0_13 hc), cd_copyRow (cd_r0_14 hd) (cd_r0_14 hc), cd_copyRow (cd_r0_15 hd) (cd_r0_15 hc)]
  refine ⟨_, rfl, ?_, ?_, ?_, ?_, ?_, rfl⟩
  · intro k hk
    have : k = 0 ∨ k = 1 ∨ k = 2 ∨ k = 3 ∨ k = 4 ∨ k = 5 ∨ k = 6 ∨ k = 7 ∨ k = 8 ∨ k = 9 := by omega
    rcases this with rfl | rfl | rfl | rfl | rfl | rfl | rfl | rfl | rfl | rfl <;> simp (disch := omega) only [cd_gcpN, cd_gE, cd_gN]
  · intro k hk
    simp (disch := omega) only [cd_gcpN, cd_gcpE, cd_gE, cd_gN, Nat.zero_add, Nat.sub_zero, and_self]
  · intro k hk
    simp (disch := omega) only [cd_gcpN, cd_gcpE, cd_gE, cd_gN, Nat.zero_add, Nat.sub_zero]
  · intro k hk
    simp (disch := omega) only [cd_gcpN, cd_gcpE, cd_gE, cd_gN, Nat.zero_add, Nat.sub_zero, and_self]
  · intro x k hx
    simp (disch := omega) only [cd_gcpN, cd_gE, cd_gN]
