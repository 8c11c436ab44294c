-- SAMPLES COME
theorem nI_div {x p : Nat} (hx : x ≤ 10000) (hp : p < 2147483648) : nI x / nI p = nI (x / p) := by
  have h1 : x / p ≤ x := Nat.div_le_self _ _
  apply Int32.toInt_inj.mp
  rw [nI_toInt (by omega), Int32.toInt_div, nI_toInt (by omega), nI_toInt hp]
  have q2 : Int.tdiv (x : Int) (p : Int) = ((x / p : Nat) : Int) := by
    rw [Int.tdiv_eq_ediv_of_nonneg (by omega)]; rfl
  rw [q2]
  generalize x / p = M at *
  exact cd_bm32 (by omega)
theorem cd_up_comm {A : Nat → Int32} {j k : Nat} {a b : Int32} (h : j ≠ k) : cd_up (cd_up A j a) k b = cd_up (cd_up A k b) j a := by
  funext i
  by_cases z1 : i = k
  · rw [cd_upE z1, cd_upN (by omega), cd_upE z1]
  · by_cases z2 : i = j
    · rw [cd_upN z1, cd_upE z2, cd_upE z2]
    · rw [cd_upN z1, cd_upN z2, cd_upN z2, cd_upN z1]
theorem cd_up_up {A : Nat → Int32} {k : Nat} {a b : Int32} : cd_up (cd_up A k a) k b = cd_up A k b := by
  funext i
  by_cases z1 : i = k
  · rw [cd_upE z1, cd_upE z1]
  · rw [cd_upN z1, cd_upN z1, cd_upN z1]
def cd_pu (A : Nat → Int32) (g d : Nat) : Nat → Int32 := cd_up (cd_up (cd_up A (467 + 2 * cd_n A 466) (nI g)) (468 + 2 * cd_n A 466) (nI d)) 466 (nI (cd_n A 466 + 1))
def cd_puN (A : Nat → Int32) (g d : Nat) : Nat → Nat → Int32
  | 0 => A
  | k + 1 => cd_pu (cd_puN A g d k) g d
theorem cd_pu_N {A : Nat → Int32} {g d k : Nat} (h : k < 466) : cd_pu A g d k = A k := by
  unfold cd_pu; rw [cd_upN (by omega), cd_upN (by omega), cd_upN (by omega)]
theorem cd_puN_N {A : Nat → Int32} {g d k : Nat} (h : k < 466) : ∀ n, cd_puN A g d n k = A k := by
  intro n
  induction n with
  | zero => rfl
  | succ n ih => show cd_pu (cd_puN A g d n) g d k = _; rw [cd_pu_N h]; exact ih
theorem cd_pu_comm {A : Nat → Int32} {g d k : Nat} {v : Int32} (h : k < 466) : cd_pu (cd_up A k v) g d = cd_up (cd_pu A g d) k v := by
  unfold cd_pu
  rw [cd_n.of (k := 466) (cd_upN (by omega)), cd_up_comm (j := k) (by omega), cd_up_comm (j := k) (by omega), cd_up_comm (j := k) (by omega)]
/-- what waits -/
def cd_Wt (A : Nat → Int32) (T w : Nat) : Prop := A 466 = nI w ∧ ∀ i, i < w → cd_num A (467 + 2 * i) 5 ∧ cd_num A (468 + 2 * i) (T + 3)
theorem cd_ct_congr {A B : Nat → Int32} {d : Nat} : ∀ w, (∀ i, i < w → B (468 + 2 * i) = A (468 + 2 * i)) → cd_ct B d w = cd_ct A d w := by
  intro w
  induction w with
  | zero => intro _; rfl
  | succ w ih =>
    intro h
    show cd_ct B d w + _ = cd_ct A d w + _
    rw [ih (fun i z => h i (by omega)), cd_n.of (h w (by omega))]
theorem cd_ct_mono {A : Nat → Int32} {d d' : Nat} (h : d ≤ d') : ∀ w, cd_ct A d' w ≤ cd_ct A d w := by
  intro w
  induction w with
  | zero => exact Nat.le_refl _
  | succ w ih =>
    show cd_ct A d' w + (if d' ≤ cd_n A (468 + 2 * w) then 1 else 0) ≤ cd_ct A d w + (if d ≤ cd_n A (468 + 2 * w) then 1 else 0)
    by_cases z : d' ≤ cd_n A (468 + 2 * w)
    · rw [if_pos z, if_pos (by omega)]; omega
    · rw [if_neg z]; omega
theorem cd_pu_ok {A : Nat → Int32} {g d T w : Nat} (h : cd_Wt A T w) (hw : w < 1000) (hg : g ≤ 5) (hd : d ≤ T + 3) (hT : T ≤ 500000) : cd_Wt (cd_pu A g d) T (w + 1) ∧ ∀ x, cd_ct (cd_pu A g d) x (w + 1) = cd_ct A x w + if x ≤ d then 1 else 0 := by
  obtain ⟨h1, h2⟩ := h
  have n1 : cd_n A 466 = w := cd_n_nI h1 (by omega)
  have o : ∀ i, i < w → cd_pu A g d (467 + 2 * i) = A (467 + 2 * i) ∧ cd_pu A g d (468 + 2 * i) = A (468 + 2 * i) := fun i hi => by
    unfold cd_pu
    rw [n1]
    constructor
    · rw [cd_upN (by omega), cd_upN (by omega), cd_upN (by omega)]
    · rw [cd_upN (by omega), cd_upN (by omega), cd_upN (by omega)]
  have p1 : cd_pu A g d (467 + 2 * w) = nI g := by unfold cd_pu; rw [n1, cd_upN (by omega), cd_upN (by omega), cd_upE rfl]
  have p2 : cd_pu A g d (468 + 2 * w) = nI d := by unfold cd_pu; rw [n1, cd_upN (by omega), cd_upE rfl]
  refine ⟨⟨by unfold cd_pu; rw [n1]; exact cd_upE rfl, fun i hi => ?_⟩, fun x => ?_⟩
  · by_cases z : i = w
    · rw [z]; exact ⟨cd_numI p1 hg (by omega), cd_numI p2 hd (by omega)⟩
    · exact ⟨(h2 i (by omega)).1.of (o i (by omega)).1, (h2 i (by omega)).2.of (o i (by omega)).2⟩
  · show cd_ct (cd_pu A g d) x w + _ = _
    rw [cd_ct_congr w (fun i hi => (o i hi).2), cd_n_nI p2 (by omega)]
theorem cd_puN_ok {A : Nat → Int32} {g d T w : Nat} (h : cd_Wt A T w) (hw : w < 100) (hg : g ≤ 5) (hd : d ≤ T + 3) (hT : T ≤ 500000) : ∀ n, n ≤ 10 → cd_Wt (cd_puN A g d n) T (w + n) ∧ ∀ x, cd_ct (cd_puN A g d n) x (w + n) = cd_ct A x w + if x ≤ d then n else 0 := by
  intro n
  induction n with
  | zero => intro _; exact ⟨h, fun x => by show cd_ct A x w = _; split <;> rfl⟩
  | succ n ih =>
    intro hn
    obtain ⟨i1, i2⟩ := ih (by omega)
    obtain ⟨j1, j2⟩ := cd_pu_ok i1 (by omega) hg hd hT
    refine ⟨j1, fun x => ?_⟩
    show cd_ct (cd_pu (cd_puN A g d n) g d) x (w + n + 1) = _
    rw [j2, i2]
    split <;> omega
-- one group
def cd_sx (A : Nat → Int32) (g t : Nat) : Nat := cd_n A (71 + 58 * g + 8) + cd_n A (12 + 10 * t + cd_n A (71 + 58 * g + 10))
def cd_smG (A : Nat → Int32) (g t : Nat) : Nat → Int32 := if A (71 + 58 * g + 9) = 1 ∧ 0 < cd_n A (71 + 58 * g + 7) then cd_up (cd_puN A g (cd_n A 426 + cd_n A 427) (cd_sx A g t / cd_n A (71 + 58 * g + 7))) (71 + 58 * g + 8) (nI (cd_sx A g t - cd_sx A g t / cd_n A (71 + 58 * g + 7) * cd_n A (71 + 58 * g + 7))) else A
def cd_sp (A : Nat → Int32) (t : Nat) : Nat → Nat → Int32
  | 0 => A
  | g + 1 => cd_smG (cd_sp A t g) g t
theorem cd_sx_le {x p l r : Nat} (hx : x = l + r) (hl : l < p) (hr : r ≤ 99) (hp : 30 ≤ p) : x / p ≤ 4 ∧ x / p * p ≤ x ∧ x - x / p * p < p := by
  have h1 : x / p < 5 := (Nat.div_lt_iff_lt_mul (by omega)).mpr (by omega)
  have h2 := Nat.div_mul_le_self x p
  have h3 := Nat.lt_div_mul_add (a := x) (b := p) (by omega)
  omega
/-- what holds of the row at the phase's start: tau bounds the slices then over -/
def cd_SA (A : Nat → Int32) (T τ w : Nat) : Prop := cd_Ok (cd_M A T) τ ∧ A 426 = nI T ∧ T + 1 ≤ τ ∧ cd_Wt A T w ∧ w ≤ 48 ∧ (∀ j, j ≤ 3 → cd_ct A (T + j) w ≤ 16 * (3 - j)) ∧ cd_on A (cd_n A 70) ≤ 4
/-- .. and as the first g groups were asked -/
def cd_SI (A C : Nat → Int32) (T w g : Nat) : Prop := (∀ k, k < 466 → (∀ g', g' < g → k ≠ 71 + 58 * g' + 8) → C k = A k) ∧ (∀ g', g' < g → cd_num C (71 + 58 * g' + 8) 199 ∧ (cd_n A (71 + 58 * g' + 7) = 0 ∨ cd_n C (71 + 58 * g' + 8) < cd_n A (71 + 58 * g' + 7))) ∧ ∃ w', w ≤ w' ∧ w' ≤ w + 4 * cd_on A g ∧ cd_Wt C T w' ∧ (∀ d, cd_ct C d w' ≤ cd_ct A d w + 4 * cd_on A g) ∧ ∀ d, T + 4 ≤ d → cd_ct C d w' ≤ cd_ct A d w
theorem cd_on_mono {A : Nat → Int32} : ∀ k g, cd_on A g ≤ cd_on A (g + k) := by
  intro k
  induction k with
  | zero => intro g; exact Nat.le_refl _
  | succ k ih => intro g; exact Nat.le_trans (ih g) (Nat.le_add_right _ _)
/-- numbers of one group in the midst of a slice -/
theorem cd_SA.grp {A : Nat → Int32} {T τ w g : Nat} (h : cd_SA A T τ w) (hg : g < cd_n A 70) : g < 6 ∧ cd_num A (71 + 58 * g + 5) 4 ∧ 1 ≤ cd_n A (71 + 58 * g + 5) ∧ (cd_num A (71 + 58 * g + 7) 200 ∧ (cd_n A (71 + 58 * g + 7) = 0 ∨ 30 ≤ cd_n A (71 + 58 * g + 7))) ∧ (cd_num A (71 + 58 * g + 8) 199 ∧ (cd_n A (71 + 58 * g + 7) = 0 ∨ cd_n A (71 + 58 * g + 8) < cd_n A (71 + 58 * g + 7))) ∧ cd_num A (71 + 58 * g + 9) 1 ∧ cd_num A (71 + 58 * g + 10) 7 := by
  obtain ⟨hM, -⟩ := h
  have e : ∀ k, k ≠ 426 → k ≠ 466 → A k = cd_M A T k := fun k z1 z2 => (cd_MN z1 z2).symm
  have n : ∀ k, k ≠ 426 → k ≠ 466 → cd_n A k = cd_n (cd_M A T) k := fun k z1 z2 => cd_n.of (e k z1 z2)
  have h6 := hM.sz.1
  rw [n 70 (by omega) (by omega)] at hg
  obtain ⟨h0, h1, h2, h3, h4, ⟨h5, h5'⟩, hh6, ⟨h7, h7'⟩, ⟨h8, h8'⟩, h9, h10, -⟩ := hM.2.2.2.2.2.1 g hg
  have g6 : g < 6 := by omega
  refine ⟨g6, h5.of (e _ (by omega) (by omega)), by rw [n _ (by omega) (by omega)]; exact h5', ⟨h7.of (e _ (by omega) (by omega)), by rw [n _ (by omega) (by omega)]; exact h7'⟩, ⟨h8.of (e _ (by omega) (by omega)), by rw [n (71 + 58 * g + 7) (by omega) (by omega), n (71 + 58 * g + 8) (by omega) (by omega)]; exact h8'⟩, h9.of (e _ (by omega) (by omega)), ?_⟩
  exact (h10 0 (by omega)).1.of (e _ (by omega) (by omega))
theorem cd_SA.rate {A : Nat → Int32} {T τ w t k : Nat} (h : cd_SA A T τ w) (ht : t < cd_n A 9) (hk : k < 8) : t < 6 ∧ cd_num A (12 + 10 * t + k) 99 := by
  obtain ⟨hM, -⟩ := h
  have e : ∀ k, k ≠ 426 → k ≠ 466 → A k = cd_M A T k := fun k z1 z2 => (cd_MN z1 z2).symm
  have h9 := hM.2.2.2.1.1.1.2
  rw [cd_n.of (e 9 (by omega) (by omega))] at ht
  exact ⟨by omega, ((hM.2.2.2.1.2.2.2 t ht).2 k hk).of (e _ (by omega) (by omega))⟩
theorem cd_SA.T {A : Nat → Int32} {T τ w : Nat} (h : cd_SA A T τ w) : T ≤ 500000 ∧ cd_num A 427 3 ∧ cd_n A 426 = T ∧ cd_num A 70 6 ∧ cd_n A 429 ≤ 12 := by
  have e : ∀ k, k ≠ 426 → k ≠ 466 → A k = cd_M A T k := fun k z1 z2 => (cd_MN z1 z2).symm
  obtain ⟨hM, h1, h2, -⟩ := h
  have := hM.1
  refine ⟨by omega, hM.2.2.2.2.2.2.2.2.1.of (e _ (by omega) (by omega)), cd_n_nI h1 (by omega), hM.2.2.2.2.1.of (e _ (by omega) (by omega)), by rw [cd_n.of (e 429 (by omega) (by omega))]; exact hM.sz.2.2.2⟩
theorem cd_SI.step {A : Nat → Int32} {T τ w t g : Nat} (h : cd_SA A T τ w) (ht : t < cd_n A 9) (hg : g < cd_n A 70) (C : Nat → Int32) (hC : cd_SI A C T w g) : cd_SI A (cd_smG C g t) T w (g + 1) := by
  obtain ⟨g6, n5, n5', ⟨n7, n7'⟩, ⟨n8, n8'⟩, n9, n10⟩ := h.grp hg
  obtain ⟨hT, n427, e426, n70, -⟩ := h.T
  obtain ⟨c1, c2, w', cw1, cw2, cw3, cw4, cw5⟩ := hC
  have k7 := n10.2
  obtain ⟨t6, nr⟩ := h.rate ht (k := cd_n A (71 + 58 * g + 10)) (by omega)
  have eo : ∀ j, j < 58 → C (71 + 58 * g + j) = A (71 + 58 * g + j) := fun j hj => c1 _ (by omega) (fun g' z => by omega)
  have no : ∀ j, j < 58 → cd_n C (71 + 58 * g + j) = cd_n A (71 + 58 * g + j) := fun j hj => cd_n.of (eo j hj)
  have e2 : cd_n C 426 = T := (cd_n.of (c1 426 (by omega) (fun g' z => by omega))).trans e426
  have e3 : cd_n C 427 = cd_n A 427 := cd_n.of (c1 427 (by omega) (fun g' z => by omega))
  have ex : cd_sx C g t = cd_n A (71 + 58 * g + 8) + cd_n A (12 + 10 * t + cd_n A (71 + 58 * g + 10)) := by
    unfold cd_sx
    rw [no 8 (by omega), no 10 (by omega), cd_n.of (c1 (12 + 10 * t + cd_n A (71 + 58 * g + 10)) (by omega) (fun g' z => by omega))]
  have hon : cd_on A (g + 1) = cd_on A g + if A (71 + 58 * g + 9) = 1 then 1 else 0 := rfl
  have honG : cd_on A g ≤ cd_on A (cd_n A 70) := by
    have := cd_on_mono (A := A) (cd_n A 70 - g) g
    rw [show g + (cd_n A 70 - g) = cd_n A 70 by omega] at this
    exact this
  have hw48 := h.2.2.2.2.1
  have hon4 := h.2.2.2.2.2.2
  unfold cd_smG
  rw [eo 9 (by omega), no 7 (by omega), e2, e3, ex]
  by_cases hb : A (71 + 58 * g + 9) = 1 ∧ 0 < cd_n A (71 + 58 * g + 7)
  · rw [if_pos hb]
    rw [if_pos hb.1] at hon
    have p30 : 30 ≤ cd_n A (71 + 58 * g + 7) := by omega
    have l8 : cd_n A (71 + 58 * g + 8) < cd_n A (71 + 58 * g + 7) := by omega
    obtain ⟨x1, x2, x3⟩ := cd_sx_le (rfl : cd_n A (71 + 58 * g + 8) + cd_n A (12 + 10 * t + cd_n A (71 + 58 * g + 10)) = _) l8 nr.2 p30
    have p200 := n7.2
    have r99 := nr.2
    have k3 := n427.2
    generalize hx : cd_n A (71 + 58 * g + 8) + cd_n A (12 + 10 * t + cd_n A (71 + 58 * g + 10)) = x at x1 x2 x3 ⊢
    generalize hn : x / cd_n A (71 + 58 * g + 7) = n at x1 x2 x3 ⊢
    generalize hy : x - n * cd_n A (71 + 58 * g + 7) = y at x3 ⊢
    obtain ⟨u1, u2⟩ := cd_puN_ok (g := g) (d := T + cd_n A 427) cw3 (by omega) (by omega) (by omega) hT n (by omega)
    have up : ∀ k, k ≠ 71 + 58 * g + 8 → cd_up (cd_puN C g (T + cd_n A 427) n) (71 + 58 * g + 8) (nI y) k = cd_puN C g (T + cd_n A 427) n k := fun k z => cd_upN z
    refine ⟨fun k hk hz => ?_, fun g' hg' => ?_, w' + n, by omega, by omega, ⟨?_, fun i hi => ?_⟩, fun d => ?_, fun d hd => ?_⟩
    · rw [up k (hz g (by omega)), cd_puN_N hk]
      exact c1 k hk (fun g' z => hz g' (by omega))
    · by_cases z : g' = g
      · subst z
        have e8 : cd_up (cd_puN C g' (T + cd_n A 427) n) (71 + 58 * g' + 8) (nI y) (71 + 58 * g' + 8) = nI y := cd_upE rfl
        refine ⟨cd_numI e8 (by omega) (by omega), Or.inr ?_⟩
        rw [cd_n_nI e8 (by omega)]; exact x3
      · have e8 : cd_up (cd_puN C g (T + cd_n A 427) n) (71 + 58 * g + 8) (nI y) (71 + 58 * g' + 8) = C (71 + 58 * g' + 8) := by rw [up _ (by omega), cd_puN_N (by omega)]
        rw [cd_n.of e8]
        exact ⟨(c2 g' (by omega)).1.of e8, (c2 g' (by omega)).2⟩
    · rw [up _ (by omega)]; exact u1.1
    · exact ⟨(u1.2 i hi).1.of (up _ (by omega)), (u1.2 i hi).2.of (up _ (by omega))⟩
    · rw [cd_ct_congr (A := cd_puN C g (T + cd_n A 427) n) _ (fun i _ => up _ (by omega)), u2]
      have := cw4 d
      split <;> omega
    · rw [cd_ct_congr (A := cd_puN C g (T + cd_n A 427) n) _ (fun i _ => up _ (by omega)), u2, if_neg (by omega)]
      exact cw5 d hd
  · rw [if_neg hb]
    have hle : cd_on A g ≤ cd_on A (g + 1) := by rw [hon]; omega
    refine ⟨fun k hk hz => c1 k hk (fun g' z => hz g' (by omega)), fun g' hg' => ?_, w', cw1, by omega, cw3, fun d => by have := cw4 d; omega, cw5⟩
    by_cases z : g' = g
    · subst z
      rw [no 8 (by omega)]
      exact ⟨n8.of (eo 8 (by omega)), n8'⟩
    · exact c2 g' (by omega)
theorem cd_sp_ok {A : Nat → Int32} {T τ w t : Nat} (h : cd_SA A T τ w) (ht : t < cd_n A 9) : ∀ g, g ≤ cd_n A 70 → cd_SI A (cd_sp A t g) T w g := by
  intro g
  induction g with
  | zero => intro _; exact ⟨fun _ _ _ => rfl, fun g' z => absurd z (Nat.not_lt_zero _), w, Nat.le_refl _, Nat.le_add_right _ _, h.2.2.2.1, fun d => Nat.le_add_right _ _, fun d _ => Nat.le_refl _⟩
  | succ g ih => intro hg; exact cd_SI.step h ht (by omega) _ (ih (by omega))
