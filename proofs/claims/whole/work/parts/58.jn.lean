-- WHO IS ON: the row as it becomes
def cd_jcE (A : Nat → Int32) (o : Nat) : Nat → Nat → Int32
  | 0 => cd_up A (o + 9) 0
  | e + 1 => cd_up (cd_jcE A o e) (o + 12 + 3 * e) (-1)
def cd_jc (A : Nat → Int32) : Nat → Nat → Int32
  | 0 => A
  | g + 1 => cd_jcE (cd_jc A g) (71 + 58 * g) (cd_n A (71 + 58 * g + 5))
def cd_on (B : Nat → Int32) : Nat → Nat
  | 0 => 0
  | g + 1 => cd_on B g + if B (71 + 58 * g + 9) = 1 then 1 else 0
theorem cd_jcE_N {B : Nat → Int32} {o j : Nat} : ∀ e, j ≠ o + 9 → (j < o + 12 ∨ o + 12 + 3 * e ≤ j) → cd_jcE B o e j = B j := by
  intro e
  induction e with
  | zero => intro h _; exact cd_upN h
  | succ e ih => intro h h2; show cd_up (cd_jcE B o e) (o + 12 + 3 * e) (-1) j = _; rw [cd_upN (by omega)]; exact ih h (by omega)
theorem cd_jcE_9 {B : Nat → Int32} {o : Nat} : ∀ e, cd_jcE B o e (o + 9) = 0 := by
  intro e
  induction e with
  | zero => exact cd_upE rfl
  | succ e ih => show cd_up (cd_jcE B o e) (o + 12 + 3 * e) (-1) (o + 9) = _; rw [cd_upN (by omega)]; exact ih
theorem cd_jcE_ja {A B : Nat → Int32} {τ g : Nat} (hA : cd_Ok A τ) (x : cd_Ja A B) (hg : g < 6) : ∀ e, e ≤ 4 → cd_Ja A (cd_jcE B (71 + 58 * g) e) := by
  intro e
  induction e with
  | zero => intro _; exact x.up (v := 0) hg (Or.inr rfl) (by omega)
  | succ e ih => intro h; exact (ih (by omega)).upS hA.sz.1 hA.sz.2.1 hg (by omega) (Or.inl rfl)
theorem cd_jc_ja {A : Nat → Int32} {τ : Nat} (hA : cd_Ok A τ) : ∀ g, g ≤ cd_n A 70 → cd_Ja A (cd_jc A g) ∧ (∀ g', g' < g → cd_jc A g (71 + 58 * g' + 9) = 0) ∧ ∀ j, 71 + 58 * g ≤ j → cd_jc A g j = A j := by
  intro g
  have h6 := hA.sz.1
  induction g with
  | zero => intro _; exact ⟨cd_Ja.rf hA, fun g' h => absurd h (by omega), fun _ _ => rfl⟩
  | succ g ih =>
    intro h
    obtain ⟨i1, i2, i3⟩ := ih (by omega)
    have h4 := hA.sz.2.1 g (by omega)
    refine ⟨cd_jcE_ja hA i1 (by omega) _ h4, fun g' hg' => ?_, fun j hj => ?_⟩
    · show cd_jcE (cd_jc A g) (71 + 58 * g) (cd_n A (71 + 58 * g + 5)) _ = _
      by_cases z : g' = g
      · subst z; exact cd_jcE_9 _
      · rw [cd_jcE_N _ (by omega) (by omega)]; exact i2 g' (by omega)
    · show cd_jcE (cd_jc A g) (71 + 58 * g) (cd_n A (71 + 58 * g + 5)) _ = _
      rw [cd_jcE_N _ (by omega) (by omega)]; exact i3 j (by omega)
theorem cd_on_0 {B : Nat → Int32} : ∀ g, (∀ g', g' < g → B (71 + 58 * g' + 9) = 0) → cd_on B g = 0 := by
  intro g
  induction g with
  | zero => intro _; rfl
  | succ g ih =>
    intro h
    show cd_on B g + (if B (71 + 58 * g + 9) = 1 then 1 else 0) = 0
    rw [ih (fun g' z => h g' (by omega)), h g (by omega), if_neg (by decide)]
theorem cd_on_le {B B' : Nat → Int32} {g0 : Nat} (e : ∀ g, g ≠ g0 → B' (71 + 58 * g + 9) = B (71 + 58 * g + 9)) : ∀ g, cd_on B' g ≤ cd_on B g + if g0 < g ∧ B' (71 + 58 * g0 + 9) = 1 then 1 else 0 := by
  intro g
  induction g with
  | zero => exact Nat.zero_le _
  | succ g ih =>
    show cd_on B' g + (if B' (71 + 58 * g + 9) = 1 then 1 else 0) ≤ cd_on B g + (if B (71 + 58 * g + 9) = 1 then 1 else 0) + _
    by_cases z : g = g0
    · subst z
      rw [if_neg (fun w => absurd w.1 (Nat.lt_irrefl _))] at ih
      by_cases y : B' (71 + 58 * g + 9) = 1
      · rw [if_pos y, if_pos (⟨by omega, y⟩ : g < g + 1 ∧ B' (71 + 58 * g + 9) = 1)]; omega
      · rw [if_neg y]; omega
    · rw [e g z]
      by_cases y : g0 < g ∧ B' (71 + 58 * g0 + 9) = 1
      · rw [if_pos y] at ih; rw [if_pos (⟨by omega, y.2⟩ : g0 < g + 1 ∧ _)]; omega
      · rw [if_neg y] at ih; rw [if_neg (fun w : g0 < g + 1 ∧ _ => y ⟨by omega, w.2⟩)]; omega
theorem cd_on_eq {B B' : Nat → Int32} : ∀ g, (∀ g', g' < g → B' (71 + 58 * g' + 9) = B (71 + 58 * g' + 9)) → cd_on B' g = cd_on B g := by
  intro g
  induction g with
  | zero => intro _; rfl
  | succ g ih =>
    intro h
    show cd_on B' g + (if B' (71 + 58 * g + 9) = 1 then 1 else 0) = cd_on B g + _
    rw [ih (fun g' z => h g' (by omega)), h g (by omega)]
-- a group joins, or not
def cd_jw : Bool → (Nat → Int32) → Nat → Nat → Nat → Int32
  | true, B, g, v => cd_up (cd_up B (71 + 58 * g + 9) (nI v)) (71 + 58 * g + 4) (nI v)
  | false, B, g, v => cd_up B (71 + 58 * g + 9) (nI v)
theorem cd_jwN {p : Bool} {B : Nat → Int32} {g v k : Nat} (h9 : k ≠ 71 + 58 * g + 9) (h4 : k ≠ 71 + 58 * g + 4) : cd_jw p B g v k = B k := by
  cases p
  · exact cd_upN h9
  · show cd_up (cd_up B (71 + 58 * g + 9) (nI v)) (71 + 58 * g + 4) (nI v) k = _
    rw [cd_upN h4, cd_upN h9]
theorem cd_jw9 {p : Bool} {B : Nat → Int32} {g v : Nat} : cd_jw p B g v (71 + 58 * g + 9) = nI v := by
  cases p
  · exact cd_upE rfl
  · show cd_up (cd_up B (71 + 58 * g + 9) (nI v)) (71 + 58 * g + 4) (nI v) _ = _
    rw [cd_upN (by omega), cd_upE rfl]
theorem cd_Ja.jw {A B : Nat → Int32} {p : Bool} {g v : Nat} (x : cd_Ja A B) (hg : g < 6) (hv : v ≤ 1) : cd_Ja A (cd_jw p B g v) := by
  cases p
  · exact x.up hg (Or.inr rfl) hv
  · exact (x.up hg (Or.inr rfl) hv).up hg (Or.inl rfl) hv
abbrev cd_Tr := (Nat → Int32) × Nat × (Nat → Nat)
noncomputable def cd_jn (p : Bool) (S : cd_Tr) (g : Nat) : cd_Tr := @ite _ (cd_can S.1 (S.2.1 + cd_n S.1 (71 + 58 * g + 5)) (cd_ea S.2.2 S.2.1 (71 + 58 * g))) (Classical.propDecidable _) (cd_jw p S.1 g 1, S.2.1 + cd_n S.1 (71 + 58 * g + 5), cd_ea S.2.2 S.2.1 (71 + 58 * g)) (cd_jw p S.1 g 0, S.2.1, S.2.2)
theorem cd_jnT {p : Bool} {S : cd_Tr} {g : Nat} (h : cd_can S.1 (S.2.1 + cd_n S.1 (71 + 58 * g + 5)) (cd_ea S.2.2 S.2.1 (71 + 58 * g))) : cd_jn p S g = (cd_jw p S.1 g 1, S.2.1 + cd_n S.1 (71 + 58 * g + 5), cd_ea S.2.2 S.2.1 (71 + 58 * g)) := by
  unfold cd_jn; rw [if_pos h]
theorem cd_jnF {p : Bool} {S : cd_Tr} {g : Nat} (h : ¬ cd_can S.1 (S.2.1 + cd_n S.1 (71 + 58 * g + 5)) (cd_ea S.2.2 S.2.1 (71 + 58 * g))) : cd_jn p S g = (cd_jw p S.1 g 0, S.2.1, S.2.2) := by
  unfold cd_jn; rw [if_neg h]
noncomputable def cd_jP (A : Nat → Int32) (W : Nat) : Nat → cd_Tr
  | 0 => (cd_jc A (cd_n A 70), 0, fun _ => 0)
  | g + 1 => if W.testBit g = true ∧ A (71 + 58 * g + 2) = 1 then cd_jn true (cd_jP A W g) g else cd_jP A W g
noncomputable def cd_jQ (A : Nat → Int32) (W : Nat) : Nat → cd_Tr
  | 0 => cd_jP A W (cd_n A 70)
  | i + 1 => if W.testBit (cd_n A (420 + i)) = true then cd_jn false (cd_jQ A W i) (cd_n A (420 + i)) else cd_jQ A W i
-- rows that are alike but for LIVE, ON and SEATS: who can sit is the same
theorem cd_Es.ja {A B B' : Nat → Int32} {m : Nat} {es : Nat → Nat} (h6 : cd_n A 70 ≤ 6) (x : cd_Ja A B) (y : cd_Ja A B') (h : cd_Es B m es) : cd_Es B' m es := by
  refine ⟨h.1, fun j hj => ?_⟩
  obtain ⟨g, e, z1, z2, z3⟩ := h.2 j hj
  rw [x.n (by omega) (by omega)] at z1
  rw [x.n (by omega) (by omega)] at z2
  exact ⟨g, e, by rw [y.n (by omega) (by omega)]; exact z1, by rw [y.n (by omega) (by omega)]; exact z2, z3⟩
theorem cd_wA.ja {A B B' : Nat → Int32} {m τ : Nat} {es : Nat → Nat} (hA : cd_Ok A τ) (x : cd_Ja A B) (y : cd_Ja A B') (h : cd_Es B m es) {j : Nat} (hj : j < m) : cd_n B' (es j) = cd_n B (es j) ∧ cd_wA B' es j = cd_wA B es j := by
  have h6 := hA.sz.1
  obtain ⟨g, e, z1, z2, z3⟩ := h.2 j hj
  have hn := (h.nums (hA.ja x) hj).1.2
  rw [x.n (by omega) (by omega)] at z1
  rw [x.n (by omega) (by omega)] at z2
  have h4 := hA.sz.2.1 g z1
  have ek : cd_n B' (es j) = cd_n B (es j) := by rw [z3, y.n (by omega) (by omega), x.n (by omega) (by omega)]
  refine ⟨ek, ?_⟩
  unfold cd_wA
  have e1 : cd_n B' (1 + cd_n B (es j)) = cd_n A (1 + cd_n B (es j)) := y.n (by omega) (by omega)
  have e2 : cd_n B (1 + cd_n B (es j)) = cd_n A (1 + cd_n B (es j)) := x.n (by omega) (by omega)
  rw [ek, e1, e2]
theorem cd_can.ja {A B B' : Nat → Int32} {m τ : Nat} {es : Nat → Nat} (hA : cd_Ok A τ) (x : cd_Ja A B) (y : cd_Ja A B') (h : cd_Es B m es) (hc : cd_can B m es) : cd_can B' m es := by
  obtain ⟨v, v1, v2⟩ := hc
  refine ⟨v, v1, ?_⟩
  have e0 : cd_n B' 0 = cd_n B 0 := by rw [y.n (by omega) (by omega), x.n (by omega) (by omega)]
  rw [e0]
  exact (cd_vd_congr m v (fun j hj => (cd_wA.ja hA x y h hj).2)).mpr v2
theorem cd_SeC.ja {A B B' : Nat → Int32} {m τ : Nat} {es : Nat → Nat} {k : cd_Hp} (hA : cd_Ok A τ) (x : cd_Ja A B) (y : cd_Ja A B') (h : cd_Es B m es) (hs : cd_SeC B m es k) : cd_SeC B' m es k := by
  have e0 : cd_n B' 0 = cd_n B 0 := by rw [y.n (by omega) (by omega), x.n (by omega) (by omega)]
  refine ⟨hs.1, by rw [e0]; exact hs.2.1, fun j hj => ?_⟩
  rw [(cd_wA.ja hA x y h hj).2]; exact hs.2.2 j hj
theorem cd_SeR.ja {A B B' : Nat → Int32} {m τ : Nat} {es : Nat → Nat} {k : cd_Hp} (hA : cd_Ok A τ) (x : cd_Ja A B) (y : cd_Ja A B') (h : cd_Es B m es) (hs : cd_SeR B m es k) : cd_SeR B' m es k := by
  refine ⟨hs.1, fun j hj => ?_⟩
  rw [(cd_wA.ja hA x y h hj).1]; exact hs.2 j hj
/-- what holds of the row, of how many sit, of their places -/
def cd_JI (A : Nat → Int32) (S : cd_Tr) : Prop := cd_Ja A S.1 ∧ cd_Es S.1 S.2.1 S.2.2 ∧ cd_can S.1 S.2.1 S.2.2 ∧ cd_on S.1 (cd_n A 70) ≤ S.2.1
theorem cd_JI.jn {A : Nat → Int32} {τ g : Nat} {p : Bool} {S : cd_Tr} (hA : cd_Ok A τ) (h : cd_JI A S) (hg : g < cd_n A 70) : cd_JI A (cd_jn p S g) := by
  obtain ⟨j1, j2, j3, j4⟩ := h
  have h6 := hA.sz.1
  have hB := hA.ja j1
  have e70 : cd_n S.1 70 = cd_n A 70 := j1.n (by omega) (by omega)
  have hev := (hB.2.2.2.2.2.1 g (by omega)).2.2.2.2.2.1
  have le : ∀ v, cd_on (cd_jw p S.1 g v) (cd_n A 70) ≤ cd_on S.1 (cd_n A 70) + if g < cd_n A 70 ∧ cd_jw p S.1 g v (71 + 58 * g + 9) = 1 then 1 else 0 := fun v => cd_on_le (fun g' z => cd_jwN (by omega) (by omega)) _
  by_cases hc : cd_can S.1 (S.2.1 + cd_n S.1 (71 + 58 * g + 5)) (cd_ea S.2.2 S.2.1 (71 + 58 * g))
  · rw [cd_jnT hc]
    have n4 := hB.2.1.1.2
    have hle := cd_can_le hc
    have y : cd_Ja A (cd_jw p S.1 g 1) := j1.jw (by omega) (by omega)
    have hE := j2.add (g := g) (by omega) (by omega)
    refine ⟨y, hE.ja h6 j1 y, hc.ja hA j1 y hE, ?_⟩
    have := le 1
    split at this <;> (dsimp only; omega)
  · rw [cd_jnF hc]
    have y : cd_Ja A (cd_jw p S.1 g 0) := j1.jw (by omega) (by omega)
    refine ⟨y, j2.ja h6 j1 y, j3.ja hA j1 y j2, ?_⟩
    have := le 0
    rw [if_neg (fun w => by have := w.2; rw [cd_jw9] at this; exact absurd this (by decide))] at this
    dsimp only
    omega
theorem cd_can0 {B : Nat → Int32} {es : Nat → Nat} : cd_can B 0 es := ⟨0, by omega, trivial⟩
theorem cd_jP_ok {A : Nat → Int32} {τ W : Nat} (hA : cd_Ok A τ) : ∀ g, g ≤ cd_n A 70 → cd_JI A (cd_jP A W g) := by
  intro g
  induction g with
  | zero =>
    intro _
    obtain ⟨c1, c2, c3⟩ := cd_jc_ja hA (cd_n A 70) (Nat.le_refl _)
    exact ⟨c1, ⟨Nat.zero_le _, fun j hj => absurd hj (Nat.not_lt_zero _)⟩, cd_can0, Nat.le_of_eq (cd_on_0 _ c2)⟩
  | succ g ih =>
    intro h
    show cd_JI A (if W.testBit g = true ∧ A (71 + 58 * g + 2) = 1 then cd_jn true (cd_jP A W g) g else cd_jP A W g)
    split
    · exact (ih (by omega)).jn hA (by omega)
    · exact ih (by omega)
theorem cd_jQ_ok {A : Nat → Int32} {τ W : Nat} (hA : cd_Ok A τ) : ∀ i, i ≤ cd_n A 419 → cd_JI A (cd_jQ A W i) := by
  intro i
  induction i with
  | zero => intro _; exact cd_jP_ok hA _ (Nat.le_refl _)
  | succ i ih =>
    intro h
    show cd_JI A (if W.testBit (cd_n A (420 + i)) = true then cd_jn false (cd_jQ A W i) (cd_n A (420 + i)) else cd_jQ A W i)
    split
    · exact (ih (by omega)).jn hA (hA.2.2.2.2.2.2.1.2.1 i (by omega)).2.1
    · exact ih (by omega)
-- where those that joined stand in the row of those that sit
def cd_pP (B : Nat → Int32) : Nat → Nat
  | 0 => 0
  | g + 1 => cd_pP B g + if B (71 + 58 * g + 2) = 0 ∨ B (71 + 58 * g + 9) = 0 then 0 else cd_n B (71 + 58 * g + 5)
def cd_pQ (B : Nat → Int32) : Nat → Nat
  | 0 => 0
  | i + 1 => cd_pQ B i + if B (71 + 58 * cd_n B (420 + i) + 9) = 0 then 0 else cd_n B (71 + 58 * cd_n B (420 + i) + 5)
theorem cd_pP_le {B : Nat → Int32} : ∀ k g, cd_pP B g ≤ cd_pP B (g + k) := by
  intro k
  induction k with
  | zero => intro g; exact Nat.le_refl _
  | succ k ih => intro g; exact Nat.le_trans (ih g) (Nat.le_add_right _ _)
theorem cd_pQ_le {B : Nat → Int32} : ∀ k i, cd_pQ B i ≤ cd_pQ B (i + k) := by
  intro k
  induction k with
  | zero => intro i; exact Nat.le_refl _
  | succ k ih => intro i; exact Nat.le_trans (ih i) (Nat.le_add_right _ _)
theorem cd_pP_congr {B B' : Nat → Int32} : ∀ g, (∀ g', g' < g → (if B' (71 + 58 * g' + 2) = 0 ∨ B' (71 + 58 * g' + 9) = 0 then 0 else cd_n B' (71 + 58 * g' + 5)) = (if B (71 + 58 * g' + 2) = 0 ∨ B (71 + 58 * g' + 9) = 0 then 0 else cd_n B (71 + 58 * g' + 5))) → cd_pP B' g = cd_pP B g := by
  intro g
  induction g with
  | zero => intro _; rfl
  | succ g ih =>
    intro h
    show cd_pP B' g + _ = cd_pP B g + _
    rw [ih (fun g' z => h g' (by omega)), h g (by omega)]
theorem cd_pQ_congr {B B' : Nat → Int32} : ∀ i, (∀ i', i' < i → (if B' (71 + 58 * cd_n B' (420 + i') + 9) = 0 then 0 else cd_n B' (71 + 58 * cd_n B' (420 + i') + 5)) = (if B (71 + 58 * cd_n B (420 + i') + 9) = 0 then 0 else cd_n B (71 + 58 * cd_n B (420 + i') + 5))) → cd_pQ B' i = cd_pQ B i := by
  intro i
  induction i with
  | zero => intro _; rfl
  | succ i ih =>
    intro h
    show cd_pQ B' i + _ = cd_pQ B i + _
    rw [ih (fun i' z => h i' (by omega)), h i (by omega)]
def cd_EP (B : Nat → Int32) (es : Nat → Nat) (g : Nat) : Prop := ∀ g', g' < g → ¬ (B (71 + 58 * g' + 2) = 0 ∨ B (71 + 58 * g' + 9) = 0) → ∀ e, e < cd_n B (71 + 58 * g' + 5) → es (cd_pP B g' + e) = 71 + 58 * g' + 10 + 3 * e
def cd_EQ (B : Nat → Int32) (es : Nat → Nat) (b i : Nat) : Prop := ∀ i', i' < i → ¬ B (71 + 58 * cd_n B (420 + i') + 9) = 0 → ∀ e, e < cd_n B (71 + 58 * cd_n B (420 + i') + 5) → es (b + cd_pQ B i' + e) = 71 + 58 * cd_n B (420 + i') + 10 + 3 * e
