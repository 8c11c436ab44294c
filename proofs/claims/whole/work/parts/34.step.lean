-- A ROW'S PLACES ALONE MATTER; more slices
theorem cd_n.row {A B : Nat → Int32} (e : ∀ k, k < 659 → B k = A k) {k : Nat} (hk : k < 659) : cd_n B k = cd_n A k := by unfold cd_n; rw [e k hk]
theorem cd_num.row {A B : Nat → Int32} (e : ∀ k, k < 659 → B k = A k) {k m : Nat} (hk : k < 659) (h : cd_num A k m) : cd_num B k m := by
  unfold cd_num; rw [e k hk, cd_n.row e hk]; exact h
theorem cd_S6.row {A B : Nat → Int32} (e : ∀ k, k < 659 → B k = A k) {a : Nat} (ha : a + 5 < 659) : cd_S6 B a = cd_S6 A a := by
  unfold cd_S6
  rw [cd_n.row e (by omega), cd_n.row e (by omega), cd_n.row e (by omega), cd_n.row e (by omega), cd_n.row e (by omega), cd_n.row e (by omega)]
theorem cd_ct.row {A B : Nat → Int32} (e : ∀ k, k < 659 → B k = A k) {d : Nat} : ∀ w, w ≤ 64 → cd_ct B d w = cd_ct A d w := by
  intro w
  induction w with
  | zero => intro _; rfl
  | succ w ih => intro h; unfold cd_ct; rw [ih (by omega), cd_n.row e (by omega)]
theorem cd_OkG.row {A B : Nat → Int32} (e : ∀ k, k < 659 → B k = A k) {o : Nat} (ho : o + 58 ≤ 419) (h : cd_OkG o A) : cd_OkG o B := by
  obtain ⟨⟨h0, h0'⟩, ⟨h1, h1'⟩, h2, h3, h4, ⟨h5, h5'⟩, ⟨h6, h6'⟩, ⟨h7, h7'⟩, ⟨h8, h8'⟩, h9, h10, h11, h12, h13, h14, h15⟩ := h
  have h5l := h5.2
  unfold cd_OkG
  rw [cd_n.row e (k := o) (by omega), cd_n.row e (k := 9) (by omega), cd_n.row e (k := o + 1) (by omega), cd_n.row e (k := o + 5) (by omega), cd_n.row e (k := o + 6) (by omega), cd_n.row e (k := o + 7) (by omega), cd_n.row e (k := o + 8) (by omega), cd_n.row e (k := 426) (by omega), cd_S6.row e (a := o + 46) (by omega), cd_S6.row e (a := o + 52) (by omega)]
  refine ⟨⟨h0.row e (by omega), h0'⟩, ⟨h1.row e (by omega), h1'⟩, h2.row e (by omega), h3.row e (by omega), h4.row e (by omega), ⟨h5.row e (by omega), h5'⟩, ⟨h6.row e (by omega), h6'⟩, ⟨h7.row e (by omega), h7'⟩, ⟨h8.row e (by omega), h8'⟩, h9.row e (by omega), fun i hi => ?_, fun k hk => (h11 k hk).row e (by omega), fun t ht => ⟨(h12 t ht).1.row e (by omega), (h12 t ht).2.row e (by omega)⟩, h13, h14, fun i hi => ?_⟩
  · obtain ⟨y1, y2, y3⟩ := h10 i hi
    exact ⟨y1.row e (by omega), y2.row e (by omega), y3.imp (fun z => by rw [e _ (by omega)]; exact z) (fun z => z.row e (by omega))⟩
  · rw [cd_S6.row e (by omega)]; exact h15 i hi
theorem cd_Ok.row {A B : Nat → Int32} {τ : Nat} (h : cd_Ok A τ) (e : ∀ k, k < 659 → B k = A k) : cd_Ok B τ := by
  obtain ⟨h0, ⟨h1, h1'⟩, h2, ⟨⟨t1, t1'⟩, ⟨t2, t2'⟩, t3, t4⟩, hG, hGs, ⟨q1, q2, q3⟩, s1, s2, s3, ⟨s4, s4'⟩, ⟨s5, s5'⟩, s6⟩ := h
  have gl := hG.2
  have tl := t1.2
  have ql := q1.2
  have kl := s4.2
  have wl := s5.2
  unfold cd_Ok cd_OkT cd_OkQ cd_OkS
  rw [cd_n.row e (k := 0) (by omega), cd_n.row e (k := 9) (by omega), cd_n.row e (k := 70) (by omega), cd_n.row e (k := 419) (by omega), cd_n.row e (k := 426) (by omega), cd_n.row e (k := 429) (by omega), cd_n.row e (k := 466) (by omega)]
  refine ⟨h0, ⟨h1.row e (by omega), h1'⟩, fun k hk => (h2 k hk).row e (by omega), ⟨⟨t1.row e (by omega), t1'⟩, ⟨by rw [e 10 (by omega)]; exact t2, by rw [e 11 (by omega)]; exact t2'⟩, fun t w1 w2 => ?_, fun t ht => ⟨(t4 t ht).1.row e (by omega), fun k hk => ((t4 t ht).2 k hk).row e (by omega)⟩⟩, hG.row e (by omega), fun g hg => (hGs g hg).row e (by omega), ⟨q1.row e (by omega), fun i hi => ?_, fun i j w1 w2 => ?_⟩, s1.row e (by omega), s2.row e (by omega), s3.row e (by omega), ⟨s4.row e (by omega), fun i hi => ?_⟩, ⟨s5.row e (by omega), fun i hi => ?_⟩, fun j hj => ?_⟩
  · rw [cd_n.row e (by omega)]
    exact ⟨(t3 t w1 w2).1.row e (by omega), (t3 t w1 w2).2⟩
  · obtain ⟨z1, z2, z3⟩ := q2 i hi
    rw [cd_n.row e (by omega), e _ (by omega)]
    exact ⟨z1.row e (by omega), z2, z3⟩
  · rw [cd_n.row e (by omega), cd_n.row e (by omega)]; exact q3 i j w1 w2
  · obtain ⟨z1, z2, z3⟩ := s4' i hi
    exact ⟨z1.row e (by omega), z2.row e (by omega), z3.row e (by omega)⟩
  · obtain ⟨z1, z2⟩ := s5' i hi
    exact ⟨z1.row e (by omega), z2.row e (by omega)⟩
  · rw [cd_ct.row e _ (by omega)]; exact s6 j hj
theorem cd_Ok.mono {A : Nat → Int32} {τ τ' : Nat} (h : cd_Ok A τ) (h1 : τ ≤ τ') (h2 : τ' ≤ 500000) : cd_Ok A τ' := by
  obtain ⟨h0, hn, hm, hT, hG, hGs, hQ, s1, s2, s3, ⟨s4, s4'⟩, ⟨s5, s5'⟩, s6⟩ := h
  exact ⟨h2, hn, hm, hT, hG, hGs, hQ, s1.up h1, s2, s3.up (by omega), ⟨s4, fun i hi => ⟨(s4' i hi).1, (s4' i hi).2.1, (s4' i hi).2.2.up h1⟩⟩, ⟨s5, fun i hi => ⟨(s5' i hi).1, (s5' i hi).2.up (by omega)⟩⟩, s6⟩
theorem cd_St.of {q τ : Nat} {A B : Nat → Int32} {h : cd_Hp} (x : cd_St q A h) (hA : cd_Ok A τ) (e : ∀ k, k < 659 → B k = A k) : cd_St q B h := by
  obtain ⟨-, -, -, -, hG, hGs, -, -, -, -, ⟨s4, -⟩, ⟨s5, -⟩, -⟩ := hA
  have := s5.2
  exact x.row hG.2 (fun g hg => (hGs g hg).2.2.2.2.2.1.1.2) (by omega) s4.2 e
-- THE CLASS'S SIDE of all: its State is A, those to go back to are P
def cd_Cl (A : Nat → Int32) (P : Nat → Nat → Int32) (s nx τ : Nat) (h : cd_Hp) : Prop :=
  (cd_g h 60 0 = nI s ∧ cd_g h 60 1 = nI nx ∧ s ≤ 5 ∧ nx < 6) ∧ (cd_Ok A τ ∧ cd_St 4 A h) ∧ ∀ i, i < s → cd_Ok (P i) τ ∧ cd_St (62 + 56 * ((nx + 6 - s + i) % 6)) (P i) h
theorem cd_Cl.kept {A : Nat → Int32} {P : Nat → Nat → Int32} {s nx τ : Nat} {h h' : cd_Hp} (c : cd_Cl A P s nx τ h) (e : ∀ x k, 4 ≤ x → x < 398 → cd_g h' x k = cd_g h x k) : cd_Cl A P s nx τ h' := by
  obtain ⟨⟨c1, c2, c3, c4⟩, ⟨c5, c6⟩, c7⟩ := c
  refine ⟨⟨by rw [e _ _ (by omega) (by omega)]; exact c1, by rw [e _ _ (by omega) (by omega)]; exact c2, c3, c4⟩, ⟨c5, c6.kept c5.2.2.2.2.1.2 (fun y k w1 w2 => e _ _ (by omega) (by omega))⟩, fun i hi => ⟨(c7 i hi).1, (c7 i hi).2.kept (c7 i hi).1.2.2.2.2.1.2 (fun y k w1 w2 => e _ _ (by omega) (by omega))⟩⟩
def cd_nr (r : Int32) : Prop := ¬ (r = -2 ∨ r = -3 ∨ r = -4)
theorem cd_isRef {r : Int32} (h : cd_nr r) : f_X7_isRefusal r = 0 := by
  unfold f_X7_isRefusal cd_nr at *
  grind
theorem cd_nr_nI {n : Nat} (h : n < 2147483648) : cd_nr (nI n) := by
  have e := nI_toInt h
  unfold cd_nr
  intro z
  rcases z with z | z | z <;> rw [z] at e <;> have e2 : (-2 : Int32).toInt = -2 := (by decide) <;> have e3 : (-3 : Int32).toInt = -3 := (by decide) <;> have e4 : (-4 : Int32).toInt = -4 := (by decide) <;> omega
theorem cd_nr_m1 : cd_nr (-1) := by unfold cd_nr; decide
theorem cd_answer_ok {r : Int32} {h : cd_Hp} (hr : cd_nr r) : f_X7_answer r h = some (r, h) := by
  unfold f_X7_answer
  rw [cd_isRef hr]
  rfl
/-- a call told S that is not refused: the State ahead of it is kept -/
def cd_P1 (A : Nat → Int32) (P : Nat → Nat → Int32) (s : Nat) : Nat → Nat → Int32 := fun i => if i + 1 < min (s + 1) 5 then P (if s = 5 then i + 1 else i) else A
theorem cd_held {A : Nat → Int32} {P : Nat → Nat → Int32} {s nx τ : Nat} {h : cd_Hp} (c : cd_Cl A P s nx τ h) : ∃ h1, f_X1_hold 60 4 h = some h1 ∧ cd_Cl A P s nx τ h1 ∧ cd_St (62 + 56 * nx) A h1 ∧ cd_fr 62 398 h h1 := by
  obtain ⟨⟨c1, c2, c3, c4⟩, ⟨c5, c6⟩, c7⟩ := c
  obtain ⟨h1, e, s1, f⟩ := cd_hold c2 c4 c5 c6
  refine ⟨h1, e, ⟨⟨by rw [f.1 _ _ (by omega)]; exact c1, by rw [f.1 _ _ (by omega)]; exact c2, c3, c4⟩, ⟨c5, c6.kept c5.2.2.2.2.1.2 (fun y k w1 w2 => f.1 _ _ (by omega))⟩, fun i hi => ⟨(c7 i hi).1, (c7 i hi).2.kept (c7 i hi).1.2.2.2.2.1.2 (fun y k w1 w2 => f.1 _ _ (by omega))⟩⟩, s1, f.wide (by omega) (by omega)⟩
theorem cd_kept {A A' : Nat → Int32} {P : Nat → Nat → Int32} {s nx τ τ' : Nat} {h1 h2 : cd_Hp} (c : cd_Cl A P s nx τ h1) (hs : cd_St (62 + 56 * nx) A h1) (f : cd_fr 1 60 h1 h2) (hA : cd_Ok A' τ') (hS : cd_St 4 A' h2) (ht : τ ≤ τ') : ∃ h3, f_X1_keep 60 h2 = h3 ∧ cd_Cl A' (cd_P1 A P s) (min (s + 1) 5) ((nx + 1) % 6) τ' h3 ∧ cd_fr 60 61 h2 h3 := by
  obtain ⟨⟨c1, c2, c3, c4⟩, ⟨c5, c6⟩, c7⟩ := c
  have n2 : cd_g h2 60 1 = nI nx := by rw [f.1 _ _ (by omega)]; exact c2
  have s2 : cd_g h2 60 0 = nI s := by rw [f.1 _ _ (by omega)]; exact c1
  refine ⟨_, rfl, ?_, ?_⟩
  · rw [cd_keep n2 c4 s2 c3]
    have r3 : ∀ x k, x ≠ 60 → cd_g (cd_u (cd_u h2 60 1 (nI ((nx + 1) % 6))) 60 0 (nI (min (s + 1) 5))) x k = cd_g h2 x k := fun x k hx => by rw [cd_gN (by omega), cd_gN (by omega)]
    have ht5 : τ' ≤ 500000 := hA.1
    refine ⟨⟨cd_gE rfl rfl, by rw [cd_gN (by omega)]; exact cd_gE rfl rfl, by omega, by omega⟩, ⟨hA, hS.kept hA.2.2.2.2.1.2 (fun y k w1 w2 => r3 _ _ (by omega))⟩, fun i hi => ?_⟩
    unfold cd_P1
    by_cases hi2 : i + 1 < min (s + 1) 5
    · simp only [if_pos hi2]
      have hj : (if s = 5 then i + 1 else i) < s := by split <;> omega
      obtain ⟨y1, y2⟩ := c7 _ hj
      refine ⟨y1.mono ht ht5, ?_⟩
      have eslot : ((nx + 1) % 6 + 6 - min (s + 1) 5 + i) % 6 = (nx + 6 - s + (if s = 5 then i + 1 else i)) % 6 := by
        by_cases h5 : s = 5
        · subst h5; simp; omega
        · rw [if_neg h5]; have : min (s + 1) 5 = s + 1 := by omega
          omega
      rw [eslot]
      exact y2.kept y1.2.2.2.2.1.2 (fun y k w1 w2 => by rw [r3 _ _ (by omega), f.1 _ _ (by omega)])
    · simp only [if_neg hi2]
      refine ⟨c5.mono ht ht5, ?_⟩
      have eslot : ((nx + 1) % 6 + 6 - min (s + 1) 5 + i) % 6 = nx := by omega
      rw [eslot]
      exact hs.kept c5.2.2.2.2.1.2 (fun y k w1 w2 => by rw [r3 _ _ (by omega), f.1 _ _ (by omega)])
  · rw [cd_keep n2 c4 s2 c3]
    exact (cd_fr.u (by omega) (by omega)).tr (cd_fr.u (by omega) (by omega))
/-- the tail of a call told S -/
theorem cd_settle_ok {A A' : Nat → Int32} {P : Nat → Nat → Int32} {s nx τ τ' : Nat} {h1 h2 : cd_Hp} {r : Int32} (c : cd_Cl A P s nx τ h1) (hs : cd_St (62 + 56 * nx) A h1) (f : cd_fr 1 60 h1 h2) (hA : cd_Ok A' τ') (hS : cd_St 4 A' h2) (ht : τ ≤ τ') (hr : cd_nr r) : ∃ h3, f_X7_settle r h2 = some (r, h3) ∧ cd_Cl A' (cd_P1 A P s) (min (s + 1) 5) ((nx + 1) % 6) τ' h3 ∧ cd_fr 60 61 h2 h3 := by
  obtain ⟨h3, e, c3, f3⟩ := cd_kept c hs f hA hS ht
  refine ⟨h3, ?_, c3, f3⟩
  unfold f_X7_settle
  rw [cd_isRef hr, if_pos rfl, e]
  simp only [cd_nmE2, cd_answer_ok hr, cd_bS]
/-- how a refusal is counted -/
theorem cd_answer_no {r : Int32} {h : cd_Hp} {i : Nat} (hi : i < 3) (hr : r = -2 - nI i) : f_X7_answer r h = some (r, cd_u h 403 i (cd_g h 403 i + 1)) := by
  have : i = 0 ∨ i = 1 ∨ i = 2 := by omega
  subst hr
  rcases this with rfl | rfl | rfl <;> rfl
theorem cd_settle_no {r : Int32} {h : cd_Hp} {i : Nat} (hi : i < 3) (hr : r = -2 - nI i) : f_X7_settle r h = some (r, cd_u h 403 i (cd_g h 403 i + 1)) := by
  have e : f_X7_isRefusal r = 1 := by
    have : i = 0 ∨ i = 1 ∨ i = 2 := by omega
    subst hr
    rcases this with rfl | rfl | rfl <;> decide
  unfold f_X7_settle
  rw [e, if_neg (by decide), cd_answer_no hi hr]
  rfl
