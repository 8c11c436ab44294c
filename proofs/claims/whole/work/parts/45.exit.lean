-- A TASK ENDS
def cd_mv (A : Nat → Int32) (a b : Nat) : Nat → Int32 := cd_up (cd_up A b (A b + A a)) a 0
theorem cd_mvA {A : Nat → Int32} {a b j : Nat} (h : j = a) : cd_mv A a b j = 0 := cd_upE h
theorem cd_mvB {A : Nat → Int32} {a b j : Nat} (h : j = b) (hab : a ≠ b) : cd_mv A a b j = A b + A a := by unfold cd_mv; rw [cd_upN (by omega), cd_upE h]
theorem cd_mvN {A : Nat → Int32} {a b j : Nat} (h1 : j ≠ a) (h2 : j ≠ b) : cd_mv A a b j = A j := by unfold cd_mv; rw [cd_upN h1, cd_upN h2]
/-- one row of six: what is in t comes to p's -/
theorem cd_mv6 {A : Nat → Int32} {a t p m : Nat} (hn : ∀ i, i < 6 → cd_num A (a + i) m) (hm : m ≤ 1000000000) (ht : t < 6) (hp : p < 6) (htp : t ≠ p) : cd_S6 (cd_mv A (a + t) (a + p)) a = cd_S6 A a ∧ ∀ i, i < 6 → cd_num (cd_mv A (a + t) (a + p)) (a + i) (cd_S6 A a) := by
  have vA : cd_n (cd_mv A (a + t) (a + p)) (a + t) = 0 := cd_n_nI (n := 0) (cd_mvA rfl) (by omega)
  have np := hn p hp
  have nt := hn t ht
  have eB : cd_mv A (a + t) (a + p) (a + p) = nI (cd_n A (a + p) + cd_n A (a + t)) := by rw [cd_mvB rfl (by omega), np.1, nt.1, nI_add]
  have vB : cd_n (cd_mv A (a + t) (a + p)) (a + p) = cd_n A (a + p) + cd_n A (a + t) := cd_n_nI eB (by have := np.2; have := nt.2; omega)
  have vN : ∀ i, i ≠ t → i ≠ p → cd_n (cd_mv A (a + t) (a + p)) (a + i) = cd_n A (a + i) := fun i z1 z2 => cd_n.of (cd_mvN (by omega) (by omega))
  have v : ∀ i, i < 6 → cd_n (cd_mv A (a + t) (a + p)) (a + i) = if i = t then 0 else if i = p then cd_n A (a + p) + cd_n A (a + t) else cd_n A (a + i) := by
    intro i hi
    by_cases z1 : i = t
    · subst z1; rw [if_pos rfl]; exact vA
    · rw [if_neg z1]
      by_cases z2 : i = p
      · subst z2; rw [if_pos rfl]; exact vB
      · rw [if_neg z2]; exact vN i z1 z2
  have s : cd_S6 (cd_mv A (a + t) (a + p)) a = cd_S6 A a := by
    unfold cd_S6
    have v0 := v 0 (by omega)
    rw [Nat.add_zero] at v0
    rw [v0, v 1 (by omega), v 2 (by omega), v 3 (by omega), v 4 (by omega), v 5 (by omega)]
    have a0 : cd_n A (a + 0) = cd_n A a := rfl
    have ht' : t = 0 ∨ t = 1 ∨ t = 2 ∨ t = 3 ∨ t = 4 ∨ t = 5 := by omega
    have hp' : p = 0 ∨ p = 1 ∨ p = 2 ∨ p = 3 ∨ p = 4 ∨ p = 5 := by omega
    rcases ht' with rfl | rfl | rfl | rfl | rfl | rfl <;> rcases hp' with rfl | rfl | rfl | rfl | rfl | rfl <;> first | (exact absurd rfl htp) | (simp <;> omega)
  refine ⟨s, fun i hi => ?_⟩
  have le : cd_n (cd_mv A (a + t) (a + p)) (a + i) ≤ cd_S6 A a := by
    rw [← s]
    have : i = 0 ∨ i = 1 ∨ i = 2 ∨ i = 3 ∨ i = 4 ∨ i = 5 := by omega
    unfold cd_S6
    rcases this with rfl | rfl | rfl | rfl | rfl | rfl <;> simp <;> omega
  refine ⟨?_, le⟩
  by_cases z1 : i = t
  · subst z1; rw [vA, cd_mvA rfl]; rfl
  · by_cases z2 : i = p
    · subst z2; rw [vB, eB]
    · rw [vN i z1 z2, cd_mvN (by omega) (by omega)]; exact (hn i hi).1
theorem cd_OkG.mv {A : Nat → Int32} {o t p a : Nat} (h : cd_OkG o A) (h70 : 70 ≤ o) (ho : o + 58 ≤ 419) (h426 : cd_n A 426 ≤ 500000) (ht : t < 6) (hp : p < 6) (htp : t ≠ p) (ha : a = o + 46 ∨ a = o + 52 ∨ ∃ e, e < 4 ∧ a = o + 22 + 6 * e) : cd_OkG o (cd_mv A (a + t) (a + p)) := by
  have h' := h
  obtain ⟨⟨h0, h0'⟩, ⟨h1, h1'⟩, h2, h3, h4', ⟨h5, h5'⟩, ⟨h6, h6'⟩, ⟨h7, h7'⟩, ⟨h8, h8'⟩, h9', h10, h11, h12, h13, h14, h15⟩ := h'
  have h5l := h5.2
  have har : o + 22 ≤ a ∧ a + 6 ≤ o + 58 := by rcases ha with rfl | rfl | ⟨e, he, rfl⟩ <;> omega
  have hn : ∀ i, i < 6 → cd_num A (a + i) 100000000 := by
    intro i hi
    rcases ha with rfl | rfl | ⟨e, he, rfl⟩
    · exact (h12 i hi).1.up (by omega)
    · exact (h12 i hi).2.up (by omega)
    · have := h11 (6 * e + i) (by omega)
      rw [show o + 22 + (6 * e + i) = o + 22 + 6 * e + i by omega] at this
      exact this
  obtain ⟨s, m⟩ := cd_mv6 hn (by omega) ht hp htp
  have en : ∀ j, (j < a ∨ a + 6 ≤ j) → cd_mv A (a + t) (a + p) j = A j := fun j z => cd_mvN (by omega) (by omega)
  have es : ∀ b, (b + 6 ≤ a ∨ a + 6 ≤ b) → cd_S6 (cd_mv A (a + t) (a + p)) b = cd_S6 A b := fun b z => by
    unfold cd_S6
    rw [cd_n.of (en b (by omega)), cd_n.of (en (b + 1) (by omega)), cd_n.of (en (b + 2) (by omega)), cd_n.of (en (b + 3) (by omega)), cd_n.of (en (b + 4) (by omega)), cd_n.of (en (b + 5) (by omega))]
  have s46 : cd_S6 (cd_mv A (a + t) (a + p)) (o + 46) = cd_S6 A (o + 46) := by
    rcases ha with rfl | rfl | ⟨e, he, rfl⟩
    · exact s
    · exact es _ (by omega)
    · exact es _ (by omega)
  have s52 : cd_S6 (cd_mv A (a + t) (a + p)) (o + 52) = cd_S6 A (o + 52) := by
    rcases ha with rfl | rfl | ⟨e, he, rfl⟩
    · exact es _ (by omega)
    · exact s
    · exact es _ (by omega)
  have se : ∀ e, e < 4 → cd_S6 (cd_mv A (a + t) (a + p)) (o + 22 + 6 * e) = cd_S6 A (o + 22 + 6 * e) := by
    intro e he
    rcases ha with rfl | rfl | ⟨e', he', rfl⟩
    · exact es _ (by omega)
    · exact es _ (by omega)
    · by_cases z : e = e'
      · subst z; exact s
      · exact es _ (by omega)
  unfold cd_OkG
  rw [cd_n.of (en o (by omega)), cd_n.of (en 9 (by omega)), cd_n.of (en 426 (by omega)), cd_n.of (en (o + 1) (by omega)), cd_n.of (en (o + 5) (by omega)), cd_n.of (en (o + 6) (by omega)), cd_n.of (en (o + 7) (by omega)), cd_n.of (en (o + 8) (by omega)), s46, s52]
  refine ⟨⟨h0.of (en _ (by omega)), h0'⟩, ⟨h1.of (en _ (by omega)), h1'⟩, h2.of (en _ (by omega)), h3.of (en _ (by omega)), h4'.of (en _ (by omega)), ⟨h5.of (en _ (by omega)), h5'⟩, ⟨h6.of (en _ (by omega)), h6'⟩, ⟨h7.of (en _ (by omega)), h7'⟩, ⟨h8.of (en _ (by omega)), h8'⟩, h9'.of (en _ (by omega)), fun i hi => ?_, fun k hk => ?_, fun u hu => ?_, h13, h14, fun e he => by rw [se e he]; exact h15 e he⟩
  · obtain ⟨y1, y2, y3⟩ := h10 i hi
    exact ⟨y1.of (en _ (by omega)), y2.of (en _ (by omega)), y3.imp (fun z => by rw [en _ (by omega)]; exact z) (fun z => z.of (en _ (by omega)))⟩
  · by_cases z : a ≤ o + 22 + k ∧ o + 22 + k < a + 6
    · obtain ⟨i, hi⟩ := Nat.exists_eq_add_of_le z.1
      rw [hi]
      refine (m i (by omega)).up ?_
      rcases ha with rfl | rfl | ⟨e, he, rfl⟩
      · omega
      · omega
      · have := h15 e he; omega
    · exact (h11 k hk).of (en _ (by omega))
  · constructor
    · by_cases z : a ≤ o + 46 + u ∧ o + 46 + u < a + 6
      · obtain ⟨i, hi⟩ := Nat.exists_eq_add_of_le z.1
        rw [hi]
        refine (m i (by omega)).up ?_
        rcases ha with rfl | rfl | ⟨e, he, rfl⟩ <;> omega
      · exact (h12 u hu).1.of (en _ (by omega))
    · by_cases z : a ≤ o + 52 + u ∧ o + 52 + u < a + 6
      · obtain ⟨i, hi⟩ := Nat.exists_eq_add_of_le z.1
        rw [hi]
        refine (m i (by omega)).up ?_
        rcases ha with rfl | rfl | ⟨e, he, rfl⟩ <;> omega
      · exact (h12 u hu).2.of (en _ (by omega))
/-- one group: what it has in t comes to p's -/
def cd_mvE (A : Nat → Int32) (o t p : Nat) : Nat → Nat → Int32
  | 0 => A
  | e + 1 => cd_mv (cd_mvE A o t p e) (o + 22 + 6 * e + t) (o + 22 + 6 * e + p)
def cd_mvG (A : Nat → Int32) (o t p : Nat) : Nat → Int32 := cd_mvE (cd_mv (cd_mv A (o + 46 + t) (o + 46 + p)) (o + 52 + t) (o + 52 + p)) o t p (cd_n A (o + 5))
def cd_mvGs (A : Nat → Int32) (t p : Nat) : Nat → Nat → Int32
  | 0 => A
  | g + 1 => cd_mvG (cd_mvGs A t p g) (71 + 58 * g) t p
theorem cd_mvE_ok {A : Nat → Int32} {o t p : Nat} (h : cd_OkG o A) (h70 : 70 ≤ o) (ho : o + 58 ≤ 419) (h426 : cd_n A 426 ≤ 500000) (ht : t < 6) (hp : p < 6) (htp : t ≠ p) : ∀ e, e ≤ 4 → cd_OkG o (cd_mvE A o t p e) ∧ ∀ j, (j < o + 22 ∨ o + 58 ≤ j) → cd_mvE A o t p e j = A j := by
  intro e
  induction e with
  | zero => intro _; exact ⟨h, fun _ _ => rfl⟩
  | succ e ih =>
    intro he
    obtain ⟨i1, i2⟩ := ih (by omega)
    refine ⟨i1.mv h70 ho (by rw [cd_n.of (i2 426 (by omega))]; exact h426) ht hp htp (Or.inr (Or.inr ⟨e, by omega, rfl⟩)), fun j hj => ?_⟩
    show cd_mv _ _ _ j = _
    rw [cd_mvN (by omega) (by omega)]; exact i2 j hj
theorem cd_mvG_ok {A : Nat → Int32} {o t p : Nat} (h : cd_OkG o A) (h70 : 70 ≤ o) (ho : o + 58 ≤ 419) (h426 : cd_n A 426 ≤ 500000) (ht : t < 6) (hp : p < 6) (htp : t ≠ p) : cd_OkG o (cd_mvG A o t p) ∧ ∀ j, (j < o + 22 ∨ o + 58 ≤ j) → cd_mvG A o t p j = A j := by
  have h1 := h.mv h70 ho h426 ht hp htp (Or.inl rfl)
  have h2 := h1.mv h70 ho (by rw [cd_n.of (cd_mvN (by omega) (by omega))]; exact h426) ht hp htp (Or.inr (Or.inl rfl))
  obtain ⟨z1, z2⟩ := cd_mvE_ok h2 h70 ho (by rw [cd_n.of (A := A) (by rw [cd_mvN (by omega) (by omega), cd_mvN (by omega) (by omega)])]; exact h426) ht hp htp (cd_n A (o + 5)) h.2.2.2.2.2.1.1.2
  exact ⟨z1, fun j hj => by unfold cd_mvG; rw [z2 j hj, cd_mvN (by omega) (by omega), cd_mvN (by omega) (by omega)]⟩
theorem cd_Ok.m426 {A : Nat → Int32} {τ : Nat} (h : cd_Ok A τ) : cd_n A 426 ≤ 500000 := by
  have h0 := h.1
  have := h.2.2.2.2.2.2.2.1.2
  omega
theorem cd_mvGs_ok {A : Nat → Int32} {τ t p : Nat} (h : cd_Ok A τ) (ht : t < 6) (hp : p < 6) (htp : t ≠ p) : ∀ g, g ≤ cd_n A 70 → cd_Ok (cd_mvGs A t p g) τ ∧ (∀ j, j < 70 ∨ 71 + 58 * g ≤ j → cd_mvGs A t p g j = A j) ∧ cd_n (cd_mvGs A t p g) 70 = cd_n A 70 := by
  intro g
  have h6 := h.2.2.2.2.1.2
  induction g with
  | zero => intro _; exact ⟨h, fun _ _ => rfl, rfl⟩
  | succ g ih =>
    intro hg
    obtain ⟨i1, i2, i3⟩ := ih (by omega)
    have hg' : g < cd_n (cd_mvGs A t p g) 70 := by omega
    obtain ⟨z1, z2⟩ := cd_mvG_ok (i1.2.2.2.2.2.1 g hg') (by omega) (by omega) i1.m426 ht hp htp
    refine ⟨i1.grp hg' (fun j _ hj => z2 j (by omega)) (z2 _ (by omega)) z1, fun j hj => ?_, ?_⟩
    · show cd_mvG _ _ _ _ j = _
      rw [z2 j (by omega)]; exact i2 j (by omega)
    · show cd_n (cd_mvG _ _ _ _) 70 = _
      rw [cd_n.of (z2 70 (by omega))]; exact i3
-- the class's moves
theorem cd_moveCell {r n a b : Nat} {h : cd_Hp} (hr : cd_ar n r) (ha : a < n) (hb : b < n) (hn : n < 100) (hab : a ≠ b) : f_X0_moveCell r (nI a) (nI b) h = some (cd_u (cd_u h r b (cd_g h r b + cd_g h r a)) r a 0) := by
  unfold f_X0_moveCell
  rw [hr.ln]
  simp (disch := omega) only [cd_ckI, cd_cl, cd_nmE2]
theorem cd_moveTo {c o t p : Nat} {A : Nat → Int32} {h : cd_Hp} (hc : cd_is 0 c) (x : cd_StG c o A h) (h5 : cd_num A (o + 5) 4) (ht : t < 6) (hp : p < 6) (htp : t ≠ p) : ∃ h', f_X0_moveTo c (nI t) (nI p) h = some h' ∧ cd_StG c o (cd_mvG A o t p) h' ∧ cd_fr c (c + 7) h h' := by
  unfold f_X0_moveTo
  rw [cd_moveCell (cd_r0_14 hc) ht hp (by omega) htp, cd_bS, cd_moveCell (cd_r0_15 hc) ht hp (by omega) htp, cd_bS]
  generalize hh : cd_u (cd_u (cd_u (cd_u h (c + 5) p _) (c + 5) t 0) (c + 6) p _) (c + 6) t 0 = h2
  have x2 : cd_StG c o (cd_mv (cd_mv A (o + 46 + t) (o + 46 + p)) (o + 52 + t) (o + 52 + p)) h2 := by
    obtain ⟨x1, x2, x3, x4⟩ := x
    have e5 : cd_n (cd_mv (cd_mv A (o + 46 + t) (o + 46 + p)) (o + 52 + t) (o + 52 + p)) (o + 5) = cd_n A (o + 5) := cd_n.of (by rw [cd_mvN (by omega) (by omega), cd_mvN (by omega) (by omega)])
    have h5l := h5.2
    rw [← hh]
    refine ⟨?_, fun e he => ?_, fun k hk => ?_, fun u hu => ?_⟩
    · simp (disch := omega) only [cd_gN, cd_mvN]; exact x1
    · rw [e5] at he; simp (disch := omega) only [cd_gN, cd_mvN]; exact x2 e he
    · simp (disch := omega) only [cd_gN, cd_mvN]; exact x3 k hk
    · by_cases z1 : u = t
      · subst z1
        simp (disch := omega) only [cd_gN, cd_gE, cd_mvN, cd_mvA, and_self]
      · by_cases z2 : u = p
        · subst z2
          simp (disch := omega) only [cd_gN, cd_gE, cd_mvN, cd_mvB]
          rw [(x4 u hu).1, (x4 t ht).1, (x4 u hu).2, (x4 t ht).2]; exact ⟨rfl, rfl⟩
        · simp (disch := omega) only [cd_gN, cd_mvN]; exact x4 u hu
  have f2 : cd_fr c (c + 7) h h2 := by
    rw [← hh]
    exact ⟨fun y j hy => by simp (disch := omega) only [cd_gN], rfl⟩
  have hloop : ∃ q, cd_lp (f_X0_moveTo_B20 c (nI t) (nI p)) cd_fu (0, h2) = some q ∧ cd_StG c o (cd_mvG A o t p) q.2 ∧ cd_fr c (c + 7) h2 q.2 := by
    have h5l := h5.2
    have eR : ∀ e j, j < o + 22 → cd_mvE (cd_mv (cd_mv A (o + 46 + t) (o + 46 + p)) (o + 52 + t) (o + 52 + p)) o t p e j = A j := by
      intro e
      induction e with
      | zero => intro j hj; show cd_mv _ _ _ j = _; rw [cd_mvN (by omega) (by omega), cd_mvN (by omega) (by omega)]
      | succ e ih => intro j hj; show cd_mv _ _ _ j = _; rw [cd_mvN (by omega) (by omega)]; exact ih j hj
    refine cd_for (cd_n A (o + 5)) (fun i (st : Int32 × cd_Hp) => st.1 = nI i ∧ cd_StG c o (cd_mvE (cd_mv (cd_mv A (o + 46 + t) (o + 46 + p)) (o + 52 + t) (o + 52 + p)) o t p i) st.2 ∧ cd_fr c (c + 7) h2 st.2) _ ?_ cd_fu 0 (0, h2) (Nat.zero_le _) (by unfold cd_fu; omega) ⟨rfl, x2, cd_fr.rf⟩
    rintro i ⟨v, k1⟩ K hi ⟨hv, hS, hfr⟩
    dsimp only at hv hS hfr
    subst hv
    unfold f_X0_moveTo_B20
    dsimp only
    have e6 : cd_g k1 c 6 = nI (cd_n A (o + 5)) := by rw [hS.1.2.2.2.2.2.2.1, eR _ _ (by omega)]; exact h5.1
    rw [e6]
    rcases Nat.lt_or_ge i (cd_n A (o + 5)) with hlt | hge
    · left
      refine ⟨hlt, ?_⟩
      rw [if_neg (by rw [cd_le (by omega) (by omega)]; omega), cd_mulL, nI_add, nI_add, cd_moveCell (cd_r0_13 hc) (by omega) (by omega) (by omega) (by omega), cd_bS, cd_nmE2, cd_addL]
      refine ⟨_, ⟨rfl, ?_, hfr.tr ⟨fun y j hy => by dsimp only; simp (disch := omega) only [cd_gN], rfl⟩⟩, rfl⟩
      dsimp only
      obtain ⟨y1, y2, y3, y4⟩ := hS
      generalize hB : cd_mvE (cd_mv (cd_mv A (o + 46 + t) (o + 46 + p)) (o + 52 + t) (o + 52 + p)) o t p i = B at y1 y2 y3 y4
      show cd_StG c o (cd_mv (cd_mvE (cd_mv (cd_mv A (o + 46 + t) (o + 46 + p)) (o + 52 + t) (o + 52 + p)) o t p i) (o + 22 + 6 * i + t) (o + 22 + 6 * i + p)) _
      rw [hB]
      have e5 : cd_n (cd_mv B (o + 22 + 6 * i + t) (o + 22 + 6 * i + p)) (o + 5) = cd_n B (o + 5) := cd_n.of (cd_mvN (by omega) (by omega))
      have b5 : cd_n B (o + 5) = cd_n A (o + 5) := by rw [← hB]; exact cd_n.of (eR _ _ (by omega))
      refine ⟨?_, fun e he => ?_, fun k hk => ?_, fun u hu => ?_⟩
      · simp (disch := omega) only [cd_gN, cd_mvN]; exact y1
      · rw [e5] at he; simp (disch := omega) only [cd_gN, cd_mvN]; exact y2 e he
      · by_cases z1 : k = 6 * i + t
        · rw [cd_gE rfl (by omega), cd_mvA (by omega)]
        · by_cases z2 : k = 6 * i + p
          · rw [cd_gN (by omega), cd_gE rfl (by omega), cd_mvB (by omega) (by omega)]
            have q1 := y3 (i * 6 + p) (by omega)
            have q2 := y3 (i * 6 + t) (by omega)
            rw [q1, q2, show o + 22 + (i * 6 + p) = o + 22 + 6 * i + p by omega, show o + 22 + (i * 6 + t) = o + 22 + 6 * i + t by omega]
          · rw [cd_gN (by omega), cd_gN (by omega), cd_mvN (by omega) (by omega)]; exact y3 k hk
      · simp (disch := omega) only [cd_gN, cd_mvN]; exact y4 u hu
    · right
      obtain rfl : i = cd_n A (o + 5) := by omega
      rw [if_pos (by rw [cd_le (by omega) (by omega)]; omega)]
      exact ⟨_, rfl, hS, hfr⟩
  obtain ⟨q, eq, q1, q2⟩ := hloop
  rw [eq, cd_bS]
  exact ⟨_, rfl, q1, f2.tr q2⟩
