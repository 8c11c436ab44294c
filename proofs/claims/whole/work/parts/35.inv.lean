-- WHAT HOLDS BETWEEN CALLS
def cd_Tx (n : Nat) (h : cd_Hp) : Prop :=
  (∃ L, L ≤ 120 ∧ cd_g h 398 0 = nI L ∧ cd_g h 404 6 = nI L ∧ ∀ i, i < L → cd_g h 399 i = cd_g h 409 i ∧ ∃ b, b ≤ 127 ∧ cd_g h 409 i = nI b) ∧ ∀ i, i < 3 → ∃ r, r ≤ n ∧ cd_g h 403 i = nI r ∧ cd_g h 408 i = nI r
def cd_Inv (n : Nat) (h : cd_Hp) : Prop := ∃ s nx, cd_Cl (cd_R h) (cd_PR h) s nx (800 * n) h ∧ cd_g h 404 3 = nI s ∧ cd_Tx n h
/-- what the reference's inner steps leave alone -/
def cd_frR (h h' : cd_Hp) : Prop := ∀ x k, (x < 404 ∨ (406 ≤ x ∧ x ≤ 409) ∨ 413 ≤ x ∨ (x = 404 ∧ k ≠ 9)) → cd_g h' x k = cd_g h x k
theorem cd_frR.rf {h : cd_Hp} : cd_frR h h := fun _ _ _ => rfl
theorem cd_frR.tr {h h1 h2 : cd_Hp} (a : cd_frR h h1) (b : cd_frR h1 h2) : cd_frR h h2 := fun x k z => (b x k z).trans (a x k z)
theorem cd_frR.u {h : cd_Hp} {q k : Nat} {v : Int32} (hq : q = 405 ∨ (410 ≤ q ∧ q ≤ 412) ∨ (q = 404 ∧ k = 9)) : cd_frR h (cd_u h q k v) := fun x j z => cd_gN (by omega)
theorem cd_Tx.kept {n n' : Nat} {h h' : cd_Hp} (t : cd_Tx n h) (hn : n ≤ n') (e : ∀ x k, ((x = 398 ∧ k = 0) ∨ x = 399 ∨ x = 403 ∨ (x = 404 ∧ k = 6) ∨ x = 408 ∨ x = 409) → cd_g h' x k = cd_g h x k) : cd_Tx n' h' := by
  obtain ⟨⟨L, t1, t2, t3, t4⟩, t5⟩ := t
  refine ⟨⟨L, t1, by rw [e _ _ (by omega)]; exact t2, by rw [e _ _ (by omega)]; exact t3, fun i hi => ?_⟩, fun i hi => ?_⟩
  · rw [e _ _ (by omega), e _ _ (by omega)]; exact t4 i hi
  · obtain ⟨r, r1, r2, r3⟩ := t5 i hi
    exact ⟨r, by omega, by rw [e _ _ (by omega)]; exact r2, by rw [e _ _ (by omega)]; exact r3⟩
theorem cd_Tx.no {n : Nat} {h : cd_Hp} {i : Nat} (hi : i < 3) (t : cd_Tx n h) (hn : n ≤ 512) : cd_Tx (n + 1) (cd_u (cd_u h 403 i (cd_g h 403 i + 1)) 408 i (cd_g h 408 i + 1)) := by
  obtain ⟨⟨L, t1, t2, t3, t4⟩, t5⟩ := t
  refine ⟨⟨L, t1, by rw [cd_gN (by omega), cd_gN (by omega)]; exact t2, by rw [cd_gN (by omega), cd_gN (by omega)]; exact t3, fun j hj => ?_⟩, fun j hj => ?_⟩
  · simp (disch := omega) only [cd_gN]; exact t4 j hj
  · obtain ⟨r, r1, r2, r3⟩ := t5 j hj
    by_cases e : j = i
    · subst e
      refine ⟨r + 1, by omega, ?_, ?_⟩
      · rw [cd_gN (by omega), cd_gE rfl rfl, r2, cd_addL]
      · rw [cd_gE rfl rfl, r3, cd_addL]
    · refine ⟨r, by omega, ?_, ?_⟩
      · rw [cd_gN (by omega), cd_gN (by omega)]; exact r2
      · rw [cd_gN (by omega), cd_gN (by omega)]; exact r3
/-- other rows with the same places -/
theorem cd_Cl.row {A B : Nat → Int32} {P Q : Nat → Nat → Int32} {s nx τ : Nat} {h : cd_Hp} (c : cd_Cl A P s nx τ h) (e : ∀ k, k < 659 → B k = A k) (e2 : ∀ i k, i < s → k < 659 → Q i k = P i k) : cd_Cl B Q s nx τ h := by
  obtain ⟨c1, ⟨c5, c6⟩, c7⟩ := c
  exact ⟨c1, ⟨c5.row e, c6.of c5 e⟩, fun i hi => ⟨(c7 i hi).1.row (e2 i · hi), (c7 i hi).2.of (c7 i hi).1 (e2 i · hi)⟩⟩
theorem cd_Cl.mono {A : Nat → Int32} {P : Nat → Nat → Int32} {s nx τ τ' : Nat} {h : cd_Hp} (c : cd_Cl A P s nx τ h) (h1 : τ ≤ τ') (h2 : τ' ≤ 500000) : cd_Cl A P s nx τ' h := by
  obtain ⟨c1, ⟨c5, c6⟩, c7⟩ := c
  exact ⟨c1, ⟨c5.mono h1 h2, c6⟩, fun i hi => ⟨(c7 i hi).1.mono h1 h2, (c7 i hi).2⟩⟩
theorem cd_Inv.mono {n : Nat} {h : cd_Hp} (hI : cd_Inv n h) (hn : n < 512) : cd_Inv (n + 1) h := by
  obtain ⟨s, nx, c, hs, t⟩ := hI
  exact ⟨s, nx, c.mono (by omega) (by omega), hs, t.kept (by omega) (fun _ _ _ => rfl)⟩
/-- a call told S that is not refused -/
theorem cd_S_ok {n : Nat} {h : cd_Hp} (hI : cd_Inv n h) (hn : n < 512) {F K : cd_Hp → Option (Int32 × cd_Hp)} {r : Int32} {A' : Nat → Int32} (hr : cd_nr r) (hA : cd_Ok A' (800 * (n + 1)))
    (hF : ∀ h1, cd_St 4 (cd_R h) h1 → (∀ x k, x < 62 ∨ 398 ≤ x → cd_g h1 x k = cd_g h x k) → ∃ h2, F h1 = some (r, h2) ∧ cd_St 4 A' h2 ∧ cd_fr 1 60 h1 h2)
    (hK : ∀ h1, (∀ k, k < 659 → cd_R h1 k = cd_R h k) → (∀ x k, 408 ≤ x → cd_g h1 x k = cd_g h x k) → ∃ h2, K h1 = some (r, h2) ∧ (∀ k, k < 659 → cd_R h2 k = A' k) ∧ cd_frR h1 h2) :
    ∃ h1 h2, cd_b (f_X1_hold 60 4 h) (fun o1 => cd_b (F o1) (fun o3 => cd_b (f_X7_settle o3.1 o3.2) (fun o5 => some (o5.1, o5.2)))) = some (r, h1) ∧ (∀ x k, 398 ≤ x → cd_g h1 x k = cd_g h x k) ∧ cd_b (f_X8_remembers h1) (fun o => cd_b (K o) (fun p => some (p.1, p.2))) = some (r, h2) ∧ cd_Inv (n + 1) h2 := by
  obtain ⟨s, nx, c, hs, t⟩ := hI
  obtain ⟨k1, e1, c1, s1, f1⟩ := cd_held c
  obtain ⟨k2, e2, s2, f2⟩ := hF k1 c1.2.1.2 (fun x k z => f1.1 _ _ (by omega))
  obtain ⟨k3, e3, c3, f3⟩ := cd_settle_ok c1 s1 f2 hA s2 (by omega) hr
  have l3 : ∀ x k, 398 ≤ x → cd_g k3 x k = cd_g h x k := fun x k z => by rw [f3.1 _ _ (by omega), f2.1 _ _ (by omega), f1.1 _ _ (by omega)]
  have hs3 : cd_g k3 404 3 = nI s := by rw [l3 _ _ (by omega)]; exact hs
  obtain ⟨k4, e4, m1, m2, m3, m4, -⟩ := cd_remembers hs3 c.1.2.2.1
  obtain ⟨k5, e5, g1, g2⟩ := hK k4 (fun k hk => by dsimp only [cd_R]; rw [m4 _ _ (by omega) (by omega), l3 _ _ (by omega)]) (fun x k z => by rw [m4 _ _ (by omega) (by omega), l3 _ _ (by omega)])
  refine ⟨k3, k5, ?_, l3, ?_, min (s + 1) 5, (nx + 1) % 6, ?_, ?_, ?_⟩
  · simp only [e1, cd_bS, e2, e3]
  · simp only [e4, cd_bS, e5]
  · have c5 : cd_Cl A' (cd_P1 (cd_R h) (cd_PR h) s) (min (s + 1) 5) ((nx + 1) % 6) (800 * (n + 1)) k5 := c3.kept (fun x k w1 w2 => by rw [g2 _ _ (by omega), m4 _ _ (by omega) (by omega)])
    refine c5.row g1 (fun i k hi hk => ?_)
    have hs5 := c.1.2.2.1
    have ep : cd_PR k5 i k = cd_PR k4 i k := g2 _ _ (by omega)
    rw [ep]
    unfold cd_P1
    by_cases hi2 : i + 1 < min (s + 1) 5
    · rw [if_pos hi2, m2 i k hi2 hk]
      dsimp only [cd_PR]
      exact l3 _ _ (by omega)
    · rw [if_neg hi2]
      obtain rfl : i = min (s + 1) 5 - 1 := by omega
      rw [m3 k hk]
      exact l3 _ _ (by omega)
  · rw [g2 _ _ (by omega)]; exact m1
  · exact t.kept (by omega) (fun x k z => by rw [g2 _ _ (by omega), m4 _ _ (by omega) (by omega), l3 _ _ (by omega)])
/-- a call told S that is refused -/
theorem cd_S_no {n : Nat} {h : cd_Hp} (hI : cd_Inv n h) (hn : n < 512) {F : cd_Hp → Option (Int32 × cd_Hp)} {i : Nat} {r : Int32} (hi : i < 3) (hr : r = -2 - nI i)
    (hF : ∀ h1, cd_St 4 (cd_R h) h1 → (∀ x k, x < 62 ∨ 398 ≤ x → cd_g h1 x k = cd_g h x k) → F h1 = some (r, h1)) :
    ∃ h1, cd_b (f_X1_hold 60 4 h) (fun o1 => cd_b (F o1) (fun o3 => cd_b (f_X7_settle o3.1 o3.2) (fun o5 => some (o5.1, o5.2)))) = some (r, h1) ∧ (∀ k, cd_R h1 k = cd_R h k) ∧ cd_Inv (n + 1) (cd_u h1 408 i (cd_g h1 408 i + 1)) := by
  obtain ⟨s, nx, c, hs, t⟩ := hI
  obtain ⟨k1, e1, c1, s1, f1⟩ := cd_held c
  have e2 := hF k1 c1.2.1.2 (fun x k z => f1.1 _ _ (by omega))
  have e3 := cd_settle_no (h := k1) hi hr
  clear hr hF
  generalize hk2 : cd_u k1 403 i (cd_g k1 403 i + 1) = k2 at e3
  have r2 : ∀ x k, x ≠ 403 → cd_g k2 x k = cd_g k1 x k := fun x k z => by rw [← hk2, cd_gN (by omega)]
  refine ⟨k2, ?_, fun k => ?_, s, nx, ?_, ?_, ?_⟩
  · rw [e1, cd_bS, e2, cd_bS, e3, cd_bS]
  · show cd_g k2 405 k = cd_g h 405 k
    rw [r2 _ _ (by omega), f1.1 _ _ (by omega)]
  · have c5 : cd_Cl (cd_R h) (cd_PR h) s nx (800 * (n + 1)) (cd_u k2 408 i (cd_g k2 408 i + 1)) := (c1.mono (by omega) (by omega)).kept (fun x k w1 w2 => by rw [cd_gN (by omega), r2 _ _ (by omega)])
    refine c5.row (fun k hk => ?_) (fun j k hj hk => ?_)
    · show cd_g (cd_u k2 408 i (cd_g k2 408 i + 1)) 405 k = cd_g h 405 k
      rw [cd_gN (by omega), r2 _ _ (by omega), f1.1 _ _ (by omega)]
    · show cd_g (cd_u k2 408 i (cd_g k2 408 i + 1)) 407 (659 * j + k) = cd_g h 407 (659 * j + k)
      rw [cd_gN (by omega), r2 _ _ (by omega), f1.1 _ _ (by omega)]
  · rw [cd_gN (by omega), r2 _ _ (by omega), f1.1 _ _ (by omega)]; exact hs
  · have t1 : cd_Tx n k1 := t.kept (Nat.le_refl _) (fun x k z => f1.1 _ _ (by omega))
    have t2 := t1.no hi (by omega)
    rw [r2 _ _ (by omega), ← hk2]
    exact t2
/-- a getter that answers -/
theorem cd_get_no {n : Nat} {h : cd_Hp} (hI : cd_Inv n h) (hn : n < 512) {i : Nat} (hi : i < 3) : cd_Inv (n + 1) (cd_u (cd_u h 403 i (cd_g h 403 i + 1)) 408 i (cd_g (cd_u h 403 i (cd_g h 403 i + 1)) 408 i + 1)) := by
  obtain ⟨s, nx, c, hs, t⟩ := hI
  refine ⟨s, nx, ?_, ?_, ?_⟩
  · have c5 : cd_Cl (cd_R h) (cd_PR h) s nx (800 * (n + 1)) (cd_u (cd_u h 403 i (cd_g h 403 i + 1)) 408 i (cd_g (cd_u h 403 i (cd_g h 403 i + 1)) 408 i + 1)) := (c.mono (by omega) (by omega)).kept (fun x k w1 w2 => by rw [cd_gN (by omega), cd_gN (by omega)])
    refine c5.row (fun k hk => ?_) (fun j k hj hk => ?_)
    · dsimp only [cd_R]; rw [cd_gN (by omega), cd_gN (by omega)]
    · dsimp only [cd_PR]; rw [cd_gN (by omega), cd_gN (by omega)]
  · rw [cd_gN (by omega), cd_gN (by omega)]; exact hs
  · have := t.no hi (by omega)
    rw [cd_gN (by omega)]
    exact this
theorem cd_bad8 {h : cd_Hp} : f_X8_bad h = (-2 - nI 0, cd_u h 408 0 (cd_g h 408 0 + 1)) := rfl
theorem cd_no8 {h : cd_Hp} : f_X8_no h = (-2 - nI 1, cd_u h 408 1 (cd_g h 408 1 + 1)) := rfl
theorem cd_full8 {h : cd_Hp} : f_X8_full h = (-2 - nI 2, cd_u h 408 2 (cd_g h 408 2 + 1)) := rfl
