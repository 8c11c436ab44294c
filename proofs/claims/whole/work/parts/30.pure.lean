-- THE PURE SIDE, basics: numbers, the heap, loops
theorem cd_lit (n : Nat) : (no_index (OfNat.ofNat n) : Int32) = nI (OfNat.ofNat n) := rfl
theorem cd_addL (a n : Nat) : nI a + (no_index (OfNat.ofNat n) : Int32) = nI (a + OfNat.ofNat n) := nI_add a n
theorem cd_addR (a n : Nat) : (no_index (OfNat.ofNat n) : Int32) + nI a = nI (OfNat.ofNat n + a) := nI_add n a
theorem nI_mul (a b : Nat) : nI a * nI b = nI (a * b) := by
  unfold nI
  rw [← Int32.ofNat_mul]
theorem cd_mulL (a n : Nat) : nI a * (no_index (OfNat.ofNat n) : Int32) = nI (a * OfNat.ofNat n) := nI_mul a n
theorem cd_mulR (a n : Nat) : (no_index (OfNat.ofNat n) : Int32) * nI a = nI (OfNat.ofNat n * a) := nI_mul n a
theorem nI_sub {a b : Nat} (h : b ≤ a) : nI a - nI b = nI (a - b) := by
  obtain ⟨c, rfl⟩ := Nat.exists_eq_add_of_le h
  rw [Nat.add_sub_cancel_left, ← nI_add, Int32.add_comm, Int32.add_sub_cancel]
theorem cd_subL {a n : Nat} (h : OfNat.ofNat n ≤ a) : nI a - (no_index (OfNat.ofNat n) : Int32) = nI (a - OfNat.ofNat n) := nI_sub h
theorem cd_leL {a n : Nat} (ha : a < 2147483648) (hn : OfNat.ofNat n < 2147483648) : (nI a ≤ (no_index (OfNat.ofNat n) : Int32)) ↔ a ≤ OfNat.ofNat n := nI_leI ha hn
theorem cd_leR {a n : Nat} (ha : a < 2147483648) (hn : OfNat.ofNat n < 2147483648) : ((no_index (OfNat.ofNat n) : Int32) ≤ nI a) ↔ OfNat.ofNat n ≤ a := nI_leI hn ha
theorem cd_le {a b : Nat} (ha : a < 2147483648) (hb : b < 2147483648) : nI a ≤ nI b ↔ a ≤ b := nI_leI ha hb
theorem cd_ltL {a n : Nat} (ha : a < 2147483648) (hn : OfNat.ofNat n < 2147483648) : (nI a < (no_index (OfNat.ofNat n) : Int32)) ↔ a < OfNat.ofNat n := nI_ltI ha hn
theorem cd_ltR {a n : Nat} (ha : a < 2147483648) (hn : OfNat.ofNat n < 2147483648) : ((no_index (OfNat.ofNat n) : Int32) < nI a) ↔ OfNat.ofNat n < a := nI_ltI hn ha
theorem cd_lt {a b : Nat} (ha : a < 2147483648) (hb : b < 2147483648) : nI a < nI b ↔ a < b := nI_ltI ha hb
theorem cd_eqL {a n : Nat} (ha : a < 2147483648) (hn : OfNat.ofNat n < 2147483648) : (nI a = (no_index (OfNat.ofNat n) : Int32)) ↔ a = OfNat.ofNat n := nI_eq ha hn
theorem cd_eq {a b : Nat} (ha : a < 2147483648) (hb : b < 2147483648) : nI a = nI b ↔ a = b := nI_eq ha hb
theorem cd_cl {n : Nat} (h : n < 2147483648) : (nI n).toNatClampNeg = n := nI_clamp h
theorem cd_clL {n : Nat} (h : OfNat.ofNat n < 2147483648) : Int32.toNatClampNeg (no_index (OfNat.ofNat n)) = OfNat.ofNat n := nI_clamp h
theorem cd_neg1 {n : Nat} (h : n < 2147483648) : ¬ nI n = -1 := by
  intro z
  have := congrArg Int32.toInt z
  rw [nI_toInt h] at this
  have e : Int32.toInt (-1) = -1 := by decide
  omega
theorem cd_ixT {a n : Nat} (h : a < n) (hn : a < 2147483648) : cd_ix (nI a) n = true := by
  unfold cd_ix
  rw [nI_toInt hn, Bool.and_eq_true, decide_eq_true_eq, decide_eq_true_eq]
  omega
theorem cd_ckT {α : Type} {b : Bool} {x : Option α} (h : b = true) : cd_ck b x = x := by rw [cd_ck, if_pos h]
theorem cd_ckI {α : Type} {a n : Nat} {x : Option α} (h : a < n) (hn : a < 2147483648) : cd_ck (cd_ix (nI a) n) x = x := cd_ckT (cd_ixT h hn)
theorem cd_ckL {α : Type} {a n : Nat} {x : Option α} (h : OfNat.ofNat a < n) (hn : OfNat.ofNat a < 2147483648) : cd_ck (cd_ix (no_index (OfNat.ofNat a)) n) x = x := cd_ckT (cd_ixT h hn)
theorem cd_nmE2 {α β : Type} (v : α) (f : α → β) : cd_nm v f = f v := rfl
theorem cd_bS {α β : Type} (a : α) (f : α → Option β) : cd_b (some a) f = f a := rfl
theorem cd_b2L {ρ σ : Type} (r : ρ) (f : σ → Option ρ) : cd_b2 (some (.inl r)) f = some r := rfl
theorem cd_b2R {ρ σ : Type} (st : σ) (f : σ → Option ρ) : cd_b2 (some (.inr st)) f = f st := rfl
theorem cd_gE {h : cd_Hp} {q k q2 k2 : Nat} {v : Int32} (e1 : q2 = q) (e2 : k2 = k) : cd_g (cd_u h q k v) q2 k2 = v := by subst e1; subst e2; exact cd_g_u
theorem cd_gN {h : cd_Hp} {q k q2 k2 : Nat} {v : Int32} (e : ¬ (q2 = q ∧ k2 = k)) : cd_g (cd_u h q k v) q2 k2 = cd_g h q2 k2 := cd_g_un e
theorem cd_gif {h : cd_Hp} {q k q2 k2 : Nat} {v : Int32} : cd_g (cd_u h q k v) q2 k2 = if q2 = q ∧ k2 = k then v else cd_g h q2 k2 := rfl
theorem cd_gcp {h : cd_Hp} {q x r y n q2 k2 : Nat} : cd_g (cd_cp h q x r y n) q2 k2 = if q2 = r ∧ y ≤ k2 ∧ k2 < y + n then cd_g h q (x + (k2 - y)) else cd_g h q2 k2 := rfl
theorem cd_u2 {h : cd_Hp} {q k : Nat} {v : Int32} : (cd_u h q k v).2 = h.2 := rfl
theorem cd_cp2 {h : cd_Hp} {q x r y n : Nat} : (cd_cp h q x r y n).2 = h.2 := rfl
theorem cd_gul {h : cd_Hp} {v : Int64} {q k : Nat} : cd_g (cd_ul h v) q k = cd_g h q k := rfl
/-- loops, with an end that is known: at step i the state is as I says -/
theorem cd_for {σ τ : Type} {F : (σ → Option τ) → σ → Option τ} (N : Nat) (I : Nat → σ → Prop) (P : τ → Prop) (hs : ∀ i st K, i ≤ N → I i st → (i < N ∧ ∃ st', I (i + 1) st' ∧ F K st = K st') ∨ ∃ o, F K st = some o ∧ P o) : ∀ n i st, i ≤ N → N < n + i → I i st → ∃ o, cd_lp F n st = some o ∧ P o := by
  intro n
  induction n with
  | zero => intro i st h1 h2; omega
  | succ n ih =>
    intro i st h1 h2 hI
    show ∃ o, F (cd_lp F n) st = some o ∧ P o
    rcases hs i st (cd_lp F n) h1 hI with ⟨hlt, st', hI', e⟩ | h
    · rw [e]
      exact ih (i + 1) st' (by omega) (by omega) hI'
    · exact h
/-- a number that is in its bounds -/
theorem cd_of_in {x : Int32} {n : Nat} (h1 : ¬ x < 0) (h2 : ¬ nI n < x) (hn : n < 2147483648) : ∃ j : Nat, j ≤ n ∧ x = nI j := by
  have e := nI_toInt (n := n) hn
  exact nI_of2 (M := nI n) e h1 (by rw [Int32.le_iff_toInt_le]; rw [Int32.lt_iff_toInt_lt] at h2; omega)
-- the reference's helpers
theorem cd_taskAt (t : Nat) : f_X8_taskAt (nI t) = nI (10 + 10 * t) := by
  simp only [f_X8_taskAt, cd_mulR, cd_addR]
theorem cd_groupAt (g : Nat) : f_X8_groupAt (nI g) = nI (71 + 58 * g) := by
  simp only [f_X8_groupAt, cd_mulR, cd_addR]
theorem cd_eventAt (g e : Nat) : f_X8_eventAt (nI g) (nI e) = nI (71 + 58 * g + 10 + 3 * e) := by
  simp only [f_X8_eventAt, cd_groupAt, cd_mulR, cd_addL, nI_add]
theorem cd_countAt (g e t : Nat) : f_X8_countAt (nI g) (nI e) (nI t) = nI (71 + 58 * g + 22 + 6 * e + t) := by
  simp only [f_X8_countAt, cd_groupAt, cd_mulR, cd_addL, nI_add]
theorem cd_ofGroup {g w : Nat} {h : cd_Hp} (hg : g < 6) (hw : w < 58) : f_X8_ofGroup (nI g) (nI w) h = some (cd_g h 405 (71 + 58 * g + w)) := by
  unfold f_X8_ofGroup
  simp (disch := omega) only [cd_groupAt, nI_add, cd_ckI, cd_cl]
theorem cd_rateOf8 {t k : Nat} {h : cd_Hp} (ht : t < 6) (hk : k < 8) : f_X8_rateOf (nI t) (nI k) h = some (cd_g h 405 (10 + 10 * t + 2 + k)) := by
  unfold f_X8_rateOf
  simp (disch := omega) only [cd_taskAt, cd_addL, nI_add, cd_ckI, cd_cl]
theorem cd_hasEnded8 {t : Nat} {h : cd_Hp} (ht : t < 6) : f_X8_hasEnded (nI t) h = some (if cd_g h 405 (10 + 10 * t + 1) = 1 then 1 else 0) := by
  unfold f_X8_hasEnded
  simp (disch := omega) only [cd_taskAt, cd_addL, nI_add, cd_ckI, cd_cl]
  split <;> rfl
theorem cd_exchanges {k : Nat} {v : Int32} {h : cd_Hp} (hk : k < 659) : f_X8_exchanges (nI k) v h = some (cd_g h 405 k, cd_u h 405 k v) := by
  unfold f_X8_exchanges
  simp (disch := omega) only [cd_ckI, cd_cl, cd_nmE2]
theorem cd_in8 {x a b : Int32} : f_X8_in x a b = if a ≤ x ∧ x ≤ b then 1 else 0 := by
  unfold f_X8_in
  grind
theorem cd_in7 {x a b : Int32} : f_X7_isWithin x a b = if a ≤ x ∧ x ≤ b then 1 else 0 := by
  unfold f_X7_isWithin
  grind
-- copies
theorem cd_copyRow {r0 r1 n : Nat} {h : cd_Hp} (h0 : cd_ar n r0) (h1 : cd_ar n r1) (hn : n < 5000) : f_X7_copyRow r0 r1 h = some (cd_cp h r0 0 r1 0 n) := by
  unfold f_X7_copyRow
  have e : (if nI (cd_ln r1) < nI (cd_ln r0) then nI (cd_ln r1) else nI (cd_ln r0)) = nI n := by rw [h0.ln, h1.ln]; split <;> rfl
  rw [e, h0.ln, h1.ln, cd_ckT, cd_nmE2, cd_cl (by omega)]
  · rfl
  · unfold cd_cq
    have e1 : (nI n).toNatClampNeg = n := cd_cl (by omega)
    have e2 : ¬ nI n < 0 := nI_pos (by omega)
    have e3 : Int32.toNatClampNeg 0 = 0 := by decide
    simp [e1, e2, e3]
