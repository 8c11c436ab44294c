-- THE TEXT, byte by byte: orders so far, the letter that is open (0: none), figures; letters, sizes, numbers
abbrev cd_PS := (Nat × Nat × Nat) × (Nat → Nat) × (Nat → Nat) × (Nat → Nat)
def cd_un (f : Nat → Nat) (k v : Nat) : Nat → Nat := fun j => if j = k then v else f j
theorem cd_unE {f : Nat → Nat} {k v j : Nat} (h : j = k) : cd_un f k v j = v := if_pos h
theorem cd_unN {f : Nat → Nat} {k v j : Nat} (h : j ≠ k) : cd_un f k v j = f j := if_neg h
def cd_mo (c : Nat) : Nat := if c = 99 then 3 else if c = 102 then 1 else if c = 103 then 8 else if c = 109 then 2 else if c = 114 then 2 else 0
def cd_ls (c : Nat) : Nat := if c = 103 then 5 else cd_mo c
theorem cd_mo_facts (c : Nat) : cd_mo c ≤ 8 ∧ cd_ls c ≤ cd_mo c ∧ (cd_mo c ≠ 0 → 1 ≤ cd_ls c ∧ (c = 99 ∨ c = 102 ∨ c = 103 ∨ c = 109 ∨ c = 114)) := by
  unfold cd_ls cd_mo
  by_cases h1 : c = 99
  · subst h1; decide
  · by_cases h2 : c = 102
    · subst h2; decide
    · by_cases h3 : c = 103
      · subst h3; decide
      · by_cases h4 : c = 109
        · subst h4; decide
        · by_cases h5 : c = 114
          · subst h5; decide
          · simp [h1, h2, h3, h4, h5]
theorem cd_mo6 : ∀ c, c < 128 → f_X6_mostNumbers (nI c) = nI (cd_mo c) ∧ f_X6_leastNumbers (nI c) = nI (cd_ls c) ∧ f_X8_leastOf (nI c) = if cd_mo c = 0 then -1 else nI (cd_ls c) := by decide +kernel
def cd_st (c : Nat) (P : cd_PS) : Option cd_PS :=
  if c = 32 then some ((P.1.1, P.1.2.1, 0), P.2)
  else if P.1.2.1 = 0 then (if cd_mo c = 0 then none else some ((P.1.1, c, P.1.2.2), cd_un P.2.1 P.1.1 c, cd_un P.2.2.1 P.1.1 0, P.2.2.2))
  else if 48 ≤ c ∧ c ≤ 57 then
    if P.1.2.2 = 0 then (if P.2.2.1 P.1.1 < cd_mo P.1.2.1 then some ((P.1.1, P.1.2.1, 1), P.2.1, cd_un P.2.2.1 P.1.1 (P.2.2.1 P.1.1 + 1), cd_un P.2.2.2 (8 * P.1.1 + P.2.2.1 P.1.1) (c - 48)) else none)
    else if P.1.2.2 < 3 then some ((P.1.1, P.1.2.1, P.1.2.2 + 1), P.2.1, P.2.2.1, cd_un P.2.2.2 (8 * P.1.1 + P.2.2.1 P.1.1 - 1) (10 * P.2.2.2 (8 * P.1.1 + P.2.2.1 P.1.1 - 1) + (c - 48))) else none
  else if c = 59 then (if cd_ls P.1.2.1 ≤ P.2.2.1 P.1.1 then some ((P.1.1 + 1, 0, 0), P.2) else none)
  else none
def cd_xz : cd_PS := ((0, 0, 0), fun _ => 0, fun _ => 0, fun _ => 0)
def cd_xr (X : Nat → Nat) : Nat → Option cd_PS
  | 0 => some cd_xz
  | i + 1 => match cd_xr X i with
    | none => none
    | some P => cd_st (X i) P
theorem cd_xrS {X : Nat → Nat} {i : Nat} {P : cd_PS} (h : cd_xr X i = some P) : cd_xr X (i + 1) = cd_st (X i) P := by
  show (match cd_xr X i with | none => none | some P => cd_st (X i) P) = _
  rw [h]
theorem cd_xrN {X : Nat → Nat} : ∀ k i, cd_xr X i = none → cd_xr X (i + k) = none := by
  intro k
  induction k with
  | zero => intro i h; exact h
  | succ k ih =>
    intro i h
    show (match cd_xr X (i + k) with | none => none | some P => cd_st (X (i + k)) P) = none
    rw [ih i h]
/-- how many numbers stand ahead of an order -/
def cd_FR (SZ : Nat → Nat) : Nat → Nat
  | 0 => 0
  | k + 1 => cd_FR SZ k + SZ k
theorem cd_FR_congr {S S' : Nat → Nat} : ∀ k, (∀ j, j < k → S' j = S j) → cd_FR S' k = cd_FR S k := by
  intro k
  induction k with
  | zero => intro _; rfl
  | succ k ih => intro h; show cd_FR S' k + S' k = cd_FR S k + S k; rw [ih (fun j z => h j (by omega)), h k (by omega)]
def cd_WF (i : Nat) (P : cd_PS) : Prop :=
  (P.1.2.1 = 0 → 3 * P.1.1 ≤ i ∧ cd_FR P.2.2.1 P.1.1 ≤ i ∧ P.1.2.2 = 0) ∧
  (P.1.2.1 ≠ 0 → 3 * P.1.1 + 1 + P.2.2.1 P.1.1 ≤ i ∧ cd_FR P.2.2.1 P.1.1 + P.2.2.1 P.1.1 ≤ i ∧ cd_mo P.1.2.1 ≠ 0 ∧ P.2.2.1 P.1.1 ≤ cd_mo P.1.2.1 ∧ P.2.1 P.1.1 = P.1.2.1) ∧
  (P.1.2.2 ≠ 0 → 1 ≤ P.2.2.1 P.1.1 ∧ P.2.2.2 (8 * P.1.1 + P.2.2.1 P.1.1 - 1) < 10 ^ P.1.2.2) ∧ P.1.2.2 ≤ 3 ∧
  (∀ k, k < P.1.1 → cd_mo (P.2.1 k) ≠ 0 ∧ cd_ls (P.2.1 k) ≤ P.2.2.1 k ∧ P.2.2.1 k ≤ cd_mo (P.2.1 k)) ∧
  ∀ k, (k < P.1.1 ∨ (k = P.1.1 ∧ P.1.2.1 ≠ 0)) → ∀ j, j < P.2.2.1 k → P.2.2.2 (8 * k + j) ≤ 999
theorem cd_WF0 : cd_WF 0 cd_xz := by
  refine ⟨fun _ => ⟨Nat.le_refl _, Nat.le_refl _, rfl⟩, fun h => absurd rfl h, fun h => absurd rfl h, by show 0 ≤ 3; omega, fun k hk => absurd hk (Nat.not_lt_zero _), fun k hk j hj => absurd hj (Nat.not_lt_zero _)⟩
theorem cd_p10 : ∀ f, f ≤ 3 → 10 ^ f ≤ 1000 := by decide
theorem cd_WF.step {i c : Nat} {P P' : cd_PS} (h : cd_WF i P) (hc : c < 128) (hs : cd_st c P = some P') : cd_WF (i + 1) P' := by
  obtain ⟨⟨no, lt, fg⟩, LT, SZ, NB⟩ := P
  obtain ⟨w1, w2, w3, w4, w5, w6⟩ := h
  dsimp only at w1 w2 w3 w4 w5 w6
  unfold cd_st at hs
  dsimp only at hs
  by_cases c32 : c = 32
  · rw [if_pos c32] at hs
    obtain rfl := Option.some.inj hs
    refine ⟨fun z => ?_, fun z => ?_, fun z => absurd rfl z, Nat.zero_le _, w5, w6⟩
    · have := w1 z; dsimp only; exact ⟨by omega, by omega, rfl⟩
    · have := w2 z; dsimp only; exact ⟨by omega, by omega, this.2.2⟩
  · rw [if_neg c32] at hs
    by_cases l0 : lt = 0
    · rw [if_pos l0] at hs
      by_cases m0 : cd_mo c = 0
      · rw [if_pos m0] at hs; cases hs
      · rw [if_neg m0] at hs
        obtain rfl := Option.some.inj hs
        obtain ⟨v1, v2, v3⟩ := w1 l0
        have c0 : c ≠ 0 := fun z => m0 (by rw [z]; rfl)
        have fr : cd_FR (cd_un SZ no 0) no = cd_FR SZ no := cd_FR_congr no (fun j hj => cd_unN (by omega))
        have e0 : cd_un SZ no 0 no = 0 := cd_unE rfl
        have el : cd_un LT no c no = c := cd_unE rfl
        refine ⟨fun z => absurd z c0, fun _ => ?_, fun z => absurd v3 z, by dsimp only; omega, fun k hk => ?_, fun k hk j hj => ?_⟩
        · dsimp only
          rw [e0, fr, el]
          exact ⟨by omega, by omega, m0, Nat.zero_le _, rfl⟩
        · dsimp only at hk ⊢
          rw [cd_unN (by omega), cd_unN (by omega)]; exact w5 k hk
        · dsimp only at hk hj ⊢
          by_cases z : k = no
          · rw [z, e0] at hj; exact absurd hj (Nat.not_lt_zero _)
          · rw [cd_unN z] at hj; exact w6 k (by omega) j hj
    · rw [if_neg l0] at hs
      obtain ⟨v1, v2, v3, v4, v5⟩ := w2 l0
      have mo8 := (cd_mo_facts lt).1
      by_cases cd : 48 ≤ c ∧ c ≤ 57
      · rw [if_pos cd] at hs
        by_cases f0 : fg = 0
        · rw [if_pos f0] at hs
          by_cases hm : SZ no < cd_mo lt
          · rw [if_pos hm] at hs
            obtain rfl := Option.some.inj hs
            have e0 : cd_un SZ no (SZ no + 1) no = SZ no + 1 := cd_unE rfl
            have fr : cd_FR (cd_un SZ no (SZ no + 1)) no = cd_FR SZ no := cd_FR_congr no (fun j hj => cd_unN (by omega))
            refine ⟨fun z => absurd z l0, fun _ => ?_, fun _ => ?_, by dsimp only; omega, fun k hk => ?_, fun k hk j hj => ?_⟩
            · dsimp only
              rw [e0, fr]
              exact ⟨by omega, by omega, v3, by omega, v5⟩
            · dsimp only
              rw [e0, cd_unE (by omega)]
              omega
            · dsimp only at hk ⊢
              rw [cd_unN (by omega)]; exact w5 k hk
            · dsimp only at hk hj ⊢
              by_cases z : k = no
              · subst z
                rw [e0] at hj
                by_cases zj : j = SZ k
                · rw [cd_unE (by omega)]; omega
                · rw [cd_unN (by omega)]; exact w6 k (Or.inr ⟨rfl, l0⟩) j (by omega)
              · rw [cd_unN z] at hj
                have kl : k < no := by omega
                have s8 : SZ k ≤ 8 := Nat.le_trans (w5 k kl).2.2 (cd_mo_facts _).1
                rw [cd_unN (by omega)]; exact w6 k (by omega) j hj
          · rw [if_neg hm] at hs; cases hs
        · rw [if_neg f0] at hs
          by_cases f3 : fg < 3
          · rw [if_pos f3] at hs
            obtain rfl := Option.some.inj hs
            obtain ⟨u1, u2⟩ := w3 f0
            have p3 := cd_p10 (fg + 1) (by omega)
            have pw : 10 ^ (fg + 1) = 10 ^ fg * 10 := Nat.pow_succ _ _
            refine ⟨fun z => absurd z l0, fun _ => ?_, fun _ => ?_, by dsimp only; omega, w5, fun k hk j hj => ?_⟩
            · dsimp only; exact ⟨by omega, by omega, v3, v4, v5⟩
            · dsimp only
              rw [cd_unE rfl]
              omega
            · dsimp only at hk hj ⊢
              by_cases z : 8 * k + j = 8 * no + SZ no - 1
              · rw [cd_unE z]; omega
              · rw [cd_unN z]; exact w6 k hk j hj
          · rw [if_neg f3] at hs; cases hs
      · rw [if_neg cd] at hs
        by_cases c59 : c = 59
        · rw [if_pos c59] at hs
          by_cases hl : cd_ls lt ≤ SZ no
          · rw [if_pos hl] at hs
            obtain rfl := Option.some.inj hs
            have ls1 := ((cd_mo_facts lt).2.2 v3).1
            refine ⟨fun _ => ?_, fun z => absurd rfl z, fun z => absurd rfl z, Nat.zero_le _, fun k hk => ?_, fun k hk j hj => ?_⟩
            · dsimp only
              refine ⟨by omega, ?_, rfl⟩
              show cd_FR SZ no + SZ no ≤ i + 1
              omega
            · dsimp only at hk ⊢
              by_cases z : k = no
              · rw [z, v5]; exact ⟨v3, hl, v4⟩
              · exact w5 k (by omega)
            · dsimp only at hk hj ⊢
              by_cases z : k = no
              · exact w6 k (Or.inr ⟨z, l0⟩) j hj
              · exact w6 k (by omega) j hj
          · rw [if_neg hl] at hs; cases hs
        · rw [if_neg c59] at hs; cases hs
theorem cd_xr_wf {X : Nat → Nat} (hX : ∀ i, X i < 128) : ∀ i P, cd_xr X i = some P → cd_WF i P := by
  intro i
  induction i with
  | zero => intro P h; obtain rfl := Option.some.inj h; exact cd_WF0
  | succ i ih =>
    intro P h
    cases hx : cd_xr X i with
    | none =>
      have := cd_xrN 1 i hx
      rw [h] at this
      cases this
    | some Q =>
      rw [cd_xrS hx] at h
      exact (ih Q hx).step (hX i) h
-- the class reads
def cd_XC (P : cd_PS) (h : cd_Hp) : Prop := cd_g h 398 1 = nI P.1.1 ∧ cd_g h 398 6 = nI P.1.2.1 ∧ cd_g h 398 7 = nI P.1.2.2 ∧ ∀ k, (k < P.1.1 ∨ (k = P.1.1 ∧ P.1.2.1 ≠ 0)) → cd_g h 400 k = nI (P.2.1 k) ∧ cd_g h 401 k = nI (P.2.2.1 k) ∧ ∀ j, j < P.2.2.1 k → cd_g h 402 (8 * k + j) = nI (P.2.2.2 (8 * k + j))
def cd_frX (h h' : cd_Hp) : Prop := ∀ x k, (x < 398 ∨ (x = 398 ∧ k = 0) ∨ x = 399 ∨ 403 ≤ x) → cd_g h' x k = cd_g h x k
theorem cd_frX.rf {h : cd_Hp} : cd_frX h h := fun _ _ _ => rfl
theorem cd_frX.tr {h h1 h2 : cd_Hp} (a : cd_frX h h1) (b : cd_frX h1 h2) : cd_frX h h2 := fun x k z => (b x k z).trans (a x k z)
theorem cd_frX.u {h : cd_Hp} {q k : Nat} {v : Int32} (hq : (q = 398 ∧ k ≠ 0) ∨ (400 ≤ q ∧ q ≤ 402)) : cd_frX h (cd_u h q k v) := fun x j z => cd_gN (by omega)
