-- THE REFERENCE'S ROWS OF COUNTERS
theorem cd_pr_d : ∀ k v, cd_pr k (v / 4) = cd_pr (k + 1) v := by
  intro k
  induction k with
  | zero => intro v; rfl
  | succ k ih => intro v; show cd_pr k (v / 4) / 4 = cd_pr (k + 1) v / 4; rw [ih]
theorem cd_pr_le : ∀ k v, cd_pr k v ≤ v := by
  intro k
  induction k with
  | zero => intro v; exact Nat.le_refl _
  | succ k ih => intro v; have := ih v; show cd_pr k v / 4 ≤ v; omega
theorem cd_dg_pr : ∀ m v k, k < m → cd_dg m v k = cd_pr (m - 1 - k) v % 4 := by
  intro m
  induction m with
  | zero => intro v k h; omega
  | succ m ih =>
    intro v k h
    show (if k = m then v % 4 else cd_dg m (v / 4) k) = _
    by_cases e : k = m
    · subst e
      rw [if_pos rfl, show k + 1 - 1 - k = 0 by omega]; rfl
    · rw [if_neg e, ih (v / 4) k (by omega), cd_pr_d, show m - 1 - k + 1 = m + 1 - 1 - k by omega]
/-- what the reference has looked at from the last down to i -/
def cd_vi (w : Nat → Nat) (n m v i : Nat) : Prop := ∀ j, i ≤ j → j < m → cd_dg m v j < n ∧ (w j).testBit (cd_dg m v j) = true ∧ ∀ l, j < l → l < m → cd_dg m v l ≠ cd_dg m v j
theorem cd_vd_vi {w : Nat → Nat} {n : Nat} : ∀ m v, cd_vd w n m v ↔ cd_vi w n m v 0 := by
  intro m
  induction m with
  | zero => intro v; exact ⟨fun _ j _ h => by omega, fun _ => trivial⟩
  | succ m ih =>
    intro v
    have dN : ∀ j, j < m → cd_dg (m + 1) v j = cd_dg m (v / 4) j := fun j hj => by
      show (if j = m then v % 4 else cd_dg m (v / 4) j) = _
      rw [if_neg (by omega)]
    have dL : cd_dg (m + 1) v m = v % 4 := by
      show (if m = m then v % 4 else cd_dg m (v / 4) m) = _
      rw [if_pos rfl]
    show (cd_vd w n m (v / 4) ∧ v % 4 < n ∧ (w m).testBit (v % 4) = true ∧ ∀ j, j < m → cd_dg m (v / 4) j ≠ v % 4) ↔ _
    rw [ih]
    constructor
    · rintro ⟨a1, a2, a3, a4⟩ j _ hj
      by_cases e : j = m
      · subst e
        rw [dL]
        exact ⟨a2, a3, fun l h1 h2 => by omega⟩
      · obtain ⟨b1, b2, b3⟩ := a1 j (Nat.zero_le _) (by omega)
        rw [dN j (by omega)]
        refine ⟨b1, b2, fun l h1 h2 => ?_⟩
        by_cases e2 : l = m
        · subst e2
          rw [dL]
          exact fun z => a4 j (by omega) z.symm
        · rw [dN l (by omega)]
          exact b3 l h1 (by omega)
    · intro a
      obtain ⟨c1, c2, c3⟩ := a m (Nat.zero_le _) (by omega)
      rw [dL] at c1 c2
      refine ⟨fun j h1 h2 => ?_, c1, c2, fun j hj => ?_⟩
      · obtain ⟨b1, b2, b3⟩ := a j h1 (by omega)
        rw [dN j h2] at b1 b2
        refine ⟨b1, b2, fun l h3 h4 => ?_⟩
        have := b3 l h3 (by omega)
        rw [dN j h2, dN l h4] at this
        exact this
      · have := (a j (Nat.zero_le _) (by omega)).2.2 m hj (by omega)
        rw [dN j hj, dL] at this
        exact fun z => this z.symm
theorem cd_hs1 : ∀ a, a < 16 → ∀ c, c < 4 → f_X8_has (nI a) (nI c) = if a.testBit c = true then 1 else 0 := by decide +kernel
theorem cd_or1 : ∀ a, a < 16 → ∀ c, c < 4 → nI a ||| (1 <<< (nI c &&& 31)) = nI (a ||| 2 ^ c) ∧ (a ||| 2 ^ c) < 16 ∧ ∀ d, d < 4 → (a ||| 2 ^ c).testBit d = (a.testBit d || decide (d = c)) := by decide +kernel
theorem cd_qd4 : ∀ v, v < 256 → nI v - nI v / 4 * 4 = nI (v % 4) ∧ nI v / 4 = nI (v / 4) := by decide +kernel
theorem cd_m1 {k : Nat} : nI k + (-1) = nI k - 1 := by rw [Int32.sub_eq_add_neg]
theorem cd_kN {k : Nat} (h1 : 1 ≤ k) : nI k - 1 = nI (k - 1) := cd_subL h1
theorem cd_isRow8 {w κ : Nat → Nat} {n m v : Nat} {h1 : cd_Hp} (hm : cd_g h1 404 9 = nI m) (hm4 : m ≤ 4) (hn : cd_g h1 405 0 = nI n) (hn4 : n ≤ 4) (hk : ∀ j, j < m → cd_g h1 410 j = nI (κ j) ∧ κ j ≤ 7 ∧ cd_g h1 405 (1 + κ j) = nI (w j) ∧ w j ≤ 15) (hv : v < 256) :
    ∃ r h2, f_X8_isRow (nI v) h1 = some (r, h2) ∧ (∀ x y, x ≠ 412 → cd_g h2 x y = cd_g h1 x y) ∧ h2.2 = h1.2 ∧ (∀ j, j < m → cd_g h2 412 j = nI (cd_dg m v j)) ∧ ((r = 1 ∧ cd_vd w n m v) ∨ (r = 0 ∧ ¬ cd_vd w n m v)) := by
  have hloop : ∃ o, cd_lp (f_X8_isRow_B15 (nI v)) cd_fu (nI v, 0, 1, nI m - 1, h1) = some o ∧ ((∀ x y, x ≠ 412 → cd_g o.2.2.2.2 x y = cd_g h1 x y) ∧ o.2.2.2.2.2 = h1.2 ∧ (∀ j, j < m → cd_g o.2.2.2.2 412 j = nI (cd_dg m v j)) ∧ ((o.2.2.1 = 1 ∧ cd_vi w n m v 0) ∨ (o.2.2.1 = 0 ∧ ¬ cd_vi w n m v 0))) := by
    refine cd_for m (fun i (st : Int32 × Int32 × Int32 × Int32 × cd_Hp) => st.1 = nI (cd_pr i v) ∧ (∃ u, u < 16 ∧ st.2.1 = nI u ∧ ∀ c, c < 4 → (u.testBit c = true ↔ ∃ l, m - i ≤ l ∧ l < m ∧ cd_dg m v l = c)) ∧ ((st.2.2.1 = 1 ∧ cd_vi w n m v (m - i)) ∨ (st.2.2.1 = 0 ∧ ¬ cd_vi w n m v (m - i))) ∧ st.2.2.2.1 = nI (m - i) - 1 ∧ (∀ x y, x ≠ 412 → cd_g st.2.2.2.2 x y = cd_g h1 x y) ∧ st.2.2.2.2.2 = h1.2 ∧ ∀ j, m - i ≤ j → j < m → cd_g st.2.2.2.2 412 j = nI (cd_dg m v j)) _ ?_ cd_fu 0 (nI v, 0, 1, nI m - 1, h1) (Nat.zero_le _) (by unfold cd_fu; omega) ⟨rfl, ⟨0, by omega, rfl, fun c hc => ⟨fun z => by simp at z, fun ⟨l, z1, z2, _⟩ => by omega⟩⟩, Or.inl ⟨rfl, fun j z1 z2 => by omega⟩, rfl, fun _ _ _ => rfl, rfl, fun j z1 z2 => by omega⟩
    rintro i ⟨v2, v3, v4, v5, k1⟩ K hi ⟨e2, ⟨u, hu, e3, hub⟩, hv4, e5, f1, f2, f3⟩
    dsimp only at e2 e3 hv4 e5 f1 f2 f3
    subst e2 e3 e5
    unfold f_X8_isRow_B15
    dsimp only
    rcases Nat.lt_or_ge i m with hlt | hge
    · left
      refine ⟨hlt, ?_⟩
      have ple := cd_pr_le i v
      obtain ⟨q1, q2⟩ := cd_qd4 (cd_pr i v) (by omega)
      rw [q2] at q1
      have ed : cd_dg m v (m - i - 1) = cd_pr i v % 4 := by rw [cd_dg_pr m v _ (by omega), show m - 1 - (m - i - 1) = i by omega]
      have hc4 : cd_pr i v % 4 < 4 := by omega
      obtain ⟨kk1, kk2, kk3, kk4⟩ := hk (m - i - 1) (by omega)
      have ek : cd_g k1 410 (m - i - 1) = nI (κ (m - i - 1)) := by rw [f1 _ _ (by omega)]; exact kk1
      have ew : cd_g k1 405 (1 + κ (m - i - 1)) = nI (w (m - i - 1)) := by rw [f1 _ _ (by omega)]; exact kk3
      have en : cd_g k1 405 0 = nI n := by rw [f1 _ _ (by omega)]; exact hn
      rw [cd_kN (k := m - i) (by omega), if_neg (nI_pos (by omega))]
      simp (disch := omega) only [cd_nmE2, q1, q2, cd_ckI, cd_cl, cd_cl0, cd_gN, ek, en, cd_addR, ew]
      obtain ⟨o1, o2, o3⟩ := cd_or1 u hu (cd_pr i v % 4) hc4
      rw [cd_hs1 (w (m - i - 1)) (by omega) _ hc4, cd_hs1 u hu _ hc4, o1, cd_m1]
      have es : m - i - 1 = m - (i + 1) := by omega
      rw [es] at ed ⊢
      have hub' : ∀ c, c < 4 → ((u ||| 2 ^ (cd_pr i v % 4)).testBit c = true ↔ ∃ l, m - (i + 1) ≤ l ∧ l < m ∧ cd_dg m v l = c) := by
        intro c hc
        rw [o3 c hc, Bool.or_eq_true, decide_eq_true_eq, hub c hc]
        constructor
        · rintro (⟨l, z1, z2, z3⟩ | z)
          · exact ⟨l, by omega, z2, z3⟩
          · exact ⟨m - (i + 1), by omega, by omega, by rw [ed, z]⟩
        · rintro ⟨l, z1, z2, z3⟩
          by_cases e : l = m - (i + 1)
          · right; rw [← z3, e, ed]
          · left; exact ⟨l, by omega, z2, z3⟩
      have step : cd_vi w n m v (m - (i + 1)) ↔ cd_vi w n m v (m - i) ∧ cd_pr i v % 4 < n ∧ (w (m - (i + 1))).testBit (cd_pr i v % 4) = true ∧ ¬ u.testBit (cd_pr i v % 4) = true := by
        constructor
        · intro z
          obtain ⟨b1, b2, b3⟩ := z (m - (i + 1)) (by omega) (by omega)
          rw [ed] at b1 b2 b3
          refine ⟨fun j z1 z2 => z j (by omega) z2, b1, b2, fun z3 => ?_⟩
          obtain ⟨l, y1, y2, y3⟩ := (hub _ hc4).mp z3
          exact b3 l (by omega) y2 y3
        · rintro ⟨b0, b1, b2, b3⟩ j z1 z2
          by_cases e : j = m - (i + 1)
          · subst e
            rw [ed]
            exact ⟨b1, b2, fun l y1 y2 y3 => b3 ((hub _ hc4).mpr ⟨l, by omega, y2, y3⟩)⟩
          · exact b0 j (by omega) z2
      have fin : ∀ b, ((b = 1 ∧ cd_vi w n m v (m - (i + 1))) ∨ (b = 0 ∧ ¬ cd_vi w n m v (m - (i + 1)))) → ∃ st' : Int32 × Int32 × Int32 × Int32 × cd_Hp, (st'.1 = nI (cd_pr (i + 1) v) ∧ (∃ u, u < 16 ∧ st'.2.1 = nI u ∧ ∀ c, c < 4 → (u.testBit c = true ↔ ∃ l, m - (i + 1) ≤ l ∧ l < m ∧ cd_dg m v l = c)) ∧ ((st'.2.2.1 = 1 ∧ cd_vi w n m v (m - (i + 1))) ∨ (st'.2.2.1 = 0 ∧ ¬ cd_vi w n m v (m - (i + 1)))) ∧ st'.2.2.2.1 = nI (m - (i + 1)) - 1 ∧ (∀ x y, x ≠ 412 → cd_g st'.2.2.2.2 x y = cd_g h1 x y) ∧ st'.2.2.2.2.2 = h1.2 ∧ ∀ j, m - (i + 1) ≤ j → j < m → cd_g st'.2.2.2.2 412 j = nI (cd_dg m v j)) ∧ K (nI (cd_pr i v / 4), nI (u ||| 2 ^ (cd_pr i v % 4)), b, nI (m - (i + 1)) - 1, cd_u k1 412 (m - (i + 1)) (nI (cd_pr i v % 4))) = K st' := by
        intro b hb
        refine ⟨_, ⟨rfl, ⟨_, o2, rfl, hub'⟩, hb, rfl, fun x y z => ?_, f2, fun j z1 z2 => ?_⟩, rfl⟩
        · dsimp only; rw [cd_gN (by omega)]; exact f1 x y z
        · dsimp only
          by_cases e : j = m - (i + 1)
          · rw [cd_gE rfl e, e, ed]
          · rw [cd_gN (by omega)]; exact f3 j (by omega) z2
      rcases hv4 with ⟨rfl, hvi⟩ | ⟨rfl, hvi⟩
      · rw [if_neg (show ¬ (1 : Int32) = 0 by decide)]
        by_cases zn : cd_pr i v % 4 < n
        · rw [if_neg (by rw [cd_le (by omega) (by omega)]; omega)]
          by_cases zw : (w (m - (i + 1))).testBit (cd_pr i v % 4) = true
          · rw [if_pos zw, if_neg (show ¬ (1 : Int32) = 0 by decide)]
            by_cases zu : u.testBit (cd_pr i v % 4) = true
            · rw [if_pos zu, if_neg (show ¬ (1 : Int32) = 0 by decide)]
              exact fin 0 (Or.inr ⟨rfl, fun z => (step.mp z).2.2.2 zu⟩)
            · rw [if_neg zu, if_pos rfl]
              exact fin 1 (Or.inl ⟨rfl, step.mpr ⟨hvi, zn, zw, zu⟩⟩)
          · rw [if_neg zw, if_pos rfl]
            exact fin 0 (Or.inr ⟨rfl, fun z => zw (step.mp z).2.2.1⟩)
        · rw [if_pos (by rw [cd_le (by omega) (by omega)]; omega)]
          exact fin 0 (Or.inr ⟨rfl, fun z => zn (step.mp z).2.1⟩)
      · rw [if_pos rfl]
        exact fin 0 (Or.inr ⟨rfl, fun z => hvi (step.mp z).1⟩)
    · right
      obtain rfl : i = m := by omega
      rw [Nat.sub_self, if_pos (by decide)]
      rw [Nat.sub_self] at hv4 f3
      exact ⟨_, rfl, f1, f2, fun j hj => f3 j (Nat.zero_le _) hj, hv4⟩
  obtain ⟨o, eo, o1, o2, o3, o4⟩ := hloop
  unfold f_X8_isRow
  rw [hm, cd_nmE2, eo, cd_bS, cd_ckT (by rcases o4 with ⟨z, -⟩ | ⟨z, -⟩ <;> rw [z] <;> decide)]
  refine ⟨_, _, rfl, o1, o2, o3, ?_⟩
  rw [cd_vd_vi]
  exact o4
/-- v is the first row that will do -/
def cd_fst (w : Nat → Nat) (n m v : Nat) : Prop := v < 4 ^ m ∧ cd_vd w n m v ∧ ∀ u, u < v → ¬ cd_vd w n m u
theorem cd_fst_eq {w : Nat → Nat} {n m u v : Nat} (h1 : cd_fst w n m u) (h2 : cd_fst w n m v) : u = v := by
  rcases Nat.lt_trichotomy u v with z | z | z
  · exact absurd h1.2.1 (h2.2.2 u z)
  · exact z
  · exact absurd h2.2.1 (h1.2.2 v z)
theorem cd_pow4 : ∀ m, m ≤ 4 → 4 ^ m ≤ 256 := by decide
theorem cd_canSit8 {w κ : Nat → Nat} {n m : Nat} {h1 : cd_Hp} (hm : cd_g h1 404 9 = nI m) (hm4 : m ≤ 4) (hn : cd_g h1 405 0 = nI n) (hn4 : n ≤ 4) (hk : ∀ j, j < m → cd_g h1 410 j = nI (κ j) ∧ κ j ≤ 7 ∧ cd_g h1 405 (1 + κ j) = nI (w j) ∧ w j ≤ 15) :
    ∃ r h2, f_X8_canSit h1 = some (r, h2) ∧ (∀ x y, x ≠ 412 → cd_g h2 x y = cd_g h1 x y) ∧ h2.2 = h1.2 ∧ ((r = 1 ∧ ∃ v, cd_fst w n m v ∧ ∀ j, j < m → cd_g h2 412 j = nI (cd_dg m v j)) ∨ (r = 0 ∧ ∀ v, v < 4 ^ m → ¬ cd_vd w n m v)) := by
  have p4 := cd_pow4 m hm4
  have hl1 : ∃ o, cd_lp (f_X8_canSit_B4 h1) cd_fu (1, 0) = some o ∧ o.1 = nI (4 ^ m) := by
    refine cd_for m (fun i (st : Int32 × Int32) => st = (nI (4 ^ i), nI i)) _ ?_ cd_fu 0 (1, 0) (Nat.zero_le _) (by unfold cd_fu; omega) rfl
    rintro i st K hi rfl
    unfold f_X8_canSit_B4
    dsimp only
    rw [hm]
    rcases Nat.lt_or_ge i m with hlt | hge
    · left
      refine ⟨hlt, _, rfl, ?_⟩
      rw [if_neg (by rw [cd_le (by omega) (by omega)]; omega)]
      simp only [cd_nmE2, cd_mulL, cd_addL]
      rfl
    · right
      obtain rfl : i = m := by omega
      rw [if_pos (by rw [cd_le (by omega) (by omega)]; omega)]
      exact ⟨_, rfl, rfl⟩
  obtain ⟨o, eo, ho⟩ := hl1
  have hl2 : ∃ p, cd_lp (f_X8_canSit_B24 (nI (4 ^ m))) cd_fu (0, h1) = some p ∧ ((∃ h2, p = .inl (1, h2) ∧ (∀ x y, x ≠ 412 → cd_g h2 x y = cd_g h1 x y) ∧ h2.2 = h1.2 ∧ ∃ v, cd_fst w n m v ∧ ∀ j, j < m → cd_g h2 412 j = nI (cd_dg m v j)) ∨ (∃ a h2, p = .inr (a, h2) ∧ (∀ x y, x ≠ 412 → cd_g h2 x y = cd_g h1 x y) ∧ h2.2 = h1.2 ∧ ∀ v, v < 4 ^ m → ¬ cd_vd w n m v)) := by
    refine cd_for (4 ^ m) (fun i (st : Int32 × cd_Hp) => st.1 = nI i ∧ (∀ x y, x ≠ 412 → cd_g st.2 x y = cd_g h1 x y) ∧ st.2.2 = h1.2 ∧ ∀ v, v < i → ¬ cd_vd w n m v) _ ?_ cd_fu 0 (0, h1) (Nat.zero_le _) (by unfold cd_fu; omega) ⟨rfl, fun _ _ _ => rfl, rfl, fun v z => absurd z (by omega)⟩
    rintro i ⟨v0, k1⟩ K hi ⟨hv0, f1, f2, f3⟩
    dsimp only at hv0 f1 f2 f3
    subst hv0
    unfold f_X8_canSit_B24
    dsimp only
    rcases Nat.lt_or_ge i (4 ^ m) with hlt | hge
    · rw [if_neg (by rw [cd_le (by omega) (by omega)]; omega)]
      obtain ⟨r, h2, e, g1, g2, g3, g4⟩ := cd_isRow8 (w := w) (κ := κ) (n := n) (v := i) (h1 := k1) (by rw [f1 _ _ (by omega)]; exact hm) hm4 (by rw [f1 _ _ (by omega)]; exact hn) hn4 (fun j hj => by rw [f1 _ _ (by omega), f1 _ _ (by omega)]; exact hk j hj) (by omega)
      rw [e, cd_bS]
      dsimp only
      rcases g4 with ⟨rfl, g4⟩ | ⟨rfl, g4⟩
      · right
        rw [if_neg (show ¬ (1 : Int32) = 0 by decide)]
        exact ⟨_, rfl, Or.inl ⟨h2, rfl, fun x y z => (g1 x y z).trans (f1 x y z), g2.trans f2, i, ⟨hlt, g4, f3⟩, g3⟩⟩
      · left
        rw [if_pos rfl, cd_nmE2, cd_addL]
        refine ⟨hlt, _, ⟨rfl, fun x y z => (g1 x y z).trans (f1 x y z), g2.trans f2, fun v z => ?_⟩, rfl⟩
        by_cases e : v = i
        · rw [e]; exact g4
        · exact f3 v (by omega)
    · right
      obtain rfl : i = 4 ^ m := by omega
      rw [if_pos (by rw [cd_le (by omega) (by omega)]; omega)]
      exact ⟨_, rfl, Or.inr ⟨_, _, rfl, f1, f2, f3⟩⟩
  obtain ⟨p, ep, hp⟩ := hl2
  unfold f_X8_canSit
  rw [eo, cd_bS, ho, ep]
  rcases hp with ⟨h2, rfl, a1, a2, a3⟩ | ⟨a, h2, rfl, a1, a2, a3⟩
  · rw [cd_b2L]
    exact ⟨1, h2, rfl, a1, a2, Or.inl ⟨rfl, a3⟩⟩
  · rw [cd_b2R]
    exact ⟨0, h2, rfl, a1, a2, Or.inr ⟨rfl, a3⟩⟩
