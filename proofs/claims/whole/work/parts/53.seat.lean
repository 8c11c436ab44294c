-- SEATS: rows of figures 0 to 3, the last figure the least
def cd_dg : Nat → Nat → Nat → Nat
  | 0, _, _ => 0
  | i + 1, v, j => if j = i then v % 4 else cd_dg i (v / 4) j
def cd_vd (w : Nat → Nat) (n : Nat) : Nat → Nat → Prop
  | 0, _ => True
  | i + 1, v => cd_vd w n i (v / 4) ∧ v % 4 < n ∧ (w i).testBit (v % 4) = true ∧ ∀ j, j < i → cd_dg i (v / 4) j ≠ v % 4
def cd_pr : Nat → Nat → Nat
  | 0, v => v
  | k + 1, v => cd_pr k v / 4
theorem cd_pr_mono : ∀ k u v, u ≤ v → cd_pr k u ≤ cd_pr k v := by
  intro k
  induction k with
  | zero => intro u v h; exact h
  | succ k ih => intro u v h; exact Nat.div_le_div_right (ih u v h)
theorem cd_pr_0 : ∀ k u, cd_pr k u = 0 ↔ u < 4 ^ k := by
  intro k
  induction k with
  | zero => intro u; show u = 0 ↔ u < 1; omega
  | succ k ih =>
    intro u
    have hs : ∀ j v, cd_pr j (v / 4) = cd_pr j v / 4 := by
      intro j
      induction j with
      | zero => intro v; rfl
      | succ j ihj => intro v; show cd_pr j (v / 4) / 4 = _; rw [ihj]; rfl
    show cd_pr k u / 4 = 0 ↔ _
    rw [← hs, ih, Nat.pow_succ]
    omega
theorem cd_vd_pr {w : Nat → Nat} {n : Nat} : ∀ k i v, cd_vd w n (i + k) v → cd_vd w n i (cd_pr k v) := by
  intro k
  induction k with
  | zero => intro i v h; exact h
  | succ k ih =>
    intro i v h
    have := ih (i + 1) v (by rw [show i + 1 + k = i + (k + 1) by omega]; exact h)
    exact this.1
theorem cd_dg_lt : ∀ i v j, cd_dg i v j < 4 := by
  intro i
  induction i with
  | zero => intro v j; show 0 < 4; omega
  | succ i ih => intro v j; unfold cd_dg; split; omega; exact ih _ _
theorem cd_dg_n {w : Nat → Nat} {n : Nat} : ∀ i v, cd_vd w n i v → ∀ j, j < i → cd_dg i v j < n := by
  intro i
  induction i with
  | zero => intro v _ j hj; omega
  | succ i ih =>
    intro v h j hj
    unfold cd_dg
    split
    · exact h.2.1
    · exact ih _ h.1 j (by omega)
theorem cd_dg_ne {w : Nat → Nat} {n : Nat} : ∀ i v, cd_vd w n i v → ∀ j l, j < l → l < i → cd_dg i v j ≠ cd_dg i v l := by
  intro i
  induction i with
  | zero => intro v _ j l h1 h2; omega
  | succ i ih =>
    intro v h j l h1 h2
    unfold cd_dg
    rw [if_neg (by omega)]
    split
    · exact h.2.2.2 j (by omega)
    · exact ih _ h.1 j l h1 (by omega)
/-- no more events than counters -/
theorem cd_vd_le {w : Nat → Nat} {n i v : Nat} (h : cd_vd w n i v) : i ≤ n := cd_pig n i (cd_dg i v) (cd_dg_n i v h) (cd_dg_ne i v h)
theorem cd_dg_x {i p c j : Nat} (hc : c < 4) : cd_dg (i + 1) (4 * p + c) j = if j = i then c else cd_dg i p j := by
  show (if j = i then (4 * p + c) % 4 else cd_dg i ((4 * p + c) / 4) j) = _
  rw [show (4 * p + c) % 4 = c by omega, show (4 * p + c) / 4 = p by omega]
theorem cd_vd_x {w : Nat → Nat} {n i p c : Nat} (hc : c < 4) : cd_vd w n (i + 1) (4 * p + c) ↔ cd_vd w n i p ∧ c < n ∧ (w i).testBit c = true ∧ ∀ j, j < i → cd_dg i p j ≠ c := by
  show (cd_vd w n i ((4 * p + c) / 4) ∧ (4 * p + c) % 4 < n ∧ (w i).testBit ((4 * p + c) % 4) = true ∧ ∀ j, j < i → cd_dg i ((4 * p + c) / 4) j ≠ (4 * p + c) % 4) ↔ _
  rw [show (4 * p + c) % 4 = c by omega, show (4 * p + c) / 4 = p by omega]
theorem cd_vd_congr {w w' : Nat → Nat} {n : Nat} : ∀ i v, (∀ j, j < i → w j = w' j) → (cd_vd w n i v ↔ cd_vd w' n i v) := by
  intro i
  induction i with
  | zero => intro v _; exact Iff.rfl
  | succ i ih =>
    intro v h
    show (cd_vd w n i (v / 4) ∧ _) ↔ (cd_vd w' n i (v / 4) ∧ _)
    rw [ih (v / 4) (fun j hj => h j (by omega)), h i (by omega)]
-- bits of masks
theorem cd_mk1 : ∀ a, a < 16 → ∀ b, b < 16 → ∀ c, c < 4 → ((((nI a &&& nI b) &&& (1 <<< (nI c &&& 31))) = 0) ↔ ¬ (a.testBit c = true ∧ b.testBit c = true)) := by decide +kernel
theorem cd_mk2 : ∀ b, b < 16 → ∀ c, c < 4 → b.testBit c = true → nI b &&& ((1 <<< (nI c &&& 31)) ^^^ (-1)) = nI (b - 2 ^ c) ∧ ∀ d, d < 4 → (b - 2 ^ c).testBit d = (b.testBit d && decide (d ≠ c)) := by decide +kernel
theorem cd_sit {w : Nat → Nat} {n m : Nat} (hm : m ≤ 4) (hw : ∀ j, j < m → w j ≤ 15) : ∀ k i p fr d h, i + k = m → k < d → (∀ j, j < m → cd_g h 2 j = nI (w j)) → (∀ j, j < i → cd_g h 3 j = nI (cd_dg i p j)) → cd_vd w n i p → fr < 16 → (∀ c, c < 4 → (fr.testBit c = true ↔ (c < n ∧ ∀ j, j < i → cd_dg i p j ≠ c))) →
    ∃ r h', f_X3_sit d 2 3 (nI m) (nI i) (nI fr) h = some (r, h') ∧ (∀ x y, x ≠ 3 → cd_g h' x y = cd_g h x y) ∧ (∀ j, j < i → cd_g h' 3 j = cd_g h 3 j) ∧ h'.2 = h.2 ∧ ((r = 1 ∧ ∃ v, cd_pr k v = p ∧ cd_vd w n m v ∧ (∀ u, u < v → cd_pr k u = p → ¬ cd_vd w n m u) ∧ ∀ j, j < m → cd_g h' 3 j = nI (cd_dg m v j)) ∨ (r = 0 ∧ ∀ u, cd_pr k u = p → ¬ cd_vd w n m u)) := by
  intro k
  induction k with
  | zero =>
    intro i p fr d h him hd hwt hst hvd hfr hfb
    obtain rfl : i = m := by omega
    obtain ⟨d, rfl⟩ : ∃ d', d = d' + 1 := ⟨d - 1, by omega⟩
    refine ⟨1, h, ?_, fun _ _ _ => rfl, fun _ _ => rfl, rfl, Or.inl ⟨rfl, p, rfl, hvd, fun u h1 h2 => ?_, hst⟩⟩
    · show f_X3_sit_F (f_X3_sit d) 2 3 (nI i) (nI i) (nI fr) h = _
      unfold f_X3_sit_F
      rw [if_neg (by rw [cd_lt (by omega) (by omega)]; omega)]
    · have : u = p := h2
      omega
  | succ k ih =>
    intro i p fr d h him hd hwt hst hvd hfr hfb
    obtain ⟨d, rfl⟩ : ∃ d', d = d' + 1 := ⟨d - 1, by omega⟩
    have l2 : cd_ln 2 = 4 := (cd_r3_2 (cd_r4_10 cd_is_4)).ln
    have l3 : cd_ln 3 = 4 := (cd_r3_3 (cd_r4_10 cd_is_4)).ln
    have hloop : ∃ o, cd_lp (f_X3_sit_B10 2 3 (nI m) (nI i) (nI fr) (f_X3_sit d)) cd_fu (0, h) = some o ∧ ((∃ h', o = .inl (1, h') ∧ (∀ x y, x ≠ 3 → cd_g h' x y = cd_g h x y) ∧ (∀ j, j < i → cd_g h' 3 j = cd_g h 3 j) ∧ h'.2 = h.2 ∧ ∃ v, cd_pr (k + 1) v = p ∧ cd_vd w n m v ∧ (∀ u, u < v → cd_pr (k + 1) u = p → ¬ cd_vd w n m u) ∧ ∀ j, j < m → cd_g h' 3 j = nI (cd_dg m v j)) ∨ (∃ v h', o = .inr (v, h') ∧ (∀ x y, x ≠ 3 → cd_g h' x y = cd_g h x y) ∧ (∀ j, j < i → cd_g h' 3 j = cd_g h 3 j) ∧ h'.2 = h.2 ∧ ∀ u, cd_pr (k + 1) u = p → ¬ cd_vd w n m u)) := by
      refine cd_for 4 (fun c (st : Int32 × cd_Hp) => st.1 = nI c ∧ (∀ x y, x ≠ 3 → cd_g st.2 x y = cd_g h x y) ∧ (∀ j, j < i → cd_g st.2 3 j = cd_g h 3 j) ∧ st.2.2 = h.2 ∧ ∀ u, cd_pr (k + 1) u = p → cd_pr k u % 4 < c → ¬ cd_vd w n m u) _ ?_ cd_fu 0 (0, h) (by omega) (by unfold cd_fu; omega) ⟨rfl, fun _ _ _ => rfl, fun _ _ => rfl, rfl, fun u _ z => absurd z (by omega)⟩
      rintro c ⟨v0, k1⟩ K hc ⟨hv0, f1, f2, f3, hno⟩
      dsimp only at hv0 f1 f2 f3 hno
      subst hv0
      unfold f_X3_sit_B10
      dsimp only
      rcases Nat.lt_or_ge c 4 with hlt | hge
      · have ew : cd_g k1 2 i = nI (w i) := by rw [f1 _ _ (by omega)]; exact hwt i (by omega)
        have hwi := hw i (by omega)
        rw [if_neg (by rw [cd_leR (by omega) (by omega)]; omega), cd_nmE2, l2, cd_ckI (by omega) (by omega), cd_cl (by omega), ew, l3, cd_ckI (by omega) (by omega), cd_addL, cd_addL]
        -- validity at this figure
        have key : ∀ u, cd_pr (k + 1) u = p → cd_pr k u % 4 = c → cd_pr k u = 4 * p + c := fun u z1 z2 => by
          have : cd_pr k u / 4 = p := z1
          omega
        by_cases hb : (w i).testBit c = true ∧ fr.testBit c = true
        · rw [if_neg (by rw [cd_mk1 _ (by omega) _ hfr _ hlt]; exact fun z => z hb)]
          obtain ⟨m1, m2⟩ := cd_mk2 fr hfr c hlt hb.2
          obtain ⟨hcn, hcd⟩ := (hfb c hlt).mp hb.2
          have hvd' : cd_vd w n (i + 1) (4 * p + c) := (cd_vd_x hlt).mpr ⟨hvd, hcn, hb.1, hcd⟩
          obtain ⟨r, h', e', g1, g2, g3, g4⟩ := ih (i + 1) (4 * p + c) (fr - 2 ^ c) d (cd_u k1 3 i (nI c)) (by omega) (by omega) (fun j hj => by rw [cd_gN (by omega), f1 _ _ (by omega)]; exact hwt j hj) (fun j hj => by
            rw [cd_dg_x hlt]
            by_cases z : j = i
            · rw [if_pos z, cd_gE rfl z]
            · rw [if_neg z, cd_gN (by omega), f2 j (by omega)]; exact hst j (by omega)) hvd' (Nat.lt_of_le_of_lt (Nat.sub_le _ _) hfr) (fun c' hc' => by
            rw [m2 c' hc', Bool.and_eq_true, hfb c' hc', decide_eq_true_eq]
            constructor
            · rintro ⟨⟨y1, y2⟩, y3⟩
              refine ⟨y1, fun j hj => ?_⟩
              rw [cd_dg_x hlt]
              split
              · exact fun z => y3 z.symm
              · exact y2 j (by omega)
            · rintro ⟨y1, y2⟩
              refine ⟨⟨y1, fun j hj => ?_⟩, ?_⟩
              · have := y2 j (by omega)
                rw [cd_dg_x hlt, if_neg (by omega)] at this
                exact this
              · have := y2 i (by omega)
                rw [cd_dg_x hlt, if_pos rfl] at this
                exact fun z => this z.symm)
          rw [cd_nmE2, m1, e', cd_bS]
          have fr1 : ∀ x y, x ≠ 3 → cd_g h' x y = cd_g h x y := fun x y z => by rw [g1 x y z, cd_gN (by omega), f1 x y z]
          have fr2 : ∀ j, j < i → cd_g h' 3 j = cd_g h 3 j := fun j hj => by rw [g2 j (by omega), cd_gN (by omega), f2 j hj]
          have fr3 : h'.2 = h.2 := by rw [g3]; exact f3
          rcases g4 with ⟨rfl, v, q1, q2, q3, q4⟩ | ⟨rfl, q1⟩
          · right
            rw [if_neg (show ¬ (1 : Int32) = 0 by decide)]
            refine ⟨_, rfl, Or.inl ⟨h', rfl, fr1, fr2, fr3, v, ?_, q2, fun u hu hu2 hu3 => ?_, q4⟩⟩
            · show cd_pr k v / 4 = p
              omega
            · have h4 : cd_pr k u / 4 = p := hu2
              rcases Nat.lt_trichotomy (cd_pr k u % 4) c with z | z | z
              · exact hno u hu2 z hu3
              · exact q3 u hu (key u hu2 z) hu3
              · have := cd_pr_mono k u v (by omega)
                omega
          · left
            rw [if_pos rfl, cd_nmE2]
            refine ⟨hlt, _, ⟨rfl, fr1, fr2, fr3, fun u hu hu2 => ?_⟩, rfl⟩
            rcases Nat.lt_or_ge (cd_pr k u % 4) c with z | z
            · exact hno u hu z
            · exact q1 u (key u hu (by omega))
        · rw [if_pos (by rw [cd_mk1 _ (by omega) _ hfr _ hlt]; exact hb)]
          left
          refine ⟨hlt, _, ⟨rfl, f1, f2, f3, fun u hu hu2 hu3 => ?_⟩, rfl⟩
          rcases Nat.lt_or_ge (cd_pr k u % 4) c with z | z
          · exact hno u hu z hu3
          · have e := key u hu (by omega)
            have hp := cd_vd_pr k (i + 1) u (by rw [show i + 1 + k = m by omega]; exact hu3)
            rw [e, cd_vd_x hlt] at hp
            exact hb ⟨hp.2.2.1, (hfb c hlt).mpr ⟨hp.2.1, hp.2.2.2⟩⟩
      · right
        obtain rfl : c = 4 := by omega
        rw [if_pos (by decide)]
        exact ⟨_, rfl, Or.inr ⟨_, _, rfl, f1, f2, f3, fun u hu => hno u hu (by omega)⟩⟩
    obtain ⟨o, eo, ho⟩ := hloop
    have eF : f_X3_sit (d + 1) 2 3 (nI m) (nI i) (nI fr) h = f_X3_sit_F (f_X3_sit d) 2 3 (nI m) (nI i) (nI fr) h := rfl
    rw [eF]
    unfold f_X3_sit_F
    rw [if_pos (by rw [cd_lt (by omega) (by omega)]; omega), eo]
    rcases ho with ⟨h', rfl, a1, a2, a3, a4⟩ | ⟨v, h', rfl, a1, a2, a3, a4⟩
    · rw [cd_b2L]
      exact ⟨1, h', rfl, a1, a2, a3, Or.inl ⟨rfl, a4⟩⟩
    · rw [cd_b2R]
      exact ⟨0, h', rfl, a1, a2, a3, Or.inr ⟨rfl, a4⟩⟩
