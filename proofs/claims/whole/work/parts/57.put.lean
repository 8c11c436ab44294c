-- PLACES OF A STATE, one by one
def cd_Sz (A : Nat → Int32) : Prop := cd_n A 70 ≤ 6 ∧ (∀ g, g < cd_n A 70 → cd_n A (71 + 58 * g + 5) ≤ 4) ∧ cd_n A 466 ≤ 64 ∧ cd_n A 429 ≤ 12
theorem cd_Sz.up {A : Nat → Int32} {k : Nat} {v : Int32} (z : cd_Sz A) (h1 : k ≠ 70) (h2 : k ≠ 466) (h3 : k ≠ 429) (h4 : ∀ g, g < 6 → k ≠ 71 + 58 * g + 5) : cd_Sz (cd_up A k v) := by
  obtain ⟨z1, z2, z3, z4⟩ := z
  unfold cd_Sz
  rw [cd_n.of (k := 70) (cd_upN (Ne.symm h1)), cd_n.of (k := 466) (cd_upN (Ne.symm h2)), cd_n.of (k := 429) (cd_upN (Ne.symm h3))]
  refine ⟨z1, fun g hg => ?_, z3, z4⟩
  rw [cd_n.of (cd_upN (Ne.symm (h4 g (by omega))))]
  exact z2 g hg
theorem cd_Sz.upG {A : Nat → Int32} {g j : Nat} {v : Int32} (z : cd_Sz A) (hg : g < 6) (hj : j < 58) (h5 : j ≠ 5) : cd_Sz (cd_up A (71 + 58 * g + j) v) := z.up (by omega) (by omega) (by omega) (fun g' hg' => by omega)
theorem cd_Sz.upK {A : Nat → Int32} {g j k : Nat} {v : Int32} (z : cd_Sz A) (hg : g < 6) (hj : j < 58) (h5 : j ≠ 5) (hk : k = 71 + 58 * g + j) : cd_Sz (cd_up A k v) := by rw [hk]; exact z.upG hg hj h5
theorem cd_St.gz {q g : Nat} {A B : Nat → Int32} {h h' : cd_Hp} (x : cd_St q A h) (z : cd_Sz A) (hg : g < cd_n A 70) (e : cd_al A B (71 + 58 * g) (71 + 58 * g + 58)) (f : cd_fr (q + 6 + 8 + 7 * g) (q + 6 + 8 + 7 * g + 7) h h') (hB : cd_StG (q + 6 + 8 + 7 * g) (71 + 58 * g) B h') : cd_St q B h' := by
  obtain ⟨z1, z2, z3, z4⟩ := z
  obtain ⟨x1, x2, x3, x6, x7, x8⟩ := x
  have e70 : cd_n B 70 = cd_n A 70 := cd_n.rg e (by omega) (by omega)
  refine ⟨?_, fun k hk => ?_, x3.as (fun k w1 w2 => e _ (by omega) (by omega)) (fun y k w1 w2 => f.1 _ _ (by omega)), fun g' hg' => ?_, fun i hi => ?_, x8.as z3 z4 (fun k w1 w2 => e _ (by omega) (by omega)) (fun y k w1 w2 => f.1 _ _ (by omega))⟩
  · rw [f.1 _ _ (by omega), f.1 _ _ (by omega), f.1 _ _ (by omega), f.1 _ _ (by omega), f.1 _ _ (by omega), e 0 (by omega) (by omega), e 427 (by omega) (by omega), e 426 (by omega) (by omega), e 70 (by omega) (by omega), e 419 (by omega) (by omega)]; exact x1
  · rw [f.1 _ _ (by omega), e _ (by omega) (by omega)]; exact x2 k hk
  · rw [e70] at hg'
    by_cases eg : g' = g
    · rw [eg]; exact hB
    · exact (x6 g' hg').as (z2 g' hg') (fun k w1 w2 => e _ (by omega) (by omega)) (fun y k w1 w2 => f.1 _ _ (by omega))
  · rw [f.1 _ _ (by omega), e _ (by omega) (by omega)]; exact x7 i hi
/-- an event's peak (b 2, 11) or seat (b 3, 12) -/
theorem cd_StG.ev {c o e b d : Nat} {A : Nat → Int32} {h : cd_Hp} {v : Int32} (x : cd_StG c o A h) (h4 : cd_n A (o + 5) ≤ 4) (he : e < cd_n A (o + 5)) (hb : (b = 2 ∧ d = 11) ∨ (b = 3 ∧ d = 12)) : cd_StG c o (cd_up A (o + d + 3 * e) v) (cd_u h (c + b) e v) := by
  obtain ⟨x1, x2, x3, x4⟩ := x
  have e5 : cd_n (cd_up A (o + d + 3 * e) v) (o + 5) = cd_n A (o + 5) := cd_n.of (cd_upN (by omega))
  refine ⟨?_, fun i hi => ?_, fun k hk => ?_, fun t ht => ?_⟩
  · simp (disch := omega) only [cd_gN, cd_upN]; exact x1
  · rw [e5] at hi
    obtain ⟨y1, y2, y3⟩ := x2 i hi
    rcases hb with ⟨rfl, rfl⟩ | ⟨rfl, rfl⟩
    · refine ⟨?_, ?_, ?_⟩
      · rw [cd_gN (by omega), cd_upN (by omega)]; exact y1
      · by_cases z : i = e
        · subst z; rw [cd_gE rfl rfl, cd_upE rfl]
        · rw [cd_gN (by omega), cd_upN (by omega)]; exact y2
      · rw [cd_gN (by omega), cd_upN (by omega)]; exact y3
    · refine ⟨?_, ?_, ?_⟩
      · rw [cd_gN (by omega), cd_upN (by omega)]; exact y1
      · rw [cd_gN (by omega), cd_upN (by omega)]; exact y2
      · by_cases z : i = e
        · subst z; rw [cd_gE rfl rfl, cd_upE rfl]
        · rw [cd_gN (by omega), cd_upN (by omega)]; exact y3
  · simp (disch := omega) only [cd_gN, cd_upN]; exact x3 k hk
  · simp (disch := omega) only [cd_gN, cd_upN]; exact x4 t ht
/-- a count (b 4, 22), ENABLED (b 5, 46), RUNNING (b 6, 52) -/
theorem cd_StG.nb {c o j b d : Nat} {A : Nat → Int32} {h : cd_Hp} {v : Int32} (x : cd_StG c o A h) (h4 : cd_n A (o + 5) ≤ 4) (hb : (b = 4 ∧ d = 22 ∧ j < 24) ∨ (b = 5 ∧ d = 46 ∧ j < 6) ∨ (b = 6 ∧ d = 52 ∧ j < 6)) : cd_StG c o (cd_up A (o + d + j) v) (cd_u h (c + b) j v) := by
  obtain ⟨x1, x2, x3, x4⟩ := x
  have e5 : cd_n (cd_up A (o + d + j) v) (o + 5) = cd_n A (o + 5) := cd_n.of (cd_upN (by omega))
  refine ⟨?_, fun i hi => ?_, fun k hk => ?_, fun t ht => ?_⟩
  · simp (disch := omega) only [cd_gN, cd_upN]; exact x1
  · rw [e5] at hi; simp (disch := omega) only [cd_gN, cd_upN]; exact x2 i hi
  · by_cases z : b = 4 ∧ k = j
    · rw [cd_gE (by omega) z.2, cd_upE (by omega)]
    · rw [cd_gN (by omega), cd_upN (by omega)]; exact x3 k hk
  · obtain ⟨y1, y2⟩ := x4 t ht
    constructor
    · by_cases z : b = 5 ∧ t = j
      · rw [cd_gE (by omega) z.2, cd_upE (by omega)]
      · rw [cd_gN (by omega), cd_upN (by omega)]; exact y1
    · by_cases z : b = 6 ∧ t = j
      · rw [cd_gE (by omega) z.2, cd_upE (by omega)]
      · rw [cd_gN (by omega), cd_upN (by omega)]; exact y2
section
variable {q g : Nat} {A : Nat → Int32} {h : cd_Hp} {v : Int32}
theorem cd_St.pF {p j : Nat} (x : cd_St q A h) (z : cd_Sz A) (hg : g < cd_n A 70) (hp : (p = 4 ∧ j = 4) ∨ (p = 5 ∧ j = 9) ∨ (p = 7 ∧ j = 6) ∨ (p = 8 ∧ j = 7) ∨ (p = 9 ∧ j = 8)) : cd_St q (cd_up A (71 + 58 * g + j) v) (cd_u h (q + 6 + 8 + 7 * g) p v) :=
  x.gz z hg (cd_al.up.wide (by omega) (by omega)) (cd_fr.u (by omega) (by omega)) ((x.2.2.2.1 g hg).put hp)
theorem cd_St.pE {e b d : Nat} (x : cd_St q A h) (z : cd_Sz A) (hg : g < cd_n A 70) (he : e < cd_n A (71 + 58 * g + 5)) (hb : (b = 2 ∧ d = 11) ∨ (b = 3 ∧ d = 12)) : cd_St q (cd_up A (71 + 58 * g + d + 3 * e) v) (cd_u h (q + 6 + 8 + 7 * g + b) e v) :=
  have h4 := z.2.1 g hg
  x.gz z hg (cd_al.up.wide (by omega) (by omega)) (cd_fr.u (by omega) (by omega)) ((x.2.2.2.1 g hg).ev h4 he hb)
theorem cd_St.pN {j b d : Nat} (x : cd_St q A h) (z : cd_Sz A) (hg : g < cd_n A 70) (hb : (b = 4 ∧ d = 22 ∧ j < 24) ∨ (b = 5 ∧ d = 46 ∧ j < 6) ∨ (b = 6 ∧ d = 52 ∧ j < 6)) : cd_St q (cd_up A (71 + 58 * g + d + j) v) (cd_u h (q + 6 + 8 + 7 * g + b) j v) :=
  x.gz z hg (cd_al.up.wide (by omega) (by omega)) (cd_fr.u (by omega) (by omega)) ((x.2.2.2.1 g hg).nb (z.2.1 g hg) hb)
end
/-- places of LIVE, ON and SEATS -/
def cd_Jp (k : Nat) : Prop := ∃ g j, g < 6 ∧ (j = 4 ∨ j = 9 ∨ j = 12 ∨ j = 15 ∨ j = 18 ∨ j = 21) ∧ k = 71 + 58 * g + j
def cd_Ja (A B : Nat → Int32) : Prop := (∀ k, k < 659 → ¬ cd_Jp k → B k = A k) ∧ ∀ g, g < cd_n A 70 → cd_num B (71 + 58 * g + 4) 1 ∧ cd_num B (71 + 58 * g + 9) 1 ∧ ∀ e, e < cd_n A (71 + 58 * g + 5) → (B (71 + 58 * g + 12 + 3 * e) = -1 ∨ cd_num B (71 + 58 * g + 12 + 3 * e) 3)
theorem cd_nJ {k : Nat} (h : ∀ g j, g < 6 → (j = 4 ∨ j = 9 ∨ j = 12 ∨ j = 15 ∨ j = 18 ∨ j = 21) → k ≠ 71 + 58 * g + j) : ¬ cd_Jp k := by
  rintro ⟨g, j, h1, h2, h3⟩
  exact h g j h1 h2 h3
theorem cd_Ja.rf {A : Nat → Int32} {τ : Nat} (hA : cd_Ok A τ) : cd_Ja A A := by
  refine ⟨fun _ _ _ => rfl, fun g hg => ?_⟩
  obtain ⟨h0, h1, h2, h3, h4, h5, h6, h7, h8, h9, h10, -⟩ := hA.2.2.2.2.2.1 g hg
  exact ⟨h4, h9, fun e he => (h10 e he).2.2⟩
theorem cd_Ja.up {A B : Nat → Int32} {g j v : Nat} (x : cd_Ja A B) (hg : g < 6) (hj : j = 4 ∨ j = 9) (hv : v ≤ 1) : cd_Ja A (cd_up B (71 + 58 * g + j) (nI v)) := by
  obtain ⟨x1, x2⟩ := x
  refine ⟨fun k hk hn => ?_, fun g' hg' => ?_⟩
  · rw [cd_upN (fun z => hn ⟨g, j, hg, by omega, z⟩)]; exact x1 k hk hn
  · obtain ⟨y1, y2, y3⟩ := x2 g' hg'
    refine ⟨?_, ?_, fun e he => ?_⟩
    · by_cases z : 71 + 58 * g' + 4 = 71 + 58 * g + j
      · exact cd_numI (cd_upE z) hv (by omega)
      · exact y1.of (cd_upN z)
    · by_cases z : 71 + 58 * g' + 9 = 71 + 58 * g + j
      · exact cd_numI (cd_upE z) hv (by omega)
      · exact y2.of (cd_upN z)
    · by_cases z : 71 + 58 * g' + 12 + 3 * e = 71 + 58 * g + j
      · right; exact cd_numI (cd_upE z) (by omega : v ≤ 3) (by omega)
      · exact (y3 e he).imp (fun w => by rw [cd_upN z]; exact w) (fun w => w.of (cd_upN z))
theorem cd_Ja.upS {A B : Nat → Int32} {g e : Nat} {v : Int32} (x : cd_Ja A B) (h70 : cd_n A 70 ≤ 6) (hE : ∀ g, g < cd_n A 70 → cd_n A (71 + 58 * g + 5) ≤ 4) (hg : g < 6) (he : e < 4) (hv : v = -1 ∨ ∃ c, c ≤ 3 ∧ v = nI c) : cd_Ja A (cd_up B (71 + 58 * g + 12 + 3 * e) v) := by
  obtain ⟨x1, x2⟩ := x
  refine ⟨fun k hk hn => ?_, fun g' hg' => ?_⟩
  · rw [cd_upN (fun z => hn ⟨g, 12 + 3 * e, hg, by omega, by omega⟩)]; exact x1 k hk hn
  · obtain ⟨y1, y2, y3⟩ := x2 g' hg'
    have := hE g' hg'
    refine ⟨y1.of (cd_upN (by omega)), y2.of (cd_upN (by omega)), fun e' he' => ?_⟩
    by_cases z : 71 + 58 * g' + 12 + 3 * e' = 71 + 58 * g + 12 + 3 * e
    · rcases hv with rfl | ⟨c, hc, rfl⟩
      · left; exact cd_upE z
      · right; exact cd_numI (cd_upE z) hc (by omega)
    · exact (y3 e' he').imp (fun w => by rw [cd_upN z]; exact w) (fun w => w.of (cd_upN z))
theorem cd_Ja.eq {A B : Nat → Int32} (x : cd_Ja A B) {k : Nat} (hk : k < 659) (h : ∀ g j, g < 6 → (j = 4 ∨ j = 9 ∨ j = 12 ∨ j = 15 ∨ j = 18 ∨ j = 21) → k ≠ 71 + 58 * g + j) : B k = A k := x.1 k hk (cd_nJ h)
theorem cd_Ja.n {A B : Nat → Int32} (x : cd_Ja A B) {k : Nat} (hk : k < 659) (h : ∀ g j, g < 6 → (j = 4 ∨ j = 9 ∨ j = 12 ∨ j = 15 ∨ j = 18 ∨ j = 21) → k ≠ 71 + 58 * g + j) : cd_n B k = cd_n A k := cd_n.of (x.eq hk h)
theorem cd_Ja.okG {A B : Nat → Int32} {g : Nat} (x : cd_Ja A B) (hg : g < cd_n A 70) (h6 : g < 6) (h : cd_OkG (71 + 58 * g) A) : cd_OkG (71 + 58 * g) B := by
  obtain ⟨⟨h0, h0'⟩, ⟨h1, h1'⟩, h2, h3, h4, ⟨h5, h5'⟩, ⟨h6, h6'⟩, ⟨h7, h7'⟩, ⟨h8, h8'⟩, h9', h10, h11, h12, h13, h14, h15⟩ := h
  have h5l := h5.2
  obtain ⟨y1, y2, y3⟩ := x.2 g hg
  have e : ∀ k, k < 659 → (∀ g j, g < 6 → (j = 4 ∨ j = 9 ∨ j = 12 ∨ j = 15 ∨ j = 18 ∨ j = 21) → k ≠ 71 + 58 * g + j) → B k = A k := fun k z1 z2 => x.eq z1 z2
  have en : ∀ k, k < 659 → (∀ g j, g < 6 → (j = 4 ∨ j = 9 ∨ j = 12 ∨ j = 15 ∨ j = 18 ∨ j = 21) → k ≠ 71 + 58 * g + j) → cd_n B k = cd_n A k := fun k z1 z2 => x.n z1 z2
  have es : ∀ a, 71 + 58 * g + 22 ≤ a → a + 5 < 71 + 58 * g + 58 → cd_S6 B a = cd_S6 A a := fun a z1 z2 => by
    unfold cd_S6
    rw [en _ (by omega) (by omega), en _ (by omega) (by omega), en _ (by omega) (by omega), en _ (by omega) (by omega), en _ (by omega) (by omega), en _ (by omega) (by omega)]
  unfold cd_OkG
  rw [en (71 + 58 * g) (by omega) (by omega), en 9 (by omega) (by omega), en 426 (by omega) (by omega), en (71 + 58 * g + 1) (by omega) (by omega), en (71 + 58 * g + 5) (by omega) (by omega), en (71 + 58 * g + 6) (by omega) (by omega), en (71 + 58 * g + 7) (by omega) (by omega), en (71 + 58 * g + 8) (by omega) (by omega), es (71 + 58 * g + 46) (by omega) (by omega), es (71 + 58 * g + 52) (by omega) (by omega)]
  refine ⟨⟨h0.of (e _ (by omega) (by omega)), h0'⟩, ⟨h1.of (e _ (by omega) (by omega)), h1'⟩, h2.of (e _ (by omega) (by omega)), h3.of (e _ (by omega) (by omega)), y1, ⟨h5.of (e _ (by omega) (by omega)), h5'⟩, ⟨h6.of (e _ (by omega) (by omega)), h6'⟩, ⟨h7.of (e _ (by omega) (by omega)), h7'⟩, ⟨h8.of (e _ (by omega) (by omega)), h8'⟩, y2, fun i hi => ?_, fun k hk => (h11 k hk).of (e _ (by omega) (by omega)), fun t ht => ⟨(h12 t ht).1.of (e _ (by omega) (by omega)), (h12 t ht).2.of (e _ (by omega) (by omega))⟩, h13, h14, fun i hi => ?_⟩
  · obtain ⟨w1, w2, -⟩ := h10 i hi
    exact ⟨w1.of (e _ (by omega) (by omega)), w2.of (e _ (by omega) (by omega)), y3 i hi⟩
  · rw [es _ (by omega) (by omega)]; exact h15 i hi
theorem cd_Ok.ja {A B : Nat → Int32} {τ : Nat} (h : cd_Ok A τ) (x : cd_Ja A B) : cd_Ok B τ := by
  obtain ⟨h0, ⟨h1, h1'⟩, h2, hT, hG, hGs, hQ, hS⟩ := h
  have gl := hG.2
  have e70 : cd_n B 70 = cd_n A 70 := x.n (by omega) (by omega)
  refine ⟨h0, ⟨h1.of (x.eq (by omega) (by omega)), by rw [x.n (by omega) (by omega)]; exact h1'⟩, fun k hk => (h2 k hk).of (x.eq (by omega) (by omega)), hT.on (fun k z1 z2 => x.eq (by omega) (by omega)), hG.of (x.eq (by omega) (by omega)), fun g hg => ?_, hQ.on (fun k z1 z2 => x.eq (by omega) (by omega)) (by omega) (fun g hg => x.eq (by omega) (by omega)), hS.on (fun k z1 z2 => x.eq (by omega) (by omega))⟩
  rw [e70] at hg
  exact x.okG hg (by omega) (hGs g hg)
