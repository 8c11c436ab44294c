-- DIGEST
def cd_it (s : Nat → Int64 → Int64) : Nat → Int64 → Int64
  | 0, x => x
  | n + 1, x => s n (cd_it s n x)
theorem cd_loopC {F : ((Int64 × Int32) → Option (Int64 × Int32)) → (Int64 × Int32) → Option (Int64 × Int32)} {N : Nat} (s : Nat → Int64 → Int64) (x : Int64) (hN : N ≤ 3000) (hs : ∀ i y K, i < N → F K (y, nI i) = K (s i y, nI (i + 1))) (he : ∀ y K, F K (y, nI N) = some (y, nI N)) : cd_lp F cd_fu (x, 0) = some (cd_it s N x, nI N) := by
  have : ∃ o, cd_lp F cd_fu (x, 0) = some o ∧ o = (cd_it s N x, nI N) := by
    refine cd_for N (fun i (st : Int64 × Int32) => st = (cd_it s i x, nI i)) _ ?_ cd_fu 0 (x, 0) (Nat.zero_le _) (by unfold cd_fu; omega) rfl
    rintro i st K hi rfl
    rcases Nat.lt_or_ge i N with hlt | hge
    · exact Or.inl ⟨hlt, _, rfl, hs i _ K hlt⟩
    · obtain rfl : i = N := by omega
      exact Or.inr ⟨_, he _ K, rfl⟩
  obtain ⟨o, eo, rfl⟩ := this
  exact eo
theorem cd_loopR {F : ((Int32 × cd_Hp) → Option (Int32 × cd_Hp)) → (Int32 × cd_Hp) → Option (Int32 × cd_Hp)} {N : Nat} {h : cd_Hp} (s : Nat → Int64 → Int64) (x : Int64) (hN : N ≤ 3000) (hs : ∀ i y K, i < N → F K (nI i, cd_ul h y) = K (nI (i + 1), cd_ul h (s i y))) (he : ∀ y K, F K (nI N, cd_ul h y) = some (nI N, cd_ul h y)) : cd_lp F cd_fu (0, cd_ul h x) = some (nI N, cd_ul h (cd_it s N x)) := by
  have : ∃ o, cd_lp F cd_fu (0, cd_ul h x) = some o ∧ o = (nI N, cd_ul h (cd_it s N x)) := by
    refine cd_for N (fun i (st : Int32 × cd_Hp) => st = (nI i, cd_ul h (cd_it s i x))) _ ?_ cd_fu 0 (0, cd_ul h x) (Nat.zero_le _) (by unfold cd_fu; omega) rfl
    rintro i st K hi rfl
    rcases Nat.lt_or_ge i N with hlt | hge
    · exact Or.inl ⟨hlt, _, rfl, hs i _ K hlt⟩
    · obtain rfl : i = N := by omega
      exact Or.inr ⟨_, he _ K, rfl⟩
  obtain ⟨o, eo, rfl⟩ := this
  exact eo
theorem cd_it_congr {s s' : Nat → Int64 → Int64} : ∀ n x, (∀ i y, i < n → s i y = s' i y) → cd_it s n x = cd_it s' n x := by
  intro n
  induction n with
  | zero => intro x _; rfl
  | succ n ih => intro x h; show s n _ = s' n _; rw [ih x (fun i y hi => h i y (by omega)), h n _ (by omega)]
theorem cd_ulul {h : cd_Hp} {x y : Int64} : cd_ul (cd_ul h x) y = cd_ul h y := rfl
theorem cd_mixU {h : cd_Hp} {x y : Int64} : f_X8_mix y (cd_ul h x) = cd_ul h (31 * x + y) := rfl
abbrev cd_mx (v : Nat → Int32) : Nat → Int64 → Int64 := fun i x => 31 * x + Int32.toInt64 (v i)
section DG
variable {τ : Nat} {A : Nat → Int32} {h : cd_Hp}
theorem cd_rU (hr : ∀ k, k < 659 → cd_R h k = A k) {x : Int64} : ∀ k, k < 659 → cd_R (cd_ul h x) k = A k := hr
-- a task
theorem cd_mixTask (x : cd_St 4 A h) (hA : cd_Ok A τ) (hr : ∀ k, k < 659 → cd_R h k = A k) {t : Nat} (ht : t < cd_n A 9) (y : Int64) : ∃ z, f_X7_mixedTask y (nI t) h = some z ∧ cd_b (cd_lp (f_X8_digest_B96 (nI t)) cd_fu (0, cd_ul h y)) (fun o29 => cd_b (cd_lp (f_X8_digest_B120 (nI t)) cd_fu (0, o29.2)) (fun o36 => some o36.2)) = some (cd_ul h z) := by
  have h9 := hA.2.2.2.1.1.1.2
  have f1 : ∀ w, w < 3 → f_X4_taskFact 4 (nI t) (nI w) h = some ((f_X4_taskFact 4 (nI t) (nI w) h).getD 0) ∧ ∀ z, f_X8_aboutTask (nI t) (nI w) (cd_ul h z) = some ((f_X4_taskFact 4 (nI t) (nI w) h).getD 0) := fun w hw => by
    obtain ⟨r, -, r2, r3⟩ := cd_taskFact x hA ht (w := w) (by omega)
    rw [r2]; exact ⟨rfl, fun z => r3 _ (cd_rU hr)⟩
  have l1 : cd_lp (f_X7_mixedTask_B6 y (nI t) h) cd_fu (y, 0) = some _ := cd_loopC (N := 3) (cd_mx (fun w => (f_X4_taskFact 4 (nI t) (nI w) h).getD 0)) y (by omega) (fun i x K hi => by
    unfold f_X7_mixedTask_B6
    dsimp only
    rw [if_neg (by rw [cd_ltR (by omega) (by omega)]; omega), (f1 i hi).1, cd_bS, cd_nmE2, cd_nmE2, cd_addL]; rfl) (fun x K => by
    unfold f_X7_mixedTask_B6
    dsimp only
    rw [if_pos (by decide)])
  have r1 : cd_lp (f_X8_digest_B96 (nI t)) cd_fu (0, cd_ul h y) = some _ := cd_loopR (N := 3) (h := h) (cd_mx (fun w => (f_X4_taskFact 4 (nI t) (nI w) h).getD 0)) y (by omega) (fun i x K hi => by
    unfold f_X8_digest_B96
    dsimp only
    rw [if_neg (by rw [cd_leR (by omega) (by omega)]; omega), (f1 i hi).2, cd_bS, cd_nmE2, cd_nmE2, cd_addL, cd_mixU]) (fun x K => by
    unfold f_X8_digest_B96
    dsimp only
    rw [if_pos (by decide)])
  generalize cd_it (cd_mx (fun w => (f_X4_taskFact 4 (nI t) (nI w) h).getD 0)) 3 y = y2 at l1 r1
  have l2 : cd_lp (f_X7_mixedTask_B38 y (nI t) h) cd_fu (y2, 0) = some _ := cd_loopC (N := 8) (cd_mx (fun k => A (12 + 10 * t + k))) y2 (by omega) (fun i z K hi => by
    unfold f_X7_mixedTask_B38
    dsimp only
    rw [if_neg (by rw [cd_leR (by omega) (by omega)]; omega), cd_rateOf5 (by omega) hi, cd_bS, x.2.2.1.2.2 t i (by omega) hi, cd_nmE2, cd_nmE2, cd_addL]; rfl) (fun x K => by
    unfold f_X7_mixedTask_B38
    dsimp only
    rw [if_pos (by decide)])
  have r2 : cd_lp (f_X8_digest_B120 (nI t)) cd_fu (0, cd_ul h y2) = some _ := cd_loopR (N := 8) (h := h) (cd_mx (fun k => A (12 + 10 * t + k))) y2 (by omega) (fun i z K hi => by
    unfold f_X8_digest_B120
    dsimp only
    have e : cd_g (cd_ul h z) 405 (10 + 10 * t + 2 + i) = A (12 + 10 * t + i) := by rw [show 10 + 10 * t + 2 + i = 12 + 10 * t + i by omega]; exact hr _ (by omega)
    rw [if_neg (by rw [cd_leR (by omega) (by omega)]; omega), cd_rateOf8 (by omega) hi, cd_bS, e, cd_nmE2, cd_nmE2, cd_addL, cd_mixU]) (fun x K => by
    unfold f_X8_digest_B120
    dsimp only
    rw [if_pos (by decide)])
  generalize cd_it (cd_mx (fun k => A (12 + 10 * t + k))) 8 y2 = y3 at l2 r2
  refine ⟨y3, ?_, ?_⟩
  · unfold f_X7_mixedTask
    rw [l1, cd_bS]
    dsimp only
    rw [l2, cd_bS]
  · rw [r1, cd_bS]
    dsimp only
    rw [r2, cd_bS]
-- an event
theorem cd_mixEvent (x : cd_St 4 A h) (hA : cd_Ok A τ) (hr : ∀ k, k < 659 → cd_R h k = A k) {g e : Nat} (hg : g < cd_n A 70) (he : e < cd_n A (71 + 58 * g + 5)) (y : Int64) : ∃ z, f_X7_mixedEvent y (nI g) (nI e) h = some z ∧ cd_b (cd_lp (f_X8_mixGroup_B39 (nI g) (nI e)) cd_fu (0, cd_ul h y)) (fun o17 => cd_b (cd_lp (f_X8_mixGroup_B69 (nI g) (nI e)) cd_fu (0, o17.2)) (fun o24 => cd_b (f_X8_scaledOf (nI g) (nI e) 0 o24.2) (fun o25 => cd_nm (f_X8_mix (Int32.toInt64 o25) o24.2) (fun o27 => cd_b (f_X8_scaledOf (nI g) (nI e) 1 o27) (fun o29 => cd_nm (f_X8_mix (Int32.toInt64 o29) o27) (fun o31 => some o31)))))) = some (cd_ul h z) := by
  have h6 := hA.2.2.2.2.1.2
  have hT := hA.2.2.2.1
  have h9 := hT.1.1.2
  have h54 := (hA.2.2.2.2.2.1 g hg).2.2.2.2.2.1.1.2
  have l1 : cd_lp (f_X7_mixedEvent_B6 y (nI g) (nI e) h) cd_fu (y, 0) = some _ := cd_loopC (N := 3) (cd_mx (fun w => A (71 + 58 * g + 10 + 3 * e + w))) y (by omega) (fun i z K hi => by
    unfold f_X7_mixedEvent_B6
    dsimp only
    rw [if_neg (by rw [cd_ltR (by omega) (by omega)]; omega), (cd_eventFact x hA hg he (w := i) (by omega)).2, cd_bS, cd_nmE2, cd_nmE2, cd_addL]; rfl) (fun x K => by
    unfold f_X7_mixedEvent_B6
    dsimp only
    rw [if_pos (by decide)])
  have r1 : cd_lp (f_X8_mixGroup_B39 (nI g) (nI e)) cd_fu (0, cd_ul h y) = some _ := cd_loopR (N := 3) (h := h) (cd_mx (fun w => A (71 + 58 * g + 10 + 3 * e + w))) y (by omega) (fun i z K hi => by
    unfold f_X8_mixGroup_B39
    dsimp only
    have ee : cd_g (cd_ul h z) 405 (71 + 58 * g + 10 + 3 * e + i) = A (71 + 58 * g + 10 + 3 * e + i) := hr _ (by omega)
    rw [if_neg (by rw [cd_leR (by omega) (by omega)]; omega), cd_eventAt, nI_add, cd_ckI (by omega) (by omega), cd_cl (by omega), ee, cd_nmE2, cd_nmE2, cd_addL, cd_mixU]) (fun x K => by
    unfold f_X8_mixGroup_B39
    dsimp only
    rw [if_pos (by decide)])
  generalize cd_it (cd_mx (fun w => A (71 + 58 * g + 10 + 3 * e + w))) 3 y = y2 at l1 r1
  have l2 : cd_lp (f_X7_mixedEvent_B40 y (nI g) (nI e) h) cd_fu (y2, 0) = some _ := cd_loopC (N := cd_n A 9) (cd_mx (fun t => A (71 + 58 * g + 22 + 6 * e + t))) y2 (by omega) (fun i z K hi => by
    unfold f_X7_mixedEvent_B40
    dsimp only
    have e9 : cd_g h (4 + 2) 0 = nI (cd_n A 9) := by rw [x.2.2.1.1]; exact hT.1.1.1
    have k7 : f_X5_has (4 + 2) (nI i) h = 1 := by rw [cd_has5 x hT, if_pos ⟨i, hi, rfl⟩]
    obtain ⟨t1, -, -⟩ := cd_one x hA hg (e := e) (t := i) (by omega) (by omega)
    have ec : f_X4_countFact 4 (nI g) (nI e) (nI i) h = some (A (71 + 58 * g + 22 + 6 * e + i)) := by
      unfold f_X4_countFact
      rw [(cd_hasEv4 x hA).1 (cd_evOk' hg he), cd_bS, if_neg (by decide), if_neg (cd_neg1 (by omega)), k7, if_neg (by decide), cd_ckI (by omega) (by omega), cd_cl (by omega), t1, cd_bS]
    rw [e9, if_neg (by rw [cd_le (by omega) (by omega)]; omega), ec, cd_bS, cd_nmE2, cd_nmE2, cd_addL]; rfl) (fun z K => by
    unfold f_X7_mixedEvent_B40
    dsimp only
    have e9 : cd_g h (4 + 2) 0 = nI (cd_n A 9) := by rw [x.2.2.1.1]; exact hT.1.1.1
    rw [e9, if_pos (by rw [cd_le (by omega) (by omega)]; omega)])
  have r2 : cd_lp (f_X8_mixGroup_B69 (nI g) (nI e)) cd_fu (0, cd_ul h y2) = some _ := cd_loopR (N := cd_n A 9) (h := h) (cd_mx (fun t => A (71 + 58 * g + 22 + 6 * e + t))) y2 (by omega) (fun i z K hi => by
    unfold f_X8_mixGroup_B69
    dsimp only
    have e9 : cd_g (cd_ul h z) 405 9 = nI (cd_n A 9) := (hr 9 (by omega)).trans hT.1.1.1
    have ee : cd_g (cd_ul h z) 405 (71 + 58 * g + 22 + 6 * e + i) = A (71 + 58 * g + 22 + 6 * e + i) := hr _ (by omega)
    rw [cd_c9, e9, if_neg (by rw [cd_le (by omega) (by omega)]; omega), cd_countAt, cd_ckI (by omega) (by omega), cd_cl (by omega), ee, cd_nmE2, cd_nmE2, cd_addL, cd_mixU]) (fun z K => by
    unfold f_X8_mixGroup_B69
    dsimp only
    have e9 : cd_g (cd_ul h z) 405 9 = nI (cd_n A 9) := (hr 9 (by omega)).trans hT.1.1.1
    rw [cd_c9, e9, if_pos (by rw [cd_le (by omega) (by omega)]; omega)])
  generalize cd_it (cd_mx (fun t => A (71 + 58 * g + 22 + 6 * e + t))) (cd_n A 9) y2 = y3 at l2 r2
  obtain ⟨s0, -, p0, q0⟩ := cd_scaledFact x hA hg he (w := 0) (by omega)
  obtain ⟨s1, -, p1, q1⟩ := cd_scaledFact x hA hg he (w := 1) (by omega)
  have p0' : f_X4_scaledFact 4 (nI g) (nI e) 0 h = some s0 := p0
  have p1' : f_X4_scaledFact 4 (nI g) (nI e) 1 h = some s1 := p1
  have q0' : ∀ z, f_X8_scaledOf (nI g) (nI e) 0 (cd_ul h z) = some s0 := fun z => q0 _ (cd_rU hr)
  have q1' : ∀ z, f_X8_scaledOf (nI g) (nI e) 1 (cd_ul h z) = some s1 := fun z => q1 _ (cd_rU hr)
  refine ⟨31 * (31 * y3 + Int32.toInt64 s0) + Int32.toInt64 s1, ?_, ?_⟩
  · unfold f_X7_mixedEvent
    rw [l1, cd_bS]
    dsimp only
    rw [l2, cd_bS, p0', cd_bS, cd_nmE2, p1', cd_bS]
    rfl
  · rw [r1, cd_bS]
    dsimp only
    rw [r2, cd_bS]
    dsimp only
    rw [q0', cd_bS, cd_nmE2, cd_mixU, q1', cd_bS, cd_nmE2, cd_mixU]
-- a group
theorem cd_mixGroup (x : cd_St 4 A h) (hA : cd_Ok A τ) (hr : ∀ k, k < 659 → cd_R h k = A k) {g : Nat} (hg : g < cd_n A 70) (y : Int64) : ∃ z, f_X7_mixedGroup y (nI g) h = some z ∧ f_X8_mixGroup (nI g) (cd_ul h y) = some (cd_ul h z) := by
  have h6 := hA.2.2.2.2.1.2
  have hT := hA.2.2.2.1
  have h9 := hT.1.1.2
  have h5 := (hA.2.2.2.2.2.1 g hg).2.2.2.2.2.1.1
  have h54 := h5.2
  have f1 : ∀ w, w < 11 → f_X4_groupFact 4 (nI g) (nI w) h = some ((f_X4_groupFact 4 (nI g) (nI w) h).getD 0) ∧ ∀ z, f_X8_aboutGroup (nI g) (nI w) (cd_ul h z) = some ((f_X4_groupFact 4 (nI g) (nI w) h).getD 0) := fun w hw => by
    obtain ⟨r, -, r2, r3⟩ := cd_groupFact x hA hg (w := w) (by omega)
    rw [r2]; exact ⟨rfl, fun z => r3 _ (cd_rU hr)⟩
  have l1 : cd_lp (f_X7_mixedGroup_B6 y (nI g) h) cd_fu (y, 0) = some _ := cd_loopC (N := 11) (cd_mx (fun w => (f_X4_groupFact 4 (nI g) (nI w) h).getD 0)) y (by omega) (fun i x K hi => by
    unfold f_X7_mixedGroup_B6
    dsimp only
    rw [if_neg (by rw [cd_ltR (by omega) (by omega)]; omega), (f1 i hi).1, cd_bS, cd_nmE2, cd_nmE2, cd_addL]; rfl) (fun x K => by
    unfold f_X7_mixedGroup_B6
    dsimp only
    rw [if_pos (by decide)])
  have r1 : cd_lp (f_X8_mixGroup_B2 (nI g)) cd_fu (0, cd_ul h y) = some _ := cd_loopR (N := 11) (h := h) (cd_mx (fun w => (f_X4_groupFact 4 (nI g) (nI w) h).getD 0)) y (by omega) (fun i x K hi => by
    unfold f_X8_mixGroup_B2
    dsimp only
    rw [if_neg (by rw [cd_ltR (by omega) (by omega)]; omega), (f1 i hi).2, cd_bS, cd_nmE2, cd_nmE2, cd_addL, cd_mixU]) (fun x K => by
    unfold f_X8_mixGroup_B2
    dsimp only
    rw [if_pos (by decide)])
  generalize cd_it (cd_mx (fun w => (f_X4_groupFact 4 (nI g) (nI w) h).getD 0)) 11 y = y2 at l1 r1
  have f2 : ∀ i z, i < cd_n A (71 + 58 * g + 5) → f_X7_mixedEvent z (nI g) (nI i) h = some ((f_X7_mixedEvent z (nI g) (nI i) h).getD 0) ∧ cd_b (cd_lp (f_X8_mixGroup_B39 (nI g) (nI i)) cd_fu (0, cd_ul h z)) (fun o17 => cd_b (cd_lp (f_X8_mixGroup_B69 (nI g) (nI i)) cd_fu (0, o17.2)) (fun o24 => cd_b (f_X8_scaledOf (nI g) (nI i) 0 o24.2) (fun o25 => cd_nm (f_X8_mix (Int32.toInt64 o25) o24.2) (fun o27 => cd_b (f_X8_scaledOf (nI g) (nI i) 1 o27) (fun o29 => cd_nm (f_X8_mix (Int32.toInt64 o29) o27) (fun o31 => some o31)))))) = some (cd_ul h ((f_X7_mixedEvent z (nI g) (nI i) h).getD 0)) := fun i z hi => by
    obtain ⟨r, r2, r3⟩ := cd_mixEvent x hA hr hg hi z
    rw [r2]; exact ⟨rfl, r3⟩
  have l2 : cd_lp (f_X7_mixedGroup_B39 y (nI g) h) cd_fu (y2, 0) = some _ := cd_loopC (N := cd_n A (71 + 58 * g + 5)) (fun i z => (f_X7_mixedEvent z (nI g) (nI i) h).getD 0) y2 (by omega) (fun i z K hi => by
    unfold f_X7_mixedGroup_B39
    dsimp only
    have e6 : cd_g h (4 + 6 + 8 + 7 * g) 6 = nI (cd_n A (71 + 58 * g + 5)) := by rw [(x.2.2.2.1 g hg).1.2.2.2.2.2.2.1]; exact h5.1
    rw [cd_ckI (by omega) (by omega), cd_cl (by omega), e6, if_neg (by rw [cd_le (by omega) (by omega)]; omega), (f2 i z hi).1, cd_bS, cd_nmE2, cd_addL]; rfl) (fun z K => by
    unfold f_X7_mixedGroup_B39
    dsimp only
    have e6 : cd_g h (4 + 6 + 8 + 7 * g) 6 = nI (cd_n A (71 + 58 * g + 5)) := by rw [(x.2.2.2.1 g hg).1.2.2.2.2.2.2.1]; exact h5.1
    rw [cd_ckI (by omega) (by omega), cd_cl (by omega), e6, if_pos (by rw [cd_le (by omega) (by omega)]; omega)])
  have r2 : cd_lp (f_X8_mixGroup_B27 (nI g)) cd_fu (0, cd_ul h y2) = some _ := cd_loopR (N := cd_n A (71 + 58 * g + 5)) (h := h) (fun i z => (f_X7_mixedEvent z (nI g) (nI i) h).getD 0) y2 (by omega) (fun i z K hi => by
    unfold f_X8_mixGroup_B27
    dsimp only
    have e5 := cd_ofG (A := A) (h1 := cd_ul h z) (cd_rU hr) (g := g) (w := 5) (by omega) (by omega)
    rw [show (5 : Int32) = nI 5 from rfl, e5, cd_bS, h5.1, if_neg (by rw [cd_le (by omega) (by omega)]; omega)]
    have q := (f2 i z hi).2
    revert q
    rcases cd_lp (f_X8_mixGroup_B39 (nI g) (nI i)) cd_fu (0, cd_ul h z) with _ | o1
    · intro q; have q2 : (none : Option cd_Hp) = some _ := q; exact nomatch q2
    simp only [cd_bS]
    rcases cd_lp (f_X8_mixGroup_B69 (nI g) (nI i)) cd_fu (0, o1.2) with _ | o2
    · intro q; have q2 : (none : Option cd_Hp) = some _ := q; exact nomatch q2
    simp only [cd_bS]
    rcases f_X8_scaledOf (nI g) (nI i) 0 o2.2 with _ | o3
    · intro q; have q2 : (none : Option cd_Hp) = some _ := q; exact nomatch q2
    simp only [cd_bS, cd_nmE2]
    rcases f_X8_scaledOf (nI g) (nI i) 1 (f_X8_mix (Int32.toInt64 o3) o2.2) with _ | o4
    · intro q; have q2 : (none : Option cd_Hp) = some _ := q; exact nomatch q2
    simp only [cd_bS, cd_nmE2, cd_addL]
    intro q
    rw [Option.some.inj q]) (fun z K => by
    unfold f_X8_mixGroup_B27
    dsimp only
    have e5 := cd_ofG (A := A) (h1 := cd_ul h z) (cd_rU hr) (g := g) (w := 5) (by omega) (by omega)
    rw [show (5 : Int32) = nI 5 from rfl, e5, cd_bS, h5.1, if_pos (by rw [cd_le (by omega) (by omega)]; omega)])
  generalize cd_it (fun i z => (f_X7_mixedEvent z (nI g) (nI i) h).getD 0) (cd_n A (71 + 58 * g + 5)) y2 = y3 at l2 r2
  have l3 : cd_lp (f_X7_mixedGroup_B76 y (nI g) h) cd_fu (y3, 0) = some _ := cd_loopC (N := cd_n A 9) (fun t z => 31 * (31 * z + Int32.toInt64 (A (71 + 58 * g + 46 + t))) + Int32.toInt64 (A (71 + 58 * g + 52 + t))) y3 (by omega) (fun i z K hi => by
    unfold f_X7_mixedGroup_B76
    dsimp only
    have e9 : cd_g h (4 + 2) 0 = nI (cd_n A 9) := by rw [x.2.2.1.1]; exact hT.1.1.1
    have t0 : f_X4_timeFact 4 (nI g) (nI i) 0 h = some (A (71 + 58 * g + 46 + i)) := cd_timeFact x hA hg hi (w := 0) (by omega)
    have t1 : f_X4_timeFact 4 (nI g) (nI i) 1 h = some (A (71 + 58 * g + 52 + i)) := cd_timeFact x hA hg hi (w := 1) (by omega)
    rw [e9, if_neg (by rw [cd_le (by omega) (by omega)]; omega), t0, cd_bS, cd_nmE2, t1, cd_bS, cd_nmE2, cd_nmE2, cd_addL]; rfl) (fun z K => by
    unfold f_X7_mixedGroup_B76
    dsimp only
    have e9 : cd_g h (4 + 2) 0 = nI (cd_n A 9) := by rw [x.2.2.1.1]; exact hT.1.1.1
    rw [e9, if_pos (by rw [cd_le (by omega) (by omega)]; omega)])
  have r3 : cd_lp (f_X8_mixGroup_B134 (nI g)) cd_fu (0, cd_ul h y3) = some _ := cd_loopR (N := cd_n A 9) (h := h) (fun t z => 31 * (31 * z + Int32.toInt64 (A (71 + 58 * g + 46 + t))) + Int32.toInt64 (A (71 + 58 * g + 52 + t))) y3 (by omega) (fun i z K hi => by
    unfold f_X8_mixGroup_B134
    dsimp only
    have e9 : cd_g (cd_ul h z) 405 9 = nI (cd_n A 9) := (hr 9 (by omega)).trans hT.1.1.1
    have t0 : ∀ z, f_X8_ofGroup (nI g) (46 + nI i) (cd_ul h z) = some (A (71 + 58 * g + 46 + i)) := fun z => by
      rw [cd_addR, cd_ofG (A := A) (cd_rU hr) (by omega) (by omega)]; exact congrArg some (congrArg A (by omega))
    have t1 : ∀ z, f_X8_ofGroup (nI g) (52 + nI i) (cd_ul h z) = some (A (71 + 58 * g + 52 + i)) := fun z => by
      rw [cd_addR, cd_ofG (A := A) (cd_rU hr) (by omega) (by omega)]; exact congrArg some (congrArg A (by omega))
    rw [cd_c9, e9, if_neg (by rw [cd_le (by omega) (by omega)]; omega), t0, cd_bS, cd_nmE2, cd_mixU, t1, cd_bS, cd_nmE2, cd_nmE2, cd_addL, cd_mixU]) (fun z K => by
    unfold f_X8_mixGroup_B134
    dsimp only
    have e9 : cd_g (cd_ul h z) 405 9 = nI (cd_n A 9) := (hr 9 (by omega)).trans hT.1.1.1
    rw [cd_c9, e9, if_pos (by rw [cd_le (by omega) (by omega)]; omega)])
  generalize cd_it (fun t z => 31 * (31 * z + Int32.toInt64 (A (71 + 58 * g + 46 + t))) + Int32.toInt64 (A (71 + 58 * g + 52 + t))) (cd_n A 9) y3 = y4 at l3 r3
  refine ⟨y4, ?_, ?_⟩
  · unfold f_X7_mixedGroup
    rw [l1, cd_bS]
    dsimp only
    rw [l2, cd_bS]
    dsimp only
    rw [l3, cd_bS]
  · unfold f_X8_mixGroup
    rw [r1, cd_bS]
    dsimp only
    rw [r2, cd_bS]
    dsimp only
    rw [r3, cd_bS]
end DG
theorem cd_it_s {s : Nat → Int64 → Int64} {n : Nat} {x : Int64} : cd_it s (n + 1) x = s n (cd_it s n x) := rfl
theorem cd_it_0 {s : Nat → Int64 → Int64} {x : Int64} : cd_it s 0 x = x := rfl
theorem cd_it3 {s : Nat → Int64 → Int64} {x : Int64} : cd_it s 3 x = s 2 (s 1 (s 0 x)) := by
  rw [show 3 = 0 + 1 + 1 + 1 from rfl, cd_it_s, cd_it_s, cd_it_s, cd_it_0]
theorem cd_mxs {f : Nat → Int32} {a w : Nat} {x : Int64} : cd_mx (fun w => f (a + w)) w x = cd_mx f (a + w) x := rfl
theorem cd_flat {f : Nat → Int32} : ∀ k x, cd_it (fun i z => cd_it (cd_mx (fun w => f (3 * i + w))) 3 z) k x = cd_it (cd_mx f) (3 * k) x := by
  intro k
  induction k with
  | zero => intro x; rw [Nat.mul_zero, cd_it_0, cd_it_0]
  | succ k ih =>
    intro x
    have e1 : cd_it (cd_mx f) (3 * (k + 1)) x = cd_mx f (3 * k + 2) (cd_mx f (3 * k + 1) (cd_mx f (3 * k + 0) (cd_it (cd_mx f) (3 * k) x))) := by
      rw [show 3 * (k + 1) = 3 * k + 1 + 1 + 1 by omega, cd_it_s, cd_it_s, cd_it_s]
      rfl
    rw [e1, cd_it_s, ih x]
    generalize cd_it (cd_mx f) (3 * k) x = y
    generalize 3 * k = a
    exact cd_it3
theorem cd_call26 {n : Nat} {h : cd_Hp} (hI : cd_Inv n h) (hn : n < 512) : cd_q26 cd_Inv n h := by
  have hI2 := hI
  obtain ⟨s, nx, c, hs, t⟩ := hI2
  obtain ⟨-, ⟨hO, x⟩, -⟩ := c
  have hr : ∀ k, k < 659 → cd_R h k = cd_R h k := fun _ _ => rfl
  have hT := hO.2.2.2.1
  have h9 := hT.1.1.2
  have hG := hO.2.2.2.2.1
  have h6 := hG.2
  have hk := hO.2.2.2.2.2.2.2.2.2.2.1.1
  have hk2 := hk.2
  -- refused
  have f1 : ∀ w, w < 5 → f_X7_refusedFact (nI w) h = some ((f_X7_refusedFact (nI w) h).getD 0) ∧ ∀ z, f_X8_refusedOf (nI w) (cd_ul h z) = some ((f_X7_refusedFact (nI w) h).getD 0) := fun w hw => by
    obtain ⟨r, -, r2, r3⟩ := cd_refFact hI (by omega) (w := w) (by omega)
    rw [r2]; exact ⟨rfl, fun z => r3 _ (fun _ _ => rfl)⟩
  have l1 : cd_lp (f_X7_digest_B6 h) cd_fu (2707, 0) = some _ := cd_loopC (N := 5) (cd_mx (fun w => (f_X7_refusedFact (nI w) h).getD 0)) 2707 (by omega) (fun i x K hi => by
    unfold f_X7_digest_B6
    dsimp only
    rw [if_neg (by rw [cd_ltR (by omega) (by omega)]; omega), (f1 i hi).1, cd_bS, cd_nmE2, cd_nmE2, cd_addL]; rfl) (fun x K => by
    unfold f_X7_digest_B6
    dsimp only
    rw [if_pos (by decide)])
  have r1 : cd_lp (f_X8_digest_B9) cd_fu (0, cd_ul h 2707) = some _ := cd_loopR (N := 5) (h := h) (cd_mx (fun w => (f_X7_refusedFact (nI w) h).getD 0)) 2707 (by omega) (fun i x K hi => by
    unfold f_X8_digest_B9
    dsimp only
    rw [if_neg (by rw [cd_leR (by omega) (by omega)]; omega), (f1 i hi).2, cd_bS, cd_nmE2, cd_nmE2, cd_addL, cd_mixU]) (fun x K => by
    unfold f_X8_digest_B9
    dsimp only
    rw [if_pos (by decide)])
  generalize cd_it (cd_mx (fun w => (f_X7_refusedFact (nI w) h).getD 0)) 5 2707 = y1 at l1 r1
  -- told
  have f2 : ∀ w, w < 9 → f_X4_wholeFact 4 (nI w) h = some ((f_X4_wholeFact 4 (nI w) h).getD 0) ∧ ∀ z, f_X8_toldOf (nI w) (cd_ul h z) = some ((f_X4_wholeFact 4 (nI w) h).getD 0) := fun w hw => by
    obtain ⟨r, -, r2, r3⟩ := cd_wholeFact x hO (w := w) (by omega)
    rw [r2]; exact ⟨rfl, fun z => r3 _ (cd_rU hr)⟩
  have l2 : cd_lp (f_X7_digest_B29 h) cd_fu (y1, 0) = some _ := cd_loopC (N := 9) (cd_mx (fun w => (f_X4_wholeFact 4 (nI w) h).getD 0)) y1 (by omega) (fun i x K hi => by
    unfold f_X7_digest_B29
    dsimp only
    rw [if_neg (by rw [cd_ltR (by omega) (by omega)]; omega), (f2 i hi).1, cd_bS, cd_nmE2, cd_nmE2, cd_addL]; rfl) (fun x K => by
    unfold f_X7_digest_B29
    dsimp only
    rw [if_pos (by decide)])
  have r2 : cd_lp (f_X8_digest_B32) cd_fu (0, cd_ul h y1) = some _ := cd_loopR (N := 9) (h := h) (cd_mx (fun w => (f_X4_wholeFact 4 (nI w) h).getD 0)) y1 (by omega) (fun i x K hi => by
    unfold f_X8_digest_B32
    dsimp only
    rw [if_neg (by rw [cd_leR (by omega) (by omega)]; omega), (f2 i hi).2, cd_bS, cd_nmE2, cd_nmE2, cd_addL, cd_mixU]) (fun x K => by
    unfold f_X8_digest_B32
    dsimp only
    rw [if_pos (by decide)])
  generalize cd_it (cd_mx (fun w => (f_X4_wholeFact 4 (nI w) h).getD 0)) 9 y1 = y2 at l2 r2
  -- masks
  have l3 : cd_lp (f_X7_digest_B56 h) cd_fu (y2, 0) = some _ := cd_loopC (N := 8) (cd_mx (fun k => cd_R h (1 + k))) y2 (by omega) (fun i z K hi => by
    unfold f_X7_digest_B56
    dsimp only
    rw [if_neg (by rw [cd_leR (by omega) (by omega)]; omega), cd_ckI (by omega) (by omega), cd_cl (by omega), x.2.1 i hi, cd_nmE2, cd_nmE2, cd_addL]; rfl) (fun x K => by
    unfold f_X7_digest_B56
    dsimp only
    rw [if_pos (by decide)])
  have r3 : cd_lp (f_X8_digest_B56) cd_fu (0, cd_ul h y2) = some _ := cd_loopR (N := 8) (h := h) (cd_mx (fun k => cd_R h (1 + k))) y2 (by omega) (fun i z K hi => by
    unfold f_X8_digest_B56
    dsimp only
    rw [if_neg (by rw [cd_leR (by omega) (by omega)]; omega), cd_addR, cd_ckI (by omega) (by omega), cd_cl (by omega), cd_nmE2, cd_nmE2, cd_addL, cd_mixU, cd_gul]) (fun x K => by
    unfold f_X8_digest_B56
    dsimp only
    rw [if_pos (by decide)])
  generalize cd_it (cd_mx (fun k => cd_R h (1 + k))) 8 y2 = y3 at l3 r3
  -- tasks
  have f4 : ∀ i z, i < cd_n (cd_R h) 9 → f_X7_mixedTask z (nI i) h = some ((f_X7_mixedTask z (nI i) h).getD 0) ∧ cd_b (cd_lp (f_X8_digest_B96 (nI i)) cd_fu (0, cd_ul h z)) (fun o29 => cd_b (cd_lp (f_X8_digest_B120 (nI i)) cd_fu (0, o29.2)) (fun o36 => some o36.2)) = some (cd_ul h ((f_X7_mixedTask z (nI i) h).getD 0)) := fun i z hi => by
    obtain ⟨r, r2, r3⟩ := cd_mixTask x hO hr hi z
    rw [r2]; exact ⟨rfl, r3⟩
  have e9 : cd_g h (4 + 2) 0 = nI (cd_n (cd_R h) 9) := by rw [x.2.2.1.1]; exact hT.1.1.1
  have e9' : ∀ z, cd_g (cd_ul h z) 405 9 = nI (cd_n (cd_R h) 9) := fun z => hT.1.1.1
  have l4 : cd_lp (f_X7_digest_B84 h) cd_fu (y3, 0) = some _ := cd_loopC (N := cd_n (cd_R h) 9) (fun i z => (f_X7_mixedTask z (nI i) h).getD 0) y3 (by omega) (fun i z K hi => by
    unfold f_X7_digest_B84
    dsimp only
    rw [e9, if_neg (by rw [cd_le (by omega) (by omega)]; omega), (f4 i z hi).1, cd_bS, cd_nmE2, cd_addL]; rfl) (fun z K => by
    unfold f_X7_digest_B84
    dsimp only
    rw [e9, if_pos (by rw [cd_le (by omega) (by omega)]; omega)])
  have r4 : cd_lp (f_X8_digest_B83) cd_fu (0, cd_ul h y3) = some _ := cd_loopR (N := cd_n (cd_R h) 9) (h := h) (fun i z => (f_X7_mixedTask z (nI i) h).getD 0) y3 (by omega) (fun i z K hi => by
    unfold f_X8_digest_B83
    dsimp only
    rw [cd_c9, e9', if_neg (by rw [cd_le (by omega) (by omega)]; omega)]
    have q := (f4 i z hi).2
    revert q
    rcases cd_lp (f_X8_digest_B96 (nI i)) cd_fu (0, cd_ul h z) with _ | o1
    · intro q; have q2 : (none : Option cd_Hp) = some _ := q; exact nomatch q2
    simp only [cd_bS]
    rcases cd_lp (f_X8_digest_B120 (nI i)) cd_fu (0, o1.2) with _ | o2
    · intro q; have q2 : (none : Option cd_Hp) = some _ := q; exact nomatch q2
    simp only [cd_bS, cd_nmE2, cd_addL]
    intro q
    rw [Option.some.inj q]) (fun z K => by
    unfold f_X8_digest_B83
    dsimp only
    rw [cd_c9, e9', if_pos (by rw [cd_le (by omega) (by omega)]; omega)])
  generalize cd_it (fun i z => (f_X7_mixedTask z (nI i) h).getD 0) (cd_n (cd_R h) 9) y3 = y4 at l4 r4
  -- groups
  have f5 : ∀ i z, i < cd_n (cd_R h) 70 → f_X7_mixedGroup z (nI i) h = some ((f_X7_mixedGroup z (nI i) h).getD 0) ∧ f_X8_mixGroup (nI i) (cd_ul h z) = some (cd_ul h ((f_X7_mixedGroup z (nI i) h).getD 0)) := fun i z hi => by
    obtain ⟨r, r2, r3⟩ := cd_mixGroup x hO hr hi z
    rw [r2]; exact ⟨rfl, r3⟩
  have e3 : cd_g h 4 3 = nI (cd_n (cd_R h) 70) := by rw [x.1.2.2.2.1]; exact hG.1
  have e3' : ∀ z, cd_g (cd_ul h z) 405 70 = nI (cd_n (cd_R h) 70) := fun z => hG.1
  have l5 : cd_lp (f_X7_digest_B113 h) cd_fu (y4, 0) = some _ := cd_loopC (N := cd_n (cd_R h) 70) (fun i z => (f_X7_mixedGroup z (nI i) h).getD 0) y4 (by omega) (fun i z K hi => by
    unfold f_X7_digest_B113
    dsimp only
    rw [e3, if_neg (by rw [cd_le (by omega) (by omega)]; omega), (f5 i z hi).1, cd_bS, cd_nmE2, cd_addL]; rfl) (fun z K => by
    unfold f_X7_digest_B113
    dsimp only
    rw [e3, if_pos (by rw [cd_le (by omega) (by omega)]; omega)])
  have r5 : cd_lp (f_X8_digest_B151) cd_fu (0, cd_ul h y4) = some _ := cd_loopR (N := cd_n (cd_R h) 70) (h := h) (fun i z => (f_X7_mixedGroup z (nI i) h).getD 0) y4 (by omega) (fun i z K hi => by
    unfold f_X8_digest_B151
    dsimp only
    rw [cd_c70, e3', if_neg (by rw [cd_le (by omega) (by omega)]; omega), (f5 i z hi).2, cd_bS, cd_nmE2, cd_addL]) (fun z K => by
    unfold f_X8_digest_B151
    dsimp only
    rw [cd_c70, e3', if_pos (by rw [cd_le (by omega) (by omega)]; omega)])
  generalize cd_it (fun i z => (f_X7_mixedGroup z (nI i) h).getD 0) (cd_n (cd_R h) 70) y4 = y5 at l5 r5
  -- samples
  have e1k : cd_g h (4 + 8) 1 = nI (cd_n (cd_R h) 429) := by rw [x.2.2.2.2.2.1.2.1]; exact hk.1
  have e8k : ∀ z, cd_g (cd_ul h z) 405 429 = nI (cd_n (cd_R h) 429) := fun z => hk.1
  have l6 : cd_lp (f_X7_digest_B139 h) cd_fu (y5, 0) = some _ := cd_loopC (N := cd_n (cd_R h) 429) (fun i z => cd_it (cd_mx (fun w => cd_R h (430 + (3 * i + w)))) 3 z) y5 (by omega) (fun i z K hi => by
    have l7 : cd_lp (f_X7_digest_B156 (nI i) h) cd_fu (z, 0) = some _ := cd_loopC (N := 3) (cd_mx (fun w => cd_R h (430 + (3 * i + w)))) z (by omega) (fun w u K hw => by
      unfold f_X7_digest_B156
      dsimp only
      rw [if_neg (by rw [cd_ltR (by omega) (by omega)]; omega), cd_keptFact x hO hi (w := w) (by omega), cd_bS, cd_nmE2, cd_nmE2, cd_addL, show 430 + 3 * i + w = 430 + (3 * i + w) by omega]; rfl) (fun u K => by
      unfold f_X7_digest_B156
      dsimp only
      rw [if_pos (by decide)])
    unfold f_X7_digest_B139
    dsimp only
    rw [e1k, if_neg (by rw [cd_le (by omega) (by omega)]; omega), l7, cd_bS, cd_nmE2, cd_addL]) (fun z K => by
    unfold f_X7_digest_B139
    dsimp only
    rw [e1k, if_pos (by rw [cd_le (by omega) (by omega)]; omega)])
  have r6 : cd_lp (f_X8_digest_B175) cd_fu (0, cd_ul h y5) = some _ := cd_loopR (N := 3 * cd_n (cd_R h) 429) (h := h) (cd_mx (fun j => cd_R h (430 + j))) y5 (by omega) (fun i z K hi => by
    unfold f_X8_digest_B175
    dsimp only
    rw [show Int32.toNatClampNeg 429 = 429 by decide, e8k, cd_mulR, if_neg (by rw [cd_le (by omega) (by omega)]; omega), cd_addR, cd_ckI (by omega) (by omega), cd_cl (by omega), cd_nmE2, cd_nmE2, cd_addL, cd_mixU, cd_gul]) (fun z K => by
    unfold f_X8_digest_B175
    dsimp only
    rw [show Int32.toNatClampNeg 429 = 429 by decide, e8k, cd_mulR, if_pos (by rw [cd_le (by omega) (by omega)]; omega)])
  rw [cd_flat (f := fun j => cd_R h (430 + j))] at l6
  generalize cd_it (cd_mx (fun j => cd_R h (430 + j))) (3 * cd_n (cd_R h) 429) y5 = y6 at l6 r6
  refine ⟨y6, cd_ul h y6, ?_, ?_, ?_⟩
  · unfold f_X7_digest
    rw [l1, cd_bS]
    dsimp only
    rw [l2, cd_bS]
    dsimp only
    rw [l3, cd_bS]
    dsimp only
    rw [l4, cd_bS]
    dsimp only
    rw [l5, cd_bS]
    dsimp only
    rw [l6, cd_bS]
  · unfold f_X8_digest
    rw [cd_nmE2, r1, cd_bS]
    dsimp only
    rw [r2, cd_bS]
    dsimp only
    rw [r3, cd_bS]
    dsimp only
    rw [r4, cd_bS]
    dsimp only
    rw [r5, cd_bS]
    dsimp only
    rw [r6, cd_bS]
    rfl
  · exact (hI.mono hn).kept (by omega) (by omega) (fun _ _ _ => rfl) (t.kept (by omega) (fun _ _ _ => rfl))
