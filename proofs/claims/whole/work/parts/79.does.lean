-- ALL ORDERS
theorem cd_orders {P : cd_PS} (hO : ∀ k, k < P.1.1 → cd_Or P k) : ∀ m i τ A, i + m = P.1.1 → cd_Ok A τ → τ + 20 * m ≤ 500000 →
    (∃ A', cd_Ok A' (τ + 20 * m) ∧ (∀ fu h, m < fu → cd_St 4 A h → cd_XC P h → ∃ h', cd_lp f_X7_does_B31 fu (nI i, h) = some (.inr (nI P.1.1, h')) ∧ cd_St 4 A' h' ∧ cd_fr 1 60 h h') ∧
      ∀ fu h1, m < fu → (∀ k, k < 659 → cd_R h1 k = A k) → cd_XD P h1 → cd_g h1 404 14 = nI P.1.1 → ∃ h2, cd_lp f_X8_does_B44 fu (nI i, h1) = some (.inr (nI P.1.1, h2)) ∧ (∀ k, k < 659 → cd_R h2 k = A' k) ∧ cd_frR h1 h2) ∨
    (∃ q, q < P.1.1 ∧ (∀ fu h, m < fu → cd_St 4 A h → cd_XC P h → ∃ h', cd_lp f_X7_does_B31 fu (nI i, h) = cd_b (f_X1_undo 60 4 h') (fun o12 => some (.inl ((-1000) - nI q, o12))) ∧ cd_fr 1 60 h h') ∧
      ∀ fu h1, m < fu → (∀ k, k < 659 → cd_R h1 k = A k) → cd_XD P h1 → cd_g h1 404 14 = nI P.1.1 → ∃ h2, cd_lp f_X8_does_B44 fu (nI i, h1) = cd_b (f_X8_swapsAside h2) (fun o15 => some (.inl ((-1000) - nI q, o15))) ∧ cd_frR h1 h2) := by
  intro m
  induction m with
  | zero =>
    intro i τ A him hA hτ
    obtain rfl : i = P.1.1 := by omega
    have n40 : P.1.1 ≤ 40 := by
      by_cases z : P.1.1 = 0
      · omega
      · exact (hO 0 (by omega)).2.1
    refine Or.inl ⟨A, hA, fun fu h hf x xc => ⟨h, ?_, x, cd_fr.rf⟩, fun fu h1 hf hr xd e => ⟨h1, ?_, hr, cd_frR.rf⟩⟩
    · obtain ⟨fu, rfl⟩ : ∃ f, fu = f + 1 := ⟨fu - 1, by omega⟩
      show f_X7_does_B31 (cd_lp _ fu) (nI P.1.1, h) = _
      unfold f_X7_does_B31
      dsimp only
      rw [xc.1, if_pos (by rw [cd_le (by omega) (by omega)]; omega)]
    · obtain ⟨fu, rfl⟩ : ∃ f, fu = f + 1 := ⟨fu - 1, by omega⟩
      show f_X8_does_B44 (cd_lp _ fu) (nI P.1.1, h1) = _
      unfold f_X8_does_B44
      dsimp only
      rw [e, if_pos (by rw [cd_le (by omega) (by omega)]; omega)]
  | succ m ih =>
    intro i τ A him hA hτ
    have o := hO i (by omega)
    have n40 := o.2.1
    have cS : ∀ fu h, cd_XC P h → cd_lp f_X7_does_B31 (fu + 1) (nI i, h) = cd_b (f_X7_carryOut (nI i) h) (fun o7 => if (f_X7_isRefusal o7.1) = 0 then (cd_lp f_X7_does_B31 fu (nI (i + 1), o7.2)) else (cd_b (f_X1_undo 60 4 o7.2) (fun o12 => some (.inl ((((-1000)) - nI i, o12)))))) := fun fu h xc => by
      show f_X7_does_B31 (cd_lp f_X7_does_B31 fu) (nI i, h) = _
      have e : ∀ K, f_X7_does_B31 K (nI i, h) = if (cd_g h 398 1) ≤ nI i then (some (.inr (nI i, h))) else (cd_b (f_X7_carryOut (nI i) h) (fun o7 => if (f_X7_isRefusal o7.1) = 0 then (cd_nm (nI i + 1) (fun x11 => K (x11, o7.2))) else (cd_b (f_X1_undo 60 4 o7.2) (fun o12 => some (.inl ((((-1000)) - nI i, o12))))))) := fun K => rfl
      rw [e, xc.1, if_neg (by rw [cd_le (by omega) (by omega)]; omega), cd_addL]
      rfl
    have rS : ∀ fu h1, cd_g h1 404 14 = nI P.1.1 → cd_lp f_X8_does_B44 (fu + 1) (nI i, h1) = cd_b (f_X8_obeys (nI i) h1) (fun o11 => if o11.1 = 0 then (cd_b (f_X8_swapsAside o11.2) (fun o15 => some (.inl ((((-1000)) - nI i, o15))))) else (cd_lp f_X8_does_B44 fu (nI (i + 1), o11.2))) := fun fu h1 e14 => by
      show f_X8_does_B44 (cd_lp f_X8_does_B44 fu) (nI i, h1) = _
      have e : ∀ K, f_X8_does_B44 K (nI i, h1) = if (cd_g h1 404 14) ≤ nI i then (some (.inr (nI i, h1))) else (cd_b (f_X8_obeys (nI i) h1) (fun o11 => if o11.1 = 0 then (cd_b (f_X8_swapsAside o11.2) (fun o15 => some (.inl ((((-1000)) - nI i, o15))))) else (cd_nm (nI i + 1) (fun x14 => K (x14, o11.2))))) := fun K => rfl
      rw [e, e14, if_neg (by rw [cd_le (by omega) (by omega)]; omega), cd_addL]
      rfl
    rcases cd_od hA (by omega) o with ⟨A1, a1, a2, a3⟩ | ⟨a2, a3⟩
    · rcases ih (i + 1) (τ + 20) A1 (by omega) a1 (by omega) with ⟨A2, b1, b2, b3⟩ | ⟨q, q1, b2, b3⟩
      · refine Or.inl ⟨A2, by rw [show τ + 20 * (m + 1) = τ + 20 + 20 * m by omega]; exact b1, fun fu h hf x xc => ?_, fun fu h1 hf hr xd e => ?_⟩
        · obtain ⟨fu, rfl⟩ : ∃ f, fu = f + 1 := ⟨fu - 1, by omega⟩
          obtain ⟨r, h', e1, n1, s1, f1⟩ := a2 h x xc
          obtain ⟨h2, e2, s2, f2⟩ := b2 fu h' (by omega) s1 (xc.kept (fun a b w1 w2 => f1.1 _ _ (by omega)))
          refine ⟨h2, ?_, s2, f1.tr f2⟩
          rw [cS fu h xc, e1, cd_bS]
          dsimp only
          rw [cd_isRef n1, if_pos rfl]
          exact e2
        · obtain ⟨fu, rfl⟩ : ∃ f, fu = f + 1 := ⟨fu - 1, by omega⟩
          obtain ⟨h', e1, r1, f1⟩ := a3 h1 hr xd
          obtain ⟨h2, e2, r2, f2⟩ := b3 fu h' (by omega) r1 (xd.kept (fun a b w1 => f1 _ _ (by omega))) (by rw [f1 _ _ (by omega)]; exact e)
          refine ⟨h2, ?_, r2, f1.tr f2⟩
          rw [rS fu h1 e, e1, cd_bS]
          dsimp only
          rw [if_neg (show ¬ (1 : Int32) = 0 by decide)]
          exact e2
      · refine Or.inr ⟨q, q1, fun fu h hf x xc => ?_, fun fu h1 hf hr xd e => ?_⟩
        · obtain ⟨fu, rfl⟩ : ∃ f, fu = f + 1 := ⟨fu - 1, by omega⟩
          obtain ⟨r, h', e1, n1, s1, f1⟩ := a2 h x xc
          obtain ⟨h2, e2, f2⟩ := b2 fu h' (by omega) s1 (xc.kept (fun a b w1 w2 => f1.1 _ _ (by omega)))
          refine ⟨h2, ?_, f1.tr f2⟩
          rw [cS fu h xc, e1, cd_bS]
          dsimp only
          rw [cd_isRef n1, if_pos rfl]
          exact e2
        · obtain ⟨fu, rfl⟩ : ∃ f, fu = f + 1 := ⟨fu - 1, by omega⟩
          obtain ⟨h', e1, r1, f1⟩ := a3 h1 hr xd
          obtain ⟨h2, e2, f2⟩ := b3 fu h' (by omega) r1 (xd.kept (fun a b w1 => f1 _ _ (by omega))) (by rw [f1 _ _ (by omega)]; exact e)
          refine ⟨h2, ?_, f1.tr f2⟩
          rw [rS fu h1 e, e1, cd_bS]
          dsimp only
          rw [if_neg (show ¬ (1 : Int32) = 0 by decide)]
          exact e2
    · refine Or.inr ⟨i, by omega, fun fu h hf x xc => ?_, fun fu h1 hf hr xd e => ?_⟩
      · obtain ⟨fu, rfl⟩ : ∃ f, fu = f + 1 := ⟨fu - 1, by omega⟩
        obtain ⟨r, h', e1, n1, f1⟩ := a2 h x xc
        refine ⟨h', ?_, f1⟩
        rw [cS fu h xc, e1, cd_bS]
        dsimp only
        rw [n1, if_neg (show ¬ (1 : Int32) = 0 by decide)]
      · obtain ⟨fu, rfl⟩ : ∃ f, fu = f + 1 := ⟨fu - 1, by omega⟩
        obtain ⟨h', e1, f1⟩ := a3 h1 hr xd
        refine ⟨h', ?_, f1⟩
        rw [rS fu h1 e, e1, cd_bS]
        dsimp only
        rw [if_pos rfl]
theorem cd_call23 {n : Nat} {h : cd_Hp} (hI : cd_Inv n h) (hn : n < 512) : cd_q23 cd_Inv n h := by
  obtain ⟨s, nx, c, hs, tx⟩ := id hI
  obtain ⟨⟨L, t1, t2, t3, t4⟩, t5⟩ := id tx
  -- THE TEXT as numbers
  obtain ⟨X, hX, eX⟩ : ∃ X : Nat → Nat, (∀ i, X i < 128) ∧ ∀ i, i < L → cd_g h 409 i = nI (X i) := by
    refine ⟨fun i => if i < L then (cd_g h 409 i).toNatClampNeg else 0, fun i => ?_, fun i hi => ?_⟩
    · dsimp only
      by_cases z : i < L
      · obtain ⟨-, b, b1, b2⟩ := t4 i z
        rw [if_pos z, b2, cd_cl (by omega)]; omega
      · rw [if_neg z]; omega
    · obtain ⟨-, b, b1, b2⟩ := t4 i hi
      dsimp only
      rw [if_pos hi, b2, cd_cl (by omega)]
  have eC : ∀ i, i < L → cd_g h 399 i = nI (X i) := fun i hi => by rw [(t4 i hi).1]; exact eX i hi
  have xt : ∀ h1, (∀ x k, 404 ≤ x → cd_g h1 x k = cd_g h x k) → cd_XT X L h1 := fun h1 e => ⟨by rw [e _ _ (by omega)]; exact t3, fun i hi => by rw [e _ _ (by omega)]; exact eX i hi⟩
  unfold cd_q23 f_X7_does
  rcases cd_readC hX t1 t2 eC with ⟨f, h', q1, q2, q3⟩ | ⟨P, h', q1, q2, q3, q4, q5, q6⟩
  · -- a fault
    have f120 : f ≤ 120 := by rcases q1 with ⟨z, -⟩ | ⟨z, -⟩ <;> omega
    rw [q2, cd_bS]
    dsimp only
    rw [if_neg (cd_neg1 (by omega))]
    unfold f_X8_does
    rcases cd_readR hX t1 (xt h' (fun x k w => q3 _ _ (by omega))) with ⟨f2, h2, p1, p2, p3, p4⟩ | ⟨P, h2, p1, p2, p3, -⟩
    · obtain rfl := cd_Fa_eq q1 p1
      refine ⟨_, h', h2, rfl, ?_, ?_⟩
      · rw [p2, cd_bS]
        dsimp only
        rw [if_pos rfl, p3]
      · refine hI.kept (by omega) (by omega) (fun x k w => ?_) (tx.kept (by omega) (fun x k w => ?_))
        · rw [p4 _ _ (by omega), q3 _ _ (by omega)]
        · rw [p4 _ _ (by omega), q3 _ _ (by omega)]
    · exact absurd (cd_Fa_no q1 p1 p2 p3) id
  · -- all is read
    have hw := cd_xr_wf hX L P q1
    have hO : ∀ k, k < P.1.1 → cd_Or P k := fun k hk => hw.ord t1 q2 hk
    have n40 : P.1.1 ≤ 40 := (hO 0 (by omega)).2.1
    rw [q4, cd_bS]
    dsimp only
    rw [if_pos rfl]
    have c' : cd_Cl (cd_R h) (cd_PR h) s nx (800 * n) h' := c.kept (fun x k w1 w2 => q6 _ _ (by omega))
    obtain ⟨k1, e1, c1, s1, f1⟩ := cd_held c'
    rw [e1, cd_bS]
    have xc1 : cd_XC P k1 := q5.kept (fun a b w1 w2 => f1.1 _ _ (by omega))
    have l1 : ∀ x k, 403 ≤ x → cd_g k1 x k = cd_g h x k := fun x k w => by rw [f1.1 _ _ (by omega), q6 _ _ (by omega)]
    have lt : ∀ x k, ((x = 398 ∧ k = 0) ∨ x = 399) → cd_g k1 x k = cd_g h x k := fun x k w => by rw [f1.1 _ _ (by omega), q6 _ _ (by omega)]
    have hAO := c1.2.1.1
    have hSt := c1.2.1.2
    -- how the reference begins
    have rBeg : ∀ h1, (∀ x k, 403 ≤ x → cd_g h1 x k = cd_g h x k) → ∃ h2 o, f_X8_isRead h1 = some (1, h2) ∧ cd_lp f_X8_does_B17 cd_fu (0, h2) = some o ∧ (∀ k, k < 659 → cd_R o.2 k = cd_R h k) ∧ (∀ k, k < 659 → cd_g o.2 406 k = cd_R h k) ∧ cd_XD P o.2 ∧ cd_g o.2 404 14 = nI P.1.1 ∧ ∀ x k, (x < 404 ∨ (x = 404 ∧ k < 14) ∨ (407 ≤ x ∧ x ≤ 409)) → cd_g o.2 x k = cd_g h1 x k := fun h1 e => by
      rcases cd_readR hX t1 (xt h1 (fun x k w => e _ _ (by omega))) with ⟨f2, h2, p1, p2, p3, p4⟩ | ⟨P2, h2, p1, p2, p3, p4, p5, p6⟩
      · exact absurd (cd_Fa_no p1 q1 q2 q3) id
      · rw [q1] at p1
        obtain rfl := Option.some.inj p1
        obtain ⟨o, eo, o1, o2, -⟩ := cd_aside (h := h2)
        obtain ⟨x1, x2, x3, x4, x5⟩ := p5
        have r0 : ∀ k, k < 659 → cd_g h2 405 k = cd_R h k := fun k _ => by rw [p6 _ _ (by omega), e _ _ (by omega)]
        refine ⟨h2, o, p4, eo, fun k hk => ?_, fun k hk => by rw [o1 k hk]; exact r0 k hk, ⟨fun k hk => ?_, fun k hk => ?_, fun k hk j hj => ?_⟩, by rw [o2 _ _ (by omega)]; exact x2, fun x k w => by rw [o2 _ _ (by omega), p6 _ _ (by omega)]⟩
        · show cd_g o.2 405 k = _
          rw [o2 _ _ (by omega)]; exact r0 k hk
        · rw [o2 _ _ (by omega)]; exact x3 k (Or.inl hk)
        · rw [o2 _ _ (by omega)]; exact x4 k hk
        · rw [o2 _ _ (by omega)]; exact x5 k (Or.inl hk) j hj
    rcases cd_orders hO P.1.1 0 (800 * n) (cd_R h) (by omega) hAO (by omega) with ⟨A', a1, a2, a3⟩ | ⟨q, qn, a2, a3⟩
    · -- all are done
      obtain ⟨k2, e2, s2, f2⟩ := a2 cd_fu k1 (by unfold cd_fu; omega) hSt xc1
      have e2' : cd_lp f_X7_does_B31 cd_fu (0, k1) = some (.inr (nI P.1.1, k2)) := e2
      have hA' : cd_Ok A' (800 * (n + 1)) := a1.mono (by omega) (by omega)
      obtain ⟨k3, e3, c3, f3⟩ := cd_kept c1 s1 f2 hA' s2 (by omega)
      rw [e2', cd_b2R]
      dsimp only
      rw [e3, cd_nmE2]
      have l3 : ∀ x k, 403 ≤ x → cd_g k3 x k = cd_g h x k := fun x k w => by rw [f3.1 _ _ (by omega), f2.1 _ _ (by omega)]; exact l1 x k w
      have n3 : cd_g k3 398 1 = nI P.1.1 := by rw [f3.1 _ _ (by omega), f2.1 _ _ (by omega)]; exact xc1.1
      rw [n3]
      obtain ⟨h2, o, r1, r2, r3, r4, r5, r6, r7⟩ := rBeg k3 l3
      obtain ⟨h5, e5, r8, f5⟩ := a3 cd_fu o.2 (by unfold cd_fu; omega) r3 r5 r6
      have e5' : cd_lp f_X8_does_B44 cd_fu (0, o.2) = some (.inr (nI P.1.1, h5)) := e5
      obtain ⟨h6, e6, w1, w2, -⟩ := cd_swap (h := h5)
      have hs6 : cd_g h6 404 3 = nI s := by rw [w2 _ _ (by omega) (by omega), f5 _ _ (by omega), r7 _ _ (by omega), l3 _ _ (by omega)]; exact hs
      obtain ⟨h7, e7, m1, m2, m3, m4, -⟩ := cd_remembers hs6 c.1.2.2.1
      obtain ⟨h8, e8, u1, u2, -⟩ := cd_swap (h := h7)
      have down : ∀ x k, (x < 404 ∨ x = 408 ∨ x = 409 ∨ (x = 404 ∧ k < 14 ∧ k ≠ 3 ∧ k ≠ 9)) → cd_g h8 x k = cd_g k3 x k := fun x k w => by
        rw [u2 _ _ (by omega) (by omega), m4 _ _ (by omega) (by omega), w2 _ _ (by omega) (by omega), f5 _ _ (by omega), r7 _ _ (by omega)]
      have e14 : cd_g h8 404 14 = nI P.1.1 := by
        rw [u2 _ _ (by omega) (by omega), m4 _ _ (by omega) (by omega), w2 _ _ (by omega) (by omega), f5 _ _ (by omega)]; exact r6
      have hR8 : ∀ k, k < 659 → cd_R h8 k = A' k := fun k hk => by
        show cd_g h8 405 k = _
        rw [(u1 k hk).1, m4 _ _ (by omega) (by omega), (w1 k hk).2]
        exact r8 k hk
      have hR6 : ∀ k, k < 659 → cd_R h6 k = cd_R h k := fun k hk => by
        show cd_g h6 405 k = _
        rw [(w1 k hk).1, f5 _ _ (by omega)]
        exact r4 k hk
      refine ⟨nI P.1.1, k3, h8, rfl, ?_, min (s + 1) 5, (nx + 1) % 6, ?_, ?_, ?_⟩
      · unfold f_X8_does
        rw [r1, cd_bS]
        dsimp only
        rw [if_neg (show ¬ (1 : Int32) = 0 by decide), r2, cd_bS, e5', cd_b2R]
        dsimp only
        rw [e6, cd_bS, e7, cd_bS, e8, cd_bS, e14]
      · have c5 : cd_Cl A' (cd_P1 (cd_R h) (cd_PR h) s) (min (s + 1) 5) ((nx + 1) % 6) (800 * (n + 1)) h8 := c3.kept (fun x k w1 w2 => down _ _ (by omega))
        refine c5.row hR8 (fun i k hi hk => ?_)
        have hs5 := c.1.2.2.1
        have ep : cd_PR h8 i k = cd_PR h7 i k := u2 _ _ (by omega) (by omega)
        rw [ep]
        unfold cd_P1
        by_cases hi2 : i + 1 < min (s + 1) 5
        · rw [if_pos hi2, m2 i k hi2 hk]
          show cd_g h6 407 _ = cd_g h 407 _
          rw [w2 _ _ (by omega) (by omega), f5 _ _ (by omega), r7 _ _ (by omega), l3 _ _ (by omega)]
        · rw [if_neg hi2]
          obtain rfl : i = min (s + 1) 5 - 1 := by omega
          rw [m3 k hk]
          exact hR6 k hk
      · rw [u2 _ _ (by omega) (by omega)]; exact m1
      · refine tx.kept (by omega) (fun x k w => ?_)
        rw [down _ _ (by omega)]
        by_cases z : 403 ≤ x
        · exact l3 x k z
        · rw [f3.1 _ _ (by omega), f2.1 _ _ (by omega)]; exact lt x k (by omega)
    · -- one is refused
      obtain ⟨k2, e2, f2⟩ := a2 cd_fu k1 (by unfold cd_fu; omega) hSt xc1
      have e2' : cd_lp f_X7_does_B31 cd_fu (0, k1) = cd_b (f_X1_undo 60 4 k2) (fun o12 => some (.inl ((-1000) - nI q, o12))) := e2
      obtain ⟨⟨d1, d2, d3, d4⟩, ⟨d5, d6⟩, d7⟩ := id c1
      obtain ⟨k3, e3, s3, f3⟩ := cd_undo (h := k2) (by rw [f2.1 _ _ (by omega)]; exact d2) d4 d5 (s1.kept d5.2.2.2.2.1.2 (fun y k w1 w2 => f2.1 _ _ (by omega)))
      have hi : ∀ x k, 60 ≤ x → cd_g k3 x k = cd_g k1 x k := fun x k w => by rw [f3.1 _ _ (by omega), f2.1 _ _ (by omega)]
      have c3 : cd_Cl (cd_R h) (cd_PR h) s nx (800 * n) k3 := ⟨⟨by rw [hi _ _ (by omega)]; exact d1, by rw [hi _ _ (by omega)]; exact d2, d3, d4⟩, ⟨d5, s3⟩, fun i hi2 => ⟨(d7 i hi2).1, (d7 i hi2).2.kept (d7 i hi2).1.2.2.2.2.1.2 (fun y k w1 w2 => hi _ _ (by omega))⟩⟩
      rw [e2', e3, cd_bS, cd_b2L]
      have l3 : ∀ x k, 403 ≤ x → cd_g k3 x k = cd_g h x k := fun x k w => by rw [hi _ _ (by omega)]; exact l1 x k w
      obtain ⟨h2, o, r1, r2, r3, r4, r5, r6, r7⟩ := rBeg k3 l3
      obtain ⟨h5, e5, f5⟩ := a3 cd_fu o.2 (by unfold cd_fu; omega) r3 r5 r6
      have e5' : cd_lp f_X8_does_B44 cd_fu (0, o.2) = cd_b (f_X8_swapsAside h5) (fun o15 => some (.inl ((-1000) - nI q, o15))) := e5
      obtain ⟨h6, e6, w1, w2, -⟩ := cd_swap (h := h5)
      have down : ∀ x k, (x < 404 ∨ x = 407 ∨ x = 408 ∨ x = 409 ∨ (x = 404 ∧ k < 14 ∧ k ≠ 9)) → cd_g h6 x k = cd_g k3 x k := fun x k w => by
        rw [w2 _ _ (by omega) (by omega), f5 _ _ (by omega), r7 _ _ (by omega)]
      refine ⟨_, k3, h6, rfl, ?_, s, nx, ?_, ?_, ?_⟩
      · unfold f_X8_does
        rw [r1, cd_bS]
        dsimp only
        rw [if_neg (show ¬ (1 : Int32) = 0 by decide), r2, cd_bS, e5', e6, cd_bS, cd_b2L]
      · have c5 : cd_Cl (cd_R h) (cd_PR h) s nx (800 * (n + 1)) h6 := (c3.mono (by omega) (by omega)).kept (fun x k w1 w2 => down _ _ (by omega))
        refine c5.row (fun k hk => ?_) (fun i k hi2 hk => ?_)
        · show cd_g h6 405 k = _
          rw [(w1 k hk).1, f5 _ _ (by omega)]
          exact r4 k hk
        · show cd_g h6 407 _ = cd_g h 407 _
          rw [down _ _ (by omega), l3 _ _ (by omega)]
      · rw [down _ _ (by omega), l3 _ _ (by omega)]; exact hs
      · refine tx.kept (by omega) (fun x k w => ?_)
        rw [down _ _ (by omega)]
        by_cases z : 403 ≤ x
        · exact l3 x k z
        · rw [hi _ _ (by omega)]; exact lt x k (by omega)
