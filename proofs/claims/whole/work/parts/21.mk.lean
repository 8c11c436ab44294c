-- CONSTRUCTORS, their contracts (written by wip/whole/genmk.py)
theorem cd_of_all : ∀ q, q < 416 → cd_tb[q]? = some (4, 0) → ∀ i, i < 56 → cd_of (q + i) = i ∧ q + i ≠ 405 := by decide +kernel
theorem cd_of_0 : ∀ q, q < 416 → cd_tb[q]? = some (0, 0) → ∀ i, i < 7 → 13 < cd_of (q + i) ∧ q + i ≠ 405 := by decide +kernel
theorem cd_of_5 : ∀ q, q < 416 → cd_tb[q]? = some (5, 0) → ∀ i, i < 4 → cd_of (q + i) = i + 2 ∧ q + i ≠ 405 := by decide +kernel
theorem cd_of_2 : ∀ q, q < 416 → cd_tb[q]? = some (2, 0) → ∀ i, i < 6 → cd_of (q + i) = i + 8 ∧ q + i ≠ 405 := by decide +kernel
theorem cd_h0_z {q k : Nat} (h1 : 3 < cd_of q) (h2 : q ≠ 405) : cd_g cd_h0 q k = 0 := by
  unfold cd_g cd_h0
  simp only [if_neg h2]
  generalize cd_of q = o at h1
  match o, h1 with
  | o + 4, _ => rfl
theorem cd_h0_1 {q k : Nat} (h1 : cd_of q = 0) (h2 : q ≠ 405) : cd_g cd_h0 q k = if k = 0 then 2 else if k = 1 then 1 else 0 := by
  unfold cd_g cd_h0
  simp only [if_neg h2, h1]
theorem cd_h0_2 {q k : Nat} (h1 : cd_of q = 1) (h2 : q ≠ 405) : cd_g cd_h0 q k = if k < 8 then 15 else 0 := by
  unfold cd_g cd_h0
  simp only [if_neg h2, h1]
theorem cd_h0_3 {q k : Nat} (h1 : cd_of q = 2) (h2 : q ≠ 405) : cd_g cd_h0 q k = if k = 0 then 1 else 0 := by
  unfold cd_g cd_h0
  simp only [if_neg h2, h1]
theorem cd_h0_4 {q k : Nat} (h1 : cd_of q = 3) (h2 : q ≠ 405) : cd_g cd_h0 q k = if k = 0 then -1 else 0 := by
  unfold cd_g cd_h0
  simp only [if_neg h2, h1]
theorem cd_e0_ar {G : cd_G} {n q : Nat} (h : cd_ar n q) : cd_e0 G q = .inl (G.2.1, n, .inl (fun i => cd_g cd_h0 q i)) := cd_e0_at h
/-- a row of zeros -/
theorem cd_e0_z {G : cd_G} {n q : Nat} (h : cd_ar n q) (h1 : 3 < cd_of q) (h2 : q ≠ 405) : cd_e0 G q = .inl (G.2.1, n, .inl (fun _ => 0)) := by
  rw [cd_e0_ar h]
  congr 3
  exact congrArg Sum.inl (funext fun i => cd_h0_z h1 h2)
theorem cd_is_g {q : Nat} (h : cd_is 4 q) (g : Nat) (hg : g < 6) : cd_is 0 (q + (14 + 7 * g)) := (by decide +kernel : ∀ q, q < 416 → cd_tb[q]? = some (4, 0) → ∀ g, g < 6 → cd_tb[q + (14 + 7 * g)]? = some (0, 0)) q h.lt h g hg
theorem cd_is_p (k : Nat) (hk : k < 6) : cd_is 4 (62 + 56 * k) := (by decide +kernel : ∀ k, k < 6 → cd_tb[62 + 56 * k]? = some (4, 0)) k hk
theorem cd_is_4 : cd_is 4 4 := (by decide +kernel : cd_tb[4]? = some (4, 0))
theorem cd_u5 (i : Nat) : upd (fun _ => 0) (Int32.toNatClampNeg (0)) (-1) i = if i = 0 then -1 else 0 := by
  by_cases h : i = 0
  · rcases h with rfl <;> decide
  · rw [pk_un (by have z : Int32.toNatClampNeg (0) = 0 := (by decide); omega)]
    rw [if_neg (by omega)]
theorem cd_u4 (i : Nat) : upd (upd (upd (upd (upd (upd (upd (upd (fun _ => 0) (Int32.toNatClampNeg (0)) 15) (Int32.toNatClampNeg (1)) 15) (Int32.toNatClampNeg (2)) 15) (Int32.toNatClampNeg (3)) 15) (Int32.toNatClampNeg (4)) 15) (Int32.toNatClampNeg (5)) 15) (Int32.toNatClampNeg (6)) 15) (Int32.toNatClampNeg (7)) 15 i = if i < 8 then 15 else 0 := by
  by_cases h : i = 0 ∨ i = 1 ∨ i = 2 ∨ i = 3 ∨ i = 4 ∨ i = 5 ∨ i = 6 ∨ i = 7
  · rcases h with rfl | rfl | rfl | rfl | rfl | rfl | rfl | rfl <;> decide
  · rw [pk_un (by have z : Int32.toNatClampNeg (7) = 7 := (by decide); omega), pk_un (by have z : Int32.toNatClampNeg (6) = 6 := (by decide); omega), pk_un (by have z : Int32.toNatClampNeg (5) = 5 := (by decide); omega), pk_un (by have z : Int32.toNatClampNeg (4) = 4 := (by decide); omega), pk_un (by have z : Int32.toNatClampNeg (3) = 3 := (by decide); omega), pk_un (by have z : Int32.toNatClampNeg (2) = 2 := (by decide); omega), pk_un (by have z : Int32.toNatClampNeg (1) = 1 := (by decide); omega), pk_un (by have z : Int32.toNatClampNeg (0) = 0 := (by decide); omega)]
    rw [if_neg (by omega)]
theorem cd_u8 (i : Nat) : upd (upd (upd (upd (upd (upd (upd (upd (upd (upd (upd (upd (fun _ => 0) (Int32.toNatClampNeg (0)) 2) (Int32.toNatClampNeg (1 + 0)) 15) (Int32.toNatClampNeg (1 + 1)) 15) (Int32.toNatClampNeg (1 + 2)) 15) (Int32.toNatClampNeg (1 + 3)) 15) (Int32.toNatClampNeg (1 + 4)) 15) (Int32.toNatClampNeg (1 + 5)) 15) (Int32.toNatClampNeg (1 + 6)) 15) (Int32.toNatClampNeg (1 + 7)) 15) (Int32.toNatClampNeg (9)) 1) (Int32.toNatClampNeg (10)) (-1)) (Int32.toNatClampNeg (427)) 1 i = if i = 0 then (2 : Int32) else if i < 9 then 15 else if i = 9 then 1 else if i = 10 then -1 else if i = 427 then 1 else 0 := by
  by_cases h : i = 0 ∨ i = 1 ∨ i = 2 ∨ i = 3 ∨ i = 4 ∨ i = 5 ∨ i = 6 ∨ i = 7 ∨ i = 8 ∨ i = 9 ∨ i = 10 ∨ i = 427
  · rcases h with rfl | rfl | rfl | rfl | rfl | rfl | rfl | rfl | rfl | rfl | rfl | rfl <;> decide
  · rw [pk_un (by have z : Int32.toNatClampNeg (427) = 427 := (by decide); omega), pk_un (by have z : Int32.toNatClampNeg (10) = 10 := (by decide); omega), pk_un (by have z : Int32.toNatClampNeg (9) = 9 := (by decide); omega), pk_un (by have z : Int32.toNatClampNeg (1 + 7) = 8 := (by decide); omega), pk_un (by have z : Int32.toNatClampNeg (1 + 6) = 7 := (by decide); omega), pk_un (by have z : Int32.toNatClampNeg (1 + 5) = 6 := (by decide); omega), pk_un (by have z : Int32.toNatClampNeg (1 + 4) = 5 := (by decide); omega), pk_un (by have z : Int32.toNatClampNeg (1 + 3) = 4 := (by decide); omega), pk_un (by have z : Int32.toNatClampNeg (1 + 2) = 3 := (by decide); omega), pk_un (by have z : Int32.toNatClampNeg (1 + 1) = 2 := (by decide); omega), pk_un (by have z : Int32.toNatClampNeg (1 + 0) = 1 := (by decide); omega), pk_un (by have z : Int32.toNatClampNeg (0) = 0 := (by decide); omega)]
    rw [if_neg (by omega), if_neg (by omega), if_neg (by omega), if_neg (by omega), if_neg (by omega)]
theorem cd_w3_0 {G : cd_G} : (.inr (3, [.int 0, .int 0, .ref (G.2.2.2.2 + 2), .ref (G.2.2.2.2 + 3)]) : va_E) = cd_e0 G (1) := by
  rw [cd_e0_at (kn := (3, 0)) (by decide +kernel)]
  show _ = Sum.inr (3, cd_fs3 G.2.2.2.2 cd_h0 1)
  rfl
theorem cd_w3_1 {G : cd_G} : (.inl (G.2.1, 4, .inl (fun _ => 0)) : va_E) = cd_e0 G (2) := by
  exact (cd_e0_z (show cd_ar 4 2 from (by decide +kernel : cd_tb[2]? = some (11, 4))) (by decide) (by decide)).symm
theorem cd_w3_2 {G : cd_G} : (.inl (G.2.1, 4, .inl (fun _ => 0)) : va_E) = cd_e0 G (3) := by
  exact (cd_e0_z (show cd_ar 4 3 from (by decide +kernel : cd_tb[3]? = some (11, 4))) (by decide) (by decide)).symm
abbrev rk_X3 : Room := { frames := 1, cells := 2, slots := 8, locals := 12 }
set_option maxHeartbeats 4000000 in
set_option maxRecDepth 100000 in
theorem c_X3_init (l : Launch) (G : cd_G) (f : Nat → va_E) (hf : f 1 = .inr (3, [.int 0, .int 0, .null, .null])) : cd_Mk l G yX3_init (Cond.code yX3_init cX3_init 1 none :: cd_T) rk_X3 [.ref (G.2.2.2.2 + 1)] 1 3 2 8 f := by
  refine cd_kin (by decide) rfl (Nat.le_of_ble_eq_true rfl) ?_
  intro p e s m args below meth c Q ls H locs S hK hin2 hC hl hret
  have hl : lv_has ls 1 [(0, .ref (G.2.2.2.2 + 1))] := hl
  have hC : cd_C G 2 f s.heap H locs := hC
  have P0 : ∀ k, k < 1 → f k = f k := fun k _ => rfl
  refine lv_aload_n S.1 S.2.1 dX3_init_0 rfl (lv_at hl 0 rfl) ?_
  refine cd_kinit S hl.1 cd_m_X3_3 (Nat.le_of_ble_eq_true rfl) (Nat.le_of_ble_eq_true rfl) dX3_init_1 ?_
  refine lv_aload_n S.1 S.2.1 dX3_init_4 rfl (lv_at hl 0 rfl) ?_
  refine lv_iconst (v := 4) S.1 S.2.1 dX3_init_5 (by decide) ?_
  obtain ⟨f1, ef1⟩ : ∃ z, z = va_up f (2) (.inl (G.2.1, 4, .inl (fun _ => 0))) := ⟨_, rfl⟩
  refine cd_knewa (n := 2) S hK hC (by decide) (N' := 4) (by decide) (Nat.le_of_ble_eq_true rfl) ef1 (Nat.le_of_ble_eq_true rfl) (Nat.le_of_ble_eq_true rfl) dX3_init_6 (fun H hC => ?_)
  have v0_f1 := (congrFun ef1 (1)).trans ((va_up_ne _ _ (by decide)).trans hf)
  have v1_f1 : f1 (2) = .inl (G.2.1, 4, .inl (fun _ => 0)) := (congrFun ef1 (2)).trans (if_pos rfl)
  have Pf1 : ∀ k, k < 1 → f1 k = f k := fun k z => (congrFun ef1 k).trans ((va_up_ne _ _ (by omega)).trans (P0 k z))
  have hC : cd_C G (3) f1 s.heap H locs := hC
  obtain ⟨f2, ef2⟩ : ∃ z, z = va_up f1 (1) (.inr (3, [.int 0, .int 0, .ref (G.2.2.2.2 + 2), .null])) := ⟨_, rfl⟩
  refine cd_kputF (q := 1) (n := 3) (ci := 3) (C := RX3) (T := TX3) (N := 4) S hK hin2 hC rfl cd_x3 tyX3 tyX3_ok nmX3 (fs := [.int 0, .int 0, .null, .null]) (by decide) v0_f1 2 (by decide) cd_f_X3_9 rfl rfl rfl rfl (Nat.le_of_ble_eq_true rfl) ef2 dX3_init_8 (fun H locs hC => ?_)
  have v1_f2 := (congrFun ef2 (2)).trans ((va_up_ne _ _ (by decide)).trans v1_f1)
  have v0_f2 : f2 (1) = .inr (3, [.int 0, .int 0, .ref (G.2.2.2.2 + 2), .null]) := (congrFun ef2 (1)).trans (if_pos rfl)
  have Pf2 : ∀ k, k < 1 → f2 k = f k := fun k z => (congrFun ef2 k).trans ((va_up_ne _ _ (by omega)).trans (Pf1 k z))
  refine lv_aload_n S.1 S.2.1 dX3_init_11 rfl (lv_at hl 0 rfl) ?_
  refine lv_iconst (v := 4) S.1 S.2.1 dX3_init_12 (by decide) ?_
  obtain ⟨f3, ef3⟩ : ∃ z, z = va_up f2 (3) (.inl (G.2.1, 4, .inl (fun _ => 0))) := ⟨_, rfl⟩
  refine cd_knewa (n := 3) S hK hC (by decide) (N' := 4) (by decide) (Nat.le_of_ble_eq_true rfl) ef3 (Nat.le_of_ble_eq_true rfl) (Nat.le_of_ble_eq_true rfl) dX3_init_13 (fun H hC => ?_)
  have v0_f3 := (congrFun ef3 (1)).trans ((va_up_ne _ _ (by decide)).trans v0_f2)
  have v1_f3 := (congrFun ef3 (2)).trans ((va_up_ne _ _ (by decide)).trans v1_f2)
  have v2_f3 : f3 (3) = .inl (G.2.1, 4, .inl (fun _ => 0)) := (congrFun ef3 (3)).trans (if_pos rfl)
  have Pf3 : ∀ k, k < 1 → f3 k = f k := fun k z => (congrFun ef3 k).trans ((va_up_ne _ _ (by omega)).trans (Pf2 k z))
  have hC : cd_C G (4) f3 s.heap H locs := hC
  obtain ⟨f4, ef4⟩ : ∃ z, z = va_up f3 (1) (.inr (3, [.int 0, .int 0, .ref (G.2.2.2.2 + 2), .ref (G.2.2.2.2 + 3)])) := ⟨_, rfl⟩
  refine cd_kputF (q := 1) (n := 4) (ci := 3) (C := RX3) (T := TX3) (N := 4) S hK hin2 hC rfl cd_x3 tyX3 tyX3_ok nmX3 (fs := [.int 0, .int 0, .ref (G.2.2.2.2 + 2), .null]) (by decide) v0_f3 3 (by decide) cd_f_X3_15 rfl rfl rfl rfl (Nat.le_of_ble_eq_true rfl) ef4 dX3_init_15 (fun H locs hC => ?_)
  have v1_f4 := (congrFun ef4 (2)).trans ((va_up_ne _ _ (by decide)).trans v1_f3)
  have v2_f4 := (congrFun ef4 (3)).trans ((va_up_ne _ _ (by decide)).trans v2_f3)
  have v0_f4 : f4 (1) = .inr (3, [.int 0, .int 0, .ref (G.2.2.2.2 + 2), .ref (G.2.2.2.2 + 3)]) := (congrFun ef4 (1)).trans (if_pos rfl)
  have Pf4 : ∀ k, k < 1 → f4 k = f k := fun k z => (congrFun ef4 k).trans ((va_up_ne _ _ (by omega)).trans (Pf3 k z))
  refine hret f4 H locs _ ls Pf4 ?_ hC dX3_init_18
  intro k z1 z2
  rcases (show (1 ≤ k ∧ k < 2) ∨ (2 ≤ k ∧ k < 3) ∨ (3 ≤ k ∧ k < 4) by omega) with ⟨y1, y2⟩ | ⟨y1, y2⟩ | ⟨y1, y2⟩
  · obtain rfl : k = 1 := by omega
    rw [v0_f4]
    exact cd_w3_0
  · obtain rfl : k = 2 := by omega
    rw [v1_f4]
    exact cd_w3_1
  · obtain rfl : k = 3 := by omega
    rw [v2_f4]
    exact cd_w3_2
theorem cd_w0_0 {G : cd_G} {q : Nat} (hq : cd_is 0 q) : (.inr (0, [.int 0, .int 0, .int 0, .int 0, .int 0, .int 0, .int 0, .int 0, .int 0, .int 0, .ref (G.2.2.2.2 + (q + 1)), .ref (G.2.2.2.2 + (q + 2)), .ref (G.2.2.2.2 + (q + 3)), .ref (G.2.2.2.2 + (q + 4)), .ref (G.2.2.2.2 + (q + 5)), .ref (G.2.2.2.2 + (q + 6))]) : va_E) = cd_e0 G (q) := by
  rw [cd_e0_at (kn := (0, 0)) hq]
  show _ = Sum.inr (0, cd_fs0 G.2.2.2.2 cd_h0 q)
  simp only [cd_fs0, cd_h0_z (show 3 < cd_of q from Nat.lt_trans (by decide : 3 < 13) (cd_of_0 q hq.lt hq 0 (by decide)).1) (show q ≠ 405 from (cd_of_0 q hq.lt hq 0 (by decide)).2)]
theorem cd_w0_1 {G : cd_G} {q : Nat} (hq : cd_is 0 q) : (.inl (G.2.1, 4, .inl (fun _ => 0)) : va_E) = cd_e0 G (q + 1) := by
  exact (cd_e0_z (cd_r0_10 hq) (Nat.lt_trans (by decide : 3 < 13) (cd_of_0 q hq.lt hq 1 (by decide)).1) (cd_of_0 q hq.lt hq 1 (by decide)).2).symm
theorem cd_w0_2 {G : cd_G} {q : Nat} (hq : cd_is 0 q) : (.inl (G.2.1, 4, .inl (fun _ => 0)) : va_E) = cd_e0 G (q + 2) := by
  exact (cd_e0_z (cd_r0_11 hq) (Nat.lt_trans (by decide : 3 < 13) (cd_of_0 q hq.lt hq 2 (by decide)).1) (cd_of_0 q hq.lt hq 2 (by decide)).2).symm
theorem cd_w0_3 {G : cd_G} {q : Nat} (hq : cd_is 0 q) : (.inl (G.2.1, 4, .inl (fun _ => 0)) : va_E) = cd_e0 G (q + 3) := by
  exact (cd_e0_z (cd_r0_12 hq) (Nat.lt_trans (by decide : 3 < 13) (cd_of_0 q hq.lt hq 3 (by decide)).1) (cd_of_0 q hq.lt hq 3 (by decide)).2).symm
theorem cd_w0_4 {G : cd_G} {q : Nat} (hq : cd_is 0 q) : (.inl (G.2.1, 24, .inl (fun _ => 0)) : va_E) = cd_e0 G (q + 4) := by
  exact (cd_e0_z (cd_r0_13 hq) (Nat.lt_trans (by decide : 3 < 13) (cd_of_0 q hq.lt hq 4 (by decide)).1) (cd_of_0 q hq.lt hq 4 (by decide)).2).symm
theorem cd_w0_5 {G : cd_G} {q : Nat} (hq : cd_is 0 q) : (.inl (G.2.1, 6, .inl (fun _ => 0)) : va_E) = cd_e0 G (q + 5) := by
  exact (cd_e0_z (cd_r0_14 hq) (Nat.lt_trans (by decide : 3 < 13) (cd_of_0 q hq.lt hq 5 (by decide)).1) (cd_of_0 q hq.lt hq 5 (by decide)).2).symm
theorem cd_w0_6 {G : cd_G} {q : Nat} (hq : cd_is 0 q) : (.inl (G.2.1, 6, .inl (fun _ => 0)) : va_E) = cd_e0 G (q + 6) := by
  exact (cd_e0_z (cd_r0_15 hq) (Nat.lt_trans (by decide : 3 < 13) (cd_of_0 q hq.lt hq 6 (by decide)).1) (cd_of_0 q hq.lt hq 6 (by decide)).2).symm
abbrev rk_X0 : Room := { frames := 1, cells := 6, slots := 48, locals := 12 }
set_option maxHeartbeats 4000000 in
set_option maxRecDepth 100000 in
theorem c_X0_init (l : Launch) (G : cd_G) (q : Nat) (hq : cd_is 0 q) (f : Nat → va_E) (hf : f q = .inr (0, [.int 0, .int 0, .int 0, .int 0, .int 0, .int 0, .int 0, .int 0, .int 0, .int 0, .null, .null, .null, .null, .null, .null])) : cd_Mk l G yX0_init (Cond.code yX0_init cX0_init 1 none :: cd_T) rk_X0 [.ref (G.2.2.2.2 + q)] q 7 6 48 f := by
  refine cd_kin (by decide) rfl (Nat.le_of_ble_eq_true rfl) ?_
  intro p e s m args below meth c Q ls H locs S hK hin2 hC hl hret
  have hl : lv_has ls 1 [(0, .ref (G.2.2.2.2 + q))] := hl
  have P0 : ∀ k, k < q → f k = f k := fun k _ => rfl
  refine lv_aload_n S.1 S.2.1 dX0_init_0 rfl (lv_at hl 0 rfl) ?_
  refine cd_kinit S hl.1 cd_m_X0_3 (Nat.le_of_ble_eq_true rfl) (Nat.le_of_ble_eq_true rfl) dX0_init_1 ?_
  refine lv_aload_n S.1 S.2.1 dX0_init_4 rfl (lv_at hl 0 rfl) ?_
  refine lv_iconst (v := 4) S.1 S.2.1 dX0_init_5 (by decide) ?_
  obtain ⟨f1, ef1⟩ : ∃ z, z = va_up f (q + 1) (.inl (G.2.1, 4, .inl (fun _ => 0))) := ⟨_, rfl⟩
  refine cd_knewa (n := q + 1) S hK hC (by decide) (N' := 4) (by decide) (Nat.le_of_ble_eq_true rfl) ef1 (Nat.le_of_ble_eq_true rfl) (Nat.le_of_ble_eq_true rfl) dX0_init_6 (fun H hC => ?_)
  have v0_f1 := (congrFun ef1 (q)).trans ((va_up_ne _ _ (by omega)).trans hf)
  have v1_f1 : f1 (q + 1) = .inl (G.2.1, 4, .inl (fun _ => 0)) := (congrFun ef1 (q + 1)).trans (if_pos rfl)
  have Pf1 : ∀ k, k < q → f1 k = f k := fun k z => (congrFun ef1 k).trans ((va_up_ne _ _ (by omega)).trans (P0 k z))
  have hC : cd_C G (q + 2) f1 s.heap H locs := hC
  obtain ⟨f2, ef2⟩ : ∃ z, z = va_up f1 (q) (.inr (0, [.int 0, .int 0, .int 0, .int 0, .int 0, .int 0, .int 0, .int 0, .int 0, .int 0, .ref (G.2.2.2.2 + (q + 1)), .null, .null, .null, .null, .null])) := ⟨_, rfl⟩
  refine cd_kputF (q := q) (n := q + 2) (ci := 0) (C := RX0) (T := TX0) (N := 16) S hK hin2 hC rfl cd_x0 tyX0 tyX0_ok nmX0 (fs := [.int 0, .int 0, .int 0, .int 0, .int 0, .int 0, .int 0, .int 0, .int 0, .int 0, .null, .null, .null, .null, .null, .null]) (by omega) v0_f1 10 (by decide) cd_f_X0_9 rfl rfl rfl rfl (Nat.le_of_ble_eq_true rfl) ef2 dX0_init_8 (fun H locs hC => ?_)
  have v1_f2 := (congrFun ef2 (q + 1)).trans ((va_up_ne _ _ (by omega)).trans v1_f1)
  have v0_f2 : f2 (q) = .inr (0, [.int 0, .int 0, .int 0, .int 0, .int 0, .int 0, .int 0, .int 0, .int 0, .int 0, .ref (G.2.2.2.2 + (q + 1)), .null, .null, .null, .null, .null]) := (congrFun ef2 (q)).trans (if_pos rfl)
  have Pf2 : ∀ k, k < q → f2 k = f k := fun k z => (congrFun ef2 k).trans ((va_up_ne _ _ (by omega)).trans (Pf1 k z))
  refine lv_aload_n S.1 S.2.1 dX0_init_11 rfl (lv_at hl 0 rfl) ?_
  refine lv_iconst (v := 4) S.1 S.2.1 dX0_init_12 (by decide) ?_
  obtain ⟨f3, ef3⟩ : ∃ z, z = va_up f2 (q + 2) (.inl (G.2.1, 4, .inl (fun _ => 0))) := ⟨_, rfl⟩
  refine cd_knewa (n := q + 2) S hK hC (by decide) (N' := 4) (by decide) (Nat.le_of_ble_eq_true rfl) ef3 (Nat.le_of_ble_eq_true rfl) (Nat.le_of_ble_eq_true rfl) dX0_init_13 (fun H hC => ?_)
  have v0_f3 := (congrFun ef3 (q)).trans ((va_up_ne _ _ (by omega)).trans v0_f2)
  have v1_f3 := (congrFun ef3 (q + 1)).trans ((va_up_ne _ _ (by omega)).trans v1_f2)
  have v2_f3 : f3 (q + 2) = .inl (G.2.1, 4, .inl (fun _ => 0)) := (congrFun ef3 (q + 2)).trans (if_pos rfl)
  have Pf3 : ∀ k, k < q → f3 k = f k := fun k z => (congrFun ef3 k).trans ((va_up_ne _ _ (by omega)).trans (Pf2 k z))
  have hC : cd_C G (q + 3) f3 s.heap H locs := hC
  obtain ⟨f4, ef4⟩ : ∃ z, z = va_up f3 (q) (.inr (0, [.int 0, .int 0, .int 0, .int 0, .int 0, .int 0, .int 0, .int 0, .int 0, .int 0, .ref (G.2.2.2.2 + (q + 1)), .ref (G.2.2.2.2 + (q + 2)), .null, .null, .null, .null])) := ⟨_, rfl⟩
  refine cd_kputF (q := q) (n := q + 3) (ci := 0) (C := RX0) (T := TX0) (N := 16) S hK hin2 hC rfl cd_x0 tyX0 tyX0_ok nmX0 (fs := [.int 0, .int 0, .int 0, .int 0, .int 0, .int 0, .int 0, .int 0, .int 0, .int 0, .ref (G.2.2.2.2 + (q + 1)), .null, .null, .null, .null, .null]) (by omega) v0_f3 11 (by decide) cd_f_X0_15 rfl rfl rfl rfl (Nat.le_of_ble_eq_true rfl) ef4 dX0_init_15 (fun H locs hC => ?_)
  have v1_f4 := (congrFun ef4 (q + 1)).trans ((va_up_ne _ _ (by omega)).trans v1_f3)
  have v2_f4 := (congrFun ef4 (q + 2)).trans ((va_up_ne _ _ (by omega)).trans v2_f3)
  have v0_f4 : f4 (q) = .inr (0, [.int 0, .int 0, .int 0, .int 0, .int 0, .int 0, .int 0, .int 0, .int 0, .int 0, .ref (G.2.2.2.2 + (q + 1)), .ref (G.2.2.2.2 + (q + 2)), .null, .null, .null, .null]) := (congrFun ef4 (q)).trans (if_pos rfl)
  have Pf4 : ∀ k, k < q → f4 k = f k := fun k z => (congrFun ef4 k).trans ((va_up_ne _ _ (by omega)).trans (Pf3 k z))
  refine lv_aload_n S.1 S.2.1 dX0_init_18 rfl (lv_at hl 0 rfl) ?_
  refine lv_iconst (v := 4) S.1 S.2.1 dX0_init_19 (by decide) ?_
  obtain ⟨f5, ef5⟩ : ∃ z, z = va_up f4 (q + 3) (.inl (G.2.1, 4, .inl (fun _ => 0))) := ⟨_, rfl⟩
  refine cd_knewa (n := q + 3) S hK hC (by decide) (N' := 4) (by decide) (Nat.le_of_ble_eq_true rfl) ef5 (Nat.le_of_ble_eq_true rfl) (Nat.le_of_ble_eq_true rfl) dX0_init_20 (fun H hC => ?_)
  have v0_f5 := (congrFun ef5 (q)).trans ((va_up_ne _ _ (by omega)).trans v0_f4)
  have v1_f5 := (congrFun ef5 (q + 1)).trans ((va_up_ne _ _ (by omega)).trans v1_f4)
  have v2_f5 := (congrFun ef5 (q + 2)).trans ((va_up_ne _ _ (by omega)).trans v2_f4)
  have v3_f5 : f5 (q + 3) = .inl (G.2.1, 4, .inl (fun _ => 0)) := (congrFun ef5 (q + 3)).trans (if_pos rfl)
  have Pf5 : ∀ k, k < q → f5 k = f k := fun k z => (congrFun ef5 k).trans ((va_up_ne _ _ (by omega)).trans (Pf4 k z))
  have hC : cd_C G (q + 4) f5 s.heap H locs := hC
  obtain ⟨f6, ef6⟩ : ∃ z, z = va_up f5 (q) (.inr (0, [.int 0, .int 0, .int 0, .int 0, .int 0, .int 0, .int 0, .int 0, .int 0, .int 0, .ref (G.2.2.2.2 + (q + 1)), .ref (G.2.2.2.2 + (q + 2)), .ref (G.2.2.2.2 + (q + 3)), .null, .null, .null])) := ⟨_, rfl⟩
  refine cd_kputF (q := q) (n := q + 4) (ci := 0) (C := RX0) (T := TX0) (N := 16) S hK hin2 hC rfl cd_x0 tyX0 tyX0_ok nmX0 (fs := [.int 0, .int 0, .int 0, .int 0, .int 0, .int 0, .int 0, .int 0, .int 0, .int 0, .ref (G.2.2.2.2 + (q + 1)), .ref (G.2.2.2.2 + (q + 2)), .null, .null, .null, .null]) (by omega) v0_f5 12 (by decide) cd_f_X0_18 rfl rfl rfl rfl (Nat.le_of_ble_eq_true rfl) ef6 dX0_init_22 (fun H locs hC => ?_)
  have v1_f6 := (congrFun ef6 (q + 1)).trans ((va_up_ne _ _ (by omega)).trans v1_f5)
  have v2_f6 := (congrFun ef6 (q + 2)).trans ((va_up_ne _ _ (by omega)).trans v2_f5)
  have v3_f6 := (congrFun ef6 (q + 3)).trans ((va_up_ne _ _ (by omega)).trans v3_f5)
  have v0_f6 : f6 (q) = .inr (0, [.int 0, .int 0, .int 0, .int 0, .int 0, .int 0, .int 0, .int 0, .int 0, .int 0, .ref (G.2.2.2.2 + (q + 1)), .ref (G.2.2.2.2 + (q + 2)), .ref (G.2.2.2.2 + (q + 3)), .null, .null, .null]) := (congrFun ef6 (q)).trans (if_pos rfl)
  have Pf6 : ∀ k, k < q → f6 k = f k := fun k z => (congrFun ef6 k).trans ((va_up_ne _ _ (by omega)).trans (Pf5 k z))
  refine lv_aload_n S.1 S.2.1 dX0_init_25 rfl (lv_at hl 0 rfl) ?_
  refine lv_bipush (v := 24) S.1 S.2.1 dX0_init_26 (by decide) ?_
  obtain ⟨f7, ef7⟩ : ∃ z, z = va_up f6 (q + 4) (.inl (G.2.1, 24, .inl (fun _ => 0))) := ⟨_, rfl⟩
  refine cd_knewa (n := q + 4) S hK hC (by decide) (N' := 24) (by decide) (Nat.le_of_ble_eq_true rfl) ef7 (Nat.le_of_ble_eq_true rfl) (Nat.le_of_ble_eq_true rfl) dX0_init_28 (fun H hC => ?_)
  have v0_f7 := (congrFun ef7 (q)).trans ((va_up_ne _ _ (by omega)).trans v0_f6)
  have v1_f7 := (congrFun ef7 (q + 1)).trans ((va_up_ne _ _ (by omega)).trans v1_f6)
  have v2_f7 := (congrFun ef7 (q + 2)).trans ((va_up_ne _ _ (by omega)).trans v2_f6)
  have v3_f7 := (congrFun ef7 (q + 3)).trans ((va_up_ne _ _ (by omega)).trans v3_f6)
  have v4_f7 : f7 (q + 4) = .inl (G.2.1, 24, .inl (fun _ => 0)) := (congrFun ef7 (q + 4)).trans (if_pos rfl)
  have Pf7 : ∀ k, k < q → f7 k = f k := fun k z => (congrFun ef7 k).trans ((va_up_ne _ _ (by omega)).trans (Pf6 k z))
  have hC : cd_C G (q + 5) f7 s.heap H locs := hC
  obtain ⟨f8, ef8⟩ : ∃ z, z = va_up f7 (q) (.inr (0, [.int 0, .int 0, .int 0, .int 0, .int 0, .int 0, .int 0, .int 0, .int 0, .int 0, .ref (G.2.2.2.2 + (q + 1)), .ref (G.2.2.2.2 + (q + 2)), .ref (G.2.2.2.2 + (q + 3)), .ref (G.2.2.2.2 + (q + 4)), .null, .null])) := ⟨_, rfl⟩
  refine cd_kputF (q := q) (n := q + 5) (ci := 0) (C := RX0) (T := TX0) (N := 16) S hK hin2 hC rfl cd_x0 tyX0 tyX0_ok nmX0 (fs := [.int 0, .int 0, .int 0, .int 0, .int 0, .int 0, .int 0, .int 0, .int 0, .int 0, .ref (G.2.2.2.2 + (q + 1)), .ref (G.2.2.2.2 + (q + 2)), .ref (G.2.2.2.2 + (q + 3)), .null, .null, .null]) (by omega) v0_f7 13 (by decide) cd_f_X0_21 rfl rfl rfl rfl (Nat.le_of_ble_eq_true rfl) ef8 dX0_init_30 (fun H locs hC => ?_)
  have v1_f8 := (congrFun ef8 (q + 1)).trans ((va_up_ne _ _ (by omega)).trans v1_f7)
  have v2_f8 := (congrFun ef8 (q + 2)).trans ((va_up_ne _ _ (by omega)).trans v2_f7)
  have v3_f8 := (congrFun ef8 (q + 3)).trans ((va_up_ne _ _ (by omega)).trans v3_f7)
  have v4_f8 := (congrFun ef8 (q + 4)).trans ((va_up_ne _ _ (by omega)).trans v4_f7)
  have v0_f8 : f8 (q) = .inr (0, [.int 0, .int 0, .int 0, .int 0, .int 0, .int 0, .int 0, .int 0, .int 0, .int 0, .ref (G.2.2.2.2 + (q + 1)), .ref (G.2.2.2.2 + (q + 2)), .ref (G.2.2.2.2 + (q + 3)), .ref (G.2.2.2.2 + (q + 4)), .null, .null]) := (congrFun ef8 (q)).trans (if_pos rfl)
  have Pf8 : ∀ k, k < q → f8 k = f k := fun k z => (congrFun ef8 k).trans ((va_up_ne _ _ (by omega)).trans (Pf7 k z))
  refine lv_aload_n S.1 S.2.1 dX0_init_33 rfl (lv_at hl 0 rfl) ?_
  refine lv_bipush (v := 6) S.1 S.2.1 dX0_init_34 (by decide) ?_
  obtain ⟨f9, ef9⟩ : ∃ z, z = va_up f8 (q + 5) (.inl (G.2.1, 6, .inl (fun _ => 0))) := ⟨_, rfl⟩
  refine cd_knewa (n := q + 5) S hK hC (by decide) (N' := 6) (by decide) (Nat.le_of_ble_eq_true rfl) ef9 (Nat.le_of_ble_eq_true rfl) (Nat.le_of_ble_eq_true rfl) dX0_init_36 (fun H hC => ?_)
  have v0_f9 := (congrFun ef9 (q)).trans ((va_up_ne _ _ (by omega)).trans v0_f8)
  have v1_f9 := (congrFun ef9 (q + 1)).trans ((va_up_ne _ _ (by omega)).trans v1_f8)
  have v2_f9 := (congrFun ef9 (q + 2)).trans ((va_up_ne _ _ (by omega)).trans v2_f8)
  have v3_f9 := (congrFun ef9 (q + 3)).trans ((va_up_ne _ _ (by omega)).trans v3_f8)
  have v4_f9 := (congrFun ef9 (q + 4)).trans ((va_up_ne _ _ (by omega)).trans v4_f8)
  have v5_f9 : f9 (q + 5) = .inl (G.2.1, 6, .inl (fun _ => 0)) := (congrFun ef9 (q + 5)).trans (if_pos rfl)
  have Pf9 : ∀ k, k < q → f9 k = f k := fun k z => (congrFun ef9 k).trans ((va_up_ne _ _ (by omega)).trans (Pf8 k z))
  have hC : cd_C G (q + 6) f9 s.heap H locs := hC
  obtain ⟨f10, ef10⟩ : ∃ z, z = va_up f9 (q) (.inr (0, [.int 0, .int 0, .int 0, .int 0, .int 0, .int 0, .int 0, .int 0, .int 0, .int 0, .ref (G.2.2.2.2 + (q + 1)), .ref (G.2.2.2.2 + (q + 2)), .ref (G.2.2.2.2 + (q + 3)), .ref (G.2.2.2.2 + (q + 4)), .ref (G.2.2.2.2 + (q + 5)), .null])) := ⟨_, rfl⟩
  refine cd_kputF (q := q) (n := q + 6) (ci := 0) (C := RX0) (T := TX0) (N := 16) S hK hin2 hC rfl cd_x0 tyX0 tyX0_ok nmX0 (fs := [.int 0, .int 0, .int 0, .int 0, .int 0, .int 0, .int 0, .int 0, .int 0, .int 0, .ref (G.2.2.2.2 + (q + 1)), .ref (G.2.2.2.2 + (q + 2)), .ref (G.2.2.2.2 + (q + 3)), .ref (G.2.2.2.2 + (q + 4)), .null, .null]) (by omega) v0_f9 14 (by decide) cd_f_X0_24 rfl rfl rfl rfl (Nat.le_of_ble_eq_true rfl) ef10 dX0_init_38 (fun H locs hC => ?_)
  have v1_f10 := (congrFun ef10 (q + 1)).trans ((va_up_ne _ _ (by omega)).trans v1_f9)
  have v2_f10 := (congrFun ef10 (q + 2)).trans ((va_up_ne _ _ (by omega)).trans v2_f9)
  have v3_f10 := (congrFun ef10 (q + 3)).trans ((va_up_ne _ _ (by omega)).trans v3_f9)
  have v4_f10 := (congrFun ef10 (q + 4)).trans ((va_up_ne _ _ (by omega)).trans v4_f9)
  have v5_f10 := (congrFun ef10 (q + 5)).trans ((va_up_ne _ _ (by omega)).trans v5_f9)
  have v0_f10 : f10 (q) = .inr (0, [.int 0, .int 0, .int 0, .int 0, .int 0, .int 0, .int 0, .int 0, .int 0, .int 0, .ref (G.2.2.2.2 + (q + 1)), .ref (G.2.2.2.2 + (q + 2)), .ref (G.2.2.2.2 + (q + 3)), .ref (G.2.2.2.2 + (q + 4)), .ref (G.2.2.2.2 + (q + 5)), .null]) := (congrFun ef10 (q)).trans (if_pos rfl)
  have Pf10 : ∀ k, k < q → f10 k = f k := fun k z => (congrFun ef10 k).trans ((va_up_ne _ _ (by omega)).trans (Pf9 k z))
  refine lv_aload_n S.1 S.2.1 dX0_init_41 rfl (lv_at hl 0 rfl) ?_
  refine lv_bipush (v := 6) S.1 S.2.1 dX0_init_42 (by decide) ?_
  obtain ⟨f11, ef11⟩ : ∃ z, z = va_up f10 (q + 6) (.inl (G.2.1, 6, .inl (fun _ => 0))) := ⟨_, rfl⟩
  refine cd_knewa (n := q + 6) S hK hC (by decide) (N' := 6) (by decide) (Nat.le_of_ble_eq_true rfl) ef11 (Nat.le_of_ble_eq_true rfl) (Nat.le_of_ble_eq_true rfl) dX0_init_44 (fun H hC => ?_)
  have v0_f11 := (congrFun ef11 (q)).trans ((va_up_ne _ _ (by omega)).trans v0_f10)
  have v1_f11 := (congrFun ef11 (q + 1)).trans ((va_up_ne _ _ (by omega)).trans v1_f10)
  have v2_f11 := (congrFun ef11 (q + 2)).trans ((va_up_ne _ _ (by omega)).trans v2_f10)
  have v3_f11 := (congrFun ef11 (q + 3)).trans ((va_up_ne _ _ (by omega)).trans v3_f10)
  have v4_f11 := (congrFun ef11 (q + 4)).trans ((va_up_ne _ _ (by omega)).trans v4_f10)
  have v5_f11 := (congrFun ef11 (q + 5)).trans ((va_up_ne _ _ (by omega)).trans v5_f10)
  have v6_f11 : f11 (q + 6) = .inl (G.2.1, 6, .inl (fun _ => 0)) := (congrFun ef11 (q + 6)).trans (if_pos rfl)
  have Pf11 : ∀ k, k < q → f11 k = f k := fun k z => (congrFun ef11 k).trans ((va_up_ne _ _ (by omega)).trans (Pf10 k z))
  have hC : cd_C G (q + 7) f11 s.heap H locs := hC
  obtain ⟨f12, ef12⟩ : ∃ z, z = va_up f11 (q) (.inr (0, [.int 0, .int 0, .int 0, .int 0, .int 0, .int 0, .int 0, .int 0, .int 0, .int 0, .ref (G.2.2.2.2 + (q + 1)), .ref (G.2.2.2.2 + (q + 2)), .ref (G.2.2.2.2 + (q + 3)), .ref (G.2.2.2.2 + (q + 4)), .ref (G.2.2.2.2 + (q + 5)), .ref (G.2.2.2.2 + (q + 6))])) := ⟨_, rfl⟩
  refine cd_kputF (q := q) (n := q + 7) (ci := 0) (C := RX0) (T := TX0) (N := 16) S hK hin2 hC rfl cd_x0 tyX0 tyX0_ok nmX0 (fs := [.int 0, .int 0, .int 0, .int 0, .int 0, .int 0, .int 0, .int 0, .int 0, .int 0, .ref (G.2.2.2.2 + (q + 1)), .ref (G.2.2.2.2 + (q + 2)), .ref (G.2.2.2.2 + (q + 3)), .ref (G.2.2.2.2 + (q + 4)), .ref (G.2.2.2.2 + (q + 5)), .null]) (by omega) v0_f11 15 (by decide) cd_f_X0_27 rfl rfl rfl rfl (Nat.le_of_ble_eq_true rfl) ef12 dX0_init_46 (fun H locs hC => ?_)
  have v1_f12 := (congrFun ef12 (q + 1)).trans ((va_up_ne _ _ (by omega)).trans v1_f11)
  have v2_f12 := (congrFun ef12 (q + 2)).trans ((va_up_ne _ _ (by omega)).trans v2_f11)
  have v3_f12 := (congrFun ef12 (q + 3)).trans ((va_up_ne _ _ (by omega)).trans v3_f11)
  have v4_f12 := (congrFun ef12 (q + 4)).trans ((va_up_ne _ _ (by omega)).trans v4_f11)
  have v5_f12 := (congrFun ef12 (q + 5)).trans ((va_up_ne _ _ (by omega)).trans v5_f11)
  have v6_f12 := (congrFun ef12 (q + 6)).trans ((va_up_ne _ _ (by omega)).trans v6_f11)
  have v0_f12 : f12 (q) = .inr (0, [.int 0, .int 0, .int 0, .int 0, .int 0, .int 0, .int 0, .int 0, .int 0, .int 0, .ref (G.2.2.2.2 + (q + 1)), .ref (G.2.2.2.2 + (q + 2)), .ref (G.2.2.2.2 + (q + 3)), .ref (G.2.2.2.2 + (q + 4)), .ref (G.2.2.2.2 + (q + 5)), .ref (G.2.2.2.2 + (q + 6))]) := (congrFun ef12 (q)).trans (if_pos rfl)
  have Pf12 : ∀ k, k < q → f12 k = f k := fun k z => (congrFun ef12 k).trans ((va_up_ne _ _ (by omega)).trans (Pf11 k z))
  refine hret f12 H locs _ ls Pf12 ?_ hC dX0_init_49
  intro k z1 z2
  rcases (show (q ≤ k ∧ k < q + 1) ∨ (q + 1 ≤ k ∧ k < q + 2) ∨ (q + 2 ≤ k ∧ k < q + 3) ∨ (q + 3 ≤ k ∧ k < q + 4) ∨ (q + 4 ≤ k ∧ k < q + 5) ∨ (q + 5 ≤ k ∧ k < q + 6) ∨ (q + 6 ≤ k ∧ k < q + 7) by omega) with ⟨y1, y2⟩ | ⟨y1, y2⟩ | ⟨y1, y2⟩ | ⟨y1, y2⟩ | ⟨y1, y2⟩ | ⟨y1, y2⟩ | ⟨y1, y2⟩
  · obtain rfl : k = q := by omega
    rw [v0_f12]
    exact cd_w0_0 hq
  · obtain rfl : k = q + 1 := by omega
    rw [v1_f12]
    exact cd_w0_1 hq
  · obtain rfl : k = q + 2 := by omega
    rw [v2_f12]
    exact cd_w0_2 hq
  · obtain rfl : k = q + 3 := by omega
    rw [v3_f12]
    exact cd_w0_3 hq
  · obtain rfl : k = q + 4 := by omega
    rw [v4_f12]
    exact cd_w0_4 hq
  · obtain rfl : k = q + 5 := by omega
    rw [v5_f12]
    exact cd_w0_5 hq
  · obtain rfl : k = q + 6 := by omega
    rw [v6_f12]
    exact cd_w0_6 hq
theorem cd_w5_0 {G : cd_G} {q : Nat} (hq : cd_is 5 q) : (.inr (5, [.int 1, .ref (G.2.2.2.2 + (q + 1)), .ref (G.2.2.2.2 + (q + 2)), .ref (G.2.2.2.2 + (q + 3))]) : va_E) = cd_e0 G (q) := by
  rw [cd_e0_at (kn := (5, 0)) hq]
  show _ = Sum.inr (5, cd_fs5 G.2.2.2.2 cd_h0 q)
  simp only [cd_fs5, cd_h0_3 (show cd_of q = 2 from (cd_of_5 q hq.lt hq 0 (by decide)).1) (show q ≠ 405 from (cd_of_5 q hq.lt hq 0 (by decide)).2)]
  rfl
theorem cd_w5_1 {G : cd_G} {q : Nat} (hq : cd_is 5 q) : (.inl (G.2.1, 6, .inl (upd (fun _ => 0) (Int32.toNatClampNeg (0)) ((-1)))) : va_E) = cd_e0 G (q + 1) := by
  rw [cd_e0_ar (cd_r5_1 hq)]
  congr 3
  refine congrArg Sum.inl (funext fun i => ?_)
  rw [cd_h0_4 (cd_of_5 q hq.lt hq 1 (by decide)).1 (cd_of_5 q hq.lt hq 1 (by decide)).2]
  exact cd_u5 i
theorem cd_w5_2 {G : cd_G} {q : Nat} (hq : cd_is 5 q) : (.inl (G.2.1, 6, .inl (fun _ => 0)) : va_E) = cd_e0 G (q + 2) := by
  exact (cd_e0_z (cd_r5_2 hq) (by rw [(cd_of_5 q hq.lt hq 2 (by decide)).1]; omega) (cd_of_5 q hq.lt hq 2 (by decide)).2).symm
theorem cd_w5_3 {G : cd_G} {q : Nat} (hq : cd_is 5 q) : (.inl (G.2.1, 48, .inl (fun _ => 0)) : va_E) = cd_e0 G (q + 3) := by
  exact (cd_e0_z (cd_r5_3 hq) (by rw [(cd_of_5 q hq.lt hq 3 (by decide)).1]; omega) (cd_of_5 q hq.lt hq 3 (by decide)).2).symm
abbrev rk_X5 : Room := { frames := 1, cells := 3, slots := 60, locals := 12 }
set_option maxHeartbeats 4000000 in
set_option maxRecDepth 100000 in
theorem c_X5_init (l : Launch) (G : cd_G) (q : Nat) (hq : cd_is 5 q) (f : Nat → va_E) (hf : f q = .inr (5, [.int 0, .null, .null, .null])) : cd_Mk l G yX5_init (Cond.code yX5_init cX5_init 1 none :: cd_T) rk_X5 [.ref (G.2.2.2.2 + q)] q 4 3 60 f := by
  refine cd_kin (by decide) rfl (Nat.le_of_ble_eq_true rfl) ?_
  intro p e s m args below meth c Q ls H locs S hK hin2 hC hl hret
  have hl : lv_has ls 1 [(0, .ref (G.2.2.2.2 + q))] := hl
  have P0 : ∀ k, k < q → f k = f k := fun k _ => rfl
  refine lv_aload_n S.1 S.2.1 dX5_init_0 rfl (lv_at hl 0 rfl) ?_
  refine cd_kinit S hl.1 cd_m_X5_3 (Nat.le_of_ble_eq_true rfl) (Nat.le_of_ble_eq_true rfl) dX5_init_1 ?_
  refine lv_aload_n S.1 S.2.1 dX5_init_4 rfl (lv_at hl 0 rfl) ?_
  refine lv_iconst (v := 1) S.1 S.2.1 dX5_init_5 (by decide) ?_
  obtain ⟨f1, ef1⟩ : ∃ z, z = va_up f (q) (.inr (5, [.int 1, .null, .null, .null])) := ⟨_, rfl⟩
  refine cd_kput (q := q) (n := q + 1) (ci := 5) (C := RX5) (T := TX5) (N := 4) S hK hC rfl cd_x5 tyX5 tyX5_ok nmX5 (fs := [.int 0, .null, .null, .null]) (by omega) hf 0 (by decide) cd_f_X5_9 rfl rfl rfl (Nat.le_of_ble_eq_true rfl) ef1 dX5_init_6 (fun H locs hC => ?_)
  have v0_f1 : f1 (q) = .inr (5, [.int 1, .null, .null, .null]) := (congrFun ef1 (q)).trans (if_pos rfl)
  have Pf1 : ∀ k, k < q → f1 k = f k := fun k z => (congrFun ef1 k).trans ((va_up_ne _ _ (by omega)).trans (P0 k z))
  refine lv_aload_n S.1 S.2.1 dX5_init_9 rfl (lv_at hl 0 rfl) ?_
  refine lv_bipush (v := 6) S.1 S.2.1 dX5_init_10 (by decide) ?_
  obtain ⟨f2, ef2⟩ : ∃ z, z = va_up f1 (q + 1) (.inl (G.2.1, 6, .inl (fun _ => 0))) := ⟨_, rfl⟩
  refine cd_knewa (n := q + 1) S hK hC (by decide) (N' := 6) (by decide) (Nat.le_of_ble_eq_true rfl) ef2 (Nat.le_of_ble_eq_true rfl) (Nat.le_of_ble_eq_true rfl) dX5_init_12 (fun H hC => ?_)
  have v0_f2 := (congrFun ef2 (q)).trans ((va_up_ne _ _ (by omega)).trans v0_f1)
  have v1_f2 : f2 (q + 1) = .inl (G.2.1, 6, .inl (fun _ => 0)) := (congrFun ef2 (q + 1)).trans (if_pos rfl)
  have Pf2 : ∀ k, k < q → f2 k = f k := fun k z => (congrFun ef2 k).trans ((va_up_ne _ _ (by omega)).trans (Pf1 k z))
  have hC : cd_C G (q + 2) f2 s.heap H locs := hC
  obtain ⟨f3, ef3⟩ : ∃ z, z = va_up f2 (q) (.inr (5, [.int 1, .ref (G.2.2.2.2 + (q + 1)), .null, .null])) := ⟨_, rfl⟩
  refine cd_kputF (q := q) (n := q + 2) (ci := 5) (C := RX5) (T := TX5) (N := 4) S hK hin2 hC rfl cd_x5 tyX5 tyX5_ok nmX5 (fs := [.int 1, .null, .null, .null]) (by omega) v0_f2 1 (by decide) cd_f_X5_15 rfl rfl rfl rfl (Nat.le_of_ble_eq_true rfl) ef3 dX5_init_14 (fun H locs hC => ?_)
  have v1_f3 := (congrFun ef3 (q + 1)).trans ((va_up_ne _ _ (by omega)).trans v1_f2)
  have v0_f3 : f3 (q) = .inr (5, [.int 1, .ref (G.2.2.2.2 + (q + 1)), .null, .null]) := (congrFun ef3 (q)).trans (if_pos rfl)
  have Pf3 : ∀ k, k < q → f3 k = f k := fun k z => (congrFun ef3 k).trans ((va_up_ne _ _ (by omega)).trans (Pf2 k z))
  refine lv_aload_n S.1 S.2.1 dX5_init_17 rfl (lv_at hl 0 rfl) ?_
  refine lv_bipush (v := 6) S.1 S.2.1 dX5_init_18 (by decide) ?_
  obtain ⟨f4, ef4⟩ : ∃ z, z = va_up f3 (q + 2) (.inl (G.2.1, 6, .inl (fun _ => 0))) := ⟨_, rfl⟩
  refine cd_knewa (n := q + 2) S hK hC (by decide) (N' := 6) (by decide) (Nat.le_of_ble_eq_true rfl) ef4 (Nat.le_of_ble_eq_true rfl) (Nat.le_of_ble_eq_true rfl) dX5_init_20 (fun H hC => ?_)
  have v0_f4 := (congrFun ef4 (q)).trans ((va_up_ne _ _ (by omega)).trans v0_f3)
  have v1_f4 := (congrFun ef4 (q + 1)).trans ((va_up_ne _ _ (by omega)).trans v1_f3)
  have v2_f4 : f4 (q + 2) = .inl (G.2.1, 6, .inl (fun _ => 0)) := (congrFun ef4 (q + 2)).trans (if_pos rfl)
  have Pf4 : ∀ k, k < q → f4 k = f k := fun k z => (congrFun ef4 k).trans ((va_up_ne _ _ (by omega)).trans (Pf3 k z))
  have hC : cd_C G (q + 3) f4 s.heap H locs := hC
  obtain ⟨f5, ef5⟩ : ∃ z, z = va_up f4 (q) (.inr (5, [.int 1, .ref (G.2.2.2.2 + (q + 1)), .ref (G.2.2.2.2 + (q + 2)), .null])) := ⟨_, rfl⟩
  refine cd_kputF (q := q) (n := q + 3) (ci := 5) (C := RX5) (T := TX5) (N := 4) S hK hin2 hC rfl cd_x5 tyX5 tyX5_ok nmX5 (fs := [.int 1, .ref (G.2.2.2.2 + (q + 1)), .null, .null]) (by omega) v0_f4 2 (by decide) cd_f_X5_19 rfl rfl rfl rfl (Nat.le_of_ble_eq_true rfl) ef5 dX5_init_22 (fun H locs hC => ?_)
  have v1_f5 := (congrFun ef5 (q + 1)).trans ((va_up_ne _ _ (by omega)).trans v1_f4)
  have v2_f5 := (congrFun ef5 (q + 2)).trans ((va_up_ne _ _ (by omega)).trans v2_f4)
  have v0_f5 : f5 (q) = .inr (5, [.int 1, .ref (G.2.2.2.2 + (q + 1)), .ref (G.2.2.2.2 + (q + 2)), .null]) := (congrFun ef5 (q)).trans (if_pos rfl)
  have Pf5 : ∀ k, k < q → f5 k = f k := fun k z => (congrFun ef5 k).trans ((va_up_ne _ _ (by omega)).trans (Pf4 k z))
  refine lv_aload_n S.1 S.2.1 dX5_init_25 rfl (lv_at hl 0 rfl) ?_
  refine lv_bipush (v := 48) S.1 S.2.1 dX5_init_26 (by decide) ?_
  obtain ⟨f6, ef6⟩ : ∃ z, z = va_up f5 (q + 3) (.inl (G.2.1, 48, .inl (fun _ => 0))) := ⟨_, rfl⟩
  refine cd_knewa (n := q + 3) S hK hC (by decide) (N' := 48) (by decide) (Nat.le_of_ble_eq_true rfl) ef6 (Nat.le_of_ble_eq_true rfl) (Nat.le_of_ble_eq_true rfl) dX5_init_28 (fun H hC => ?_)
  have v0_f6 := (congrFun ef6 (q)).trans ((va_up_ne _ _ (by omega)).trans v0_f5)
  have v1_f6 := (congrFun ef6 (q + 1)).trans ((va_up_ne _ _ (by omega)).trans v1_f5)
  have v2_f6 := (congrFun ef6 (q + 2)).trans ((va_up_ne _ _ (by omega)).trans v2_f5)
  have v3_f6 : f6 (q + 3) = .inl (G.2.1, 48, .inl (fun _ => 0)) := (congrFun ef6 (q + 3)).trans (if_pos rfl)
  have Pf6 : ∀ k, k < q → f6 k = f k := fun k z => (congrFun ef6 k).trans ((va_up_ne _ _ (by omega)).trans (Pf5 k z))
  have hC : cd_C G (q + 4) f6 s.heap H locs := hC
  obtain ⟨f7, ef7⟩ : ∃ z, z = va_up f6 (q) (.inr (5, [.int 1, .ref (G.2.2.2.2 + (q + 1)), .ref (G.2.2.2.2 + (q + 2)), .ref (G.2.2.2.2 + (q + 3))])) := ⟨_, rfl⟩
  refine cd_kputF (q := q) (n := q + 4) (ci := 5) (C := RX5) (T := TX5) (N := 4) S hK hin2 hC rfl cd_x5 tyX5 tyX5_ok nmX5 (fs := [.int 1, .ref (G.2.2.2.2 + (q + 1)), .ref (G.2.2.2.2 + (q + 2)), .null]) (by omega) v0_f6 3 (by decide) cd_f_X5_22 rfl rfl rfl rfl (Nat.le_of_ble_eq_true rfl) ef7 dX5_init_30 (fun H locs hC => ?_)
  have v1_f7 := (congrFun ef7 (q + 1)).trans ((va_up_ne _ _ (by omega)).trans v1_f6)
  have v2_f7 := (congrFun ef7 (q + 2)).trans ((va_up_ne _ _ (by omega)).trans v2_f6)
  have v3_f7 := (congrFun ef7 (q + 3)).trans ((va_up_ne _ _ (by omega)).trans v3_f6)
  have v0_f7 : f7 (q) = .inr (5, [.int 1, .ref (G.2.2.2.2 + (q + 1)), .ref (G.2.2.2.2 + (q + 2)), .ref (G.2.2.2.2 + (q + 3))]) := (congrFun ef7 (q)).trans (if_pos rfl)
  have Pf7 : ∀ k, k < q → f7 k = f k := fun k z => (congrFun ef7 k).trans ((va_up_ne _ _ (by omega)).trans (Pf6 k z))
  refine lv_aload_n S.1 S.2.1 dX5_init_33 rfl (lv_at hl 0 rfl) ?_
  refine cd_kget (q := q) (n := q + 4) (ci := 5) (C := RX5) (T := TX5) (N := 4) (v := .ref (G.2.2.2.2 + (q + 1))) S hK hC rfl cd_x5 (by omega) v0_f7 1 (by decide) cd_f_X5_15 rfl dX5_init_34 ?_
  refine lv_iconst (v := 0) S.1 S.2.1 dX5_init_37 (by decide) ?_
  refine lv_iconst (v := (-1)) S.1 S.2.1 dX5_init_38 (by decide) ?_
  obtain ⟨f8, ef8⟩ : ∃ z, z = va_up f7 (q + 1) (.inl (G.2.1, 6, .inl (upd (fun _ => 0) (Int32.toNatClampNeg (0)) ((-1))))) := ⟨_, rfl⟩
  refine cd_kiast (q := q + 1) (n := q + 4) (N := 6) S hK hC (by omega) v1_f7 (cd_ix_in (by decide)) ef8 dX5_init_39 (fun H locs hC => ?_)
  have v0_f8 := (congrFun ef8 (q)).trans ((va_up_ne _ _ (by omega)).trans v0_f7)
  have v2_f8 := (congrFun ef8 (q + 2)).trans ((va_up_ne _ _ (by omega)).trans v2_f7)
  have v3_f8 := (congrFun ef8 (q + 3)).trans ((va_up_ne _ _ (by omega)).trans v3_f7)
  have v1_f8 : f8 (q + 1) = .inl (G.2.1, 6, .inl (upd (fun _ => 0) (Int32.toNatClampNeg (0)) ((-1)))) := (congrFun ef8 (q + 1)).trans (if_pos rfl)
  have Pf8 : ∀ k, k < q → f8 k = f k := fun k z => (congrFun ef8 k).trans ((va_up_ne _ _ (by omega)).trans (Pf7 k z))
  refine hret f8 H locs _ ls Pf8 ?_ hC dX5_init_40
  intro k z1 z2
  rcases (show (q ≤ k ∧ k < q + 1) ∨ (q + 1 ≤ k ∧ k < q + 2) ∨ (q + 2 ≤ k ∧ k < q + 3) ∨ (q + 3 ≤ k ∧ k < q + 4) by omega) with ⟨y1, y2⟩ | ⟨y1, y2⟩ | ⟨y1, y2⟩ | ⟨y1, y2⟩
  · obtain rfl : k = q := by omega
    rw [v0_f8]
    exact cd_w5_0 hq
  · obtain rfl : k = q + 1 := by omega
    rw [v1_f8]
    exact cd_w5_1 hq
  · obtain rfl : k = q + 2 := by omega
    rw [v2_f8]
    exact cd_w5_2 hq
  · obtain rfl : k = q + 3 := by omega
    rw [v3_f8]
    exact cd_w5_3 hq
theorem cd_w2_0 {G : cd_G} {q : Nat} (hq : cd_is 2 q) : (.inr (2, [.int 0, .int 0, .int 0, .ref (G.2.2.2.2 + (q + 1)), .ref (G.2.2.2.2 + (q + 2)), .ref (G.2.2.2.2 + (q + 3)), .ref (G.2.2.2.2 + (q + 4)), .ref (G.2.2.2.2 + (q + 5))]) : va_E) = cd_e0 G (q) := by
  rw [cd_e0_at (kn := (2, 0)) hq]
  show _ = Sum.inr (2, cd_fs2 G.2.2.2.2 cd_h0 q)
  simp only [cd_fs2, cd_h0_z (show 3 < cd_of q from by rw [show cd_of q = 8 from (cd_of_2 q hq.lt hq 0 (by decide)).1]; decide) (show q ≠ 405 from (cd_of_2 q hq.lt hq 0 (by decide)).2)]
theorem cd_w2_1 {G : cd_G} {q : Nat} (hq : cd_is 2 q) : (.inl (G.2.1, 64, .inl (fun _ => 0)) : va_E) = cd_e0 G (q + 1) := by
  exact (cd_e0_z (cd_r2_3 hq) (by rw [(cd_of_2 q hq.lt hq 1 (by decide)).1]; omega) (cd_of_2 q hq.lt hq 1 (by decide)).2).symm
theorem cd_w2_2 {G : cd_G} {q : Nat} (hq : cd_is 2 q) : (.inl (G.2.1, 64, .inl (fun _ => 0)) : va_E) = cd_e0 G (q + 2) := by
  exact (cd_e0_z (cd_r2_4 hq) (by rw [(cd_of_2 q hq.lt hq 2 (by decide)).1]; omega) (cd_of_2 q hq.lt hq 2 (by decide)).2).symm
theorem cd_w2_3 {G : cd_G} {q : Nat} (hq : cd_is 2 q) : (.inl (G.2.1, 12, .inl (fun _ => 0)) : va_E) = cd_e0 G (q + 3) := by
  exact (cd_e0_z (cd_r2_5 hq) (by rw [(cd_of_2 q hq.lt hq 3 (by decide)).1]; omega) (cd_of_2 q hq.lt hq 3 (by decide)).2).symm
theorem cd_w2_4 {G : cd_G} {q : Nat} (hq : cd_is 2 q) : (.inl (G.2.1, 12, .inl (fun _ => 0)) : va_E) = cd_e0 G (q + 4) := by
  exact (cd_e0_z (cd_r2_6 hq) (by rw [(cd_of_2 q hq.lt hq 4 (by decide)).1]; omega) (cd_of_2 q hq.lt hq 4 (by decide)).2).symm
theorem cd_w2_5 {G : cd_G} {q : Nat} (hq : cd_is 2 q) : (.inl (G.2.1, 12, .inl (fun _ => 0)) : va_E) = cd_e0 G (q + 5) := by
  exact (cd_e0_z (cd_r2_7 hq) (by rw [(cd_of_2 q hq.lt hq 5 (by decide)).1]; omega) (cd_of_2 q hq.lt hq 5 (by decide)).2).symm
abbrev rk_X2 : Room := { frames := 1, cells := 5, slots := 164, locals := 12 }
set_option maxHeartbeats 4000000 in
set_option maxRecDepth 100000 in
theorem c_X2_init (l : Launch) (G : cd_G) (q : Nat) (hq : cd_is 2 q) (f : Nat → va_E) (hf : f q = .inr (2, [.int 0, .int 0, .int 0, .null, .null, .null, .null, .null])) : cd_Mk l G yX2_init (Cond.code yX2_init cX2_init 1 none :: cd_T) rk_X2 [.ref (G.2.2.2.2 + q)] q 6 5 164 f := by
  refine cd_kin (by decide) rfl (Nat.le_of_ble_eq_true rfl) ?_
  intro p e s m args below meth c Q ls H locs S hK hin2 hC hl hret
  have hl : lv_has ls 1 [(0, .ref (G.2.2.2.2 + q))] := hl
  have P0 : ∀ k, k < q → f k = f k := fun k _ => rfl
  refine lv_aload_n S.1 S.2.1 dX2_init_0 rfl (lv_at hl 0 rfl) ?_
  refine cd_kinit S hl.1 cd_m_X2_3 (Nat.le_of_ble_eq_true rfl) (Nat.le_of_ble_eq_true rfl) dX2_init_1 ?_
  refine lv_aload_n S.1 S.2.1 dX2_init_4 rfl (lv_at hl 0 rfl) ?_
  refine lv_bipush (v := 64) S.1 S.2.1 dX2_init_5 (by decide) ?_
  obtain ⟨f1, ef1⟩ : ∃ z, z = va_up f (q + 1) (.inl (G.2.1, 64, .inl (fun _ => 0))) := ⟨_, rfl⟩
  refine cd_knewa (n := q + 1) S hK hC (by decide) (N' := 64) (by decide) (Nat.le_of_ble_eq_true rfl) ef1 (Nat.le_of_ble_eq_true rfl) (Nat.le_of_ble_eq_true rfl) dX2_init_7 (fun H hC => ?_)
  have v0_f1 := (congrFun ef1 (q)).trans ((va_up_ne _ _ (by omega)).trans hf)
  have v1_f1 : f1 (q + 1) = .inl (G.2.1, 64, .inl (fun _ => 0)) := (congrFun ef1 (q + 1)).trans (if_pos rfl)
  have Pf1 : ∀ k, k < q → f1 k = f k := fun k z => (congrFun ef1 k).trans ((va_up_ne _ _ (by omega)).trans (P0 k z))
  have hC : cd_C G (q + 2) f1 s.heap H locs := hC
  obtain ⟨f2, ef2⟩ : ∃ z, z = va_up f1 (q) (.inr (2, [.int 0, .int 0, .int 0, .ref (G.2.2.2.2 + (q + 1)), .null, .null, .null, .null])) := ⟨_, rfl⟩
  refine cd_kputF (q := q) (n := q + 2) (ci := 2) (C := RX2) (T := TX2) (N := 8) S hK hin2 hC rfl cd_x2 tyX2 tyX2_ok nmX2 (fs := [.int 0, .int 0, .int 0, .null, .null, .null, .null, .null]) (by omega) v0_f1 3 (by decide) cd_f_X2_9 rfl rfl rfl rfl (Nat.le_of_ble_eq_true rfl) ef2 dX2_init_9 (fun H locs hC => ?_)
  have v1_f2 := (congrFun ef2 (q + 1)).trans ((va_up_ne _ _ (by omega)).trans v1_f1)
  have v0_f2 : f2 (q) = .inr (2, [.int 0, .int 0, .int 0, .ref (G.2.2.2.2 + (q + 1)), .null, .null, .null, .null]) := (congrFun ef2 (q)).trans (if_pos rfl)
  have Pf2 : ∀ k, k < q → f2 k = f k := fun k z => (congrFun ef2 k).trans ((va_up_ne _ _ (by omega)).trans (Pf1 k z))
  refine lv_aload_n S.1 S.2.1 dX2_init_12 rfl (lv_at hl 0 rfl) ?_
  refine lv_bipush (v := 64) S.1 S.2.1 dX2_init_13 (by decide) ?_
  obtain ⟨f3, ef3⟩ : ∃ z, z = va_up f2 (q + 2) (.inl (G.2.1, 64, .inl (fun _ => 0))) := ⟨_, rfl⟩
  refine cd_knewa (n := q + 2) S hK hC (by decide) (N' := 64) (by decide) (Nat.le_of_ble_eq_true rfl) ef3 (Nat.le_of_ble_eq_true rfl) (Nat.le_of_ble_eq_true rfl) dX2_init_15 (fun H hC => ?_)
  have v0_f3 := (congrFun ef3 (q)).trans ((va_up_ne _ _ (by omega)).trans v0_f2)
  have v1_f3 := (congrFun ef3 (q + 1)).trans ((va_up_ne _ _ (by omega)).trans v1_f2)
  have v2_f3 : f3 (q + 2) = .inl (G.2.1, 64, .inl (fun _ => 0)) := (congrFun ef3 (q + 2)).trans (if_pos rfl)
  have Pf3 : ∀ k, k < q → f3 k = f k := fun k z => (congrFun ef3 k).trans ((va_up_ne _ _ (by omega)).trans (Pf2 k z))
  have hC : cd_C G (q + 3) f3 s.heap H locs := hC
  obtain ⟨f4, ef4⟩ : ∃ z, z = va_up f3 (q) (.inr (2, [.int 0, .int 0, .int 0, .ref (G.2.2.2.2 + (q + 1)), .ref (G.2.2.2.2 + (q + 2)), .null, .null, .null])) := ⟨_, rfl⟩
  refine cd_kputF (q := q) (n := q + 3) (ci := 2) (C := RX2) (T := TX2) (N := 8) S hK hin2 hC rfl cd_x2 tyX2 tyX2_ok nmX2 (fs := [.int 0, .int 0, .int 0, .ref (G.2.2.2.2 + (q + 1)), .null, .null, .null, .null]) (by omega) v0_f3 4 (by decide) cd_f_X2_15 rfl rfl rfl rfl (Nat.le_of_ble_eq_true rfl) ef4 dX2_init_17 (fun H locs hC => ?_)
  have v1_f4 := (congrFun ef4 (q + 1)).trans ((va_up_ne _ _ (by omega)).trans v1_f3)
  have v2_f4 := (congrFun ef4 (q + 2)).trans ((va_up_ne _ _ (by omega)).trans v2_f3)
  have v0_f4 : f4 (q) = .inr (2, [.int 0, .int 0, .int 0, .ref (G.2.2.2.2 + (q + 1)), .ref (G.2.2.2.2 + (q + 2)), .null, .null, .null]) := (congrFun ef4 (q)).trans (if_pos rfl)
  have Pf4 : ∀ k, k < q → f4 k = f k := fun k z => (congrFun ef4 k).trans ((va_up_ne _ _ (by omega)).trans (Pf3 k z))
  refine lv_aload_n S.1 S.2.1 dX2_init_20 rfl (lv_at hl 0 rfl) ?_
  refine lv_bipush (v := 12) S.1 S.2.1 dX2_init_21 (by decide) ?_
  obtain ⟨f5, ef5⟩ : ∃ z, z = va_up f4 (q + 3) (.inl (G.2.1, 12, .inl (fun _ => 0))) := ⟨_, rfl⟩
  refine cd_knewa (n := q + 3) S hK hC (by decide) (N' := 12) (by decide) (Nat.le_of_ble_eq_true rfl) ef5 (Nat.le_of_ble_eq_true rfl) (Nat.le_of_ble_eq_true rfl) dX2_init_23 (fun H hC => ?_)
  have v0_f5 := (congrFun ef5 (q)).trans ((va_up_ne _ _ (by omega)).trans v0_f4)
  have v1_f5 := (congrFun ef5 (q + 1)).trans ((va_up_ne _ _ (by omega)).trans v1_f4)
  have v2_f5 := (congrFun ef5 (q + 2)).trans ((va_up_ne _ _ (by omega)).trans v2_f4)
  have v3_f5 : f5 (q + 3) = .inl (G.2.1, 12, .inl (fun _ => 0)) := (congrFun ef5 (q + 3)).trans (if_pos rfl)
  have Pf5 : ∀ k, k < q → f5 k = f k := fun k z => (congrFun ef5 k).trans ((va_up_ne _ _ (by omega)).trans (Pf4 k z))
  have hC : cd_C G (q + 4) f5 s.heap H locs := hC
  obtain ⟨f6, ef6⟩ : ∃ z, z = va_up f5 (q) (.inr (2, [.int 0, .int 0, .int 0, .ref (G.2.2.2.2 + (q + 1)), .ref (G.2.2.2.2 + (q + 2)), .ref (G.2.2.2.2 + (q + 3)), .null, .null])) := ⟨_, rfl⟩
  refine cd_kputF (q := q) (n := q + 4) (ci := 2) (C := RX2) (T := TX2) (N := 8) S hK hin2 hC rfl cd_x2 tyX2 tyX2_ok nmX2 (fs := [.int 0, .int 0, .int 0, .ref (G.2.2.2.2 + (q + 1)), .ref (G.2.2.2.2 + (q + 2)), .null, .null, .null]) (by omega) v0_f5 5 (by decide) cd_f_X2_18 rfl rfl rfl rfl (Nat.le_of_ble_eq_true rfl) ef6 dX2_init_25 (fun H locs hC => ?_)
  have v1_f6 := (congrFun ef6 (q + 1)).trans ((va_up_ne _ _ (by omega)).trans v1_f5)
  have v2_f6 := (congrFun ef6 (q + 2)).trans ((va_up_ne _ _ (by omega)).trans v2_f5)
  have v3_f6 := (congrFun ef6 (q + 3)).trans ((va_up_ne _ _ (by omega)).trans v3_f5)
  have v0_f6 : f6 (q) = .inr (2, [.int 0, .int 0, .int 0, .ref (G.2.2.2.2 + (q + 1)), .ref (G.2.2.2.2 + (q + 2)), .ref (G.2.2.2.2 + (q + 3)), .null, .null]) := (congrFun ef6 (q)).trans (if_pos rfl)
  have Pf6 : ∀ k, k < q → f6 k = f k := fun k z => (congrFun ef6 k).trans ((va_up_ne _ _ (by omega)).trans (Pf5 k z))
  refine lv_aload_n S.1 S.2.1 dX2_init_28 rfl (lv_at hl 0 rfl) ?_
  refine lv_bipush (v := 12) S.1 S.2.1 dX2_init_29 (by decide) ?_
  obtain ⟨f7, ef7⟩ : ∃ z, z = va_up f6 (q + 4) (.inl (G.2.1, 12, .inl (fun _ => 0))) := ⟨_, rfl⟩
  refine cd_knewa (n := q + 4) S hK hC (by decide) (N' := 12) (by decide) (Nat.le_of_ble_eq_true rfl) ef7 (Nat.le_of_ble_eq_true rfl) (Nat.le_of_ble_eq_true rfl) dX2_init_31 (fun H hC => ?_)
  have v0_f7 := (congrFun ef7 (q)).trans ((va_up_ne _ _ (by omega)).trans v0_f6)
  have v1_f7 := (congrFun ef7 (q + 1)).trans ((va_up_ne _ _ (by omega)).trans v1_f6)
  have v2_f7 := (congrFun ef7 (q + 2)).trans ((va_up_ne _ _ (by omega)).trans v2_f6)
  have v3_f7 := (congrFun ef7 (q + 3)).trans ((va_up_ne _ _ (by omega)).trans v3_f6)
  have v4_f7 : f7 (q + 4) = .inl (G.2.1, 12, .inl (fun _ => 0)) := (congrFun ef7 (q + 4)).trans (if_pos rfl)
  have Pf7 : ∀ k, k < q → f7 k = f k := fun k z => (congrFun ef7 k).trans ((va_up_ne _ _ (by omega)).trans (Pf6 k z))
  have hC : cd_C G (q + 5) f7 s.heap H locs := hC
  obtain ⟨f8, ef8⟩ : ∃ z, z = va_up f7 (q) (.inr (2, [.int 0, .int 0, .int 0, .ref (G.2.2.2.2 + (q + 1)), .ref (G.2.2.2.2 + (q + 2)), .ref (G.2.2.2.2 + (q + 3)), .ref (G.2.2.2.2 + (q + 4)), .null])) := ⟨_, rfl⟩
  refine cd_kputF (q := q) (n := q + 5) (ci := 2) (C := RX2) (T := TX2) (N := 8) S hK hin2 hC rfl cd_x2 tyX2 tyX2_ok nmX2 (fs := [.int 0, .int 0, .int 0, .ref (G.2.2.2.2 + (q + 1)), .ref (G.2.2.2.2 + (q + 2)), .ref (G.2.2.2.2 + (q + 3)), .null, .null]) (by omega) v0_f7 6 (by decide) cd_f_X2_21 rfl rfl rfl rfl (Nat.le_of_ble_eq_true rfl) ef8 dX2_init_33 (fun H locs hC => ?_)
  have v1_f8 := (congrFun ef8 (q + 1)).trans ((va_up_ne _ _ (by omega)).trans v1_f7)
  have v2_f8 := (congrFun ef8 (q + 2)).trans ((va_up_ne _ _ (by omega)).trans v2_f7)
  have v3_f8 := (congrFun ef8 (q + 3)).trans ((va_up_ne _ _ (by omega)).trans v3_f7)
  have v4_f8 := (congrFun ef8 (q + 4)).trans ((va_up_ne _ _ (by omega)).trans v4_f7)
  have v0_f8 : f8 (q) = .inr (2, [.int 0, .int 0, .int 0, .ref (G.2.2.2.2 + (q + 1)), .ref (G.2.2.2.2 + (q + 2)), .ref (G.2.2.2.2 + (q + 3)), .ref (G.2.2.2.2 + (q + 4)), .null]) := (congrFun ef8 (q)).trans (if_pos rfl)
  have Pf8 : ∀ k, k < q → f8 k = f k := fun k z => (congrFun ef8 k).trans ((va_up_ne _ _ (by omega)).trans (Pf7 k z))
  refine lv_aload_n S.1 S.2.1 dX2_init_36 rfl (lv_at hl 0 rfl) ?_
  refine lv_bipush (v := 12) S.1 S.2.1 dX2_init_37 (by decide) ?_
  obtain ⟨f9, ef9⟩ : ∃ z, z = va_up f8 (q + 5) (.inl (G.2.1, 12, .inl (fun _ => 0))) := ⟨_, rfl⟩
  refine cd_knewa (n := q + 5) S hK hC (by decide) (N' := 12) (by decide) (Nat.le_of_ble_eq_true rfl) ef9 (Nat.le_of_ble_eq_true rfl) (Nat.le_of_ble_eq_true rfl) dX2_init_39 (fun H hC => ?_)
  have v0_f9 := (congrFun ef9 (q)).trans ((va_up_ne _ _ (by omega)).trans v0_f8)
  have v1_f9 := (congrFun ef9 (q + 1)).trans ((va_up_ne _ _ (by omega)).trans v1_f8)
  have v2_f9 := (congrFun ef9 (q + 2)).trans ((va_up_ne _ _ (by omega)).trans v2_f8)
  have v3_f9 := (congrFun ef9 (q + 3)).trans ((va_up_ne _ _ (by omega)).trans v3_f8)
  have v4_f9 := (congrFun ef9 (q + 4)).trans ((va_up_ne _ _ (by omega)).trans v4_f8)
  have v5_f9 : f9 (q + 5) = .inl (G.2.1, 12, .inl (fun _ => 0)) := (congrFun ef9 (q + 5)).trans (if_pos rfl)
  have Pf9 : ∀ k, k < q → f9 k = f k := fun k z => (congrFun ef9 k).trans ((va_up_ne _ _ (by omega)).trans (Pf8 k z))
  have hC : cd_C G (q + 6) f9 s.heap H locs := hC
  obtain ⟨f10, ef10⟩ : ∃ z, z = va_up f9 (q) (.inr (2, [.int 0, .int 0, .int 0, .ref (G.2.2.2.2 + (q + 1)), .ref (G.2.2.2.2 + (q + 2)), .ref (G.2.2.2.2 + (q + 3)), .ref (G.2.2.2.2 + (q + 4)), .ref (G.2.2.2.2 + (q + 5))])) := ⟨_, rfl⟩
  refine cd_kputF (q := q) (n := q + 6) (ci := 2) (C := RX2) (T := TX2) (N := 8) S hK hin2 hC rfl cd_x2 tyX2 tyX2_ok nmX2 (fs := [.int 0, .int 0, .int 0, .ref (G.2.2.2.2 + (q + 1)), .ref (G.2.2.2.2 + (q + 2)), .ref (G.2.2.2.2 + (q + 3)), .ref (G.2.2.2.2 + (q + 4)), .null]) (by omega) v0_f9 7 (by decide) cd_f_X2_24 rfl rfl rfl rfl (Nat.le_of_ble_eq_true rfl) ef10 dX2_init_41 (fun H locs hC => ?_)
  have v1_f10 := (congrFun ef10 (q + 1)).trans ((va_up_ne _ _ (by omega)).trans v1_f9)
  have v2_f10 := (congrFun ef10 (q + 2)).trans ((va_up_ne _ _ (by omega)).trans v2_f9)
  have v3_f10 := (congrFun ef10 (q + 3)).trans ((va_up_ne _ _ (by omega)).trans v3_f9)
  have v4_f10 := (congrFun ef10 (q + 4)).trans ((va_up_ne _ _ (by omega)).trans v4_f9)
  have v5_f10 := (congrFun ef10 (q + 5)).trans ((va_up_ne _ _ (by omega)).trans v5_f9)
  have v0_f10 : f10 (q) = .inr (2, [.int 0, .int 0, .int 0, .ref (G.2.2.2.2 + (q + 1)), .ref (G.2.2.2.2 + (q + 2)), .ref (G.2.2.2.2 + (q + 3)), .ref (G.2.2.2.2 + (q + 4)), .ref (G.2.2.2.2 + (q + 5))]) := (congrFun ef10 (q)).trans (if_pos rfl)
  have Pf10 : ∀ k, k < q → f10 k = f k := fun k z => (congrFun ef10 k).trans ((va_up_ne _ _ (by omega)).trans (Pf9 k z))
  refine hret f10 H locs _ ls Pf10 ?_ hC dX2_init_44
  intro k z1 z2
  rcases (show (q ≤ k ∧ k < q + 1) ∨ (q + 1 ≤ k ∧ k < q + 2) ∨ (q + 2 ≤ k ∧ k < q + 3) ∨ (q + 3 ≤ k ∧ k < q + 4) ∨ (q + 4 ≤ k ∧ k < q + 5) ∨ (q + 5 ≤ k ∧ k < q + 6) by omega) with ⟨y1, y2⟩ | ⟨y1, y2⟩ | ⟨y1, y2⟩ | ⟨y1, y2⟩ | ⟨y1, y2⟩ | ⟨y1, y2⟩
  · obtain rfl : k = q := by omega
    rw [v0_f10]
    exact cd_w2_0 hq
  · obtain rfl : k = q + 1 := by omega
    rw [v1_f10]
    exact cd_w2_1 hq
  · obtain rfl : k = q + 2 := by omega
    rw [v2_f10]
    exact cd_w2_2 hq
  · obtain rfl : k = q + 3 := by omega
    rw [v3_f10]
    exact cd_w2_3 hq
  · obtain rfl : k = q + 4 := by omega
    rw [v4_f10]
    exact cd_w2_4 hq
  · obtain rfl : k = q + 5 := by omega
    rw [v5_f10]
    exact cd_w2_5 hq
theorem cd_w4_0 {G : cd_G} {q : Nat} (hq : cd_is 4 q) : (.inr (4, [.int 2, .int 1, .int 0, .int 0, .int 0, .ref (G.2.2.2.2 + (q + 1)), .ref (G.2.2.2.2 + (q + 2)), .ref (G.2.2.2.2 + (q + 6)), .ref (G.2.2.2.2 + (q + 7)), .ref (G.2.2.2.2 + (q + 8)), .ref (G.2.2.2.2 + 1)]) : va_E) = cd_e0 G (q) := by
  rw [cd_e0_at (kn := (4, 0)) hq]
  show _ = Sum.inr (4, cd_fs4 G.2.2.2.2 cd_h0 q)
  simp only [cd_fs4, cd_h0_1 (show cd_of q = 0 from (cd_of_all q hq.lt hq 0 (by decide)).1) (show q ≠ 405 from (cd_of_all q hq.lt hq 0 (by decide)).2)]
  rfl
theorem cd_w4_1 {G : cd_G} {q : Nat} (hq : cd_is 4 q) : (.inl (G.2.1, 8, .inl (upd (upd (upd (upd (upd (upd (upd (upd (fun _ => 0) (Int32.toNatClampNeg (0)) 15) (Int32.toNatClampNeg (1)) 15) (Int32.toNatClampNeg (2)) 15) (Int32.toNatClampNeg (3)) 15) (Int32.toNatClampNeg (4)) 15) (Int32.toNatClampNeg (5)) 15) (Int32.toNatClampNeg (6)) 15) (Int32.toNatClampNeg (7)) 15)) : va_E) = cd_e0 G (q + 1) := by
  rw [cd_e0_ar (cd_r4_5 hq)]
  congr 3
  refine congrArg Sum.inl (funext fun i => ?_)
  rw [cd_h0_2 (cd_of_all q hq.lt hq 1 (by decide)).1 (cd_of_all q hq.lt hq 1 (by decide)).2]
  exact cd_u4 i
theorem cd_w4_6 {G : cd_G} {q : Nat} (hq : cd_is 4 q) : (.inl (G.2.2.1, 6, .inr (.inr (.inr (.inr (va_up (va_up (va_up (va_up (va_up (va_up (fun _ => none) (Int32.toNatClampNeg 0) (some (G.2.2.2.2 + (q + 14)))) (Int32.toNatClampNeg 1) (some (G.2.2.2.2 + (q + 21)))) (Int32.toNatClampNeg 2) (some (G.2.2.2.2 + (q + 28)))) (Int32.toNatClampNeg 3) (some (G.2.2.2.2 + (q + 35)))) (Int32.toNatClampNeg 4) (some (G.2.2.2.2 + (q + 42)))) (Int32.toNatClampNeg 5) (some (G.2.2.2.2 + (q + 49)))))))) : va_E) = cd_e0 G (q + 6) := by
  rw [cd_e0_at (kn := (9, 0)) (cd_r4_7 hq)]
  show Sum.inl (G.2.2.1, 6, Sum.inr (Sum.inr (Sum.inr (Sum.inr _)))) = Sum.inl (G.2.2.1, 6, Sum.inr (Sum.inr (Sum.inr (Sum.inr (fun i => if i < 6 then some (G.2.2.2.2 + (q + 6 + 8 + 7 * i)) else none)))))
  congr 6
  refine congrArg Sum.inr (funext fun i => ?_)
  by_cases h : i = 0 ∨ i = 1 ∨ i = 2 ∨ i = 3 ∨ i = 4 ∨ i = 5
  · rcases h with rfl | rfl | rfl | rfl | rfl | rfl <;> rfl
  · rw [va_up_ne _ _ (by have z : Int32.toNatClampNeg 5 = 5 := (by decide); omega), va_up_ne _ _ (by have z : Int32.toNatClampNeg 4 = 4 := (by decide); omega), va_up_ne _ _ (by have z : Int32.toNatClampNeg 3 = 3 := (by decide); omega), va_up_ne _ _ (by have z : Int32.toNatClampNeg 2 = 2 := (by decide); omega), va_up_ne _ _ (by have z : Int32.toNatClampNeg 1 = 1 := (by decide); omega), va_up_ne _ _ (by have z : Int32.toNatClampNeg 0 = 0 := (by decide); omega), if_neg (by omega)]
theorem cd_w4_7 {G : cd_G} {q : Nat} (hq : cd_is 4 q) : (.inl (G.2.1, 6, .inl (fun _ => 0)) : va_E) = cd_e0 G (q + 7) := by
  exact (cd_e0_z (cd_r4_8 hq) (by rw [(cd_of_all q hq.lt hq 7 (by decide)).1]; omega) (cd_of_all q hq.lt hq 7 (by decide)).2).symm
abbrev rk_X4 : Room := { frames := 2, cells := 55, slots := 640, locals := 32 }
set_option maxHeartbeats 4000000 in
set_option maxRecDepth 100000 in
theorem c_X4_init (l : Launch) (G : cd_G) (q : Nat) (hq : cd_is 4 q) (f : Nat → va_E) (hf : f q = .inr (4, [.int 0, .int 0, .int 0, .int 0, .int 0, .null, .null, .null, .null, .null, .null])) : cd_Mk l G yX4_init (Cond.code yX4_init cX4_init 3 none :: cd_T) rk_X4 [.ref (G.2.2.2.2 + q), .ref (G.2.2.2.2 + 1)] q 56 55 640 f := by
  refine cd_kin (by decide) rfl (Nat.le_of_ble_eq_true rfl) ?_
  intro p e s m args below meth c Q ls H locs S hK hin2 hC hl hret
  have hl : lv_has ls 3 [(0, .ref (G.2.2.2.2 + q)), (1, .ref (G.2.2.2.2 + 1))] := hl
  have P0 : ∀ k, k < q → f k = f k := fun k _ => rfl
  refine lv_aload_n S.1 S.2.1 dX4_init_0 rfl (lv_at hl 0 rfl) ?_
  refine cd_kinit S hl.1 cd_m_X4_3 (Nat.le_of_ble_eq_true rfl) (Nat.le_of_ble_eq_true rfl) dX4_init_1 ?_
  refine lv_aload_n S.1 S.2.1 dX4_init_4 rfl (lv_at hl 0 rfl) ?_
  refine lv_iconst (v := 2) S.1 S.2.1 dX4_init_5 (by decide) ?_
  obtain ⟨f1, ef1⟩ : ∃ z, z = va_up f (q) (.inr (4, [.int 2, .int 0, .int 0, .int 0, .int 0, .null, .null, .null, .null, .null, .null])) := ⟨_, rfl⟩
  refine cd_kput (q := q) (n := q + 1) (ci := 4) (C := RX4) (T := TX4) (N := 11) S hK hC rfl cd_x4 tyX4 tyX4_ok nmX4 (fs := [.int 0, .int 0, .int 0, .int 0, .int 0, .null, .null, .null, .null, .null, .null]) (by omega) hf 0 (by decide) cd_f_X4_9 rfl rfl rfl (Nat.le_of_ble_eq_true rfl) ef1 dX4_init_6 (fun H locs hC => ?_)
  have v0_f1 : f1 (q) = .inr (4, [.int 2, .int 0, .int 0, .int 0, .int 0, .null, .null, .null, .null, .null, .null]) := (congrFun ef1 (q)).trans (if_pos rfl)
  have Pf1 : ∀ k, k < q → f1 k = f k := fun k z => (congrFun ef1 k).trans ((va_up_ne _ _ (by omega)).trans (P0 k z))
  refine lv_aload_n S.1 S.2.1 dX4_init_9 rfl (lv_at hl 0 rfl) ?_
  refine lv_iconst (v := 1) S.1 S.2.1 dX4_init_10 (by decide) ?_
  obtain ⟨f2, ef2⟩ : ∃ z, z = va_up f1 (q) (.inr (4, [.int 2, .int 1, .int 0, .int 0, .int 0, .null, .null, .null, .null, .null, .null])) := ⟨_, rfl⟩
  refine cd_kput (q := q) (n := q + 1) (ci := 4) (C := RX4) (T := TX4) (N := 11) S hK hC rfl cd_x4 tyX4 tyX4_ok nmX4 (fs := [.int 2, .int 0, .int 0, .int 0, .int 0, .null, .null, .null, .null, .null, .null]) (by omega) v0_f1 1 (by decide) cd_f_X4_15 rfl rfl rfl (Nat.le_of_ble_eq_true rfl) ef2 dX4_init_11 (fun H locs hC => ?_)
  have v0_f2 : f2 (q) = .inr (4, [.int 2, .int 1, .int 0, .int 0, .int 0, .null, .null, .null, .null, .null, .null]) := (congrFun ef2 (q)).trans (if_pos rfl)
  have Pf2 : ∀ k, k < q → f2 k = f k := fun k z => (congrFun ef2 k).trans ((va_up_ne _ _ (by omega)).trans (Pf1 k z))
  refine lv_aload_n S.1 S.2.1 dX4_init_14 rfl (lv_at hl 0 rfl) ?_
  refine lv_bipush (v := 8) S.1 S.2.1 dX4_init_15 (by decide) ?_
  obtain ⟨f3, ef3⟩ : ∃ z, z = va_up f2 (q + 1) (.inl (G.2.1, 8, .inl (fun _ => 0))) := ⟨_, rfl⟩
  refine cd_knewa (n := q + 1) S hK hC (by decide) (N' := 8) (by decide) (Nat.le_of_ble_eq_true rfl) ef3 (Nat.le_of_ble_eq_true rfl) (Nat.le_of_ble_eq_true rfl) dX4_init_17 (fun H hC => ?_)
  have v0_f3 := (congrFun ef3 (q)).trans ((va_up_ne _ _ (by omega)).trans v0_f2)
  have v1_f3 : f3 (q + 1) = .inl (G.2.1, 8, .inl (fun _ => 0)) := (congrFun ef3 (q + 1)).trans (if_pos rfl)
  have Pf3 : ∀ k, k < q → f3 k = f k := fun k z => (congrFun ef3 k).trans ((va_up_ne _ _ (by omega)).trans (Pf2 k z))
  have hC : cd_C G (q + 2) f3 s.heap H locs := hC
  obtain ⟨f4, ef4⟩ : ∃ z, z = va_up f3 (q) (.inr (4, [.int 2, .int 1, .int 0, .int 0, .int 0, .ref (G.2.2.2.2 + (q + 1)), .null, .null, .null, .null, .null])) := ⟨_, rfl⟩
  refine cd_kputF (q := q) (n := q + 2) (ci := 4) (C := RX4) (T := TX4) (N := 11) S hK hin2 hC rfl cd_x4 tyX4 tyX4_ok nmX4 (fs := [.int 2, .int 1, .int 0, .int 0, .int 0, .null, .null, .null, .null, .null, .null]) (by omega) v0_f3 5 (by decide) cd_f_X4_18 rfl rfl rfl rfl (Nat.le_of_ble_eq_true rfl) ef4 dX4_init_19 (fun H locs hC => ?_)
  have v1_f4 := (congrFun ef4 (q + 1)).trans ((va_up_ne _ _ (by omega)).trans v1_f3)
  have v0_f4 : f4 (q) = .inr (4, [.int 2, .int 1, .int 0, .int 0, .int 0, .ref (G.2.2.2.2 + (q + 1)), .null, .null, .null, .null, .null]) := (congrFun ef4 (q)).trans (if_pos rfl)
  have Pf4 : ∀ k, k < q → f4 k = f k := fun k z => (congrFun ef4 k).trans ((va_up_ne _ _ (by omega)).trans (Pf3 k z))
  refine lv_aload_n S.1 S.2.1 dX4_init_22 rfl (lv_at hl 0 rfl) ?_
  obtain ⟨f5, ef5⟩ : ∃ z, z = va_up f4 (q + 2) (.inr (5, [.int 0, .null, .null, .null])) := ⟨_, rfl⟩
  refine cd_knew (n := q + 2) (ci := 5) (C := RX5) (T := TX5) (N := 4) S hK hC rfl cd_x5 tyX5 tyX5_ok cd_k_X4_22 cd_j_X5 cd_n_X5 (fs := [.int 0, .null, .null, .null]) (by decide) ef5 (Nat.le_of_ble_eq_true rfl) (Nat.le_of_ble_eq_true rfl) dX4_init_23 (fun H hC => ?_)
  have v0_f5 := (congrFun ef5 (q)).trans ((va_up_ne _ _ (by omega)).trans v0_f4)
  have v1_f5 := (congrFun ef5 (q + 1)).trans ((va_up_ne _ _ (by omega)).trans v1_f4)
  have v2_f5 : f5 (q + 2) = .inr (5, [.int 0, .null, .null, .null]) := (congrFun ef5 (q + 2)).trans (if_pos rfl)
  have Pf5 : ∀ k, k < q → f5 k = f k := fun k z => (congrFun ef5 k).trans ((va_up_ne _ _ (by omega)).trans (Pf4 k z))
  have hC : cd_C G (q + 3) f5 s.heap H locs := hC
  refine lv_dup S.1 S.2.1 dX4_init_26 rfl ?_
  refine cd_kcall (N := 0) (q := q + 2) (As := []) S hK hC hl.1 (c_X5_init l G (q + 2) (cd_r4_6 hq) f5 v2_f5) cd_m_X4_24 cd_i_X5_init cd_n_X5 cd_c_X5_init (by decide +kernel) ⟨Nat.le_of_ble_eq_true rfl, Nat.le_of_ble_eq_true rfl⟩ ⟨rfl, rfl⟩ rfl rfl (Nat.le_of_ble_eq_true rfl) ⟨Nat.le_of_ble_eq_true rfl, Nat.le_of_ble_eq_true rfl⟩ dX4_init_27 (fun f6 H locs Rf6 Tf6 hC => ?_)
  have v0_f6 := (Rf6 (q) (by omega)).trans v0_f5
  have v1_f6 := (Rf6 (q + 1) (by omega)).trans v1_f5
  have s2_f6 : ∀ k, q + 2 ≤ k → k < q + 6 → f6 k = cd_e0 G k := fun k z1 z2 => Tf6 k z1 (by omega)
  have Pf6 : ∀ k, k < q → f6 k = f k := fun k z => (Rf6 k (by omega)).trans (Pf5 k z)
  have hC : cd_C G (q + 6) f6 s.heap H locs := hC
  obtain ⟨f7, ef7⟩ : ∃ z, z = va_up f6 (q) (.inr (4, [.int 2, .int 1, .int 0, .int 0, .int 0, .ref (G.2.2.2.2 + (q + 1)), .ref (G.2.2.2.2 + (q + 2)), .null, .null, .null, .null])) := ⟨_, rfl⟩
  refine cd_kputF (q := q) (n := q + 6) (ci := 4) (C := RX4) (T := TX4) (N := 11) S hK hin2 hC rfl cd_x4 tyX4 tyX4_ok nmX4 (fs := [.int 2, .int 1, .int 0, .int 0, .int 0, .ref (G.2.2.2.2 + (q + 1)), .null, .null, .null, .null, .null]) (by omega) v0_f6 6 (by decide) cd_f_X4_25 rfl rfl rfl rfl (Nat.le_of_ble_eq_true rfl) ef7 dX4_init_30 (fun H locs hC => ?_)
  have v1_f7 := (congrFun ef7 (q + 1)).trans ((va_up_ne _ _ (by omega)).trans v1_f6)
  have v0_f7 : f7 (q) = .inr (4, [.int 2, .int 1, .int 0, .int 0, .int 0, .ref (G.2.2.2.2 + (q + 1)), .ref (G.2.2.2.2 + (q + 2)), .null, .null, .null, .null]) := (congrFun ef7 (q)).trans (if_pos rfl)
  have s2_f7 : ∀ k, q + 2 ≤ k → k < q + 6 → f7 k = cd_e0 G k := fun k z1 z2 => (congrFun ef7 k).trans ((va_up_ne _ _ (by omega)).trans (s2_f6 k z1 z2))
  have Pf7 : ∀ k, k < q → f7 k = f k := fun k z => (congrFun ef7 k).trans ((va_up_ne _ _ (by omega)).trans (Pf6 k z))
  refine lv_aload_n S.1 S.2.1 dX4_init_33 rfl (lv_at hl 0 rfl) ?_
  refine lv_bipush (v := 6) S.1 S.2.1 dX4_init_34 (by decide) ?_
  obtain ⟨f8, ef8⟩ : ∃ z, z = va_up f7 (q + 6) (.inl (G.2.2.1, 6, .inr (.inr (.inr (.inr (fun _ => none)))))) := ⟨_, rfl⟩
  refine cd_kanew (n := q + 6) (t0 := 1) S hK hC cd_k_X4_29 hK.2.1 rfl (by decide) (N' := 6) (by decide) (Nat.le_of_ble_eq_true rfl) ef8 (Nat.le_of_ble_eq_true rfl) (Nat.le_of_ble_eq_true rfl) dX4_init_36 (fun H hC => ?_)
  have v0_f8 := (congrFun ef8 (q)).trans ((va_up_ne _ _ (by omega)).trans v0_f7)
  have v1_f8 := (congrFun ef8 (q + 1)).trans ((va_up_ne _ _ (by omega)).trans v1_f7)
  have v6_f8 : f8 (q + 6) = .inl (G.2.2.1, 6, .inr (.inr (.inr (.inr (fun _ => none))))) := (congrFun ef8 (q + 6)).trans (if_pos rfl)
  have s2_f8 : ∀ k, q + 2 ≤ k → k < q + 6 → f8 k = cd_e0 G k := fun k z1 z2 => (congrFun ef8 k).trans ((va_up_ne _ _ (by omega)).trans (s2_f7 k z1 z2))
  have Pf8 : ∀ k, k < q → f8 k = f k := fun k z => (congrFun ef8 k).trans ((va_up_ne _ _ (by omega)).trans (Pf7 k z))
  have hC : cd_C G (q + 7) f8 s.heap H locs := hC
  obtain ⟨f9, ef9⟩ : ∃ z, z = va_up f8 (q) (.inr (4, [.int 2, .int 1, .int 0, .int 0, .int 0, .ref (G.2.2.2.2 + (q + 1)), .ref (G.2.2.2.2 + (q + 2)), .ref (G.2.2.2.2 + (q + 6)), .null, .null, .null])) := ⟨_, rfl⟩
  refine cd_kputF (q := q) (n := q + 7) (ci := 4) (C := RX4) (T := TX4) (N := 11) S hK hin2 hC rfl cd_x4 tyX4 tyX4_ok nmX4 (fs := [.int 2, .int 1, .int 0, .int 0, .int 0, .ref (G.2.2.2.2 + (q + 1)), .ref (G.2.2.2.2 + (q + 2)), .null, .null, .null, .null]) (by omega) v0_f8 7 (by decide) cd_f_X4_31 rfl rfl rfl rfl (Nat.le_of_ble_eq_true rfl) ef9 dX4_init_39 (fun H locs hC => ?_)
  have v1_f9 := (congrFun ef9 (q + 1)).trans ((va_up_ne _ _ (by omega)).trans v1_f8)
  have v6_f9 := (congrFun ef9 (q + 6)).trans ((va_up_ne _ _ (by omega)).trans v6_f8)
  have v0_f9 : f9 (q) = .inr (4, [.int 2, .int 1, .int 0, .int 0, .int 0, .ref (G.2.2.2.2 + (q + 1)), .ref (G.2.2.2.2 + (q + 2)), .ref (G.2.2.2.2 + (q + 6)), .null, .null, .null]) := (congrFun ef9 (q)).trans (if_pos rfl)
  have s2_f9 : ∀ k, q + 2 ≤ k → k < q + 6 → f9 k = cd_e0 G k := fun k z1 z2 => (congrFun ef9 k).trans ((va_up_ne _ _ (by omega)).trans (s2_f8 k z1 z2))
  have Pf9 : ∀ k, k < q → f9 k = f k := fun k z => (congrFun ef9 k).trans ((va_up_ne _ _ (by omega)).trans (Pf8 k z))
  refine lv_aload_n S.1 S.2.1 dX4_init_42 rfl (lv_at hl 0 rfl) ?_
  refine lv_bipush (v := 6) S.1 S.2.1 dX4_init_43 (by decide) ?_
  obtain ⟨f10, ef10⟩ : ∃ z, z = va_up f9 (q + 7) (.inl (G.2.1, 6, .inl (fun _ => 0))) := ⟨_, rfl⟩
  refine cd_knewa (n := q + 7) S hK hC (by decide) (N' := 6) (by decide) (Nat.le_of_ble_eq_true rfl) ef10 (Nat.le_of_ble_eq_true rfl) (Nat.le_of_ble_eq_true rfl) dX4_init_45 (fun H hC => ?_)
  have v0_f10 := (congrFun ef10 (q)).trans ((va_up_ne _ _ (by omega)).trans v0_f9)
  have v1_f10 := (congrFun ef10 (q + 1)).trans ((va_up_ne _ _ (by omega)).trans v1_f9)
  have v6_f10 := (congrFun ef10 (q + 6)).trans ((va_up_ne _ _ (by omega)).trans v6_f9)
  have v7_f10 : f10 (q + 7) = .inl (G.2.1, 6, .inl (fun _ => 0)) := (congrFun ef10 (q + 7)).trans (if_pos rfl)
  have s2_f10 : ∀ k, q + 2 ≤ k → k < q + 6 → f10 k = cd_e0 G k := fun k z1 z2 => (congrFun ef10 k).trans ((va_up_ne _ _ (by omega)).trans (s2_f9 k z1 z2))
  have Pf10 : ∀ k, k < q → f10 k = f k := fun k z => (congrFun ef10 k).trans ((va_up_ne _ _ (by omega)).trans (Pf9 k z))
  have hC : cd_C G (q + 8) f10 s.heap H locs := hC
  obtain ⟨f11, ef11⟩ : ∃ z, z = va_up f10 (q) (.inr (4, [.int 2, .int 1, .int 0, .int 0, .int 0, .ref (G.2.2.2.2 + (q + 1)), .ref (G.2.2.2.2 + (q + 2)), .ref (G.2.2.2.2 + (q + 6)), .ref (G.2.2.2.2 + (q + 7)), .null, .null])) := ⟨_, rfl⟩
  refine cd_kputF (q := q) (n := q + 8) (ci := 4) (C := RX4) (T := TX4) (N := 11) S hK hin2 hC rfl cd_x4 tyX4 tyX4_ok nmX4 (fs := [.int 2, .int 1, .int 0, .int 0, .int 0, .ref (G.2.2.2.2 + (q + 1)), .ref (G.2.2.2.2 + (q + 2)), .ref (G.2.2.2.2 + (q + 6)), .null, .null, .null]) (by omega) v0_f10 8 (by decide) cd_f_X4_35 rfl rfl rfl rfl (Nat.le_of_ble_eq_true rfl) ef11 dX4_init_47 (fun H locs hC => ?_)
  have v1_f11 := (congrFun ef11 (q + 1)).trans ((va_up_ne _ _ (by omega)).trans v1_f10)
  have v6_f11 := (congrFun ef11 (q + 6)).trans ((va_up_ne _ _ (by omega)).trans v6_f10)
  have v7_f11 := (congrFun ef11 (q + 7)).trans ((va_up_ne _ _ (by omega)).trans v7_f10)
  have v0_f11 : f11 (q) = .inr (4, [.int 2, .int 1, .int 0, .int 0, .int 0, .ref (G.2.2.2.2 + (q + 1)), .ref (G.2.2.2.2 + (q + 2)), .ref (G.2.2.2.2 + (q + 6)), .ref (G.2.2.2.2 + (q + 7)), .null, .null]) := (congrFun ef11 (q)).trans (if_pos rfl)
  have s2_f11 : ∀ k, q + 2 ≤ k → k < q + 6 → f11 k = cd_e0 G k := fun k z1 z2 => (congrFun ef11 k).trans ((va_up_ne _ _ (by omega)).trans (s2_f10 k z1 z2))
  have Pf11 : ∀ k, k < q → f11 k = f k := fun k z => (congrFun ef11 k).trans ((va_up_ne _ _ (by omega)).trans (Pf10 k z))
  refine lv_aload_n S.1 S.2.1 dX4_init_50 rfl (lv_at hl 0 rfl) ?_
  obtain ⟨f12, ef12⟩ : ∃ z, z = va_up f11 (q + 8) (.inr (2, [.int 0, .int 0, .int 0, .null, .null, .null, .null, .null])) := ⟨_, rfl⟩
  refine cd_knew (n := q + 8) (ci := 2) (C := RX2) (T := TX2) (N := 8) S hK hC rfl cd_x2 tyX2 tyX2_ok cd_k_X4_38 cd_j_X2 cd_n_X2 (fs := [.int 0, .int 0, .int 0, .null, .null, .null, .null, .null]) (by decide) ef12 (Nat.le_of_ble_eq_true rfl) (Nat.le_of_ble_eq_true rfl) dX4_init_51 (fun H hC => ?_)
  have v0_f12 := (congrFun ef12 (q)).trans ((va_up_ne _ _ (by omega)).trans v0_f11)
  have v1_f12 := (congrFun ef12 (q + 1)).trans ((va_up_ne _ _ (by omega)).trans v1_f11)
  have v6_f12 := (congrFun ef12 (q + 6)).trans ((va_up_ne _ _ (by omega)).trans v6_f11)
  have v7_f12 := (congrFun ef12 (q + 7)).trans ((va_up_ne _ _ (by omega)).trans v7_f11)
  have v8_f12 : f12 (q + 8) = .inr (2, [.int 0, .int 0, .int 0, .null, .null, .null, .null, .null]) := (congrFun ef12 (q + 8)).trans (if_pos rfl)
  have s2_f12 : ∀ k, q + 2 ≤ k → k < q + 6 → f12 k = cd_e0 G k := fun k z1 z2 => (congrFun ef12 k).trans ((va_up_ne _ _ (by omega)).trans (s2_f11 k z1 z2))
  have Pf12 : ∀ k, k < q → f12 k = f k := fun k z => (congrFun ef12 k).trans ((va_up_ne _ _ (by omega)).trans (Pf11 k z))
  have hC : cd_C G (q + 9) f12 s.heap H locs := hC
  refine lv_dup S.1 S.2.1 dX4_init_54 rfl ?_
  refine cd_kcall (N := 0) (q := q + 8) (As := []) S hK hC hl.1 (c_X2_init l G (q + 8) (cd_r4_9 hq) f12 v8_f12) cd_m_X4_40 cd_i_X2_init cd_n_X2 cd_c_X2_init (by decide +kernel) ⟨Nat.le_of_ble_eq_true rfl, Nat.le_of_ble_eq_true rfl⟩ ⟨rfl, rfl⟩ rfl rfl (Nat.le_of_ble_eq_true rfl) ⟨Nat.le_of_ble_eq_true rfl, Nat.le_of_ble_eq_true rfl⟩ dX4_init_55 (fun f13 H locs Rf13 Tf13 hC => ?_)
  have v0_f13 := (Rf13 (q) (by omega)).trans v0_f12
  have v1_f13 := (Rf13 (q + 1) (by omega)).trans v1_f12
  have v6_f13 := (Rf13 (q + 6) (by omega)).trans v6_f12
  have v7_f13 := (Rf13 (q + 7) (by omega)).trans v7_f12
  have s2_f13 : ∀ k, q + 2 ≤ k → k < q + 6 → f13 k = cd_e0 G k := fun k z1 z2 => (Rf13 k (by omega)).trans (s2_f12 k z1 z2)
  have s8_f13 : ∀ k, q + 8 ≤ k → k < q + 14 → f13 k = cd_e0 G k := fun k z1 z2 => Tf13 k z1 (by omega)
  have Pf13 : ∀ k, k < q → f13 k = f k := fun k z => (Rf13 k (by omega)).trans (Pf12 k z)
  have hC : cd_C G (q + 14) f13 s.heap H locs := hC
  obtain ⟨f14, ef14⟩ : ∃ z, z = va_up f13 (q) (.inr (4, [.int 2, .int 1, .int 0, .int 0, .int 0, .ref (G.2.2.2.2 + (q + 1)), .ref (G.2.2.2.2 + (q + 2)), .ref (G.2.2.2.2 + (q + 6)), .ref (G.2.2.2.2 + (q + 7)), .ref (G.2.2.2.2 + (q + 8)), .null])) := ⟨_, rfl⟩
  refine cd_kputF (q := q) (n := q + 14) (ci := 4) (C := RX4) (T := TX4) (N := 11) S hK hin2 hC rfl cd_x4 tyX4 tyX4_ok nmX4 (fs := [.int 2, .int 1, .int 0, .int 0, .int 0, .ref (G.2.2.2.2 + (q + 1)), .ref (G.2.2.2.2 + (q + 2)), .ref (G.2.2.2.2 + (q + 6)), .ref (G.2.2.2.2 + (q + 7)), .null, .null]) (by omega) v0_f13 9 (by decide) cd_f_X4_41 rfl rfl rfl rfl (Nat.le_of_ble_eq_true rfl) ef14 dX4_init_58 (fun H locs hC => ?_)
  have v1_f14 := (congrFun ef14 (q + 1)).trans ((va_up_ne _ _ (by omega)).trans v1_f13)
  have v6_f14 := (congrFun ef14 (q + 6)).trans ((va_up_ne _ _ (by omega)).trans v6_f13)
  have v7_f14 := (congrFun ef14 (q + 7)).trans ((va_up_ne _ _ (by omega)).trans v7_f13)
  have v0_f14 : f14 (q) = .inr (4, [.int 2, .int 1, .int 0, .int 0, .int 0, .ref (G.2.2.2.2 + (q + 1)), .ref (G.2.2.2.2 + (q + 2)), .ref (G.2.2.2.2 + (q + 6)), .ref (G.2.2.2.2 + (q + 7)), .ref (G.2.2.2.2 + (q + 8)), .null]) := (congrFun ef14 (q)).trans (if_pos rfl)
  have s2_f14 : ∀ k, q + 2 ≤ k → k < q + 6 → f14 k = cd_e0 G k := fun k z1 z2 => (congrFun ef14 k).trans ((va_up_ne _ _ (by omega)).trans (s2_f13 k z1 z2))
  have s8_f14 : ∀ k, q + 8 ≤ k → k < q + 14 → f14 k = cd_e0 G k := fun k z1 z2 => (congrFun ef14 k).trans ((va_up_ne _ _ (by omega)).trans (s8_f13 k z1 z2))
  have Pf14 : ∀ k, k < q → f14 k = f k := fun k z => (congrFun ef14 k).trans ((va_up_ne _ _ (by omega)).trans (Pf13 k z))
  refine lv_aload_n S.1 S.2.1 dX4_init_61 rfl (lv_at hl 0 rfl) ?_
  refine lv_aload_n S.1 S.2.1 dX4_init_62 rfl (lv_at hl 1 rfl) ?_
  obtain ⟨f15, ef15⟩ : ∃ z, z = va_up f14 (q) (.inr (4, [.int 2, .int 1, .int 0, .int 0, .int 0, .ref (G.2.2.2.2 + (q + 1)), .ref (G.2.2.2.2 + (q + 2)), .ref (G.2.2.2.2 + (q + 6)), .ref (G.2.2.2.2 + (q + 7)), .ref (G.2.2.2.2 + (q + 8)), .ref (G.2.2.2.2 + 1)])) := ⟨_, rfl⟩
  refine cd_kputF (q := q) (n := q + 14) (ci := 4) (C := RX4) (T := TX4) (N := 11) S hK hin2 hC rfl cd_x4 tyX4 tyX4_ok nmX4 (fs := [.int 2, .int 1, .int 0, .int 0, .int 0, .ref (G.2.2.2.2 + (q + 1)), .ref (G.2.2.2.2 + (q + 2)), .ref (G.2.2.2.2 + (q + 6)), .ref (G.2.2.2.2 + (q + 7)), .ref (G.2.2.2.2 + (q + 8)), .null]) (by omega) v0_f14 10 (by decide) cd_f_X4_45 rfl rfl rfl rfl (Nat.le_of_ble_eq_true rfl) ef15 dX4_init_63 (fun H locs hC => ?_)
  have v1_f15 := (congrFun ef15 (q + 1)).trans ((va_up_ne _ _ (by omega)).trans v1_f14)
  have v6_f15 := (congrFun ef15 (q + 6)).trans ((va_up_ne _ _ (by omega)).trans v6_f14)
  have v7_f15 := (congrFun ef15 (q + 7)).trans ((va_up_ne _ _ (by omega)).trans v7_f14)
  have v0_f15 : f15 (q) = .inr (4, [.int 2, .int 1, .int 0, .int 0, .int 0, .ref (G.2.2.2.2 + (q + 1)), .ref (G.2.2.2.2 + (q + 2)), .ref (G.2.2.2.2 + (q + 6)), .ref (G.2.2.2.2 + (q + 7)), .ref (G.2.2.2.2 + (q + 8)), .ref (G.2.2.2.2 + 1)]) := (congrFun ef15 (q)).trans (if_pos rfl)
  have s2_f15 : ∀ k, q + 2 ≤ k → k < q + 6 → f15 k = cd_e0 G k := fun k z1 z2 => (congrFun ef15 k).trans ((va_up_ne _ _ (by omega)).trans (s2_f14 k z1 z2))
  have s8_f15 : ∀ k, q + 8 ≤ k → k < q + 14 → f15 k = cd_e0 G k := fun k z1 z2 => (congrFun ef15 k).trans ((va_up_ne _ _ (by omega)).trans (s8_f14 k z1 z2))
  have Pf15 : ∀ k, k < q → f15 k = f k := fun k z => (congrFun ef15 k).trans ((va_up_ne _ _ (by omega)).trans (Pf14 k z))
  refine lv_iconst (v := 0) S.1 S.2.1 dX4_init_66 (by decide) ?_
  refine lv_istore_n (lv' := [(2, .int 0), (0, .ref (G.2.2.2.2 + q)), (1, .ref (G.2.2.2.2 + 1))]) S.1 S.2.1 dX4_init_67 rfl hl (by decide) rfl (fun ls hl => ?_)
  refine lv_iload_n S.1 S.2.1 dX4_init_68 rfl (lv_at hl 0 rfl) ?_
  refine lv_bipush (v := 8) S.1 S.2.1 dX4_init_69 (by decide) ?_
  refine lv_icmp_ge (tgt := 88) S.1 S.2.1 dX4_init_71 (by decide) (fun z => absurd z (by decide)) (fun _ => ?_)
  refine lv_aload_n S.1 S.2.1 dX4_init_74 rfl (lv_at hl 1 rfl) ?_
  refine cd_kget (q := q) (n := q + 14) (ci := 4) (C := RX4) (T := TX4) (N := 11) (v := .ref (G.2.2.2.2 + (q + 1))) S hK hC rfl cd_x4 (by omega) v0_f15 5 (by decide) cd_f_X4_18 rfl dX4_init_75 ?_
  refine lv_iload_n S.1 S.2.1 dX4_init_78 rfl (lv_at hl 0 rfl) ?_
  refine lv_bipush (v := 15) S.1 S.2.1 dX4_init_79 (by decide) ?_
  obtain ⟨f16, ef16⟩ : ∃ z, z = va_up f15 (q + 1) (.inl (G.2.1, 8, .inl (upd (fun _ => 0) (Int32.toNatClampNeg (0)) 15))) := ⟨_, rfl⟩
  refine cd_kiast (q := q + 1) (n := q + 14) (N := 8) S hK hC (by omega) v1_f15 (cd_ix_in (by decide)) ef16 dX4_init_81 (fun H locs hC => ?_)
  have v0_f16 := (congrFun ef16 (q)).trans ((va_up_ne _ _ (by omega)).trans v0_f15)
  have v6_f16 := (congrFun ef16 (q + 6)).trans ((va_up_ne _ _ (by omega)).trans v6_f15)
  have v7_f16 := (congrFun ef16 (q + 7)).trans ((va_up_ne _ _ (by omega)).trans v7_f15)
  have v1_f16 : f16 (q + 1) = .inl (G.2.1, 8, .inl (upd (fun _ => 0) (Int32.toNatClampNeg (0)) 15)) := (congrFun ef16 (q + 1)).trans (if_pos rfl)
  have s2_f16 : ∀ k, q + 2 ≤ k → k < q + 6 → f16 k = cd_e0 G k := fun k z1 z2 => (congrFun ef16 k).trans ((va_up_ne _ _ (by omega)).trans (s2_f15 k z1 z2))
  have s8_f16 : ∀ k, q + 8 ≤ k → k < q + 14 → f16 k = cd_e0 G k := fun k z1 z2 => (congrFun ef16 k).trans ((va_up_ne _ _ (by omega)).trans (s8_f15 k z1 z2))
  have Pf16 : ∀ k, k < q → f16 k = f k := fun k z => (congrFun ef16 k).trans ((va_up_ne _ _ (by omega)).trans (Pf15 k z))
  refine lv_iinc (v := 1) (lv' := [(2, .int 1), (0, .ref (G.2.2.2.2 + q)), (1, .ref (G.2.2.2.2 + 1))]) S.1 S.2.1 dX4_init_82 hl (k := 0) rfl (by decide) (by decide) rfl (fun ls hl => ?_)
  refine lv_goto (tgt := 68) S.1 S.2.1 dX4_init_85 (by decide) ?_
  refine lv_iload_n S.1 S.2.1 dX4_init_68 rfl (lv_at hl 0 rfl) ?_
  refine lv_bipush (v := 8) S.1 S.2.1 dX4_init_69 (by decide) ?_
  refine lv_icmp_ge (tgt := 88) S.1 S.2.1 dX4_init_71 (by decide) (fun z => absurd z (by decide)) (fun _ => ?_)
  refine lv_aload_n S.1 S.2.1 dX4_init_74 rfl (lv_at hl 1 rfl) ?_
  refine cd_kget (q := q) (n := q + 14) (ci := 4) (C := RX4) (T := TX4) (N := 11) (v := .ref (G.2.2.2.2 + (q + 1))) S hK hC rfl cd_x4 (by omega) v0_f16 5 (by decide) cd_f_X4_18 rfl dX4_init_75 ?_
  refine lv_iload_n S.1 S.2.1 dX4_init_78 rfl (lv_at hl 0 rfl) ?_
  refine lv_bipush (v := 15) S.1 S.2.1 dX4_init_79 (by decide) ?_
  obtain ⟨f17, ef17⟩ : ∃ z, z = va_up f16 (q + 1) (.inl (G.2.1, 8, .inl (upd (upd (fun _ => 0) (Int32.toNatClampNeg (0)) 15) (Int32.toNatClampNeg (1)) 15))) := ⟨_, rfl⟩
  refine cd_kiast (q := q + 1) (n := q + 14) (N := 8) S hK hC (by omega) v1_f16 (cd_ix_in (by decide)) ef17 dX4_init_81 (fun H locs hC => ?_)
  have v0_f17 := (congrFun ef17 (q)).trans ((va_up_ne _ _ (by omega)).trans v0_f16)
  have v6_f17 := (congrFun ef17 (q + 6)).trans ((va_up_ne _ _ (by omega)).trans v6_f16)
  have v7_f17 := (congrFun ef17 (q + 7)).trans ((va_up_ne _ _ (by omega)).trans v7_f16)
  have v1_f17 : f17 (q + 1) = .inl (G.2.1, 8, .inl (upd (upd (fun _ => 0) (Int32.toNatClampNeg (0)) 15) (Int32.toNatClampNeg (1)) 15)) := (congrFun ef17 (q + 1)).trans (if_pos rfl)
  have s2_f17 : ∀ k, q + 2 ≤ k → k < q + 6 → f17 k = cd_e0 G k := fun k z1 z2 => (congrFun ef17 k).trans ((va_up_ne _ _ (by omega)).trans (s2_f16 k z1 z2))
  have s8_f17 : ∀ k, q + 8 ≤ k → k < q + 14 → f17 k = cd_e0 G k := fun k z1 z2 => (congrFun ef17 k).trans ((va_up_ne _ _ (by omega)).trans (s8_f16 k z1 z2))
  have Pf17 : ∀ k, k < q → f17 k = f k := fun k z => (congrFun ef17 k).trans ((va_up_ne _ _ (by omega)).trans (Pf16 k z))
  refine lv_iinc (v := 2) (lv' := [(2, .int 2), (0, .ref (G.2.2.2.2 + q)), (1, .ref (G.2.2.2.2 + 1))]) S.1 S.2.1 dX4_init_82 hl (k := 0) rfl (by decide) (by decide) rfl (fun ls hl => ?_)
  refine lv_goto (tgt := 68) S.1 S.2.1 dX4_init_85 (by decide) ?_
  refine lv_iload_n S.1 S.2.1 dX4_init_68 rfl (lv_at hl 0 rfl) ?_
  refine lv_bipush (v := 8) S.1 S.2.1 dX4_init_69 (by decide) ?_
  refine lv_icmp_ge (tgt := 88) S.1 S.2.1 dX4_init_71 (by decide) (fun z => absurd z (by decide)) (fun _ => ?_)
  refine lv_aload_n S.1 S.2.1 dX4_init_74 rfl (lv_at hl 1 rfl) ?_
  refine cd_kget (q := q) (n := q + 14) (ci := 4) (C := RX4) (T := TX4) (N := 11) (v := .ref (G.2.2.2.2 + (q + 1))) S hK hC rfl cd_x4 (by omega) v0_f17 5 (by decide) cd_f_X4_18 rfl dX4_init_75 ?_
  refine lv_iload_n S.1 S.2.1 dX4_init_78 rfl (lv_at hl 0 rfl) ?_
  refine lv_bipush (v := 15) S.1 S.2.1 dX4_init_79 (by decide) ?_
  obtain ⟨f18, ef18⟩ : ∃ z, z = va_up f17 (q + 1) (.inl (G.2.1, 8, .inl (upd (upd (upd (fun _ => 0) (Int32.toNatClampNeg (0)) 15) (Int32.toNatClampNeg (1)) 15) (Int32.toNatClampNeg (2)) 15))) := ⟨_, rfl⟩
  refine cd_kiast (q := q + 1) (n := q + 14) (N := 8) S hK hC (by omega) v1_f17 (cd_ix_in (by decide)) ef18 dX4_init_81 (fun H locs hC => ?_)
  have v0_f18 := (congrFun ef18 (q)).trans ((va_up_ne _ _ (by omega)).trans v0_f17)
  have v6_f18 := (congrFun ef18 (q + 6)).trans ((va_up_ne _ _ (by omega)).trans v6_f17)
  have v7_f18 := (congrFun ef18 (q + 7)).trans ((va_up_ne _ _ (by omega)).trans v7_f17)
  have v1_f18 : f18 (q + 1) = .inl (G.2.1, 8, .inl (upd (upd (upd (fun _ => 0) (Int32.toNatClampNeg (0)) 15) (Int32.toNatClampNeg (1)) 15) (Int32.toNatClampNeg (2)) 15)) := (congrFun ef18 (q + 1)).trans (if_pos rfl)
  have s2_f18 : ∀ k, q + 2 ≤ k → k < q + 6 → f18 k = cd_e0 G k := fun k z1 z2 => (congrFun ef18 k).trans ((va_up_ne _ _ (by omega)).trans (s2_f17 k z1 z2))
  have s8_f18 : ∀ k, q + 8 ≤ k → k < q + 14 → f18 k = cd_e0 G k := fun k z1 z2 => (congrFun ef18 k).trans ((va_up_ne _ _ (by omega)).trans (s8_f17 k z1 z2))
  have Pf18 : ∀ k, k < q → f18 k = f k := fun k z => (congrFun ef18 k).trans ((va_up_ne _ _ (by omega)).trans (Pf17 k z))
  refine lv_iinc (v := 3) (lv' := [(2, .int 3), (0, .ref (G.2.2.2.2 + q)), (1, .ref (G.2.2.2.2 + 1))]) S.1 S.2.1 dX4_init_82 hl (k := 0) rfl (by decide) (by decide) rfl (fun ls hl => ?_)
  refine lv_goto (tgt := 68) S.1 S.2.1 dX4_init_85 (by decide) ?_
  refine lv_iload_n S.1 S.2.1 dX4_init_68 rfl (lv_at hl 0 rfl) ?_
  refine lv_bipush (v := 8) S.1 S.2.1 dX4_init_69 (by decide) ?_
  refine lv_icmp_ge (tgt := 88) S.1 S.2.1 dX4_init_71 (by decide) (fun z => absurd z (by decide)) (fun _ => ?_)
  refine lv_aload_n S.1 S.2.1 dX4_init_74 rfl (lv_at hl 1 rfl) ?_
  refine cd_kget (q := q) (n := q + 14) (ci := 4) (C := RX4) (T := TX4) (N := 11) (v := .ref (G.2.2.2.2 + (q + 1))) S hK hC rfl cd_x4 (by omega) v0_f18 5 (by decide) cd_f_X4_18 rfl dX4_init_75 ?_
  refine lv_iload_n S.1 S.2.1 dX4_init_78 rfl (lv_at hl 0 rfl) ?_
  refine lv_bipush (v := 15) S.1 S.2.1 dX4_init_79 (by decide) ?_
  obtain ⟨f19, ef19⟩ : ∃ z, z = va_up f18 (q + 1) (.inl (G.2.1, 8, .inl (upd (upd (upd (upd (fun _ => 0) (Int32.toNatClampNeg (0)) 15) (Int32.toNatClampNeg (1)) 15) (Int32.toNatClampNeg (2)) 15) (Int32.toNatClampNeg (3)) 15))) := ⟨_, rfl⟩
  refine cd_kiast (q := q + 1) (n := q + 14) (N := 8) S hK hC (by omega) v1_f18 (cd_ix_in (by decide)) ef19 dX4_init_81 (fun H locs hC => ?_)
  have v0_f19 := (congrFun ef19 (q)).trans ((va_up_ne _ _ (by omega)).trans v0_f18)
  have v6_f19 := (congrFun ef19 (q + 6)).trans ((va_up_ne _ _ (by omega)).trans v6_f18)
  have v7_f19 := (congrFun ef19 (q + 7)).trans ((va_up_ne _ _ (by omega)).trans v7_f18)
  have v1_f19 : f19 (q + 1) = .inl (G.2.1, 8, .inl (upd (upd (upd (upd (fun _ => 0) (Int32.toNatClampNeg (0)) 15) (Int32.toNatClampNeg (1)) 15) (Int32.toNatClampNeg (2)) 15) (Int32.toNatClampNeg (3)) 15)) := (congrFun ef19 (q + 1)).trans (if_pos rfl)
  have s2_f19 : ∀ k, q + 2 ≤ k → k < q + 6 → f19 k = cd_e0 G k := fun k z1 z2 => (congrFun ef19 k).trans ((va_up_ne _ _ (by omega)).trans (s2_f18 k z1 z2))
  have s8_f19 : ∀ k, q + 8 ≤ k → k < q + 14 → f19 k = cd_e0 G k := fun k z1 z2 => (congrFun ef19 k).trans ((va_up_ne _ _ (by omega)).trans (s8_f18 k z1 z2))
  have Pf19 : ∀ k, k < q → f19 k = f k := fun k z => (congrFun ef19 k).trans ((va_up_ne _ _ (by omega)).trans (Pf18 k z))
  refine lv_iinc (v := 4) (lv' := [(2, .int 4), (0, .ref (G.2.2.2.2 + q)), (1, .ref (G.2.2.2.2 + 1))]) S.1 S.2.1 dX4_init_82 hl (k := 0) rfl (by decide) (by decide) rfl (fun ls hl => ?_)
  refine lv_goto (tgt := 68) S.1 S.2.1 dX4_init_85 (by decide) ?_
  refine lv_iload_n S.1 S.2.1 dX4_init_68 rfl (lv_at hl 0 rfl) ?_
  refine lv_bipush (v := 8) S.1 S.2.1 dX4_init_69 (by decide) ?_
  refine lv_icmp_ge (tgt := 88) S.1 S.2.1 dX4_init_71 (by decide) (fun z => absurd z (by decide)) (fun _ => ?_)
  refine lv_aload_n S.1 S.2.1 dX4_init_74 rfl (lv_at hl 1 rfl) ?_
  refine cd_kget (q := q) (n := q + 14) (ci := 4) (C := RX4) (T := TX4) (N := 11) (v := .ref (G.2.2.2.2 + (q + 1))) S hK hC rfl cd_x4 (by omega) v0_f19 5 (by decide) cd_f_X4_18 rfl dX4_init_75 ?_
  refine lv_iload_n S.1 S.2.1 dX4_init_78 rfl (lv_at hl 0 rfl) ?_
  refine lv_bipush (v := 15) S.1 S.2.1 dX4_init_79 (by decide) ?_
  obtain ⟨f20, ef20⟩ : ∃ z, z = va_up f19 (q + 1) (.inl (G.2.1, 8, .inl (upd (upd (upd (upd (upd (fun _ => 0) (Int32.toNatClampNeg (0)) 15) (Int32.toNatClampNeg (1)) 15) (Int32.toNatClampNeg (2)) 15) (Int32.toNatClampNeg (3)) 15) (Int32.toNatClampNeg (4)) 15))) := ⟨_, rfl⟩
  refine cd_kiast (q := q + 1) (n := q + 14) (N := 8) S hK hC (by omega) v1_f19 (cd_ix_in (by decide)) ef20 dX4_init_81 (fun H locs hC => ?_)
  have v0_f20 := (congrFun ef20 (q)).trans ((va_up_ne _ _ (by omega)).trans v0_f19)
  have v6_f20 := (congrFun ef20 (q + 6)).trans ((va_up_ne _ _ (by omega)).trans v6_f19)
  have v7_f20 := (congrFun ef20 (q + 7)).trans ((va_up_ne _ _ (by omega)).trans v7_f19)
  have v1_f20 : f20 (q + 1) = .inl (G.2.1, 8, .inl (upd (upd (upd (upd (upd (fun _ => 0) (Int32.toNatClampNeg (0)) 15) (Int32.toNatClampNeg (1)) 15) (Int32.toNatClampNeg (2)) 15) (Int32.toNatClampNeg (3)) 15) (Int32.toNatClampNeg (4)) 15)) := (congrFun ef20 (q + 1)).trans (if_pos rfl)
  have s2_f20 : ∀ k, q + 2 ≤ k → k < q + 6 → f20 k = cd_e0 G k := fun k z1 z2 => (congrFun ef20 k).trans ((va_up_ne _ _ (by omega)).trans (s2_f19 k z1 z2))
  have s8_f20 : ∀ k, q + 8 ≤ k → k < q + 14 → f20 k = cd_e0 G k := fun k z1 z2 => (congrFun ef20 k).trans ((va_up_ne _ _ (by omega)).trans (s8_f19 k z1 z2))
  have Pf20 : ∀ k, k < q → f20 k = f k := fun k z => (congrFun ef20 k).trans ((va_up_ne _ _ (by omega)).trans (Pf19 k z))
  refine lv_iinc (v := 5) (lv' := [(2, .int 5), (0, .ref (G.2.2.2.2 + q)), (1, .ref (G.2.2.2.2 + 1))]) S.1 S.2.1 dX4_init_82 hl (k := 0) rfl (by decide) (by decide) rfl (fun ls hl => ?_)
  refine lv_goto (tgt := 68) S.1 S.2.1 dX4_init_85 (by decide) ?_
  refine lv_iload_n S.1 S.2.1 dX4_init_68 rfl (lv_at hl 0 rfl) ?_
  refine lv_bipush (v := 8) S.1 S.2.1 dX4_init_69 (by decide) ?_
  refine lv_icmp_ge (tgt := 88) S.1 S.2.1 dX4_init_71 (by decide) (fun z => absurd z (by decide)) (fun _ => ?_)
  refine lv_aload_n S.1 S.2.1 dX4_init_74 rfl (lv_at hl 1 rfl) ?_
  refine cd_kget (q := q) (n := q + 14) (ci := 4) (C := RX4) (T := TX4) (N := 11) (v := .ref (G.2.2.2.2 + (q + 1))) S hK hC rfl cd_x4 (by omega) v0_f20 5 (by decide) cd_f_X4_18 rfl dX4_init_75 ?_
  refine lv_iload_n S.1 S.2.1 dX4_init_78 rfl (lv_at hl 0 rfl) ?_
  refine lv_bipush (v := 15) S.1 S.2.1 dX4_init_79 (by decide) ?_
  obtain ⟨f21, ef21⟩ : ∃ z, z = va_up f20 (q + 1) (.inl (G.2.1, 8, .inl (upd (upd (upd (upd (upd (upd (fun _ => 0) (Int32.toNatClampNeg (0)) 15) (Int32.toNatClampNeg (1)) 15) (Int32.toNatClampNeg (2)) 15) (Int32.toNatClampNeg (3)) 15) (Int32.toNatClampNeg (4)) 15) (Int32.toNatClampNeg (5)) 15))) := ⟨_, rfl⟩
  refine cd_kiast (q := q + 1) (n := q + 14) (N := 8) S hK hC (by omega) v1_f20 (cd_ix_in (by decide)) ef21 dX4_init_81 (fun H locs hC => ?_)
  have v0_f21 := (congrFun ef21 (q)).trans ((va_up_ne _ _ (by omega)).trans v0_f20)
  have v6_f21 := (congrFun ef21 (q + 6)).trans ((va_up_ne _ _ (by omega)).trans v6_f20)
  have v7_f21 := (congrFun ef21 (q + 7)).trans ((va_up_ne _ _ (by omega)).trans v7_f20)
  have v1_f21 : f21 (q + 1) = .inl (G.2.1, 8, .inl (upd (upd (upd (upd (upd (upd (fun _ => 0) (Int32.toNatClampNeg (0)) 15) (Int32.toNatClampNeg (1)) 15) (Int32.toNatClampNeg (2)) 15) (Int32.toNatClampNeg (3)) 15) (Int32.toNatClampNeg (4)) 15) (Int32.toNatClampNeg (5)) 15)) := (congrFun ef21 (q + 1)).trans (if_pos rfl)
  have s2_f21 : ∀ k, q + 2 ≤ k → k < q + 6 → f21 k = cd_e0 G k := fun k z1 z2 => (congrFun ef21 k).trans ((va_up_ne _ _ (by omega)).trans (s2_f20 k z1 z2))
  have s8_f21 : ∀ k, q + 8 ≤ k → k < q + 14 → f21 k = cd_e0 G k := fun k z1 z2 => (congrFun ef21 k).trans ((va_up_ne _ _ (by omega)).trans (s8_f20 k z1 z2))
  have Pf21 : ∀ k, k < q → f21 k = f k := fun k z => (congrFun ef21 k).trans ((va_up_ne _ _ (by omega)).trans (Pf20 k z))
  refine lv_iinc (v := 6) (lv' := [(2, .int 6), (0, .ref (G.2.2.2.2 + q)), (1, .ref (G.2.2.2.2 + 1))]) S.1 S.2.1 dX4_init_82 hl (k := 0) rfl (by decide) (by decide) rfl (fun ls hl => ?_)
  refine lv_goto (tgt := 68) S.1 S.2.1 dX4_init_85 (by decide) ?_
  refine lv_iload_n S.1 S.2.1 dX4_init_68 rfl (lv_at hl 0 rfl) ?_
  refine lv_bipush (v := 8) S.1 S.2.1 dX4_init_69 (by decide) ?_
  refine lv_icmp_ge (tgt := 88) S.1 S.2.1 dX4_init_71 (by decide) (fun z => absurd z (by decide)) (fun _ => ?_)
  refine lv_aload_n S.1 S.2.1 dX4_init_74 rfl (lv_at hl 1 rfl) ?_
  refine cd_kget (q := q) (n := q + 14) (ci := 4) (C := RX4) (T := TX4) (N := 11) (v := .ref (G.2.2.2.2 + (q + 1))) S hK hC rfl cd_x4 (by omega) v0_f21 5 (by decide) cd_f_X4_18 rfl dX4_init_75 ?_
  refine lv_iload_n S.1 S.2.1 dX4_init_78 rfl (lv_at hl 0 rfl) ?_
  refine lv_bipush (v := 15) S.1 S.2.1 dX4_init_79 (by decide) ?_
  obtain ⟨f22, ef22⟩ : ∃ z, z = va_up f21 (q + 1) (.inl (G.2.1, 8, .inl (upd (upd (upd (upd (upd (upd (upd (fun _ => 0) (Int32.toNatClampNeg (0)) 15) (Int32.toNatClampNeg (1)) 15) (Int32.toNatClampNeg (2)) 15) (Int32.toNatClampNeg (3)) 15) (Int32.toNatClampNeg (4)) 15) (Int32.toNatClampNeg (5)) 15) (Int32.toNatClampNeg (6)) 15))) := ⟨_, rfl⟩
  refine cd_kiast (q := q + 1) (n := q + 14) (N := 8) S hK hC (by omega) v1_f21 (cd_ix_in (by decide)) ef22 dX4_init_81 (fun H locs hC => ?_)
  have v0_f22 := (congrFun ef22 (q)).trans ((va_up_ne _ _ (by omega)).trans v0_f21)
  have v6_f22 := (congrFun ef22 (q + 6)).trans ((va_up_ne _ _ (by omega)).trans v6_f21)
  have v7_f22 := (congrFun ef22 (q + 7)).trans ((va_up_ne _ _ (by omega)).trans v7_f21)
  have v1_f22 : f22 (q + 1) = .inl (G.2.1, 8, .inl (upd (upd (upd (upd (upd (upd (upd (fun _ => 0) (Int32.toNatClampNeg (0)) 15) (Int32.toNatClampNeg (1)) 15) (Int32.toNatClampNeg (2)) 15) (Int32.toNatClampNeg (3)) 15) (Int32.toNatClampNeg (4)) 15) (Int32.toNatClampNeg (5)) 15) (Int32.toNatClampNeg (6)) 15)) := (congrFun ef22 (q + 1)).trans (if_pos rfl)
  have s2_f22 : ∀ k, q + 2 ≤ k → k < q + 6 → f22 k = cd_e0 G k := fun k z1 z2 => (congrFun ef22 k).trans ((va_up_ne _ _ (by omega)).trans (s2_f21 k z1 z2))
  have s8_f22 : ∀ k, q + 8 ≤ k → k < q + 14 → f22 k = cd_e0 G k := fun k z1 z2 => (congrFun ef22 k).trans ((va_up_ne _ _ (by omega)).trans (s8_f21 k z1 z2))
  have Pf22 : ∀ k, k < q → f22 k = f k := fun k z => (congrFun ef22 k).trans ((va_up_ne _ _ (by omega)).trans (Pf21 k z))
  refine lv_iinc (v := 7) (lv' := [(2, .int 7), (0, .ref (G.2.2.2.2 + q)), (1, .ref (G.2.2.2.2 + 1))]) S.1 S.2.1 dX4_init_82 hl (k := 0) rfl (by decide) (by decide) rfl (fun ls hl => ?_)
  refine lv_goto (tgt := 68) S.1 S.2.1 dX4_init_85 (by decide) ?_
  refine lv_iload_n S.1 S.2.1 dX4_init_68 rfl (lv_at hl 0 rfl) ?_
  refine lv_bipush (v := 8) S.1 S.2.1 dX4_init_69 (by decide) ?_
  refine lv_icmp_ge (tgt := 88) S.1 S.2.1 dX4_init_71 (by decide) (fun z => absurd z (by decide)) (fun _ => ?_)
  refine lv_aload_n S.1 S.2.1 dX4_init_74 rfl (lv_at hl 1 rfl) ?_
  refine cd_kget (q := q) (n := q + 14) (ci := 4) (C := RX4) (T := TX4) (N := 11) (v := .ref (G.2.2.2.2 + (q + 1))) S hK hC rfl cd_x4 (by omega) v0_f22 5 (by decide) cd_f_X4_18 rfl dX4_init_75 ?_
  refine lv_iload_n S.1 S.2.1 dX4_init_78 rfl (lv_at hl 0 rfl) ?_
  refine lv_bipush (v := 15) S.1 S.2.1 dX4_init_79 (by decide) ?_
  obtain ⟨f23, ef23⟩ : ∃ z, z = va_up f22 (q + 1) (.inl (G.2.1, 8, .inl (upd (upd (upd (upd (upd (upd (upd (upd (fun _ => 0) (Int32.toNatClampNeg (0)) 15) (Int32.toNatClampNeg (1)) 15) (Int32.toNatClampNeg (2)) 15) (Int32.toNatClampNeg (3)) 15) (Int32.toNatClampNeg (4)) 15) (Int32.toNatClampNeg (5)) 15) (Int32.toNatClampNeg (6)) 15) (Int32.toNatClampNeg (7)) 15))) := ⟨_, rfl⟩
  refine cd_kiast (q := q + 1) (n := q + 14) (N := 8) S hK hC (by omega) v1_f22 (cd_ix_in (by decide)) ef23 dX4_init_81 (fun H locs hC => ?_)
  have v0_f23 := (congrFun ef23 (q)).trans ((va_up_ne _ _ (by omega)).trans v0_f22)
  have v6_f23 := (congrFun ef23 (q + 6)).trans ((va_up_ne _ _ (by omega)).trans v6_f22)
  have v7_f23 := (congrFun ef23 (q + 7)).trans ((va_up_ne _ _ (by omega)).trans v7_f22)
  have v1_f23 : f23 (q + 1) = .inl (G.2.1, 8, .inl (upd (upd (upd (upd (upd (upd (upd (upd (fun _ => 0) (Int32.toNatClampNeg (0)) 15) (Int32.toNatClampNeg (1)) 15) (Int32.toNatClampNeg (2)) 15) (Int32.toNatClampNeg (3)) 15) (Int32.toNatClampNeg (4)) 15) (Int32.toNatClampNeg (5)) 15) (Int32.toNatClampNeg (6)) 15) (Int32.toNatClampNeg (7)) 15)) := (congrFun ef23 (q + 1)).trans (if_pos rfl)
  have s2_f23 : ∀ k, q + 2 ≤ k → k < q + 6 → f23 k = cd_e0 G k := fun k z1 z2 => (congrFun ef23 k).trans ((va_up_ne _ _ (by omega)).trans (s2_f22 k z1 z2))
  have s8_f23 : ∀ k, q + 8 ≤ k → k < q + 14 → f23 k = cd_e0 G k := fun k z1 z2 => (congrFun ef23 k).trans ((va_up_ne _ _ (by omega)).trans (s8_f22 k z1 z2))
  have Pf23 : ∀ k, k < q → f23 k = f k := fun k z => (congrFun ef23 k).trans ((va_up_ne _ _ (by omega)).trans (Pf22 k z))
  refine lv_iinc (v := 8) (lv' := [(2, .int 8), (0, .ref (G.2.2.2.2 + q)), (1, .ref (G.2.2.2.2 + 1))]) S.1 S.2.1 dX4_init_82 hl (k := 0) rfl (by decide) (by decide) rfl (fun ls hl => ?_)
  refine lv_goto (tgt := 68) S.1 S.2.1 dX4_init_85 (by decide) ?_
  refine lv_iload_n S.1 S.2.1 dX4_init_68 rfl (lv_at hl 0 rfl) ?_
  refine lv_bipush (v := 8) S.1 S.2.1 dX4_init_69 (by decide) ?_
  refine lv_icmp_ge (tgt := 88) S.1 S.2.1 dX4_init_71 (by decide) (fun _ => ?_) (fun z => absurd z (by decide))
  refine lv_iconst (v := 0) S.1 S.2.1 dX4_init_88 (by decide) ?_
  refine lv_istore_n (lv' := [(2, .int 0), (0, .ref (G.2.2.2.2 + q)), (1, .ref (G.2.2.2.2 + 1))]) S.1 S.2.1 dX4_init_89 rfl hl (by decide) rfl (fun ls hl => ?_)
  refine lv_iload_n S.1 S.2.1 dX4_init_90 rfl (lv_at hl 0 rfl) ?_
  refine lv_bipush (v := 6) S.1 S.2.1 dX4_init_91 (by decide) ?_
  refine lv_icmp_ge (tgt := 115) S.1 S.2.1 dX4_init_93 (by decide) (fun z => absurd z (by decide)) (fun _ => ?_)
  refine lv_aload_n S.1 S.2.1 dX4_init_96 rfl (lv_at hl 1 rfl) ?_
  refine cd_kget (q := q) (n := q + 14) (ci := 4) (C := RX4) (T := TX4) (N := 11) (v := .ref (G.2.2.2.2 + (q + 6))) S hK hC rfl cd_x4 (by omega) v0_f23 7 (by decide) cd_f_X4_31 rfl dX4_init_97 ?_
  refine lv_iload_n S.1 S.2.1 dX4_init_100 rfl (lv_at hl 0 rfl) ?_
  obtain ⟨f24, ef24⟩ : ∃ z, z = va_up f23 (q + 14) (.inr (0, [.int 0, .int 0, .int 0, .int 0, .int 0, .int 0, .int 0, .int 0, .int 0, .int 0, .null, .null, .null, .null, .null, .null])) := ⟨_, rfl⟩
  refine cd_knew (n := q + 14) (ci := 0) (C := RX0) (T := TX0) (N := 16) S hK hC rfl cd_x0 tyX0 tyX0_ok cd_k_X4_29 cd_j_X0 cd_n_X0 (fs := [.int 0, .int 0, .int 0, .int 0, .int 0, .int 0, .int 0, .int 0, .int 0, .int 0, .null, .null, .null, .null, .null, .null]) (by decide) ef24 (Nat.le_of_ble_eq_true rfl) (Nat.le_of_ble_eq_true rfl) dX4_init_101 (fun H hC => ?_)
  have v0_f24 := (congrFun ef24 (q)).trans ((va_up_ne _ _ (by omega)).trans v0_f23)
  have v1_f24 := (congrFun ef24 (q + 1)).trans ((va_up_ne _ _ (by omega)).trans v1_f23)
  have v6_f24 := (congrFun ef24 (q + 6)).trans ((va_up_ne _ _ (by omega)).trans v6_f23)
  have v7_f24 := (congrFun ef24 (q + 7)).trans ((va_up_ne _ _ (by omega)).trans v7_f23)
  have v14_f24 : f24 (q + 14) = .inr (0, [.int 0, .int 0, .int 0, .int 0, .int 0, .int 0, .int 0, .int 0, .int 0, .int 0, .null, .null, .null, .null, .null, .null]) := (congrFun ef24 (q + 14)).trans (if_pos rfl)
  have s2_f24 : ∀ k, q + 2 ≤ k → k < q + 6 → f24 k = cd_e0 G k := fun k z1 z2 => (congrFun ef24 k).trans ((va_up_ne _ _ (by omega)).trans (s2_f23 k z1 z2))
  have s8_f24 : ∀ k, q + 8 ≤ k → k < q + 14 → f24 k = cd_e0 G k := fun k z1 z2 => (congrFun ef24 k).trans ((va_up_ne _ _ (by omega)).trans (s8_f23 k z1 z2))
  have Pf24 : ∀ k, k < q → f24 k = f k := fun k z => (congrFun ef24 k).trans ((va_up_ne _ _ (by omega)).trans (Pf23 k z))
  have hC : cd_C G (q + 15) f24 s.heap H locs := hC
  refine lv_dup S.1 S.2.1 dX4_init_104 rfl ?_
  refine cd_kcall (N := 0) (q := q + 14) (As := []) S hK hC hl.1 (c_X0_init l G (q + 14) (cd_is_g hq 0 (by decide)) f24 v14_f24) cd_m_X4_49 cd_i_X0_init cd_n_X0 cd_c_X0_init (by decide +kernel) ⟨Nat.le_of_ble_eq_true rfl, Nat.le_of_ble_eq_true rfl⟩ ⟨rfl, rfl⟩ rfl rfl (Nat.le_of_ble_eq_true rfl) ⟨Nat.le_of_ble_eq_true rfl, Nat.le_of_ble_eq_true rfl⟩ dX4_init_105 (fun f25 H locs Rf25 Tf25 hC => ?_)
  have v0_f25 := (Rf25 (q) (by omega)).trans v0_f24
  have v1_f25 := (Rf25 (q + 1) (by omega)).trans v1_f24
  have v6_f25 := (Rf25 (q + 6) (by omega)).trans v6_f24
  have v7_f25 := (Rf25 (q + 7) (by omega)).trans v7_f24
  have s2_f25 : ∀ k, q + 2 ≤ k → k < q + 6 → f25 k = cd_e0 G k := fun k z1 z2 => (Rf25 k (by omega)).trans (s2_f24 k z1 z2)
  have s8_f25 : ∀ k, q + 8 ≤ k → k < q + 14 → f25 k = cd_e0 G k := fun k z1 z2 => (Rf25 k (by omega)).trans (s8_f24 k z1 z2)
  have s14_f25 : ∀ k, q + 14 ≤ k → k < q + 21 → f25 k = cd_e0 G k := fun k z1 z2 => Tf25 k z1 (by omega)
  have Pf25 : ∀ k, k < q → f25 k = f k := fun k z => (Rf25 k (by omega)).trans (Pf24 k z)
  have hC : cd_C G (q + 21) f25 s.heap H locs := hC
  obtain ⟨f26, ef26⟩ : ∃ z, z = va_up f25 (q + 6) (.inl (G.2.2.1, 6, .inr (.inr (.inr (.inr (va_up (fun _ => none) (Int32.toNatClampNeg 0) (some (G.2.2.2.2 + (q + 14))))))))) := ⟨_, rfl⟩
  refine cd_kaast (q := q + 6) (r := q + 14) (n := q + 21) (N := 6) (t0 := 1) (ci := 0) S hK hC (by omega) v6_f25 rfl (by omega) ((s14_f25 _ (by omega) (by omega)).trans (cd_e0_at (cd_is_g hq 0 (by decide)))) rfl (cd_ix_in (by decide)) ef26 dX4_init_108 (fun H locs hC => ?_)
  have v0_f26 := (congrFun ef26 (q)).trans ((va_up_ne _ _ (by omega)).trans v0_f25)
  have v1_f26 := (congrFun ef26 (q + 1)).trans ((va_up_ne _ _ (by omega)).trans v1_f25)
  have v7_f26 := (congrFun ef26 (q + 7)).trans ((va_up_ne _ _ (by omega)).trans v7_f25)
  have v6_f26 : f26 (q + 6) = .inl (G.2.2.1, 6, .inr (.inr (.inr (.inr (va_up (fun _ => none) (Int32.toNatClampNeg 0) (some (G.2.2.2.2 + (q + 14)))))))) := (congrFun ef26 (q + 6)).trans (if_pos rfl)
  have s2_f26 : ∀ k, q + 2 ≤ k → k < q + 6 → f26 k = cd_e0 G k := fun k z1 z2 => (congrFun ef26 k).trans ((va_up_ne _ _ (by omega)).trans (s2_f25 k z1 z2))
  have s8_f26 : ∀ k, q + 8 ≤ k → k < q + 14 → f26 k = cd_e0 G k := fun k z1 z2 => (congrFun ef26 k).trans ((va_up_ne _ _ (by omega)).trans (s8_f25 k z1 z2))
  have s14_f26 : ∀ k, q + 14 ≤ k → k < q + 21 → f26 k = cd_e0 G k := fun k z1 z2 => (congrFun ef26 k).trans ((va_up_ne _ _ (by omega)).trans (s14_f25 k z1 z2))
  have Pf26 : ∀ k, k < q → f26 k = f k := fun k z => (congrFun ef26 k).trans ((va_up_ne _ _ (by omega)).trans (Pf25 k z))
  refine lv_iinc (v := 1) (lv' := [(2, .int 1), (0, .ref (G.2.2.2.2 + q)), (1, .ref (G.2.2.2.2 + 1))]) S.1 S.2.1 dX4_init_109 hl (k := 0) rfl (by decide) (by decide) rfl (fun ls hl => ?_)
  refine lv_goto (tgt := 90) S.1 S.2.1 dX4_init_112 (by decide) ?_
  refine lv_iload_n S.1 S.2.1 dX4_init_90 rfl (lv_at hl 0 rfl) ?_
  refine lv_bipush (v := 6) S.1 S.2.1 dX4_init_91 (by decide) ?_
  refine lv_icmp_ge (tgt := 115) S.1 S.2.1 dX4_init_93 (by decide) (fun z => absurd z (by decide)) (fun _ => ?_)
  refine lv_aload_n S.1 S.2.1 dX4_init_96 rfl (lv_at hl 1 rfl) ?_
  refine cd_kget (q := q) (n := q + 21) (ci := 4) (C := RX4) (T := TX4) (N := 11) (v := .ref (G.2.2.2.2 + (q + 6))) S hK hC rfl cd_x4 (by omega) v0_f26 7 (by decide) cd_f_X4_31 rfl dX4_init_97 ?_
  refine lv_iload_n S.1 S.2.1 dX4_init_100 rfl (lv_at hl 0 rfl) ?_
  obtain ⟨f27, ef27⟩ : ∃ z, z = va_up f26 (q + 21) (.inr (0, [.int 0, .int 0, .int 0, .int 0, .int 0, .int 0, .int 0, .int 0, .int 0, .int 0, .null, .null, .null, .null, .null, .null])) := ⟨_, rfl⟩
  refine cd_knew (n := q + 21) (ci := 0) (C := RX0) (T := TX0) (N := 16) S hK hC rfl cd_x0 tyX0 tyX0_ok cd_k_X4_29 cd_j_X0 cd_n_X0 (fs := [.int 0, .int 0, .int 0, .int 0, .int 0, .int 0, .int 0, .int 0, .int 0, .int 0, .null, .null, .null, .null, .null, .null]) (by decide) ef27 (Nat.le_of_ble_eq_true rfl) (Nat.le_of_ble_eq_true rfl) dX4_init_101 (fun H hC => ?_)
  have v0_f27 := (congrFun ef27 (q)).trans ((va_up_ne _ _ (by omega)).trans v0_f26)
  have v1_f27 := (congrFun ef27 (q + 1)).trans ((va_up_ne _ _ (by omega)).trans v1_f26)
  have v6_f27 := (congrFun ef27 (q + 6)).trans ((va_up_ne _ _ (by omega)).trans v6_f26)
  have v7_f27 := (congrFun ef27 (q + 7)).trans ((va_up_ne _ _ (by omega)).trans v7_f26)
  have v21_f27 : f27 (q + 21) = .inr (0, [.int 0, .int 0, .int 0, .int 0, .int 0, .int 0, .int 0, .int 0, .int 0, .int 0, .null, .null, .null, .null, .null, .null]) := (congrFun ef27 (q + 21)).trans (if_pos rfl)
  have s2_f27 : ∀ k, q + 2 ≤ k → k < q + 6 → f27 k = cd_e0 G k := fun k z1 z2 => (congrFun ef27 k).trans ((va_up_ne _ _ (by omega)).trans (s2_f26 k z1 z2))
  have s8_f27 : ∀ k, q + 8 ≤ k → k < q + 14 → f27 k = cd_e0 G k := fun k z1 z2 => (congrFun ef27 k).trans ((va_up_ne _ _ (by omega)).trans (s8_f26 k z1 z2))
  have s14_f27 : ∀ k, q + 14 ≤ k → k < q + 21 → f27 k = cd_e0 G k := fun k z1 z2 => (congrFun ef27 k).trans ((va_up_ne _ _ (by omega)).trans (s14_f26 k z1 z2))
  have Pf27 : ∀ k, k < q → f27 k = f k := fun k z => (congrFun ef27 k).trans ((va_up_ne _ _ (by omega)).trans (Pf26 k z))
  have hC : cd_C G (q + 22) f27 s.heap H locs := hC
  refine lv_dup S.1 S.2.1 dX4_init_104 rfl ?_
  refine cd_kcall (N := 0) (q := q + 21) (As := []) S hK hC hl.1 (c_X0_init l G (q + 21) (cd_is_g hq 1 (by decide)) f27 v21_f27) cd_m_X4_49 cd_i_X0_init cd_n_X0 cd_c_X0_init (by decide +kernel) ⟨Nat.le_of_ble_eq_true rfl, Nat.le_of_ble_eq_true rfl⟩ ⟨rfl, rfl⟩ rfl rfl (Nat.le_of_ble_eq_true rfl) ⟨Nat.le_of_ble_eq_true rfl, Nat.le_of_ble_eq_true rfl⟩ dX4_init_105 (fun f28 H locs Rf28 Tf28 hC => ?_)
  have v0_f28 := (Rf28 (q) (by omega)).trans v0_f27
  have v1_f28 := (Rf28 (q + 1) (by omega)).trans v1_f27
  have v6_f28 := (Rf28 (q + 6) (by omega)).trans v6_f27
  have v7_f28 := (Rf28 (q + 7) (by omega)).trans v7_f27
  have s2_f28 : ∀ k, q + 2 ≤ k → k < q + 6 → f28 k = cd_e0 G k := fun k z1 z2 => (Rf28 k (by omega)).trans (s2_f27 k z1 z2)
  have s8_f28 : ∀ k, q + 8 ≤ k → k < q + 14 → f28 k = cd_e0 G k := fun k z1 z2 => (Rf28 k (by omega)).trans (s8_f27 k z1 z2)
  have s14_f28 : ∀ k, q + 14 ≤ k → k < q + 21 → f28 k = cd_e0 G k := fun k z1 z2 => (Rf28 k (by omega)).trans (s14_f27 k z1 z2)
  have s21_f28 : ∀ k, q + 21 ≤ k → k < q + 28 → f28 k = cd_e0 G k := fun k z1 z2 => Tf28 k z1 (by omega)
  have Pf28 : ∀ k, k < q → f28 k = f k := fun k z => (Rf28 k (by omega)).trans (Pf27 k z)
  have hC : cd_C G (q + 28) f28 s.heap H locs := hC
  obtain ⟨f29, ef29⟩ : ∃ z, z = va_up f28 (q + 6) (.inl (G.2.2.1, 6, .inr (.inr (.inr (.inr (va_up (va_up (fun _ => none) (Int32.toNatClampNeg 0) (some (G.2.2.2.2 + (q + 14)))) (Int32.toNatClampNeg 1) (some (G.2.2.2.2 + (q + 21))))))))) := ⟨_, rfl⟩
  refine cd_kaast (q := q + 6) (r := q + 21) (n := q + 28) (N := 6) (t0 := 1) (ci := 0) S hK hC (by omega) v6_f28 rfl (by omega) ((s21_f28 _ (by omega) (by omega)).trans (cd_e0_at (cd_is_g hq 1 (by decide)))) rfl (cd_ix_in (by decide)) ef29 dX4_init_108 (fun H locs hC => ?_)
  have v0_f29 := (congrFun ef29 (q)).trans ((va_up_ne _ _ (by omega)).trans v0_f28)
  have v1_f29 := (congrFun ef29 (q + 1)).trans ((va_up_ne _ _ (by omega)).trans v1_f28)
  have v7_f29 := (congrFun ef29 (q + 7)).trans ((va_up_ne _ _ (by omega)).trans v7_f28)
  have v6_f29 : f29 (q + 6) = .inl (G.2.2.1, 6, .inr (.inr (.inr (.inr (va_up (va_up (fun _ => none) (Int32.toNatClampNeg 0) (some (G.2.2.2.2 + (q + 14)))) (Int32.toNatClampNeg 1) (some (G.2.2.2.2 + (q + 21)))))))) := (congrFun ef29 (q + 6)).trans (if_pos rfl)
  have s2_f29 : ∀ k, q + 2 ≤ k → k < q + 6 → f29 k = cd_e0 G k := fun k z1 z2 => (congrFun ef29 k).trans ((va_up_ne _ _ (by omega)).trans (s2_f28 k z1 z2))
  have s8_f29 : ∀ k, q + 8 ≤ k → k < q + 14 → f29 k = cd_e0 G k := fun k z1 z2 => (congrFun ef29 k).trans ((va_up_ne _ _ (by omega)).trans (s8_f28 k z1 z2))
  have s14_f29 : ∀ k, q + 14 ≤ k → k < q + 21 → f29 k = cd_e0 G k := fun k z1 z2 => (congrFun ef29 k).trans ((va_up_ne _ _ (by omega)).trans (s14_f28 k z1 z2))
  have s21_f29 : ∀ k, q + 21 ≤ k → k < q + 28 → f29 k = cd_e0 G k := fun k z1 z2 => (congrFun ef29 k).trans ((va_up_ne _ _ (by omega)).trans (s21_f28 k z1 z2))
  have Pf29 : ∀ k, k < q → f29 k = f k := fun k z => (congrFun ef29 k).trans ((va_up_ne _ _ (by omega)).trans (Pf28 k z))
  refine lv_iinc (v := 2) (lv' := [(2, .int 2), (0, .ref (G.2.2.2.2 + q)), (1, .ref (G.2.2.2.2 + 1))]) S.1 S.2.1 dX4_init_109 hl (k := 0) rfl (by decide) (by decide) rfl (fun ls hl => ?_)
  refine lv_goto (tgt := 90) S.1 S.2.1 dX4_init_112 (by decide) ?_
  refine lv_iload_n S.1 S.2.1 dX4_init_90 rfl (lv_at hl 0 rfl) ?_
  refine lv_bipush (v := 6) S.1 S.2.1 dX4_init_91 (by decide) ?_
  refine lv_icmp_ge (tgt := 115) S.1 S.2.1 dX4_init_93 (by decide) (fun z => absurd z (by decide)) (fun _ => ?_)
  refine lv_aload_n S.1 S.2.1 dX4_init_96 rfl (lv_at hl 1 rfl) ?_
  refine cd_kget (q := q) (n := q + 28) (ci := 4) (C := RX4) (T := TX4) (N := 11) (v := .ref (G.2.2.2.2 + (q + 6))) S hK hC rfl cd_x4 (by omega) v0_f29 7 (by decide) cd_f_X4_31 rfl dX4_init_97 ?_
  refine lv_iload_n S.1 S.2.1 dX4_init_100 rfl (lv_at hl 0 rfl) ?_
  obtain ⟨f30, ef30⟩ : ∃ z, z = va_up f29 (q + 28) (.inr (0, [.int 0, .int 0, .int 0, .int 0, .int 0, .int 0, .int 0, .int 0, .int 0, .int 0, .null, .null, .null, .null, .null, .null])) := ⟨_, rfl⟩
  refine cd_knew (n := q + 28) (ci := 0) (C := RX0) (T := TX0) (N := 16) S hK hC rfl cd_x0 tyX0 tyX0_ok cd_k_X4_29 cd_j_X0 cd_n_X0 (fs := [.int 0, .int 0, .int 0, .int 0, .int 0, .int 0, .int 0, .int 0, .int 0, .int 0, .null, .null, .null, .null, .null, .null]) (by decide) ef30 (Nat.le_of_ble_eq_true rfl) (Nat.le_of_ble_eq_true rfl) dX4_init_101 (fun H hC => ?_)
  have v0_f30 := (congrFun ef30 (q)).trans ((va_up_ne _ _ (by omega)).trans v0_f29)
  have v1_f30 := (congrFun ef30 (q + 1)).trans ((va_up_ne _ _ (by omega)).trans v1_f29)
  have v6_f30 := (congrFun ef30 (q + 6)).trans ((va_up_ne _ _ (by omega)).trans v6_f29)
  have v7_f30 := (congrFun ef30 (q + 7)).trans ((va_up_ne _ _ (by omega)).trans v7_f29)
  have v28_f30 : f30 (q + 28) = .inr (0, [.int 0, .int 0, .int 0, .int 0, .int 0, .int 0, .int 0, .int 0, .int 0, .int 0, .null, .null, .null, .null, .null, .null]) := (congrFun ef30 (q + 28)).trans (if_pos rfl)
  have s2_f30 : ∀ k, q + 2 ≤ k → k < q + 6 → f30 k = cd_e0 G k := fun k z1 z2 => (congrFun ef30 k).trans ((va_up_ne _ _ (by omega)).trans (s2_f29 k z1 z2))
  have s8_f30 : ∀ k, q + 8 ≤ k → k < q + 14 → f30 k = cd_e0 G k := fun k z1 z2 => (congrFun ef30 k).trans ((va_up_ne _ _ (by omega)).trans (s8_f29 k z1 z2))
  have s14_f30 : ∀ k, q + 14 ≤ k → k < q + 21 → f30 k = cd_e0 G k := fun k z1 z2 => (congrFun ef30 k).trans ((va_up_ne _ _ (by omega)).trans (s14_f29 k z1 z2))
  have s21_f30 : ∀ k, q + 21 ≤ k → k < q + 28 → f30 k = cd_e0 G k := fun k z1 z2 => (congrFun ef30 k).trans ((va_up_ne _ _ (by omega)).trans (s21_f29 k z1 z2))
  have Pf30 : ∀ k, k < q → f30 k = f k := fun k z => (congrFun ef30 k).trans ((va_up_ne _ _ (by omega)).trans (Pf29 k z))
  have hC : cd_C G (q + 29) f30 s.heap H locs := hC
  refine lv_dup S.1 S.2.1 dX4_init_104 rfl ?_
  refine cd_kcall (N := 0) (q := q + 28) (As := []) S hK hC hl.1 (c_X0_init l G (q + 28) (cd_is_g hq 2 (by decide)) f30 v28_f30) cd_m_X4_49 cd_i_X0_init cd_n_X0 cd_c_X0_init (by decide +kernel) ⟨Nat.le_of_ble_eq_true rfl, Nat.le_of_ble_eq_true rfl⟩ ⟨rfl, rfl⟩ rfl rfl (Nat.le_of_ble_eq_true rfl) ⟨Nat.le_of_ble_eq_true rfl, Nat.le_of_ble_eq_true rfl⟩ dX4_init_105 (fun f31 H locs Rf31 Tf31 hC => ?_)
  have v0_f31 := (Rf31 (q) (by omega)).trans v0_f30
  have v1_f31 := (Rf31 (q + 1) (by omega)).trans v1_f30
  have v6_f31 := (Rf31 (q + 6) (by omega)).trans v6_f30
  have v7_f31 := (Rf31 (q + 7) (by omega)).trans v7_f30
  have s2_f31 : ∀ k, q + 2 ≤ k → k < q + 6 → f31 k = cd_e0 G k := fun k z1 z2 => (Rf31 k (by omega)).trans (s2_f30 k z1 z2)
  have s8_f31 : ∀ k, q + 8 ≤ k → k < q + 14 → f31 k = cd_e0 G k := fun k z1 z2 => (Rf31 k (by omega)).trans (s8_f30 k z1 z2)
  have s14_f31 : ∀ k, q + 14 ≤ k → k < q + 21 → f31 k = cd_e0 G k := fun k z1 z2 => (Rf31 k (by omega)).trans (s14_f30 k z1 z2)
  have s21_f31 : ∀ k, q + 21 ≤ k → k < q + 28 → f31 k = cd_e0 G k := fun k z1 z2 => (Rf31 k (by omega)).trans (s21_f30 k z1 z2)
  have s28_f31 : ∀ k, q + 28 ≤ k → k < q + 35 → f31 k = cd_e0 G k := fun k z1 z2 => Tf31 k z1 (by omega)
  have Pf31 : ∀ k, k < q → f31 k = f k := fun k z => (Rf31 k (by omega)).trans (Pf30 k z)
  have hC : cd_C G (q + 35) f31 s.heap H locs := hC
  obtain ⟨f32, ef32⟩ : ∃ z, z = va_up f31 (q + 6) (.inl (G.2.2.1, 6, .inr (.inr (.inr (.inr (va_up (va_up (va_up (fun _ => none) (Int32.toNatClampNeg 0) (some (G.2.2.2.2 + (q + 14)))) (Int32.toNatClampNeg 1) (some (G.2.2.2.2 + (q + 21)))) (Int32.toNatClampNeg 2) (some (G.2.2.2.2 + (q + 28))))))))) := ⟨_, rfl⟩
  refine cd_kaast (q := q + 6) (r := q + 28) (n := q + 35) (N := 6) (t0 := 1) (ci := 0) S hK hC (by omega) v6_f31 rfl (by omega) ((s28_f31 _ (by omega) (by omega)).trans (cd_e0_at (cd_is_g hq 2 (by decide)))) rfl (cd_ix_in (by decide)) ef32 dX4_init_108 (fun H locs hC => ?_)
  have v0_f32 := (congrFun ef32 (q)).trans ((va_up_ne _ _ (by omega)).trans v0_f31)
  have v1_f32 := (congrFun ef32 (q + 1)).trans ((va_up_ne _ _ (by omega)).trans v1_f31)
  have v7_f32 := (congrFun ef32 (q + 7)).trans ((va_up_ne _ _ (by omega)).trans v7_f31)
  have v6_f32 : f32 (q + 6) = .inl (G.2.2.1, 6, .inr (.inr (.inr (.inr (va_up (va_up (va_up (fun _ => none) (Int32.toNatClampNeg 0) (some (G.2.2.2.2 + (q + 14)))) (Int32.toNatClampNeg 1) (some (G.2.2.2.2 + (q + 21)))) (Int32.toNatClampNeg 2) (some (G.2.2.2.2 + (q + 28)))))))) := (congrFun ef32 (q + 6)).trans (if_pos rfl)
  have s2_f32 : ∀ k, q + 2 ≤ k → k < q + 6 → f32 k = cd_e0 G k := fun k z1 z2 => (congrFun ef32 k).trans ((va_up_ne _ _ (by omega)).trans (s2_f31 k z1 z2))
  have s8_f32 : ∀ k, q + 8 ≤ k → k < q + 14 → f32 k = cd_e0 G k := fun k z1 z2 => (congrFun ef32 k).trans ((va_up_ne _ _ (by omega)).trans (s8_f31 k z1 z2))
  have s14_f32 : ∀ k, q + 14 ≤ k → k < q + 21 → f32 k = cd_e0 G k := fun k z1 z2 => (congrFun ef32 k).trans ((va_up_ne _ _ (by omega)).trans (s14_f31 k z1 z2))
  have s21_f32 : ∀ k, q + 21 ≤ k → k < q + 28 → f32 k = cd_e0 G k := fun k z1 z2 => (congrFun ef32 k).trans ((va_up_ne _ _ (by omega)).trans (s21_f31 k z1 z2))
  have s28_f32 : ∀ k, q + 28 ≤ k → k < q + 35 → f32 k = cd_e0 G k := fun k z1 z2 => (congrFun ef32 k).trans ((va_up_ne _ _ (by omega)).trans (s28_f31 k z1 z2))
  have Pf32 : ∀ k, k < q → f32 k = f k := fun k z => (congrFun ef32 k).trans ((va_up_ne _ _ (by omega)).trans (Pf31 k z))
  refine lv_iinc (v := 3) (lv' := [(2, .int 3), (0, .ref (G.2.2.2.2 + q)), (1, .ref (G.2.2.2.2 + 1))]) S.1 S.2.1 dX4_init_109 hl (k := 0) rfl (by decide) (by decide) rfl (fun ls hl => ?_)
  refine lv_goto (tgt := 90) S.1 S.2.1 dX4_init_112 (by decide) ?_
  refine lv_iload_n S.1 S.2.1 dX4_init_90 rfl (lv_at hl 0 rfl) ?_
  refine lv_bipush (v := 6) S.1 S.2.1 dX4_init_91 (by decide) ?_
  refine lv_icmp_ge (tgt := 115) S.1 S.2.1 dX4_init_93 (by decide) (fun z => absurd z (by decide)) (fun _ => ?_)
  refine lv_aload_n S.1 S.2.1 dX4_init_96 rfl (lv_at hl 1 rfl) ?_
  refine cd_kget (q := q) (n := q + 35) (ci := 4) (C := RX4) (T := TX4) (N := 11) (v := .ref (G.2.2.2.2 + (q + 6))) S hK hC rfl cd_x4 (by omega) v0_f32 7 (by decide) cd_f_X4_31 rfl dX4_init_97 ?_
  refine lv_iload_n S.1 S.2.1 dX4_init_100 rfl (lv_at hl 0 rfl) ?_
  obtain ⟨f33, ef33⟩ : ∃ z, z = va_up f32 (q + 35) (.inr (0, [.int 0, .int 0, .int 0, .int 0, .int 0, .int 0, .int 0, .int 0, .int 0, .int 0, .null, .null, .null, .null, .null, .null])) := ⟨_, rfl⟩
  refine cd_knew (n := q + 35) (ci := 0) (C := RX0) (T := TX0) (N := 16) S hK hC rfl cd_x0 tyX0 tyX0_ok cd_k_X4_29 cd_j_X0 cd_n_X0 (fs := [.int 0, .int 0, .int 0, .int 0, .int 0, .int 0, .int 0, .int 0, .int 0, .int 0, .null, .null, .null, .null, .null, .null]) (by decide) ef33 (Nat.le_of_ble_eq_true rfl) (Nat.le_of_ble_eq_true rfl) dX4_init_101 (fun H hC => ?_)
  have v0_f33 := (congrFun ef33 (q)).trans ((va_up_ne _ _ (by omega)).trans v0_f32)
  have v1_f33 := (congrFun ef33 (q + 1)).trans ((va_up_ne _ _ (by omega)).trans v1_f32)
  have v6_f33 := (congrFun ef33 (q + 6)).trans ((va_up_ne _ _ (by omega)).trans v6_f32)
  have v7_f33 := (congrFun ef33 (q + 7)).trans ((va_up_ne _ _ (by omega)).trans v7_f32)
  have v35_f33 : f33 (q + 35) = .inr (0, [.int 0, .int 0, .int 0, .int 0, .int 0, .int 0, .int 0, .int 0, .int 0, .int 0, .null, .null, .null, .null, .null, .null]) := (congrFun ef33 (q + 35)).trans (if_pos rfl)
  have s2_f33 : ∀ k, q + 2 ≤ k → k < q + 6 → f33 k = cd_e0 G k := fun k z1 z2 => (congrFun ef33 k).trans ((va_up_ne _ _ (by omega)).trans (s2_f32 k z1 z2))
  have s8_f33 : ∀ k, q + 8 ≤ k → k < q + 14 → f33 k = cd_e0 G k := fun k z1 z2 => (congrFun ef33 k).trans ((va_up_ne _ _ (by omega)).trans (s8_f32 k z1 z2))
  have s14_f33 : ∀ k, q + 14 ≤ k → k < q + 21 → f33 k = cd_e0 G k := fun k z1 z2 => (congrFun ef33 k).trans ((va_up_ne _ _ (by omega)).trans (s14_f32 k z1 z2))
  have s21_f33 : ∀ k, q + 21 ≤ k → k < q + 28 → f33 k = cd_e0 G k := fun k z1 z2 => (congrFun ef33 k).trans ((va_up_ne _ _ (by omega)).trans (s21_f32 k z1 z2))
  have s28_f33 : ∀ k, q + 28 ≤ k → k < q + 35 → f33 k = cd_e0 G k := fun k z1 z2 => (congrFun ef33 k).trans ((va_up_ne _ _ (by omega)).trans (s28_f32 k z1 z2))
  have Pf33 : ∀ k, k < q → f33 k = f k := fun k z => (congrFun ef33 k).trans ((va_up_ne _ _ (by omega)).trans (Pf32 k z))
  have hC : cd_C G (q + 36) f33 s.heap H locs := hC
  refine lv_dup S.1 S.2.1 dX4_init_104 rfl ?_
  refine cd_kcall (N := 0) (q := q + 35) (As := []) S hK hC hl.1 (c_X0_init l G (q + 35) (cd_is_g hq 3 (by decide)) f33 v35_f33) cd_m_X4_49 cd_i_X0_init cd_n_X0 cd_c_X0_init (by decide +kernel) ⟨Nat.le_of_ble_eq_true rfl, Nat.le_of_ble_eq_true rfl⟩ ⟨rfl, rfl⟩ rfl rfl (Nat.le_of_ble_eq_true rfl) ⟨Nat.le_of_ble_eq_true rfl, Nat.le_of_ble_eq_true rfl⟩ dX4_init_105 (fun f34 H locs Rf34 Tf34 hC => ?_)
  have v0_f34 := (Rf34 (q) (by omega)).trans v0_f33
  have v1_f34 := (Rf34 (q + 1) (by omega)).trans v1_f33
  have v6_f34 := (Rf34 (q + 6) (by omega)).trans v6_f33
  have v7_f34 := (Rf34 (q + 7) (by omega)).trans v7_f33
  have s2_f34 : ∀ k, q + 2 ≤ k → k < q + 6 → f34 k = cd_e0 G k := fun k z1 z2 => (Rf34 k (by omega)).trans (s2_f33 k z1 z2)
  have s8_f34 : ∀ k, q + 8 ≤ k → k < q + 14 → f34 k = cd_e0 G k := fun k z1 z2 => (Rf34 k (by omega)).trans (s8_f33 k z1 z2)
  have s14_f34 : ∀ k, q + 14 ≤ k → k < q + 21 → f34 k = cd_e0 G k := fun k z1 z2 => (Rf34 k (by omega)).trans (s14_f33 k z1 z2)
  have s21_f34 : ∀ k, q + 21 ≤ k → k < q + 28 → f34 k = cd_e0 G k := fun k z1 z2 => (Rf34 k (by omega)).trans (s21_f33 k z1 z2)
  have s28_f34 : ∀ k, q + 28 ≤ k → k < q + 35 → f34 k = cd_e0 G k := fun k z1 z2 => (Rf34 k (by omega)).trans (s28_f33 k z1 z2)
  have s35_f34 : ∀ k, q + 35 ≤ k → k < q + 42 → f34 k = cd_e0 G k := fun k z1 z2 => Tf34 k z1 (by omega)
  have Pf34 : ∀ k, k < q → f34 k = f k := fun k z => (Rf34 k (by omega)).trans (Pf33 k z)
  have hC : cd_C G (q + 42) f34 s.heap H locs := hC
  obtain ⟨f35, ef35⟩ : ∃ z, z = va_up f34 (q + 6) (.inl (G.2.2.1, 6, .inr (.inr (.inr (.inr (va_up (va_up (va_up (va_up (fun _ => none) (Int32.toNatClampNeg 0) (some (G.2.2.2.2 + (q + 14)))) (Int32.toNatClampNeg 1) (some (G.2.2.2.2 + (q + 21)))) (Int32.toNatClampNeg 2) (some (G.2.2.2.2 + (q + 28)))) (Int32.toNatClampNeg 3) (some (G.2.2.2.2 + (q + 35))))))))) := ⟨_, rfl⟩
  refine cd_kaast (q := q + 6) (r := q + 35) (n := q + 42) (N := 6) (t0 := 1) (ci := 0) S hK hC (by omega) v6_f34 rfl (by omega) ((s35_f34 _ (by omega) (by omega)).trans (cd_e0_at (cd_is_g hq 3 (by decide)))) rfl (cd_ix_in (by decide)) ef35 dX4_init_108 (fun H locs hC => ?_)
  have v0_f35 := (congrFun ef35 (q)).trans ((va_up_ne _ _ (by omega)).trans v0_f34)
  have v1_f35 := (congrFun ef35 (q + 1)).trans ((va_up_ne _ _ (by omega)).trans v1_f34)
  have v7_f35 := (congrFun ef35 (q + 7)).trans ((va_up_ne _ _ (by omega)).trans v7_f34)
  have v6_f35 : f35 (q + 6) = .inl (G.2.2.1, 6, .inr (.inr (.inr (.inr (va_up (va_up (va_up (va_up (fun _ => none) (Int32.toNatClampNeg 0) (some (G.2.2.2.2 + (q + 14)))) (Int32.toNatClampNeg 1) (some (G.2.2.2.2 + (q + 21)))) (Int32.toNatClampNeg 2) (some (G.2.2.2.2 + (q + 28)))) (Int32.toNatClampNeg 3) (some (G.2.2.2.2 + (q + 35)))))))) := (congrFun ef35 (q + 6)).trans (if_pos rfl)
  have s2_f35 : ∀ k, q + 2 ≤ k → k < q + 6 → f35 k = cd_e0 G k := fun k z1 z2 => (congrFun ef35 k).trans ((va_up_ne _ _ (by omega)).trans (s2_f34 k z1 z2))
  have s8_f35 : ∀ k, q + 8 ≤ k → k < q + 14 → f35 k = cd_e0 G k := fun k z1 z2 => (congrFun ef35 k).trans ((va_up_ne _ _ (by omega)).trans (s8_f34 k z1 z2))
  have s14_f35 : ∀ k, q + 14 ≤ k → k < q + 21 → f35 k = cd_e0 G k := fun k z1 z2 => (congrFun ef35 k).trans ((va_up_ne _ _ (by omega)).trans (s14_f34 k z1 z2))
  have s21_f35 : ∀ k, q + 21 ≤ k → k < q + 28 → f35 k = cd_e0 G k := fun k z1 z2 => (congrFun ef35 k).trans ((va_up_ne _ _ (by omega)).trans (s21_f34 k z1 z2))
  have s28_f35 : ∀ k, q + 28 ≤ k → k < q + 35 → f35 k = cd_e0 G k := fun k z1 z2 => (congrFun ef35 k).trans ((va_up_ne _ _ (by omega)).trans (s28_f34 k z1 z2))
  have s35_f35 : ∀ k, q + 35 ≤ k → k < q + 42 → f35 k = cd_e0 G k := fun k z1 z2 => (congrFun ef35 k).trans ((va_up_ne _ _ (by omega)).trans (s35_f34 k z1 z2))
  have Pf35 : ∀ k, k < q → f35 k = f k := fun k z => (congrFun ef35 k).trans ((va_up_ne _ _ (by omega)).trans (Pf34 k z))
  refine lv_iinc (v := 4) (lv' := [(2, .int 4), (0, .ref (G.2.2.2.2 + q)), (1, .ref (G.2.2.2.2 + 1))]) S.1 S.2.1 dX4_init_109 hl (k := 0) rfl (by decide) (by decide) rfl (fun ls hl => ?_)
  refine lv_goto (tgt := 90) S.1 S.2.1 dX4_init_112 (by decide) ?_
  refine lv_iload_n S.1 S.2.1 dX4_init_90 rfl (lv_at hl 0 rfl) ?_
  refine lv_bipush (v := 6) S.1 S.2.1 dX4_init_91 (by decide) ?_
  refine lv_icmp_ge (tgt := 115) S.1 S.2.1 dX4_init_93 (by decide) (fun z => absurd z (by decide)) (fun _ => ?_)
  refine lv_aload_n S.1 S.2.1 dX4_init_96 rfl (lv_at hl 1 rfl) ?_
  refine cd_kget (q := q) (n := q + 42) (ci := 4) (C := RX4) (T := TX4) (N := 11) (v := .ref (G.2.2.2.2 + (q + 6))) S hK hC rfl cd_x4 (by omega) v0_f35 7 (by decide) cd_f_X4_31 rfl dX4_init_97 ?_
  refine lv_iload_n S.1 S.2.1 dX4_init_100 rfl (lv_at hl 0 rfl) ?_
  obtain ⟨f36, ef36⟩ : ∃ z, z = va_up f35 (q + 42) (.inr (0, [.int 0, .int 0, .int 0, .int 0, .int 0, .int 0, .int 0, .int 0, .int 0, .int 0, .null, .null, .null, .null, .null, .null])) := ⟨_, rfl⟩
  refine cd_knew (n := q + 42) (ci := 0) (C := RX0) (T := TX0) (N := 16) S hK hC rfl cd_x0 tyX0 tyX0_ok cd_k_X4_29 cd_j_X0 cd_n_X0 (fs := [.int 0, .int 0, .int 0, .int 0, .int 0, .int 0, .int 0, .int 0, .int 0, .int 0, .null, .null, .null, .null, .null, .null]) (by decide) ef36 (Nat.le_of_ble_eq_true rfl) (Nat.le_of_ble_eq_true rfl) dX4_init_101 (fun H hC => ?_)
  have v0_f36 := (congrFun ef36 (q)).trans ((va_up_ne _ _ (by omega)).trans v0_f35)
  have v1_f36 := (congrFun ef36 (q + 1)).trans ((va_up_ne _ _ (by omega)).trans v1_f35)
  have v6_f36 := (congrFun ef36 (q + 6)).trans ((va_up_ne _ _ (by omega)).trans v6_f35)
  have v7_f36 := (congrFun ef36 (q + 7)).trans ((va_up_ne _ _ (by omega)).trans v7_f35)
  have v42_f36 : f36 (q + 42) = .inr (0, [.int 0, .int 0, .int 0, .int 0, .int 0, .int 0, .int 0, .int 0, .int 0, .int 0, .null, .null, .null, .null, .null, .null]) := (congrFun ef36 (q + 42)).trans (if_pos rfl)
  have s2_f36 : ∀ k, q + 2 ≤ k → k < q + 6 → f36 k = cd_e0 G k := fun k z1 z2 => (congrFun ef36 k).trans ((va_up_ne _ _ (by omega)).trans (s2_f35 k z1 z2))
  have s8_f36 : ∀ k, q + 8 ≤ k → k < q + 14 → f36 k = cd_e0 G k := fun k z1 z2 => (congrFun ef36 k).trans ((va_up_ne _ _ (by omega)).trans (s8_f35 k z1 z2))
  have s14_f36 : ∀ k, q + 14 ≤ k → k < q + 21 → f36 k = cd_e0 G k := fun k z1 z2 => (congrFun ef36 k).trans ((va_up_ne _ _ (by omega)).trans (s14_f35 k z1 z2))
  have s21_f36 : ∀ k, q + 21 ≤ k → k < q + 28 → f36 k = cd_e0 G k := fun k z1 z2 => (congrFun ef36 k).trans ((va_up_ne _ _ (by omega)).trans (s21_f35 k z1 z2))
  have s28_f36 : ∀ k, q + 28 ≤ k → k < q + 35 → f36 k = cd_e0 G k := fun k z1 z2 => (congrFun ef36 k).trans ((va_up_ne _ _ (by omega)).trans (s28_f35 k z1 z2))
  have s35_f36 : ∀ k, q + 35 ≤ k → k < q + 42 → f36 k = cd_e0 G k := fun k z1 z2 => (congrFun ef36 k).trans ((va_up_ne _ _ (by omega)).trans (s35_f35 k z1 z2))
  have Pf36 : ∀ k, k < q → f36 k = f k := fun k z => (congrFun ef36 k).trans ((va_up_ne _ _ (by omega)).trans (Pf35 k z))
  have hC : cd_C G (q + 43) f36 s.heap H locs := hC
  refine lv_dup S.1 S.2.1 dX4_init_104 rfl ?_
  refine cd_kcall (N := 0) (q := q + 42) (As := []) S hK hC hl.1 (c_X0_init l G (q + 42) (cd_is_g hq 4 (by decide)) f36 v42_f36) cd_m_X4_49 cd_i_X0_init cd_n_X0 cd_c_X0_init (by decide +kernel) ⟨Nat.le_of_ble_eq_true rfl, Nat.le_of_ble_eq_true rfl⟩ ⟨rfl, rfl⟩ rfl rfl (Nat.le_of_ble_eq_true rfl) ⟨Nat.le_of_ble_eq_true rfl, Nat.le_of_ble_eq_true rfl⟩ dX4_init_105 (fun f37 H locs Rf37 Tf37 hC => ?_)
  have v0_f37 := (Rf37 (q) (by omega)).trans v0_f36
  have v1_f37 := (Rf37 (q + 1) (by omega)).trans v1_f36
  have v6_f37 := (Rf37 (q + 6) (by omega)).trans v6_f36
  have v7_f37 := (Rf37 (q + 7) (by omega)).trans v7_f36
  have s2_f37 : ∀ k, q + 2 ≤ k → k < q + 6 → f37 k = cd_e0 G k := fun k z1 z2 => (Rf37 k (by omega)).trans (s2_f36 k z1 z2)
  have s8_f37 : ∀ k, q + 8 ≤ k → k < q + 14 → f37 k = cd_e0 G k := fun k z1 z2 => (Rf37 k (by omega)).trans (s8_f36 k z1 z2)
  have s14_f37 : ∀ k, q + 14 ≤ k → k < q + 21 → f37 k = cd_e0 G k := fun k z1 z2 => (Rf37 k (by omega)).trans (s14_f36 k z1 z2)
  have s21_f37 : ∀ k, q + 21 ≤ k → k < q + 28 → f37 k = cd_e0 G k := fun k z1 z2 => (Rf37 k (by omega)).trans (s21_f36 k z1 z2)
  have s28_f37 : ∀ k, q + 28 ≤ k → k < q + 35 → f37 k = cd_e0 G k := fun k z1 z2 => (Rf37 k (by omega)).trans (s28_f36 k z1 z2)
  have s35_f37 : ∀ k, q + 35 ≤ k → k < q + 42 → f37 k = cd_e0 G k := fun k z1 z2 => (Rf37 k (by omega)).trans (s35_f36 k z1 z2)
  have s42_f37 : ∀ k, q + 42 ≤ k → k < q + 49 → f37 k = cd_e0 G k := fun k z1 z2 => Tf37 k z1 (by omega)
  have Pf37 : ∀ k, k < q → f37 k = f k := fun k z => (Rf37 k (by omega)).trans (Pf36 k z)
  have hC : cd_C G (q + 49) f37 s.heap H locs := hC
  obtain ⟨f38, ef38⟩ : ∃ z, z = va_up f37 (q + 6) (.inl (G.2.2.1, 6, .inr (.inr (.inr (.inr (va_up (va_up (va_up (va_up (va_up (fun _ => none) (Int32.toNatClampNeg 0) (some (G.2.2.2.2 + (q + 14)))) (Int32.toNatClampNeg 1) (some (G.2.2.2.2 + (q + 21)))) (Int32.toNatClampNeg 2) (some (G.2.2.2.2 + (q + 28)))) (Int32.toNatClampNeg 3) (some (G.2.2.2.2 + (q + 35)))) (Int32.toNatClampNeg 4) (some (G.2.2.2.2 + (q + 42))))))))) := ⟨_, rfl⟩
  refine cd_kaast (q := q + 6) (r := q + 42) (n := q + 49) (N := 6) (t0 := 1) (ci := 0) S hK hC (by omega) v6_f37 rfl (by omega) ((s42_f37 _ (by omega) (by omega)).trans (cd_e0_at (cd_is_g hq 4 (by decide)))) rfl (cd_ix_in (by decide)) ef38 dX4_init_108 (fun H locs hC => ?_)
  have v0_f38 := (congrFun ef38 (q)).trans ((va_up_ne _ _ (by omega)).trans v0_f37)
  have v1_f38 := (congrFun ef38 (q + 1)).trans ((va_up_ne _ _ (by omega)).trans v1_f37)
  have v7_f38 := (congrFun ef38 (q + 7)).trans ((va_up_ne _ _ (by omega)).trans v7_f37)
  have v6_f38 : f38 (q + 6) = .inl (G.2.2.1, 6, .inr (.inr (.inr (.inr (va_up (va_up (va_up (va_up (va_up (fun _ => none) (Int32.toNatClampNeg 0) (some (G.2.2.2.2 + (q + 14)))) (Int32.toNatClampNeg 1) (some (G.2.2.2.2 + (q + 21)))) (Int32.toNatClampNeg 2) (some (G.2.2.2.2 + (q + 28)))) (Int32.toNatClampNeg 3) (some (G.2.2.2.2 + (q + 35)))) (Int32.toNatClampNeg 4) (some (G.2.2.2.2 + (q + 42)))))))) := (congrFun ef38 (q + 6)).trans (if_pos rfl)
  have s2_f38 : ∀ k, q + 2 ≤ k → k < q + 6 → f38 k = cd_e0 G k := fun k z1 z2 => (congrFun ef38 k).trans ((va_up_ne _ _ (by omega)).trans (s2_f37 k z1 z2))
  have s8_f38 : ∀ k, q + 8 ≤ k → k < q + 14 → f38 k = cd_e0 G k := fun k z1 z2 => (congrFun ef38 k).trans ((va_up_ne _ _ (by omega)).trans (s8_f37 k z1 z2))
  have s14_f38 : ∀ k, q + 14 ≤ k → k < q + 21 → f38 k = cd_e0 G k := fun k z1 z2 => (congrFun ef38 k).trans ((va_up_ne _ _ (by omega)).trans (s14_f37 k z1 z2))
  have s21_f38 : ∀ k, q + 21 ≤ k → k < q + 28 → f38 k = cd_e0 G k := fun k z1 z2 => (congrFun ef38 k).trans ((va_up_ne _ _ (by omega)).trans (s21_f37 k z1 z2))
  have s28_f38 : ∀ k, q + 28 ≤ k → k < q + 35 → f38 k = cd_e0 G k := fun k z1 z2 => (congrFun ef38 k).trans ((va_up_ne _ _ (by omega)).trans (s28_f37 k z1 z2))
  have s35_f38 : ∀ k, q + 35 ≤ k → k < q + 42 → f38 k = cd_e0 G k := fun k z1 z2 => (congrFun ef38 k).trans ((va_up_ne _ _ (by omega)).trans (s35_f37 k z1 z2))
  have s42_f38 : ∀ k, q + 42 ≤ k → k < q + 49 → f38 k = cd_e0 G k := fun k z1 z2 => (congrFun ef38 k).trans ((va_up_ne _ _ (by omega)).trans (s42_f37 k z1 z2))
  have Pf38 : ∀ k, k < q → f38 k = f k := fun k z => (congrFun ef38 k).trans ((va_up_ne _ _ (by omega)).trans (Pf37 k z))
  refine lv_iinc (v := 5) (lv' := [(2, .int 5), (0, .ref (G.2.2.2.2 + q)), (1, .ref (G.2.2.2.2 + 1))]) S.1 S.2.1 dX4_init_109 hl (k := 0) rfl (by decide) (by decide) rfl (fun ls hl => ?_)
  refine lv_goto (tgt := 90) S.1 S.2.1 dX4_init_112 (by decide) ?_
  refine lv_iload_n S.1 S.2.1 dX4_init_90 rfl (lv_at hl 0 rfl) ?_
  refine lv_bipush (v := 6) S.1 S.2.1 dX4_init_91 (by decide) ?_
  refine lv_icmp_ge (tgt := 115) S.1 S.2.1 dX4_init_93 (by decide) (fun z => absurd z (by decide)) (fun _ => ?_)
  refine lv_aload_n S.1 S.2.1 dX4_init_96 rfl (lv_at hl 1 rfl) ?_
  refine cd_kget (q := q) (n := q + 49) (ci := 4) (C := RX4) (T := TX4) (N := 11) (v := .ref (G.2.2.2.2 + (q + 6))) S hK hC rfl cd_x4 (by omega) v0_f38 7 (by decide) cd_f_X4_31 rfl dX4_init_97 ?_
  refine lv_iload_n S.1 S.2.1 dX4_init_100 rfl (lv_at hl 0 rfl) ?_
  obtain ⟨f39, ef39⟩ : ∃ z, z = va_up f38 (q + 49) (.inr (0, [.int 0, .int 0, .int 0, .int 0, .int 0, .int 0, .int 0, .int 0, .int 0, .int 0, .null, .null, .null, .null, .null, .null])) := ⟨_, rfl⟩
  refine cd_knew (n := q + 49) (ci := 0) (C := RX0) (T := TX0) (N := 16) S hK hC rfl cd_x0 tyX0 tyX0_ok cd_k_X4_29 cd_j_X0 cd_n_X0 (fs := [.int 0, .int 0, .int 0, .int 0, .int 0, .int 0, .int 0, .int 0, .int 0, .int 0, .null, .null, .null, .null, .null, .null]) (by decide) ef39 (Nat.le_of_ble_eq_true rfl) (Nat.le_of_ble_eq_true rfl) dX4_init_101 (fun H hC => ?_)
  have v0_f39 := (congrFun ef39 (q)).trans ((va_up_ne _ _ (by omega)).trans v0_f38)
  have v1_f39 := (congrFun ef39 (q + 1)).trans ((va_up_ne _ _ (by omega)).trans v1_f38)
  have v6_f39 := (congrFun ef39 (q + 6)).trans ((va_up_ne _ _ (by omega)).trans v6_f38)
  have v7_f39 := (congrFun ef39 (q + 7)).trans ((va_up_ne _ _ (by omega)).trans v7_f38)
  have v49_f39 : f39 (q + 49) = .inr (0, [.int 0, .int 0, .int 0, .int 0, .int 0, .int 0, .int 0, .int 0, .int 0, .int 0, .null, .null, .null, .null, .null, .null]) := (congrFun ef39 (q + 49)).trans (if_pos rfl)
  have s2_f39 : ∀ k, q + 2 ≤ k → k < q + 6 → f39 k = cd_e0 G k := fun k z1 z2 => (congrFun ef39 k).trans ((va_up_ne _ _ (by omega)).trans (s2_f38 k z1 z2))
  have s8_f39 : ∀ k, q + 8 ≤ k → k < q + 14 → f39 k = cd_e0 G k := fun k z1 z2 => (congrFun ef39 k).trans ((va_up_ne _ _ (by omega)).trans (s8_f38 k z1 z2))
  have s14_f39 : ∀ k, q + 14 ≤ k → k < q + 21 → f39 k = cd_e0 G k := fun k z1 z2 => (congrFun ef39 k).trans ((va_up_ne _ _ (by omega)).trans (s14_f38 k z1 z2))
  have s21_f39 : ∀ k, q + 21 ≤ k → k < q + 28 → f39 k = cd_e0 G k := fun k z1 z2 => (congrFun ef39 k).trans ((va_up_ne _ _ (by omega)).trans (s21_f38 k z1 z2))
  have s28_f39 : ∀ k, q + 28 ≤ k → k < q + 35 → f39 k = cd_e0 G k := fun k z1 z2 => (congrFun ef39 k).trans ((va_up_ne _ _ (by omega)).trans (s28_f38 k z1 z2))
  have s35_f39 : ∀ k, q + 35 ≤ k → k < q + 42 → f39 k = cd_e0 G k := fun k z1 z2 => (congrFun ef39 k).trans ((va_up_ne _ _ (by omega)).trans (s35_f38 k z1 z2))
  have s42_f39 : ∀ k, q + 42 ≤ k → k < q + 49 → f39 k = cd_e0 G k := fun k z1 z2 => (congrFun ef39 k).trans ((va_up_ne _ _ (by omega)).trans (s42_f38 k z1 z2))
  have Pf39 : ∀ k, k < q → f39 k = f k := fun k z => (congrFun ef39 k).trans ((va_up_ne _ _ (by omega)).trans (Pf38 k z))
  have hC : cd_C G (q + 50) f39 s.heap H locs := hC
  refine lv_dup S.1 S.2.1 dX4_init_104 rfl ?_
  refine cd_kcall (N := 0) (q := q + 49) (As := []) S hK hC hl.1 (c_X0_init l G (q + 49) (cd_is_g hq 5 (by decide)) f39 v49_f39) cd_m_X4_49 cd_i_X0_init cd_n_X0 cd_c_X0_init (by decide +kernel) ⟨Nat.le_of_ble_eq_true rfl, Nat.le_of_ble_eq_true rfl⟩ ⟨rfl, rfl⟩ rfl rfl (Nat.le_of_ble_eq_true rfl) ⟨Nat.le_of_ble_eq_true rfl, Nat.le_of_ble_eq_true rfl⟩ dX4_init_105 (fun f40 H locs Rf40 Tf40 hC => ?_)
  have v0_f40 := (Rf40 (q) (by omega)).trans v0_f39
  have v1_f40 := (Rf40 (q + 1) (by omega)).trans v1_f39
  have v6_f40 := (Rf40 (q + 6) (by omega)).trans v6_f39
  have v7_f40 := (Rf40 (q + 7) (by omega)).trans v7_f39
  have s2_f40 : ∀ k, q + 2 ≤ k → k < q + 6 → f40 k = cd_e0 G k := fun k z1 z2 => (Rf40 k (by omega)).trans (s2_f39 k z1 z2)
  have s8_f40 : ∀ k, q + 8 ≤ k → k < q + 14 → f40 k = cd_e0 G k := fun k z1 z2 => (Rf40 k (by omega)).trans (s8_f39 k z1 z2)
  have s14_f40 : ∀ k, q + 14 ≤ k → k < q + 21 → f40 k = cd_e0 G k := fun k z1 z2 => (Rf40 k (by omega)).trans (s14_f39 k z1 z2)
  have s21_f40 : ∀ k, q + 21 ≤ k → k < q + 28 → f40 k = cd_e0 G k := fun k z1 z2 => (Rf40 k (by omega)).trans (s21_f39 k z1 z2)
  have s28_f40 : ∀ k, q + 28 ≤ k → k < q + 35 → f40 k = cd_e0 G k := fun k z1 z2 => (Rf40 k (by omega)).trans (s28_f39 k z1 z2)
  have s35_f40 : ∀ k, q + 35 ≤ k → k < q + 42 → f40 k = cd_e0 G k := fun k z1 z2 => (Rf40 k (by omega)).trans (s35_f39 k z1 z2)
  have s42_f40 : ∀ k, q + 42 ≤ k → k < q + 49 → f40 k = cd_e0 G k := fun k z1 z2 => (Rf40 k (by omega)).trans (s42_f39 k z1 z2)
  have s49_f40 : ∀ k, q + 49 ≤ k → k < q + 56 → f40 k = cd_e0 G k := fun k z1 z2 => Tf40 k z1 (by omega)
  have Pf40 : ∀ k, k < q → f40 k = f k := fun k z => (Rf40 k (by omega)).trans (Pf39 k z)
  have hC : cd_C G (q + 56) f40 s.heap H locs := hC
  obtain ⟨f41, ef41⟩ : ∃ z, z = va_up f40 (q + 6) (.inl (G.2.2.1, 6, .inr (.inr (.inr (.inr (va_up (va_up (va_up (va_up (va_up (va_up (fun _ => none) (Int32.toNatClampNeg 0) (some (G.2.2.2.2 + (q + 14)))) (Int32.toNatClampNeg 1) (some (G.2.2.2.2 + (q + 21)))) (Int32.toNatClampNeg 2) (some (G.2.2.2.2 + (q + 28)))) (Int32.toNatClampNeg 3) (some (G.2.2.2.2 + (q + 35)))) (Int32.toNatClampNeg 4) (some (G.2.2.2.2 + (q + 42)))) (Int32.toNatClampNeg 5) (some (G.2.2.2.2 + (q + 49))))))))) := ⟨_, rfl⟩
  refine cd_kaast (q := q + 6) (r := q + 49) (n := q + 56) (N := 6) (t0 := 1) (ci := 0) S hK hC (by omega) v6_f40 rfl (by omega) ((s49_f40 _ (by omega) (by omega)).trans (cd_e0_at (cd_is_g hq 5 (by decide)))) rfl (cd_ix_in (by decide)) ef41 dX4_init_108 (fun H locs hC => ?_)
  have v0_f41 := (congrFun ef41 (q)).trans ((va_up_ne _ _ (by omega)).trans v0_f40)
  have v1_f41 := (congrFun ef41 (q + 1)).trans ((va_up_ne _ _ (by omega)).trans v1_f40)
  have v7_f41 := (congrFun ef41 (q + 7)).trans ((va_up_ne _ _ (by omega)).trans v7_f40)
  have v6_f41 : f41 (q + 6) = .inl (G.2.2.1, 6, .inr (.inr (.inr (.inr (va_up (va_up (va_up (va_up (va_up (va_up (fun _ => none) (Int32.toNatClampNeg 0) (some (G.2.2.2.2 + (q + 14)))) (Int32.toNatClampNeg 1) (some (G.2.2.2.2 + (q + 21)))) (Int32.toNatClampNeg 2) (some (G.2.2.2.2 + (q + 28)))) (Int32.toNatClampNeg 3) (some (G.2.2.2.2 + (q + 35)))) (Int32.toNatClampNeg 4) (some (G.2.2.2.2 + (q + 42)))) (Int32.toNatClampNeg 5) (some (G.2.2.2.2 + (q + 49)))))))) := (congrFun ef41 (q + 6)).trans (if_pos rfl)
  have s2_f41 : ∀ k, q + 2 ≤ k → k < q + 6 → f41 k = cd_e0 G k := fun k z1 z2 => (congrFun ef41 k).trans ((va_up_ne _ _ (by omega)).trans (s2_f40 k z1 z2))
  have s8_f41 : ∀ k, q + 8 ≤ k → k < q + 14 → f41 k = cd_e0 G k := fun k z1 z2 => (congrFun ef41 k).trans ((va_up_ne _ _ (by omega)).trans (s8_f40 k z1 z2))
  have s14_f41 : ∀ k, q + 14 ≤ k → k < q + 21 → f41 k = cd_e0 G k := fun k z1 z2 => (congrFun ef41 k).trans ((va_up_ne _ _ (by omega)).trans (s14_f40 k z1 z2))
  have s21_f41 : ∀ k, q + 21 ≤ k → k < q + 28 → f41 k = cd_e0 G k := fun k z1 z2 => (congrFun ef41 k).trans ((va_up_ne _ _ (by omega)).trans (s21_f40 k z1 z2))
  have s28_f41 : ∀ k, q + 28 ≤ k → k < q + 35 → f41 k = cd_e0 G k := fun k z1 z2 => (congrFun ef41 k).trans ((va_up_ne _ _ (by omega)).trans (s28_f40 k z1 z2))
  have s35_f41 : ∀ k, q + 35 ≤ k → k < q + 42 → f41 k = cd_e0 G k := fun k z1 z2 => (congrFun ef41 k).trans ((va_up_ne _ _ (by omega)).trans (s35_f40 k z1 z2))
  have s42_f41 : ∀ k, q + 42 ≤ k → k < q + 49 → f41 k = cd_e0 G k := fun k z1 z2 => (congrFun ef41 k).trans ((va_up_ne _ _ (by omega)).trans (s42_f40 k z1 z2))
  have s49_f41 : ∀ k, q + 49 ≤ k → k < q + 56 → f41 k = cd_e0 G k := fun k z1 z2 => (congrFun ef41 k).trans ((va_up_ne _ _ (by omega)).trans (s49_f40 k z1 z2))
  have Pf41 : ∀ k, k < q → f41 k = f k := fun k z => (congrFun ef41 k).trans ((va_up_ne _ _ (by omega)).trans (Pf40 k z))
  refine lv_iinc (v := 6) (lv' := [(2, .int 6), (0, .ref (G.2.2.2.2 + q)), (1, .ref (G.2.2.2.2 + 1))]) S.1 S.2.1 dX4_init_109 hl (k := 0) rfl (by decide) (by decide) rfl (fun ls hl => ?_)
  refine lv_goto (tgt := 90) S.1 S.2.1 dX4_init_112 (by decide) ?_
  refine lv_iload_n S.1 S.2.1 dX4_init_90 rfl (lv_at hl 0 rfl) ?_
  refine lv_bipush (v := 6) S.1 S.2.1 dX4_init_91 (by decide) ?_
  refine lv_icmp_ge (tgt := 115) S.1 S.2.1 dX4_init_93 (by decide) (fun _ => ?_) (fun z => absurd z (by decide))
  refine hret f41 H locs _ ls Pf41 ?_ hC dX4_init_115
  intro k z1 z2
  rcases (show (q ≤ k ∧ k < q + 1) ∨ (q + 1 ≤ k ∧ k < q + 2) ∨ (q + 2 ≤ k ∧ k < q + 6) ∨ (q + 6 ≤ k ∧ k < q + 7) ∨ (q + 7 ≤ k ∧ k < q + 8) ∨ (q + 8 ≤ k ∧ k < q + 14) ∨ (q + 14 ≤ k ∧ k < q + 21) ∨ (q + 21 ≤ k ∧ k < q + 28) ∨ (q + 28 ≤ k ∧ k < q + 35) ∨ (q + 35 ≤ k ∧ k < q + 42) ∨ (q + 42 ≤ k ∧ k < q + 49) ∨ (q + 49 ≤ k ∧ k < q + 56) by omega) with ⟨y1, y2⟩ | ⟨y1, y2⟩ | ⟨y1, y2⟩ | ⟨y1, y2⟩ | ⟨y1, y2⟩ | ⟨y1, y2⟩ | ⟨y1, y2⟩ | ⟨y1, y2⟩ | ⟨y1, y2⟩ | ⟨y1, y2⟩ | ⟨y1, y2⟩ | ⟨y1, y2⟩
  · obtain rfl : k = q := by omega
    rw [v0_f41]
    exact cd_w4_0 hq
  · obtain rfl : k = q + 1 := by omega
    rw [v1_f41]
    exact cd_w4_1 hq
  · exact s2_f41 k y1 y2
  · obtain rfl : k = q + 6 := by omega
    rw [v6_f41]
    exact cd_w4_6 hq
  · obtain rfl : k = q + 7 := by omega
    rw [v7_f41]
    exact cd_w4_7 hq
  · exact s8_f41 k y1 y2
  · exact s14_f41 k y1 y2
  · exact s21_f41 k y1 y2
  · exact s28_f41 k y1 y2
  · exact s35_f41 k y1 y2
  · exact s42_f41 k y1 y2
  · exact s49_f41 k y1 y2
theorem cd_w1_0 {G : cd_G} : (.inr (1, [.int 0, .int 0, .ref (G.2.2.2.2 + 61)]) : va_E) = cd_e0 G (60) := by
  rw [cd_e0_at (kn := (1, 0)) (by decide +kernel)]
  show _ = Sum.inr (1, cd_fs1 G.2.2.2.2 cd_h0 60)
  rfl
theorem cd_w1_1 {G : cd_G} : (.inl (G.2.2.2.1, 6, .inr (.inr (.inr (.inr (va_up (va_up (va_up (va_up (va_up (va_up (fun _ => none) (Int32.toNatClampNeg 0) (some (G.2.2.2.2 + 62))) (Int32.toNatClampNeg 1) (some (G.2.2.2.2 + 118))) (Int32.toNatClampNeg 2) (some (G.2.2.2.2 + 174))) (Int32.toNatClampNeg 3) (some (G.2.2.2.2 + 230))) (Int32.toNatClampNeg 4) (some (G.2.2.2.2 + 286))) (Int32.toNatClampNeg 5) (some (G.2.2.2.2 + 342))))))) : va_E) = cd_e0 G (61) := by
  rw [cd_e0_at (kn := (10, 0)) (by decide +kernel)]
  show Sum.inl (G.2.2.2.1, 6, Sum.inr (Sum.inr (Sum.inr (Sum.inr _)))) = Sum.inl (G.2.2.2.1, 6, Sum.inr (Sum.inr (Sum.inr (Sum.inr (fun i => if i < 6 then some (G.2.2.2.2 + (60 + 1 + 1 + 56 * i)) else none)))))
  congr 6
  refine congrArg Sum.inr (funext fun i => ?_)
  by_cases h : i = 0 ∨ i = 1 ∨ i = 2 ∨ i = 3 ∨ i = 4 ∨ i = 5
  · rcases h with rfl | rfl | rfl | rfl | rfl | rfl <;> rfl
  · rw [va_up_ne _ _ (by have z : Int32.toNatClampNeg 5 = 5 := (by decide); omega), va_up_ne _ _ (by have z : Int32.toNatClampNeg 4 = 4 := (by decide); omega), va_up_ne _ _ (by have z : Int32.toNatClampNeg 3 = 3 := (by decide); omega), va_up_ne _ _ (by have z : Int32.toNatClampNeg 2 = 2 := (by decide); omega), va_up_ne _ _ (by have z : Int32.toNatClampNeg 1 = 1 := (by decide); omega), va_up_ne _ _ (by have z : Int32.toNatClampNeg 0 = 0 := (by decide); omega), if_neg (by omega)]
abbrev rk_X1 : Room := { frames := 3, cells := 337, slots := 3912, locals := 54 }
set_option maxHeartbeats 4000000 in
set_option maxRecDepth 100000 in
theorem c_X1_init (l : Launch) (G : cd_G) (f : Nat → va_E) (hf : f 60 = .inr (1, [.int 0, .int 0, .null])) : cd_Mk l G yX1_init (Cond.code yX1_init cX1_init 3 none :: cd_T) rk_X1 [.ref (G.2.2.2.2 + 60), .ref (G.2.2.2.2 + 1)] 60 338 337 3912 f := by
  refine cd_kin (by decide) rfl (Nat.le_of_ble_eq_true rfl) ?_
  intro p e s m args below meth c Q ls H locs S hK hin2 hC hl hret
  have hl : lv_has ls 3 [(0, .ref (G.2.2.2.2 + 60)), (1, .ref (G.2.2.2.2 + 1))] := hl
  have hC : cd_C G 61 f s.heap H locs := hC
  have P0 : ∀ k, k < 60 → f k = f k := fun k _ => rfl
  refine lv_aload_n S.1 S.2.1 dX1_init_0 rfl (lv_at hl 0 rfl) ?_
  refine cd_kinit S hl.1 cd_m_X1_3 (Nat.le_of_ble_eq_true rfl) (Nat.le_of_ble_eq_true rfl) dX1_init_1 ?_
  refine lv_aload_n S.1 S.2.1 dX1_init_4 rfl (lv_at hl 0 rfl) ?_
  refine lv_bipush (v := 6) S.1 S.2.1 dX1_init_5 (by decide) ?_
  obtain ⟨f1, ef1⟩ : ∃ z, z = va_up f (61) (.inl (G.2.2.2.1, 6, .inr (.inr (.inr (.inr (fun _ => none)))))) := ⟨_, rfl⟩
  refine cd_kanew (n := 61) (t0 := 2) S hK hC cd_k_X1_11 hK.2.2 rfl (by decide) (N' := 6) (by decide) (Nat.le_of_ble_eq_true rfl) ef1 (Nat.le_of_ble_eq_true rfl) (Nat.le_of_ble_eq_true rfl) dX1_init_7 (fun H hC => ?_)
  have v0_f1 := (congrFun ef1 (60)).trans ((va_up_ne _ _ (by decide)).trans hf)
  have v1_f1 : f1 (61) = .inl (G.2.2.2.1, 6, .inr (.inr (.inr (.inr (fun _ => none))))) := (congrFun ef1 (61)).trans (if_pos rfl)
  have Pf1 : ∀ k, k < 60 → f1 k = f k := fun k z => (congrFun ef1 k).trans ((va_up_ne _ _ (by omega)).trans (P0 k z))
  have hC : cd_C G (62) f1 s.heap H locs := hC
  obtain ⟨f2, ef2⟩ : ∃ z, z = va_up f1 (60) (.inr (1, [.int 0, .int 0, .ref (G.2.2.2.2 + 61)])) := ⟨_, rfl⟩
  refine cd_kputF (q := 60) (n := 62) (ci := 1) (C := RX1) (T := TX1) (N := 3) S hK hin2 hC rfl cd_x1 tyX1 tyX1_ok nmX1 (fs := [.int 0, .int 0, .null]) (by decide) v0_f1 2 (by decide) cd_f_X1_13 rfl rfl rfl rfl (Nat.le_of_ble_eq_true rfl) ef2 dX1_init_10 (fun H locs hC => ?_)
  have v1_f2 := (congrFun ef2 (61)).trans ((va_up_ne _ _ (by decide)).trans v1_f1)
  have v0_f2 : f2 (60) = .inr (1, [.int 0, .int 0, .ref (G.2.2.2.2 + 61)]) := (congrFun ef2 (60)).trans (if_pos rfl)
  have Pf2 : ∀ k, k < 60 → f2 k = f k := fun k z => (congrFun ef2 k).trans ((va_up_ne _ _ (by omega)).trans (Pf1 k z))
  refine lv_iconst (v := 0) S.1 S.2.1 dX1_init_13 (by decide) ?_
  refine lv_istore_n (lv' := [(2, .int 0), (0, .ref (G.2.2.2.2 + 60)), (1, .ref (G.2.2.2.2 + 1))]) S.1 S.2.1 dX1_init_14 rfl hl (by decide) rfl (fun ls hl => ?_)
  refine lv_iload_n S.1 S.2.1 dX1_init_15 rfl (lv_at hl 0 rfl) ?_
  refine lv_bipush (v := 6) S.1 S.2.1 dX1_init_16 (by decide) ?_
  refine lv_icmp_ge (tgt := 41) S.1 S.2.1 dX1_init_18 (by decide) (fun z => absurd z (by decide)) (fun _ => ?_)
  refine lv_aload_n S.1 S.2.1 dX1_init_21 rfl (lv_at hl 1 rfl) ?_
  refine cd_kget (q := 60) (n := 62) (ci := 1) (C := RX1) (T := TX1) (N := 3) (v := .ref (G.2.2.2.2 + 61)) S hK hC rfl cd_x1 (by decide) v0_f2 2 (by decide) cd_f_X1_13 rfl dX1_init_22 ?_
  refine lv_iload_n S.1 S.2.1 dX1_init_25 rfl (lv_at hl 0 rfl) ?_
  obtain ⟨f3, ef3⟩ : ∃ z, z = va_up f2 (62) (.inr (4, [.int 0, .int 0, .int 0, .int 0, .int 0, .null, .null, .null, .null, .null, .null])) := ⟨_, rfl⟩
  refine cd_knew (n := 62) (ci := 4) (C := RX4) (T := TX4) (N := 11) S hK hC rfl cd_x4 tyX4 tyX4_ok cd_k_X1_11 cd_j_X4 cd_n_X4 (fs := [.int 0, .int 0, .int 0, .int 0, .int 0, .null, .null, .null, .null, .null, .null]) (by decide) ef3 (Nat.le_of_ble_eq_true rfl) (Nat.le_of_ble_eq_true rfl) dX1_init_26 (fun H hC => ?_)
  have v0_f3 := (congrFun ef3 (60)).trans ((va_up_ne _ _ (by decide)).trans v0_f2)
  have v1_f3 := (congrFun ef3 (61)).trans ((va_up_ne _ _ (by decide)).trans v1_f2)
  have v2_f3 : f3 (62) = .inr (4, [.int 0, .int 0, .int 0, .int 0, .int 0, .null, .null, .null, .null, .null, .null]) := (congrFun ef3 (62)).trans (if_pos rfl)
  have Pf3 : ∀ k, k < 60 → f3 k = f k := fun k z => (congrFun ef3 k).trans ((va_up_ne _ _ (by omega)).trans (Pf2 k z))
  have hC : cd_C G (63) f3 s.heap H locs := hC
  refine lv_dup S.1 S.2.1 dX1_init_29 rfl ?_
  refine lv_aload_n S.1 S.2.1 dX1_init_30 rfl (lv_at hl 2 rfl) ?_
  refine cd_kcall (N := 1) (q := 62) (As := [.ref (G.2.2.2.2 + 1)]) S hK hC hl.1 (c_X4_init l G (62) (cd_is_p 0 (by decide)) f3 v2_f3) cd_m_X1_17 cd_i_X4_init cd_n_X4 cd_c_X4_init (by decide +kernel) ⟨Nat.le_of_ble_eq_true rfl, Nat.le_of_ble_eq_true rfl⟩ ⟨rfl, rfl⟩ rfl rfl (Nat.le_of_ble_eq_true rfl) ⟨Nat.le_of_ble_eq_true rfl, Nat.le_of_ble_eq_true rfl⟩ dX1_init_31 (fun f4 H locs Rf4 Tf4 hC => ?_)
  have v0_f4 := (Rf4 (60) (by omega)).trans v0_f3
  have v1_f4 := (Rf4 (61) (by omega)).trans v1_f3
  have s2_f4 : ∀ k, 62 ≤ k → k < 118 → f4 k = cd_e0 G k := fun k z1 z2 => Tf4 k z1 (by omega)
  have Pf4 : ∀ k, k < 60 → f4 k = f k := fun k z => (Rf4 k (by omega)).trans (Pf3 k z)
  have hC : cd_C G (118) f4 s.heap H locs := hC
  obtain ⟨f5, ef5⟩ : ∃ z, z = va_up f4 (61) (.inl (G.2.2.2.1, 6, .inr (.inr (.inr (.inr (va_up (fun _ => none) (Int32.toNatClampNeg 0) (some (G.2.2.2.2 + 62)))))))) := ⟨_, rfl⟩
  refine cd_kaast (q := 61) (r := 62) (n := 118) (N := 6) (t0 := 2) (ci := 4) S hK hC (by decide) v1_f4 rfl (by decide) ((s2_f4 _ (by omega) (by omega)).trans (cd_e0_at (cd_is_p 0 (by decide)))) rfl (cd_ix_in (by decide)) ef5 dX1_init_34 (fun H locs hC => ?_)
  have v0_f5 := (congrFun ef5 (60)).trans ((va_up_ne _ _ (by decide)).trans v0_f4)
  have v1_f5 : f5 (61) = .inl (G.2.2.2.1, 6, .inr (.inr (.inr (.inr (va_up (fun _ => none) (Int32.toNatClampNeg 0) (some (G.2.2.2.2 + 62))))))) := (congrFun ef5 (61)).trans (if_pos rfl)
  have s2_f5 : ∀ k, 62 ≤ k → k < 118 → f5 k = cd_e0 G k := fun k z1 z2 => (congrFun ef5 k).trans ((va_up_ne _ _ (by omega)).trans (s2_f4 k z1 z2))
  have Pf5 : ∀ k, k < 60 → f5 k = f k := fun k z => (congrFun ef5 k).trans ((va_up_ne _ _ (by omega)).trans (Pf4 k z))
  refine lv_iinc (v := 1) (lv' := [(2, .int 1), (0, .ref (G.2.2.2.2 + 60)), (1, .ref (G.2.2.2.2 + 1))]) S.1 S.2.1 dX1_init_35 hl (k := 0) rfl (by decide) (by decide) rfl (fun ls hl => ?_)
  refine lv_goto (tgt := 15) S.1 S.2.1 dX1_init_38 (by decide) ?_
  refine lv_iload_n S.1 S.2.1 dX1_init_15 rfl (lv_at hl 0 rfl) ?_
  refine lv_bipush (v := 6) S.1 S.2.1 dX1_init_16 (by decide) ?_
  refine lv_icmp_ge (tgt := 41) S.1 S.2.1 dX1_init_18 (by decide) (fun z => absurd z (by decide)) (fun _ => ?_)
  refine lv_aload_n S.1 S.2.1 dX1_init_21 rfl (lv_at hl 1 rfl) ?_
  refine cd_kget (q := 60) (n := 118) (ci := 1) (C := RX1) (T := TX1) (N := 3) (v := .ref (G.2.2.2.2 + 61)) S hK hC rfl cd_x1 (by decide) v0_f5 2 (by decide) cd_f_X1_13 rfl dX1_init_22 ?_
  refine lv_iload_n S.1 S.2.1 dX1_init_25 rfl (lv_at hl 0 rfl) ?_
  obtain ⟨f6, ef6⟩ : ∃ z, z = va_up f5 (118) (.inr (4, [.int 0, .int 0, .int 0, .int 0, .int 0, .null, .null, .null, .null, .null, .null])) := ⟨_, rfl⟩
  refine cd_knew (n := 118) (ci := 4) (C := RX4) (T := TX4) (N := 11) S hK hC rfl cd_x4 tyX4 tyX4_ok cd_k_X1_11 cd_j_X4 cd_n_X4 (fs := [.int 0, .int 0, .int 0, .int 0, .int 0, .null, .null, .null, .null, .null, .null]) (by decide) ef6 (Nat.le_of_ble_eq_true rfl) (Nat.le_of_ble_eq_true rfl) dX1_init_26 (fun H hC => ?_)
  have v0_f6 := (congrFun ef6 (60)).trans ((va_up_ne _ _ (by decide)).trans v0_f5)
  have v1_f6 := (congrFun ef6 (61)).trans ((va_up_ne _ _ (by decide)).trans v1_f5)
  have v58_f6 : f6 (118) = .inr (4, [.int 0, .int 0, .int 0, .int 0, .int 0, .null, .null, .null, .null, .null, .null]) := (congrFun ef6 (118)).trans (if_pos rfl)
  have s2_f6 : ∀ k, 62 ≤ k → k < 118 → f6 k = cd_e0 G k := fun k z1 z2 => (congrFun ef6 k).trans ((va_up_ne _ _ (by omega)).trans (s2_f5 k z1 z2))
  have Pf6 : ∀ k, k < 60 → f6 k = f k := fun k z => (congrFun ef6 k).trans ((va_up_ne _ _ (by omega)).trans (Pf5 k z))
  have hC : cd_C G (119) f6 s.heap H locs := hC
  refine lv_dup S.1 S.2.1 dX1_init_29 rfl ?_
  refine lv_aload_n S.1 S.2.1 dX1_init_30 rfl (lv_at hl 2 rfl) ?_
  refine cd_kcall (N := 1) (q := 118) (As := [.ref (G.2.2.2.2 + 1)]) S hK hC hl.1 (c_X4_init l G (118) (cd_is_p 1 (by decide)) f6 v58_f6) cd_m_X1_17 cd_i_X4_init cd_n_X4 cd_c_X4_init (by decide +kernel) ⟨Nat.le_of_ble_eq_true rfl, Nat.le_of_ble_eq_true rfl⟩ ⟨rfl, rfl⟩ rfl rfl (Nat.le_of_ble_eq_true rfl) ⟨Nat.le_of_ble_eq_true rfl, Nat.le_of_ble_eq_true rfl⟩ dX1_init_31 (fun f7 H locs Rf7 Tf7 hC => ?_)
  have v0_f7 := (Rf7 (60) (by omega)).trans v0_f6
  have v1_f7 := (Rf7 (61) (by omega)).trans v1_f6
  have s2_f7 : ∀ k, 62 ≤ k → k < 118 → f7 k = cd_e0 G k := fun k z1 z2 => (Rf7 k (by omega)).trans (s2_f6 k z1 z2)
  have s58_f7 : ∀ k, 118 ≤ k → k < 174 → f7 k = cd_e0 G k := fun k z1 z2 => Tf7 k z1 (by omega)
  have Pf7 : ∀ k, k < 60 → f7 k = f k := fun k z => (Rf7 k (by omega)).trans (Pf6 k z)
  have hC : cd_C G (174) f7 s.heap H locs := hC
  obtain ⟨f8, ef8⟩ : ∃ z, z = va_up f7 (61) (.inl (G.2.2.2.1, 6, .inr (.inr (.inr (.inr (va_up (va_up (fun _ => none) (Int32.toNatClampNeg 0) (some (G.2.2.2.2 + 62))) (Int32.toNatClampNeg 1) (some (G.2.2.2.2 + 118)))))))) := ⟨_, rfl⟩
  refine cd_kaast (q := 61) (r := 118) (n := 174) (N := 6) (t0 := 2) (ci := 4) S hK hC (by decide) v1_f7 rfl (by decide) ((s58_f7 _ (by omega) (by omega)).trans (cd_e0_at (cd_is_p 1 (by decide)))) rfl (cd_ix_in (by decide)) ef8 dX1_init_34 (fun H locs hC => ?_)
  have v0_f8 := (congrFun ef8 (60)).trans ((va_up_ne _ _ (by decide)).trans v0_f7)
  have v1_f8 : f8 (61) = .inl (G.2.2.2.1, 6, .inr (.inr (.inr (.inr (va_up (va_up (fun _ => none) (Int32.toNatClampNeg 0) (some (G.2.2.2.2 + 62))) (Int32.toNatClampNeg 1) (some (G.2.2.2.2 + 118))))))) := (congrFun ef8 (61)).trans (if_pos rfl)
  have s2_f8 : ∀ k, 62 ≤ k → k < 118 → f8 k = cd_e0 G k := fun k z1 z2 => (congrFun ef8 k).trans ((va_up_ne _ _ (by omega)).trans (s2_f7 k z1 z2))
  have s58_f8 : ∀ k, 118 ≤ k → k < 174 → f8 k = cd_e0 G k := fun k z1 z2 => (congrFun ef8 k).trans ((va_up_ne _ _ (by omega)).trans (s58_f7 k z1 z2))
  have Pf8 : ∀ k, k < 60 → f8 k = f k := fun k z => (congrFun ef8 k).trans ((va_up_ne _ _ (by omega)).trans (Pf7 k z))
  refine lv_iinc (v := 2) (lv' := [(2, .int 2), (0, .ref (G.2.2.2.2 + 60)), (1, .ref (G.2.2.2.2 + 1))]) S.1 S.2.1 dX1_init_35 hl (k := 0) rfl (by decide) (by decide) rfl (fun ls hl => ?_)
  refine lv_goto (tgt := 15) S.1 S.2.1 dX1_init_38 (by decide) ?_
  refine lv_iload_n S.1 S.2.1 dX1_init_15 rfl (lv_at hl 0 rfl) ?_
  refine lv_bipush (v := 6) S.1 S.2.1 dX1_init_16 (by decide) ?_
  refine lv_icmp_ge (tgt := 41) S.1 S.2.1 dX1_init_18 (by decide) (fun z => absurd z (by decide)) (fun _ => ?_)
  refine lv_aload_n S.1 S.2.1 dX1_init_21 rfl (lv_at hl 1 rfl) ?_
  refine cd_kget (q := 60) (n := 174) (ci := 1) (C := RX1) (T := TX1) (N := 3) (v := .ref (G.2.2.2.2 + 61)) S hK hC rfl cd_x1 (by decide) v0_f8 2 (by decide) cd_f_X1_13 rfl dX1_init_22 ?_
  refine lv_iload_n S.1 S.2.1 dX1_init_25 rfl (lv_at hl 0 rfl) ?_
  obtain ⟨f9, ef9⟩ : ∃ z, z = va_up f8 (174) (.inr (4, [.int 0, .int 0, .int 0, .int 0, .int 0, .null, .null, .null, .null, .null, .null])) := ⟨_, rfl⟩
  refine cd_knew (n := 174) (ci := 4) (C := RX4) (T := TX4) (N := 11) S hK hC rfl cd_x4 tyX4 tyX4_ok cd_k_X1_11 cd_j_X4 cd_n_X4 (fs := [.int 0, .int 0, .int 0, .int 0, .int 0, .null, .null, .null, .null, .null, .null]) (by decide) ef9 (Nat.le_of_ble_eq_true rfl) (Nat.le_of_ble_eq_true rfl) dX1_init_26 (fun H hC => ?_)
  have v0_f9 := (congrFun ef9 (60)).trans ((va_up_ne _ _ (by decide)).trans v0_f8)
  have v1_f9 := (congrFun ef9 (61)).trans ((va_up_ne _ _ (by decide)).trans v1_f8)
  have v114_f9 : f9 (174) = .inr (4, [.int 0, .int 0, .int 0, .int 0, .int 0, .null, .null, .null, .null, .null, .null]) := (congrFun ef9 (174)).trans (if_pos rfl)
  have s2_f9 : ∀ k, 62 ≤ k → k < 118 → f9 k = cd_e0 G k := fun k z1 z2 => (congrFun ef9 k).trans ((va_up_ne _ _ (by omega)).trans (s2_f8 k z1 z2))
  have s58_f9 : ∀ k, 118 ≤ k → k < 174 → f9 k = cd_e0 G k := fun k z1 z2 => (congrFun ef9 k).trans ((va_up_ne _ _ (by omega)).trans (s58_f8 k z1 z2))
  have Pf9 : ∀ k, k < 60 → f9 k = f k := fun k z => (congrFun ef9 k).trans ((va_up_ne _ _ (by omega)).trans (Pf8 k z))
  have hC : cd_C G (175) f9 s.heap H locs := hC
  refine lv_dup S.1 S.2.1 dX1_init_29 rfl ?_
  refine lv_aload_n S.1 S.2.1 dX1_init_30 rfl (lv_at hl 2 rfl) ?_
  refine cd_kcall (N := 1) (q := 174) (As := [.ref (G.2.2.2.2 + 1)]) S hK hC hl.1 (c_X4_init l G (174) (cd_is_p 2 (by decide)) f9 v114_f9) cd_m_X1_17 cd_i_X4_init cd_n_X4 cd_c_X4_init (by decide +kernel) ⟨Nat.le_of_ble_eq_true rfl, Nat.le_of_ble_eq_true rfl⟩ ⟨rfl, rfl⟩ rfl rfl (Nat.le_of_ble_eq_true rfl) ⟨Nat.le_of_ble_eq_true rfl, Nat.le_of_ble_eq_true rfl⟩ dX1_init_31 (fun f10 H locs Rf10 Tf10 hC => ?_)
  have v0_f10 := (Rf10 (60) (by omega)).trans v0_f9
  have v1_f10 := (Rf10 (61) (by omega)).trans v1_f9
  have s2_f10 : ∀ k, 62 ≤ k → k < 118 → f10 k = cd_e0 G k := fun k z1 z2 => (Rf10 k (by omega)).trans (s2_f9 k z1 z2)
  have s58_f10 : ∀ k, 118 ≤ k → k < 174 → f10 k = cd_e0 G k := fun k z1 z2 => (Rf10 k (by omega)).trans (s58_f9 k z1 z2)
  have s114_f10 : ∀ k, 174 ≤ k → k < 230 → f10 k = cd_e0 G k := fun k z1 z2 => Tf10 k z1 (by omega)
  have Pf10 : ∀ k, k < 60 → f10 k = f k := fun k z => (Rf10 k (by omega)).trans (Pf9 k z)
  have hC : cd_C G (230) f10 s.heap H locs := hC
  obtain ⟨f11, ef11⟩ : ∃ z, z = va_up f10 (61) (.inl (G.2.2.2.1, 6, .inr (.inr (.inr (.inr (va_up (va_up (va_up (fun _ => none) (Int32.toNatClampNeg 0) (some (G.2.2.2.2 + 62))) (Int32.toNatClampNeg 1) (some (G.2.2.2.2 + 118))) (Int32.toNatClampNeg 2) (some (G.2.2.2.2 + 174)))))))) := ⟨_, rfl⟩
  refine cd_kaast (q := 61) (r := 174) (n := 230) (N := 6) (t0 := 2) (ci := 4) S hK hC (by decide) v1_f10 rfl (by decide) ((s114_f10 _ (by omega) (by omega)).trans (cd_e0_at (cd_is_p 2 (by decide)))) rfl (cd_ix_in (by decide)) ef11 dX1_init_34 (fun H locs hC => ?_)
  have v0_f11 := (congrFun ef11 (60)).trans ((va_up_ne _ _ (by decide)).trans v0_f10)
  have v1_f11 : f11 (61) = .inl (G.2.2.2.1, 6, .inr (.inr (.inr (.inr (va_up (va_up (va_up (fun _ => none) (Int32.toNatClampNeg 0) (some (G.2.2.2.2 + 62))) (Int32.toNatClampNeg 1) (some (G.2.2.2.2 + 118))) (Int32.toNatClampNeg 2) (some (G.2.2.2.2 + 174))))))) := (congrFun ef11 (61)).trans (if_pos rfl)
  have s2_f11 : ∀ k, 62 ≤ k → k < 118 → f11 k = cd_e0 G k := fun k z1 z2 => (congrFun ef11 k).trans ((va_up_ne _ _ (by omega)).trans (s2_f10 k z1 z2))
  have s58_f11 : ∀ k, 118 ≤ k → k < 174 → f11 k = cd_e0 G k := fun k z1 z2 => (congrFun ef11 k).trans ((va_up_ne _ _ (by omega)).trans (s58_f10 k z1 z2))
  have s114_f11 : ∀ k, 174 ≤ k → k < 230 → f11 k = cd_e0 G k := fun k z1 z2 => (congrFun ef11 k).trans ((va_up_ne _ _ (by omega)).trans (s114_f10 k z1 z2))
  have Pf11 : ∀ k, k < 60 → f11 k = f k := fun k z => (congrFun ef11 k).trans ((va_up_ne _ _ (by omega)).trans (Pf10 k z))
  refine lv_iinc (v := 3) (lv' := [(2, .int 3), (0, .ref (G.2.2.2.2 + 60)), (1, .ref (G.2.2.2.2 + 1))]) S.1 S.2.1 dX1_init_35 hl (k := 0) rfl (by decide) (by decide) rfl (fun ls hl => ?_)
  refine lv_goto (tgt := 15) S.1 S.2.1 dX1_init_38 (by decide) ?_
  refine lv_iload_n S.1 S.2.1 dX1_init_15 rfl (lv_at hl 0 rfl) ?_
  refine lv_bipush (v := 6) S.1 S.2.1 dX1_init_16 (by decide) ?_
  refine lv_icmp_ge (tgt := 41) S.1 S.2.1 dX1_init_18 (by decide) (fun z => absurd z (by decide)) (fun _ => ?_)
  refine lv_aload_n S.1 S.2.1 dX1_init_21 rfl (lv_at hl 1 rfl) ?_
  refine cd_kget (q := 60) (n := 230) (ci := 1) (C := RX1) (T := TX1) (N := 3) (v := .ref (G.2.2.2.2 + 61)) S hK hC rfl cd_x1 (by decide) v0_f11 2 (by decide) cd_f_X1_13 rfl dX1_init_22 ?_
  refine lv_iload_n S.1 S.2.1 dX1_init_25 rfl (lv_at hl 0 rfl) ?_
  obtain ⟨f12, ef12⟩ : ∃ z, z = va_up f11 (230) (.inr (4, [.int 0, .int 0, .int 0, .int 0, .int 0, .null, .null, .null, .null, .null, .null])) := ⟨_, rfl⟩
  refine cd_knew (n := 230) (ci := 4) (C := RX4) (T := TX4) (N := 11) S hK hC rfl cd_x4 tyX4 tyX4_ok cd_k_X1_11 cd_j_X4 cd_n_X4 (fs := [.int 0, .int 0, .int 0, .int 0, .int 0, .null, .null, .null, .null, .null, .null]) (by decide) ef12 (Nat.le_of_ble_eq_true rfl) (Nat.le_of_ble_eq_true rfl) dX1_init_26 (fun H hC => ?_)
  have v0_f12 := (congrFun ef12 (60)).trans ((va_up_ne _ _ (by decide)).trans v0_f11)
  have v1_f12 := (congrFun ef12 (61)).trans ((va_up_ne _ _ (by decide)).trans v1_f11)
  have v170_f12 : f12 (230) = .inr (4, [.int 0, .int 0, .int 0, .int 0, .int 0, .null, .null, .null, .null, .null, .null]) := (congrFun ef12 (230)).trans (if_pos rfl)
  have s2_f12 : ∀ k, 62 ≤ k → k < 118 → f12 k = cd_e0 G k := fun k z1 z2 => (congrFun ef12 k).trans ((va_up_ne _ _ (by omega)).trans (s2_f11 k z1 z2))
  have s58_f12 : ∀ k, 118 ≤ k → k < 174 → f12 k = cd_e0 G k := fun k z1 z2 => (congrFun ef12 k).trans ((va_up_ne _ _ (by omega)).trans (s58_f11 k z1 z2))
  have s114_f12 : ∀ k, 174 ≤ k → k < 230 → f12 k = cd_e0 G k := fun k z1 z2 => (congrFun ef12 k).trans ((va_up_ne _ _ (by omega)).trans (s114_f11 k z1 z2))
  have Pf12 : ∀ k, k < 60 → f12 k = f k := fun k z => (congrFun ef12 k).trans ((va_up_ne _ _ (by omega)).trans (Pf11 k z))
  have hC : cd_C G (231) f12 s.heap H locs := hC
  refine lv_dup S.1 S.2.1 dX1_init_29 rfl ?_
  refine lv_aload_n S.1 S.2.1 dX1_init_30 rfl (lv_at hl 2 rfl) ?_
  refine cd_kcall (N := 1) (q := 230) (As := [.ref (G.2.2.2.2 + 1)]) S hK hC hl.1 (c_X4_init l G (230) (cd_is_p 3 (by decide)) f12 v170_f12) cd_m_X1_17 cd_i_X4_init cd_n_X4 cd_c_X4_init (by decide +kernel) ⟨Nat.le_of_ble_eq_true rfl, Nat.le_of_ble_eq_true rfl⟩ ⟨rfl, rfl⟩ rfl rfl (Nat.le_of_ble_eq_true rfl) ⟨Nat.le_of_ble_eq_true rfl, Nat.le_of_ble_eq_true rfl⟩ dX1_init_31 (fun f13 H locs Rf13 Tf13 hC => ?_)
  have v0_f13 := (Rf13 (60) (by omega)).trans v0_f12
  have v1_f13 := (Rf13 (61) (by omega)).trans v1_f12
  have s2_f13 : ∀ k, 62 ≤ k → k < 118 → f13 k = cd_e0 G k := fun k z1 z2 => (Rf13 k (by omega)).trans (s2_f12 k z1 z2)
  have s58_f13 : ∀ k, 118 ≤ k → k < 174 → f13 k = cd_e0 G k := fun k z1 z2 => (Rf13 k (by omega)).trans (s58_f12 k z1 z2)
  have s114_f13 : ∀ k, 174 ≤ k → k < 230 → f13 k = cd_e0 G k := fun k z1 z2 => (Rf13 k (by omega)).trans (s114_f12 k z1 z2)
  have s170_f13 : ∀ k, 230 ≤ k → k < 286 → f13 k = cd_e0 G k := fun k z1 z2 => Tf13 k z1 (by omega)
  have Pf13 : ∀ k, k < 60 → f13 k = f k := fun k z => (Rf13 k (by omega)).trans (Pf12 k z)
  have hC : cd_C G (286) f13 s.heap H locs := hC
  obtain ⟨f14, ef14⟩ : ∃ z, z = va_up f13 (61) (.inl (G.2.2.2.1, 6, .inr (.inr (.inr (.inr (va_up (va_up (va_up (va_up (fun _ => none) (Int32.toNatClampNeg 0) (some (G.2.2.2.2 + 62))) (Int32.toNatClampNeg 1) (some (G.2.2.2.2 + 118))) (Int32.toNatClampNeg 2) (some (G.2.2.2.2 + 174))) (Int32.toNatClampNeg 3) (some (G.2.2.2.2 + 230)))))))) := ⟨_, rfl⟩
  refine cd_kaast (q := 61) (r := 230) (n := 286) (N := 6) (t0 := 2) (ci := 4) S hK hC (by decide) v1_f13 rfl (by decide) ((s170_f13 _ (by omega) (by omega)).trans (cd_e0_at (cd_is_p 3 (by decide)))) rfl (cd_ix_in (by decide)) ef14 dX1_init_34 (fun H locs hC => ?_)
  have v0_f14 := (congrFun ef14 (60)).trans ((va_up_ne _ _ (by decide)).trans v0_f13)
  have v1_f14 : f14 (61) = .inl (G.2.2.2.1, 6, .inr (.inr (.inr (.inr (va_up (va_up (va_up (va_up (fun _ => none) (Int32.toNatClampNeg 0) (some (G.2.2.2.2 + 62))) (Int32.toNatClampNeg 1) (some (G.2.2.2.2 + 118))) (Int32.toNatClampNeg 2) (some (G.2.2.2.2 + 174))) (Int32.toNatClampNeg 3) (some (G.2.2.2.2 + 230))))))) := (congrFun ef14 (61)).trans (if_pos rfl)
  have s2_f14 : ∀ k, 62 ≤ k → k < 118 → f14 k = cd_e0 G k := fun k z1 z2 => (congrFun ef14 k).trans ((va_up_ne _ _ (by omega)).trans (s2_f13 k z1 z2))
  have s58_f14 : ∀ k, 118 ≤ k → k < 174 → f14 k = cd_e0 G k := fun k z1 z2 => (congrFun ef14 k).trans ((va_up_ne _ _ (by omega)).trans (s58_f13 k z1 z2))
  have s114_f14 : ∀ k, 174 ≤ k → k < 230 → f14 k = cd_e0 G k := fun k z1 z2 => (congrFun ef14 k).trans ((va_up_ne _ _ (by omega)).trans (s114_f13 k z1 z2))
  have s170_f14 : ∀ k, 230 ≤ k → k < 286 → f14 k = cd_e0 G k := fun k z1 z2 => (congrFun ef14 k).trans ((va_up_ne _ _ (by omega)).trans (s170_f13 k z1 z2))
  have Pf14 : ∀ k, k < 60 → f14 k = f k := fun k z => (congrFun ef14 k).trans ((va_up_ne _ _ (by omega)).trans (Pf13 k z))
  refine lv_iinc (v := 4) (lv' := [(2, .int 4), (0, .ref (G.2.2.2.2 + 60)), (1, .ref (G.2.2.2.2 + 1))]) S.1 S.2.1 dX1_init_35 hl (k := 0) rfl (by decide) (by decide) rfl (fun ls hl => ?_)
  refine lv_goto (tgt := 15) S.1 S.2.1 dX1_init_38 (by decide) ?_
  refine lv_iload_n S.1 S.2.1 dX1_init_15 rfl (lv_at hl 0 rfl) ?_
  refine lv_bipush (v := 6) S.1 S.2.1 dX1_init_16 (by decide) ?_
  refine lv_icmp_ge (tgt := 41) S.1 S.2.1 dX1_init_18 (by decide) (fun z => absurd z (by decide)) (fun _ => ?_)
  refine lv_aload_n S.1 S.2.1 dX1_init_21 rfl (lv_at hl 1 rfl) ?_
  refine cd_kget (q := 60) (n := 286) (ci := 1) (C := RX1) (T := TX1) (N := 3) (v := .ref (G.2.2.2.2 + 61)) S hK hC rfl cd_x1 (by decide) v0_f14 2 (by decide) cd_f_X1_13 rfl dX1_init_22 ?_
  refine lv_iload_n S.1 S.2.1 dX1_init_25 rfl (lv_at hl 0 rfl) ?_
  obtain ⟨f15, ef15⟩ : ∃ z, z = va_up f14 (286) (.inr (4, [.int 0, .int 0, .int 0, .int 0, .int 0, .null, .null, .null, .null, .null, .null])) := ⟨_, rfl⟩
  refine cd_knew (n := 286) (ci := 4) (C := RX4) (T := TX4) (N := 11) S hK hC rfl cd_x4 tyX4 tyX4_ok cd_k_X1_11 cd_j_X4 cd_n_X4 (fs := [.int 0, .int 0, .int 0, .int 0, .int 0, .null, .null, .null, .null, .null, .null]) (by decide) ef15 (Nat.le_of_ble_eq_true rfl) (Nat.le_of_ble_eq_true rfl) dX1_init_26 (fun H hC => ?_)
  have v0_f15 := (congrFun ef15 (60)).trans ((va_up_ne _ _ (by decide)).trans v0_f14)
  have v1_f15 := (congrFun ef15 (61)).trans ((va_up_ne _ _ (by decide)).trans v1_f14)
  have v226_f15 : f15 (286) = .inr (4, [.int 0, .int 0, .int 0, .int 0, .int 0, .null, .null, .null, .null, .null, .null]) := (congrFun ef15 (286)).trans (if_pos rfl)
  have s2_f15 : ∀ k, 62 ≤ k → k < 118 → f15 k = cd_e0 G k := fun k z1 z2 => (congrFun ef15 k).trans ((va_up_ne _ _ (by omega)).trans (s2_f14 k z1 z2))
  have s58_f15 : ∀ k, 118 ≤ k → k < 174 → f15 k = cd_e0 G k := fun k z1 z2 => (congrFun ef15 k).trans ((va_up_ne _ _ (by omega)).trans (s58_f14 k z1 z2))
  have s114_f15 : ∀ k, 174 ≤ k → k < 230 → f15 k = cd_e0 G k := fun k z1 z2 => (congrFun ef15 k).trans ((va_up_ne _ _ (by omega)).trans (s114_f14 k z1 z2))
  have s170_f15 : ∀ k, 230 ≤ k → k < 286 → f15 k = cd_e0 G k := fun k z1 z2 => (congrFun ef15 k).trans ((va_up_ne _ _ (by omega)).trans (s170_f14 k z1 z2))
  have Pf15 : ∀ k, k < 60 → f15 k = f k := fun k z => (congrFun ef15 k).trans ((va_up_ne _ _ (by omega)).trans (Pf14 k z))
  have hC : cd_C G (287) f15 s.heap H locs := hC
  refine lv_dup S.1 S.2.1 dX1_init_29 rfl ?_
  refine lv_aload_n S.1 S.2.1 dX1_init_30 rfl (lv_at hl 2 rfl) ?_
  refine cd_kcall (N := 1) (q := 286) (As := [.ref (G.2.2.2.2 + 1)]) S hK hC hl.1 (c_X4_init l G (286) (cd_is_p 4 (by decide)) f15 v226_f15) cd_m_X1_17 cd_i_X4_init cd_n_X4 cd_c_X4_init (by decide +kernel) ⟨Nat.le_of_ble_eq_true rfl, Nat.le_of_ble_eq_true rfl⟩ ⟨rfl, rfl⟩ rfl rfl (Nat.le_of_ble_eq_true rfl) ⟨Nat.le_of_ble_eq_true rfl, Nat.le_of_ble_eq_true rfl⟩ dX1_init_31 (fun f16 H locs Rf16 Tf16 hC => ?_)
  have v0_f16 := (Rf16 (60) (by omega)).trans v0_f15
  have v1_f16 := (Rf16 (61) (by omega)).trans v1_f15
  have s2_f16 : ∀ k, 62 ≤ k → k < 118 → f16 k = cd_e0 G k := fun k z1 z2 => (Rf16 k (by omega)).trans (s2_f15 k z1 z2)
  have s58_f16 : ∀ k, 118 ≤ k → k < 174 → f16 k = cd_e0 G k := fun k z1 z2 => (Rf16 k (by omega)).trans (s58_f15 k z1 z2)
  have s114_f16 : ∀ k, 174 ≤ k → k < 230 → f16 k = cd_e0 G k := fun k z1 z2 => (Rf16 k (by omega)).trans (s114_f15 k z1 z2)
  have s170_f16 : ∀ k, 230 ≤ k → k < 286 → f16 k = cd_e0 G k := fun k z1 z2 => (Rf16 k (by omega)).trans (s170_f15 k z1 z2)
  have s226_f16 : ∀ k, 286 ≤ k → k < 342 → f16 k = cd_e0 G k := fun k z1 z2 => Tf16 k z1 (by omega)
  have Pf16 : ∀ k, k < 60 → f16 k = f k := fun k z => (Rf16 k (by omega)).trans (Pf15 k z)
  have hC : cd_C G (342) f16 s.heap H locs := hC
  obtain ⟨f17, ef17⟩ : ∃ z, z = va_up f16 (61) (.inl (G.2.2.2.1, 6, .inr (.inr (.inr (.inr (va_up (va_up (va_up (va_up (va_up (fun _ => none) (Int32.toNatClampNeg 0) (some (G.2.2.2.2 + 62))) (Int32.toNatClampNeg 1) (some (G.2.2.2.2 + 118))) (Int32.toNatClampNeg 2) (some (G.2.2.2.2 + 174))) (Int32.toNatClampNeg 3) (some (G.2.2.2.2 + 230))) (Int32.toNatClampNeg 4) (some (G.2.2.2.2 + 286)))))))) := ⟨_, rfl⟩
  refine cd_kaast (q := 61) (r := 286) (n := 342) (N := 6) (t0 := 2) (ci := 4) S hK hC (by decide) v1_f16 rfl (by decide) ((s226_f16 _ (by omega) (by omega)).trans (cd_e0_at (cd_is_p 4 (by decide)))) rfl (cd_ix_in (by decide)) ef17 dX1_init_34 (fun H locs hC => ?_)
  have v0_f17 := (congrFun ef17 (60)).trans ((va_up_ne _ _ (by decide)).trans v0_f16)
  have v1_f17 : f17 (61) = .inl (G.2.2.2.1, 6, .inr (.inr (.inr (.inr (va_up (va_up (va_up (va_up (va_up (fun _ => none) (Int32.toNatClampNeg 0) (some (G.2.2.2.2 + 62))) (Int32.toNatClampNeg 1) (some (G.2.2.2.2 + 118))) (Int32.toNatClampNeg 2) (some (G.2.2.2.2 + 174))) (Int32.toNatClampNeg 3) (some (G.2.2.2.2 + 230))) (Int32.toNatClampNeg 4) (some (G.2.2.2.2 + 286))))))) := (congrFun ef17 (61)).trans (if_pos rfl)
  have s2_f17 : ∀ k, 62 ≤ k → k < 118 → f17 k = cd_e0 G k := fun k z1 z2 => (congrFun ef17 k).trans ((va_up_ne _ _ (by omega)).trans (s2_f16 k z1 z2))
  have s58_f17 : ∀ k, 118 ≤ k → k < 174 → f17 k = cd_e0 G k := fun k z1 z2 => (congrFun ef17 k).trans ((va_up_ne _ _ (by omega)).trans (s58_f16 k z1 z2))
  have s114_f17 : ∀ k, 174 ≤ k → k < 230 → f17 k = cd_e0 G k := fun k z1 z2 => (congrFun ef17 k).trans ((va_up_ne _ _ (by omega)).trans (s114_f16 k z1 z2))
  have s170_f17 : ∀ k, 230 ≤ k → k < 286 → f17 k = cd_e0 G k := fun k z1 z2 => (congrFun ef17 k).trans ((va_up_ne _ _ (by omega)).trans (s170_f16 k z1 z2))
  have s226_f17 : ∀ k, 286 ≤ k → k < 342 → f17 k = cd_e0 G k := fun k z1 z2 => (congrFun ef17 k).trans ((va_up_ne _ _ (by omega)).trans (s226_f16 k z1 z2))
  have Pf17 : ∀ k, k < 60 → f17 k = f k := fun k z => (congrFun ef17 k).trans ((va_up_ne _ _ (by omega)).trans (Pf16 k z))
  refine lv_iinc (v := 5) (lv' := [(2, .int 5), (0, .ref (G.2.2.2.2 + 60)), (1, .ref (G.2.2.2.2 + 1))]) S.1 S.2.1 dX1_init_35 hl (k := 0) rfl (by decide) (by decide) rfl (fun ls hl => ?_)
  refine lv_goto (tgt := 15) S.1 S.2.1 dX1_init_38 (by decide) ?_
  refine lv_iload_n S.1 S.2.1 dX1_init_15 rfl (lv_at hl 0 rfl) ?_
  refine lv_bipush (v := 6) S.1 S.2.1 dX1_init_16 (by decide) ?_
  refine lv_icmp_ge (tgt := 41) S.1 S.2.1 dX1_init_18 (by decide) (fun z => absurd z (by decide)) (fun _ => ?_)
  refine lv_aload_n S.1 S.2.1 dX1_init_21 rfl (lv_at hl 1 rfl) ?_
  refine cd_kget (q := 60) (n := 342) (ci := 1) (C := RX1) (T := TX1) (N := 3) (v := .ref (G.2.2.2.2 + 61)) S hK hC rfl cd_x1 (by decide) v0_f17 2 (by decide) cd_f_X1_13 rfl dX1_init_22 ?_
  refine lv_iload_n S.1 S.2.1 dX1_init_25 rfl (lv_at hl 0 rfl) ?_
  obtain ⟨f18, ef18⟩ : ∃ z, z = va_up f17 (342) (.inr (4, [.int 0, .int 0, .int 0, .int 0, .int 0, .null, .null, .null, .null, .null, .null])) := ⟨_, rfl⟩
  refine cd_knew (n := 342) (ci := 4) (C := RX4) (T := TX4) (N := 11) S hK hC rfl cd_x4 tyX4 tyX4_ok cd_k_X1_11 cd_j_X4 cd_n_X4 (fs := [.int 0, .int 0, .int 0, .int 0, .int 0, .null, .null, .null, .null, .null, .null]) (by decide) ef18 (Nat.le_of_ble_eq_true rfl) (Nat.le_of_ble_eq_true rfl) dX1_init_26 (fun H hC => ?_)
  have v0_f18 := (congrFun ef18 (60)).trans ((va_up_ne _ _ (by decide)).trans v0_f17)
  have v1_f18 := (congrFun ef18 (61)).trans ((va_up_ne _ _ (by decide)).trans v1_f17)
  have v282_f18 : f18 (342) = .inr (4, [.int 0, .int 0, .int 0, .int 0, .int 0, .null, .null, .null, .null, .null, .null]) := (congrFun ef18 (342)).trans (if_pos rfl)
  have s2_f18 : ∀ k, 62 ≤ k → k < 118 → f18 k = cd_e0 G k := fun k z1 z2 => (congrFun ef18 k).trans ((va_up_ne _ _ (by omega)).trans (s2_f17 k z1 z2))
  have s58_f18 : ∀ k, 118 ≤ k → k < 174 → f18 k = cd_e0 G k := fun k z1 z2 => (congrFun ef18 k).trans ((va_up_ne _ _ (by omega)).trans (s58_f17 k z1 z2))
  have s114_f18 : ∀ k, 174 ≤ k → k < 230 → f18 k = cd_e0 G k := fun k z1 z2 => (congrFun ef18 k).trans ((va_up_ne _ _ (by omega)).trans (s114_f17 k z1 z2))
  have s170_f18 : ∀ k, 230 ≤ k → k < 286 → f18 k = cd_e0 G k := fun k z1 z2 => (congrFun ef18 k).trans ((va_up_ne _ _ (by omega)).trans (s170_f17 k z1 z2))
  have s226_f18 : ∀ k, 286 ≤ k → k < 342 → f18 k = cd_e0 G k := fun k z1 z2 => (congrFun ef18 k).trans ((va_up_ne _ _ (by omega)).trans (s226_f17 k z1 z2))
  have Pf18 : ∀ k, k < 60 → f18 k = f k := fun k z => (congrFun ef18 k).trans ((va_up_ne _ _ (by omega)).trans (Pf17 k z))
  have hC : cd_C G (343) f18 s.heap H locs := hC
  refine lv_dup S.1 S.2.1 dX1_init_29 rfl ?_
  refine lv_aload_n S.1 S.2.1 dX1_init_30 rfl (lv_at hl 2 rfl) ?_
  refine cd_kcall (N := 1) (q := 342) (As := [.ref (G.2.2.2.2 + 1)]) S hK hC hl.1 (c_X4_init l G (342) (cd_is_p 5 (by decide)) f18 v282_f18) cd_m_X1_17 cd_i_X4_init cd_n_X4 cd_c_X4_init (by decide +kernel) ⟨Nat.le_of_ble_eq_true rfl, Nat.le_of_ble_eq_true rfl⟩ ⟨rfl, rfl⟩ rfl rfl (Nat.le_of_ble_eq_true rfl) ⟨Nat.le_of_ble_eq_true rfl, Nat.le_of_ble_eq_true rfl⟩ dX1_init_31 (fun f19 H locs Rf19 Tf19 hC => ?_)
  have v0_f19 := (Rf19 (60) (by omega)).trans v0_f18
  have v1_f19 := (Rf19 (61) (by omega)).trans v1_f18
  have s2_f19 : ∀ k, 62 ≤ k → k < 118 → f19 k = cd_e0 G k := fun k z1 z2 => (Rf19 k (by omega)).trans (s2_f18 k z1 z2)
  have s58_f19 : ∀ k, 118 ≤ k → k < 174 → f19 k = cd_e0 G k := fun k z1 z2 => (Rf19 k (by omega)).trans (s58_f18 k z1 z2)
  have s114_f19 : ∀ k, 174 ≤ k → k < 230 → f19 k = cd_e0 G k := fun k z1 z2 => (Rf19 k (by omega)).trans (s114_f18 k z1 z2)
  have s170_f19 : ∀ k, 230 ≤ k → k < 286 → f19 k = cd_e0 G k := fun k z1 z2 => (Rf19 k (by omega)).trans (s170_f18 k z1 z2)
  have s226_f19 : ∀ k, 286 ≤ k → k < 342 → f19 k = cd_e0 G k := fun k z1 z2 => (Rf19 k (by omega)).trans (s226_f18 k z1 z2)
  have s282_f19 : ∀ k, 342 ≤ k → k < 398 → f19 k = cd_e0 G k := fun k z1 z2 => Tf19 k z1 (by omega)
  have Pf19 : ∀ k, k < 60 → f19 k = f k := fun k z => (Rf19 k (by omega)).trans (Pf18 k z)
  have hC : cd_C G (398) f19 s.heap H locs := hC
  obtain ⟨f20, ef20⟩ : ∃ z, z = va_up f19 (61) (.inl (G.2.2.2.1, 6, .inr (.inr (.inr (.inr (va_up (va_up (va_up (va_up (va_up (va_up (fun _ => none) (Int32.toNatClampNeg 0) (some (G.2.2.2.2 + 62))) (Int32.toNatClampNeg 1) (some (G.2.2.2.2 + 118))) (Int32.toNatClampNeg 2) (some (G.2.2.2.2 + 174))) (Int32.toNatClampNeg 3) (some (G.2.2.2.2 + 230))) (Int32.toNatClampNeg 4) (some (G.2.2.2.2 + 286))) (Int32.toNatClampNeg 5) (some (G.2.2.2.2 + 342)))))))) := ⟨_, rfl⟩
  refine cd_kaast (q := 61) (r := 342) (n := 398) (N := 6) (t0 := 2) (ci := 4) S hK hC (by decide) v1_f19 rfl (by decide) ((s282_f19 _ (by omega) (by omega)).trans (cd_e0_at (cd_is_p 5 (by decide)))) rfl (cd_ix_in (by decide)) ef20 dX1_init_34 (fun H locs hC => ?_)
  have v0_f20 := (congrFun ef20 (60)).trans ((va_up_ne _ _ (by decide)).trans v0_f19)
  have v1_f20 : f20 (61) = .inl (G.2.2.2.1, 6, .inr (.inr (.inr (.inr (va_up (va_up (va_up (va_up (va_up (va_up (fun _ => none) (Int32.toNatClampNeg 0) (some (G.2.2.2.2 + 62))) (Int32.toNatClampNeg 1) (some (G.2.2.2.2 + 118))) (Int32.toNatClampNeg 2) (some (G.2.2.2.2 + 174))) (Int32.toNatClampNeg 3) (some (G.2.2.2.2 + 230))) (Int32.toNatClampNeg 4) (some (G.2.2.2.2 + 286))) (Int32.toNatClampNeg 5) (some (G.2.2.2.2 + 342))))))) := (congrFun ef20 (61)).trans (if_pos rfl)
  have s2_f20 : ∀ k, 62 ≤ k → k < 118 → f20 k = cd_e0 G k := fun k z1 z2 => (congrFun ef20 k).trans ((va_up_ne _ _ (by omega)).trans (s2_f19 k z1 z2))
  have s58_f20 : ∀ k, 118 ≤ k → k < 174 → f20 k = cd_e0 G k := fun k z1 z2 => (congrFun ef20 k).trans ((va_up_ne _ _ (by omega)).trans (s58_f19 k z1 z2))
  have s114_f20 : ∀ k, 174 ≤ k → k < 230 → f20 k = cd_e0 G k := fun k z1 z2 => (congrFun ef20 k).trans ((va_up_ne _ _ (by omega)).trans (s114_f19 k z1 z2))
  have s170_f20 : ∀ k, 230 ≤ k → k < 286 → f20 k = cd_e0 G k := fun k z1 z2 => (congrFun ef20 k).trans ((va_up_ne _ _ (by omega)).trans (s170_f19 k z1 z2))
  have s226_f20 : ∀ k, 286 ≤ k → k < 342 → f20 k = cd_e0 G k := fun k z1 z2 => (congrFun ef20 k).trans ((va_up_ne _ _ (by omega)).trans (s226_f19 k z1 z2))
  have s282_f20 : ∀ k, 342 ≤ k → k < 398 → f20 k = cd_e0 G k := fun k z1 z2 => (congrFun ef20 k).trans ((va_up_ne _ _ (by omega)).trans (s282_f19 k z1 z2))
  have Pf20 : ∀ k, k < 60 → f20 k = f k := fun k z => (congrFun ef20 k).trans ((va_up_ne _ _ (by omega)).trans (Pf19 k z))
  refine lv_iinc (v := 6) (lv' := [(2, .int 6), (0, .ref (G.2.2.2.2 + 60)), (1, .ref (G.2.2.2.2 + 1))]) S.1 S.2.1 dX1_init_35 hl (k := 0) rfl (by decide) (by decide) rfl (fun ls hl => ?_)
  refine lv_goto (tgt := 15) S.1 S.2.1 dX1_init_38 (by decide) ?_
  refine lv_iload_n S.1 S.2.1 dX1_init_15 rfl (lv_at hl 0 rfl) ?_
  refine lv_bipush (v := 6) S.1 S.2.1 dX1_init_16 (by decide) ?_
  refine lv_icmp_ge (tgt := 41) S.1 S.2.1 dX1_init_18 (by decide) (fun _ => ?_) (fun z => absurd z (by decide))
  refine hret f20 H locs _ ls Pf20 ?_ hC dX1_init_41
  intro k z1 z2
  rcases (show (60 ≤ k ∧ k < 61) ∨ (61 ≤ k ∧ k < 62) ∨ (62 ≤ k ∧ k < 118) ∨ (118 ≤ k ∧ k < 174) ∨ (174 ≤ k ∧ k < 230) ∨ (230 ≤ k ∧ k < 286) ∨ (286 ≤ k ∧ k < 342) ∨ (342 ≤ k ∧ k < 398) by omega) with ⟨y1, y2⟩ | ⟨y1, y2⟩ | ⟨y1, y2⟩ | ⟨y1, y2⟩ | ⟨y1, y2⟩ | ⟨y1, y2⟩ | ⟨y1, y2⟩ | ⟨y1, y2⟩
  · obtain rfl : k = 60 := by omega
    rw [v0_f20]
    exact cd_w1_0
  · obtain rfl : k = 61 := by omega
    rw [v1_f20]
    exact cd_w1_1
  · exact s2_f20 k y1 y2
  · exact s58_f20 k y1 y2
  · exact s114_f20 k y1 y2
  · exact s170_f20 k y1 y2
  · exact s226_f20 k y1 y2
  · exact s282_f20 k y1 y2
theorem cd_w6_0 {G : cd_G} : (.inr (6, [.int 0, .int 0, .ref (G.2.2.2.2 + 399), .ref (G.2.2.2.2 + 400), .ref (G.2.2.2.2 + 401), .ref (G.2.2.2.2 + 402), .int 0, .int 0]) : va_E) = cd_e0 G (398) := by
  rw [cd_e0_at (kn := (6, 0)) (by decide +kernel)]
  show _ = Sum.inr (6, cd_fs6 G.2.2.2.2 cd_h0 398)
  rfl
theorem cd_w6_1 {G : cd_G} : (.inl (G.2.1, 120, .inl (fun _ => 0)) : va_E) = cd_e0 G (399) := by
  exact (cd_e0_z (show cd_ar 120 399 from (by decide +kernel : cd_tb[399]? = some (11, 120))) (by decide) (by decide)).symm
theorem cd_w6_2 {G : cd_G} : (.inl (G.2.1, 40, .inl (fun _ => 0)) : va_E) = cd_e0 G (400) := by
  exact (cd_e0_z (show cd_ar 40 400 from (by decide +kernel : cd_tb[400]? = some (11, 40))) (by decide) (by decide)).symm
theorem cd_w6_3 {G : cd_G} : (.inl (G.2.1, 40, .inl (fun _ => 0)) : va_E) = cd_e0 G (401) := by
  exact (cd_e0_z (show cd_ar 40 401 from (by decide +kernel : cd_tb[401]? = some (11, 40))) (by decide) (by decide)).symm
theorem cd_w6_4 {G : cd_G} : (.inl (G.2.1, 320, .inl (fun _ => 0)) : va_E) = cd_e0 G (402) := by
  exact (cd_e0_z (show cd_ar 320 402 from (by decide +kernel : cd_tb[402]? = some (11, 320))) (by decide) (by decide)).symm
abbrev rk_X6 : Room := { frames := 1, cells := 4, slots := 520, locals := 12 }
set_option maxHeartbeats 4000000 in
set_option maxRecDepth 100000 in
theorem c_X6_init (l : Launch) (G : cd_G) (f : Nat → va_E) (hf : f 398 = .inr (6, [.int 0, .int 0, .null, .null, .null, .null, .int 0, .int 0])) : cd_Mk l G yX6_init (Cond.code yX6_init cX6_init 1 none :: cd_T) rk_X6 [.ref (G.2.2.2.2 + 398)] 398 5 4 520 f := by
  refine cd_kin (by decide) rfl (Nat.le_of_ble_eq_true rfl) ?_
  intro p e s m args below meth c Q ls H locs S hK hin2 hC hl hret
  have hl : lv_has ls 1 [(0, .ref (G.2.2.2.2 + 398))] := hl
  have hC : cd_C G 399 f s.heap H locs := hC
  have P0 : ∀ k, k < 398 → f k = f k := fun k _ => rfl
  refine lv_aload_n S.1 S.2.1 dX6_init_0 rfl (lv_at hl 0 rfl) ?_
  refine cd_kinit S hl.1 cd_m_X6_3 (Nat.le_of_ble_eq_true rfl) (Nat.le_of_ble_eq_true rfl) dX6_init_1 ?_
  refine lv_aload_n S.1 S.2.1 dX6_init_4 rfl (lv_at hl 0 rfl) ?_
  refine lv_bipush (v := 120) S.1 S.2.1 dX6_init_5 (by decide) ?_
  obtain ⟨f1, ef1⟩ : ∃ z, z = va_up f (399) (.inl (G.2.1, 120, .inl (fun _ => 0))) := ⟨_, rfl⟩
  refine cd_knewa (n := 399) S hK hC (by decide) (N' := 120) (by decide) (Nat.le_of_ble_eq_true rfl) ef1 (Nat.le_of_ble_eq_true rfl) (Nat.le_of_ble_eq_true rfl) dX6_init_7 (fun H hC => ?_)
  have v0_f1 := (congrFun ef1 (398)).trans ((va_up_ne _ _ (by decide)).trans hf)
  have v1_f1 : f1 (399) = .inl (G.2.1, 120, .inl (fun _ => 0)) := (congrFun ef1 (399)).trans (if_pos rfl)
  have Pf1 : ∀ k, k < 398 → f1 k = f k := fun k z => (congrFun ef1 k).trans ((va_up_ne _ _ (by omega)).trans (P0 k z))
  have hC : cd_C G (400) f1 s.heap H locs := hC
  obtain ⟨f2, ef2⟩ : ∃ z, z = va_up f1 (398) (.inr (6, [.int 0, .int 0, .ref (G.2.2.2.2 + 399), .null, .null, .null, .int 0, .int 0])) := ⟨_, rfl⟩
  refine cd_kputF (q := 398) (n := 400) (ci := 6) (C := RX6) (T := TX6) (N := 8) S hK hin2 hC rfl cd_x6 tyX6 tyX6_ok nmX6 (fs := [.int 0, .int 0, .null, .null, .null, .null, .int 0, .int 0]) (by decide) v0_f1 2 (by decide) cd_f_X6_9 rfl rfl rfl rfl (Nat.le_of_ble_eq_true rfl) ef2 dX6_init_9 (fun H locs hC => ?_)
  have v1_f2 := (congrFun ef2 (399)).trans ((va_up_ne _ _ (by decide)).trans v1_f1)
  have v0_f2 : f2 (398) = .inr (6, [.int 0, .int 0, .ref (G.2.2.2.2 + 399), .null, .null, .null, .int 0, .int 0]) := (congrFun ef2 (398)).trans (if_pos rfl)
  have Pf2 : ∀ k, k < 398 → f2 k = f k := fun k z => (congrFun ef2 k).trans ((va_up_ne _ _ (by omega)).trans (Pf1 k z))
  refine lv_aload_n S.1 S.2.1 dX6_init_12 rfl (lv_at hl 0 rfl) ?_
  refine lv_bipush (v := 40) S.1 S.2.1 dX6_init_13 (by decide) ?_
  obtain ⟨f3, ef3⟩ : ∃ z, z = va_up f2 (400) (.inl (G.2.1, 40, .inl (fun _ => 0))) := ⟨_, rfl⟩
  refine cd_knewa (n := 400) S hK hC (by decide) (N' := 40) (by decide) (Nat.le_of_ble_eq_true rfl) ef3 (Nat.le_of_ble_eq_true rfl) (Nat.le_of_ble_eq_true rfl) dX6_init_15 (fun H hC => ?_)
  have v0_f3 := (congrFun ef3 (398)).trans ((va_up_ne _ _ (by decide)).trans v0_f2)
  have v1_f3 := (congrFun ef3 (399)).trans ((va_up_ne _ _ (by decide)).trans v1_f2)
  have v2_f3 : f3 (400) = .inl (G.2.1, 40, .inl (fun _ => 0)) := (congrFun ef3 (400)).trans (if_pos rfl)
  have Pf3 : ∀ k, k < 398 → f3 k = f k := fun k z => (congrFun ef3 k).trans ((va_up_ne _ _ (by omega)).trans (Pf2 k z))
  have hC : cd_C G (401) f3 s.heap H locs := hC
  obtain ⟨f4, ef4⟩ : ∃ z, z = va_up f3 (398) (.inr (6, [.int 0, .int 0, .ref (G.2.2.2.2 + 399), .ref (G.2.2.2.2 + 400), .null, .null, .int 0, .int 0])) := ⟨_, rfl⟩
  refine cd_kputF (q := 398) (n := 401) (ci := 6) (C := RX6) (T := TX6) (N := 8) S hK hin2 hC rfl cd_x6 tyX6 tyX6_ok nmX6 (fs := [.int 0, .int 0, .ref (G.2.2.2.2 + 399), .null, .null, .null, .int 0, .int 0]) (by decide) v0_f3 3 (by decide) cd_f_X6_15 rfl rfl rfl rfl (Nat.le_of_ble_eq_true rfl) ef4 dX6_init_17 (fun H locs hC => ?_)
  have v1_f4 := (congrFun ef4 (399)).trans ((va_up_ne _ _ (by decide)).trans v1_f3)
  have v2_f4 := (congrFun ef4 (400)).trans ((va_up_ne _ _ (by decide)).trans v2_f3)
  have v0_f4 : f4 (398) = .inr (6, [.int 0, .int 0, .ref (G.2.2.2.2 + 399), .ref (G.2.2.2.2 + 400), .null, .null, .int 0, .int 0]) := (congrFun ef4 (398)).trans (if_pos rfl)
  have Pf4 : ∀ k, k < 398 → f4 k = f k := fun k z => (congrFun ef4 k).trans ((va_up_ne _ _ (by omega)).trans (Pf3 k z))
  refine lv_aload_n S.1 S.2.1 dX6_init_20 rfl (lv_at hl 0 rfl) ?_
  refine lv_bipush (v := 40) S.1 S.2.1 dX6_init_21 (by decide) ?_
  obtain ⟨f5, ef5⟩ : ∃ z, z = va_up f4 (401) (.inl (G.2.1, 40, .inl (fun _ => 0))) := ⟨_, rfl⟩
  refine cd_knewa (n := 401) S hK hC (by decide) (N' := 40) (by decide) (Nat.le_of_ble_eq_true rfl) ef5 (Nat.le_of_ble_eq_true rfl) (Nat.le_of_ble_eq_true rfl) dX6_init_23 (fun H hC => ?_)
  have v0_f5 := (congrFun ef5 (398)).trans ((va_up_ne _ _ (by decide)).trans v0_f4)
  have v1_f5 := (congrFun ef5 (399)).trans ((va_up_ne _ _ (by decide)).trans v1_f4)
  have v2_f5 := (congrFun ef5 (400)).trans ((va_up_ne _ _ (by decide)).trans v2_f4)
  have v3_f5 : f5 (401) = .inl (G.2.1, 40, .inl (fun _ => 0)) := (congrFun ef5 (401)).trans (if_pos rfl)
  have Pf5 : ∀ k, k < 398 → f5 k = f k := fun k z => (congrFun ef5 k).trans ((va_up_ne _ _ (by omega)).trans (Pf4 k z))
  have hC : cd_C G (402) f5 s.heap H locs := hC
  obtain ⟨f6, ef6⟩ : ∃ z, z = va_up f5 (398) (.inr (6, [.int 0, .int 0, .ref (G.2.2.2.2 + 399), .ref (G.2.2.2.2 + 400), .ref (G.2.2.2.2 + 401), .null, .int 0, .int 0])) := ⟨_, rfl⟩
  refine cd_kputF (q := 398) (n := 402) (ci := 6) (C := RX6) (T := TX6) (N := 8) S hK hin2 hC rfl cd_x6 tyX6 tyX6_ok nmX6 (fs := [.int 0, .int 0, .ref (G.2.2.2.2 + 399), .ref (G.2.2.2.2 + 400), .null, .null, .int 0, .int 0]) (by decide) v0_f5 4 (by decide) cd_f_X6_18 rfl rfl rfl rfl (Nat.le_of_ble_eq_true rfl) ef6 dX6_init_25 (fun H locs hC => ?_)
  have v1_f6 := (congrFun ef6 (399)).trans ((va_up_ne _ _ (by decide)).trans v1_f5)
  have v2_f6 := (congrFun ef6 (400)).trans ((va_up_ne _ _ (by decide)).trans v2_f5)
  have v3_f6 := (congrFun ef6 (401)).trans ((va_up_ne _ _ (by decide)).trans v3_f5)
  have v0_f6 : f6 (398) = .inr (6, [.int 0, .int 0, .ref (G.2.2.2.2 + 399), .ref (G.2.2.2.2 + 400), .ref (G.2.2.2.2 + 401), .null, .int 0, .int 0]) := (congrFun ef6 (398)).trans (if_pos rfl)
  have Pf6 : ∀ k, k < 398 → f6 k = f k := fun k z => (congrFun ef6 k).trans ((va_up_ne _ _ (by omega)).trans (Pf5 k z))
  refine lv_aload_n S.1 S.2.1 dX6_init_28 rfl (lv_at hl 0 rfl) ?_
  refine lv_sipush (v := 320) S.1 S.2.1 dX6_init_29 (by decide) ?_
  obtain ⟨f7, ef7⟩ : ∃ z, z = va_up f6 (402) (.inl (G.2.1, 320, .inl (fun _ => 0))) := ⟨_, rfl⟩
  refine cd_knewa (n := 402) S hK hC (by decide) (N' := 320) (by decide) (Nat.le_of_ble_eq_true rfl) ef7 (Nat.le_of_ble_eq_true rfl) (Nat.le_of_ble_eq_true rfl) dX6_init_32 (fun H hC => ?_)
  have v0_f7 := (congrFun ef7 (398)).trans ((va_up_ne _ _ (by decide)).trans v0_f6)
  have v1_f7 := (congrFun ef7 (399)).trans ((va_up_ne _ _ (by decide)).trans v1_f6)
  have v2_f7 := (congrFun ef7 (400)).trans ((va_up_ne _ _ (by decide)).trans v2_f6)
  have v3_f7 := (congrFun ef7 (401)).trans ((va_up_ne _ _ (by decide)).trans v3_f6)
  have v4_f7 : f7 (402) = .inl (G.2.1, 320, .inl (fun _ => 0)) := (congrFun ef7 (402)).trans (if_pos rfl)
  have Pf7 : ∀ k, k < 398 → f7 k = f k := fun k z => (congrFun ef7 k).trans ((va_up_ne _ _ (by omega)).trans (Pf6 k z))
  have hC : cd_C G (403) f7 s.heap H locs := hC
  obtain ⟨f8, ef8⟩ : ∃ z, z = va_up f7 (398) (.inr (6, [.int 0, .int 0, .ref (G.2.2.2.2 + 399), .ref (G.2.2.2.2 + 400), .ref (G.2.2.2.2 + 401), .ref (G.2.2.2.2 + 402), .int 0, .int 0])) := ⟨_, rfl⟩
  refine cd_kputF (q := 398) (n := 403) (ci := 6) (C := RX6) (T := TX6) (N := 8) S hK hin2 hC rfl cd_x6 tyX6 tyX6_ok nmX6 (fs := [.int 0, .int 0, .ref (G.2.2.2.2 + 399), .ref (G.2.2.2.2 + 400), .ref (G.2.2.2.2 + 401), .null, .int 0, .int 0]) (by decide) v0_f7 5 (by decide) cd_f_X6_21 rfl rfl rfl rfl (Nat.le_of_ble_eq_true rfl) ef8 dX6_init_34 (fun H locs hC => ?_)
  have v1_f8 := (congrFun ef8 (399)).trans ((va_up_ne _ _ (by decide)).trans v1_f7)
  have v2_f8 := (congrFun ef8 (400)).trans ((va_up_ne _ _ (by decide)).trans v2_f7)
  have v3_f8 := (congrFun ef8 (401)).trans ((va_up_ne _ _ (by decide)).trans v3_f7)
  have v4_f8 := (congrFun ef8 (402)).trans ((va_up_ne _ _ (by decide)).trans v4_f7)
  have v0_f8 : f8 (398) = .inr (6, [.int 0, .int 0, .ref (G.2.2.2.2 + 399), .ref (G.2.2.2.2 + 400), .ref (G.2.2.2.2 + 401), .ref (G.2.2.2.2 + 402), .int 0, .int 0]) := (congrFun ef8 (398)).trans (if_pos rfl)
  have Pf8 : ∀ k, k < 398 → f8 k = f k := fun k z => (congrFun ef8 k).trans ((va_up_ne _ _ (by omega)).trans (Pf7 k z))
  refine hret f8 H locs _ ls Pf8 ?_ hC dX6_init_37
  intro k z1 z2
  rcases (show (398 ≤ k ∧ k < 399) ∨ (399 ≤ k ∧ k < 400) ∨ (400 ≤ k ∧ k < 401) ∨ (401 ≤ k ∧ k < 402) ∨ (402 ≤ k ∧ k < 403) by omega) with ⟨y1, y2⟩ | ⟨y1, y2⟩ | ⟨y1, y2⟩ | ⟨y1, y2⟩ | ⟨y1, y2⟩
  · obtain rfl : k = 398 := by omega
    rw [v0_f8]
    exact cd_w6_0
  · obtain rfl : k = 399 := by omega
    rw [v1_f8]
    exact cd_w6_1
  · obtain rfl : k = 400 := by omega
    rw [v2_f8]
    exact cd_w6_2
  · obtain rfl : k = 401 := by omega
    rw [v3_f8]
    exact cd_w6_3
  · obtain rfl : k = 402 := by omega
    rw [v4_f8]
    exact cd_w6_4
theorem cd_w7_0 {G : cd_G} : (.inr (7, [.ref (G.2.2.2.2 + 4), .ref (G.2.2.2.2 + 60), .ref (G.2.2.2.2 + 398), .ref (G.2.2.2.2 + 403)]) : va_E) = cd_e0 G (0) := by
  rw [cd_e0_at (kn := (7, 0)) (by decide +kernel)]
  show _ = Sum.inr (7, cd_fs7 G.2.2.2.2 cd_h0 0)
  rfl
theorem cd_w7_403 {G : cd_G} : (.inl (G.2.1, 3, .inl (fun _ => 0)) : va_E) = cd_e0 G (403) := by
  exact (cd_e0_z (show cd_ar 3 403 from (by decide +kernel : cd_tb[403]? = some (11, 3))) (by decide) (by decide)).symm
abbrev rk_X7 : Room := { frames := 4, cells := 403, slots := 5109, locals := 76 }
set_option maxHeartbeats 4000000 in
set_option maxRecDepth 100000 in
theorem c_X7_init (l : Launch) (G : cd_G) (f : Nat → va_E) (hf : f 0 = .inr (7, [.null, .null, .null, .null])) : cd_Mk l G yX7_init (Cond.code yX7_init cX7_init 2 none :: cd_T) rk_X7 [.ref (G.2.2.2.2 + 0)] 0 404 403 5109 f := by
  refine cd_kin (by decide) rfl (Nat.le_of_ble_eq_true rfl) ?_
  intro p e s m args below meth c Q ls H locs S hK hin2 hC hl hret
  have hl : lv_has ls 2 [(0, .ref (G.2.2.2.2 + 0))] := hl
  have hC : cd_C G 1 f s.heap H locs := hC
  have P0 : ∀ k, k < 0 → f k = f k := fun k _ => rfl
  refine lv_aload_n S.1 S.2.1 dX7_init_0 rfl (lv_at hl 0 rfl) ?_
  refine cd_kinit S hl.1 cd_m_X7_1 (Nat.le_of_ble_eq_true rfl) (Nat.le_of_ble_eq_true rfl) dX7_init_1 ?_
  obtain ⟨f1, ef1⟩ : ∃ z, z = va_up f (1) (.inr (3, [.int 0, .int 0, .null, .null])) := ⟨_, rfl⟩
  refine cd_knew (n := 1) (ci := 3) (C := RX3) (T := TX3) (N := 4) S hK hC rfl cd_x3 tyX3 tyX3_ok cd_k_X7_7 cd_j_X3 cd_n_X3 (fs := [.int 0, .int 0, .null, .null]) (by decide) ef1 (Nat.le_of_ble_eq_true rfl) (Nat.le_of_ble_eq_true rfl) dX7_init_4 (fun H hC => ?_)
  have v0_f1 := (congrFun ef1 (0)).trans ((va_up_ne _ _ (by decide)).trans hf)
  have v1_f1 : f1 (1) = .inr (3, [.int 0, .int 0, .null, .null]) := (congrFun ef1 (1)).trans (if_pos rfl)
  have Pf1 : ∀ k, k < 0 → f1 k = f k := fun k z => (congrFun ef1 k).trans ((va_up_ne _ _ (by omega)).trans (P0 k z))
  have hC : cd_C G (2) f1 s.heap H locs := hC
  refine lv_dup S.1 S.2.1 dX7_init_7 rfl ?_
  refine cd_kcall (N := 0) (q := 1) (As := []) S hK hC hl.1 (c_X3_init l G f1 v1_f1) cd_m_X7_9 cd_i_X3_init cd_n_X3 cd_c_X3_init (by decide +kernel) ⟨Nat.le_of_ble_eq_true rfl, Nat.le_of_ble_eq_true rfl⟩ ⟨rfl, rfl⟩ rfl rfl (Nat.le_of_ble_eq_true rfl) ⟨Nat.le_of_ble_eq_true rfl, Nat.le_of_ble_eq_true rfl⟩ dX7_init_8 (fun f2 H locs Rf2 Tf2 hC => ?_)
  have v0_f2 := (Rf2 (0) (by omega)).trans v0_f1
  have s1_f2 : ∀ k, 1 ≤ k → k < 4 → f2 k = cd_e0 G k := fun k z1 z2 => Tf2 k z1 (by omega)
  have Pf2 : ∀ k, k < 0 → f2 k = f k := fun k z => (Rf2 k (by omega)).trans (Pf1 k z)
  have hC : cd_C G (4) f2 s.heap H locs := hC
  refine lv_astore_n (lv' := [(1, .ref (G.2.2.2.2 + 1)), (0, .ref (G.2.2.2.2 + 0))]) S.1 S.2.1 dX7_init_11 rfl hl (by decide) rfl (fun ls hl => ?_)
  refine lv_aload_n S.1 S.2.1 dX7_init_12 rfl (lv_at hl 1 rfl) ?_
  obtain ⟨f3, ef3⟩ : ∃ z, z = va_up f2 (4) (.inr (4, [.int 0, .int 0, .int 0, .int 0, .int 0, .null, .null, .null, .null, .null, .null])) := ⟨_, rfl⟩
  refine cd_knew (n := 4) (ci := 4) (C := RX4) (T := TX4) (N := 11) S hK hC rfl cd_x4 tyX4 tyX4_ok cd_k_X7_10 cd_j_X4 cd_n_X4 (fs := [.int 0, .int 0, .int 0, .int 0, .int 0, .null, .null, .null, .null, .null, .null]) (by decide) ef3 (Nat.le_of_ble_eq_true rfl) (Nat.le_of_ble_eq_true rfl) dX7_init_13 (fun H hC => ?_)
  have v0_f3 := (congrFun ef3 (0)).trans ((va_up_ne _ _ (by decide)).trans v0_f2)
  have v4_f3 : f3 (4) = .inr (4, [.int 0, .int 0, .int 0, .int 0, .int 0, .null, .null, .null, .null, .null, .null]) := (congrFun ef3 (4)).trans (if_pos rfl)
  have s1_f3 : ∀ k, 1 ≤ k → k < 4 → f3 k = cd_e0 G k := fun k z1 z2 => (congrFun ef3 k).trans ((va_up_ne _ _ (by omega)).trans (s1_f2 k z1 z2))
  have Pf3 : ∀ k, k < 0 → f3 k = f k := fun k z => (congrFun ef3 k).trans ((va_up_ne _ _ (by omega)).trans (Pf2 k z))
  have hC : cd_C G (5) f3 s.heap H locs := hC
  refine lv_dup S.1 S.2.1 dX7_init_16 rfl ?_
  refine lv_aload_n S.1 S.2.1 dX7_init_17 rfl (lv_at hl 0 rfl) ?_
  refine cd_kcall (N := 1) (q := 4) (As := [.ref (G.2.2.2.2 + 1)]) S hK hC hl.1 (c_X4_init l G (4) cd_is_4 f3 v4_f3) cd_m_X7_12 cd_i_X4_init cd_n_X4 cd_c_X4_init (by decide +kernel) ⟨Nat.le_of_ble_eq_true rfl, Nat.le_of_ble_eq_true rfl⟩ ⟨rfl, rfl⟩ rfl rfl (Nat.le_of_ble_eq_true rfl) ⟨Nat.le_of_ble_eq_true rfl, Nat.le_of_ble_eq_true rfl⟩ dX7_init_18 (fun f4 H locs Rf4 Tf4 hC => ?_)
  have v0_f4 := (Rf4 (0) (by omega)).trans v0_f3
  have s1_f4 : ∀ k, 1 ≤ k → k < 4 → f4 k = cd_e0 G k := fun k z1 z2 => (Rf4 k (by omega)).trans (s1_f3 k z1 z2)
  have s4_f4 : ∀ k, 4 ≤ k → k < 60 → f4 k = cd_e0 G k := fun k z1 z2 => Tf4 k z1 (by omega)
  have Pf4 : ∀ k, k < 0 → f4 k = f k := fun k z => (Rf4 k (by omega)).trans (Pf3 k z)
  have hC : cd_C G (60) f4 s.heap H locs := hC
  obtain ⟨f5, ef5⟩ : ∃ z, z = va_up f4 (0) (.inr (7, [.ref (G.2.2.2.2 + 4), .null, .null, .null])) := ⟨_, rfl⟩
  refine cd_kputF (q := 0) (n := 60) (ci := 7) (C := RX7) (T := TX7) (N := 4) S hK hin2 hC rfl cd_x7 tyX7 tyX7_ok nmX7 (fs := [.null, .null, .null, .null]) (by decide) v0_f4 0 (by decide) cd_f_X7_15 rfl rfl rfl rfl (Nat.le_of_ble_eq_true rfl) ef5 dX7_init_21 (fun H locs hC => ?_)
  have v0_f5 : f5 (0) = .inr (7, [.ref (G.2.2.2.2 + 4), .null, .null, .null]) := (congrFun ef5 (0)).trans (if_pos rfl)
  have s1_f5 : ∀ k, 1 ≤ k → k < 4 → f5 k = cd_e0 G k := fun k z1 z2 => (congrFun ef5 k).trans ((va_up_ne _ _ (by omega)).trans (s1_f4 k z1 z2))
  have s4_f5 : ∀ k, 4 ≤ k → k < 60 → f5 k = cd_e0 G k := fun k z1 z2 => (congrFun ef5 k).trans ((va_up_ne _ _ (by omega)).trans (s4_f4 k z1 z2))
  have Pf5 : ∀ k, k < 0 → f5 k = f k := fun k z => (congrFun ef5 k).trans ((va_up_ne _ _ (by omega)).trans (Pf4 k z))
  refine lv_aload_n S.1 S.2.1 dX7_init_24 rfl (lv_at hl 1 rfl) ?_
  obtain ⟨f6, ef6⟩ : ∃ z, z = va_up f5 (60) (.inr (1, [.int 0, .int 0, .null])) := ⟨_, rfl⟩
  refine cd_knew (n := 60) (ci := 1) (C := RX1) (T := TX1) (N := 3) S hK hC rfl cd_x1 tyX1 tyX1_ok cd_k_X7_21 cd_j_X1 cd_n_X1 (fs := [.int 0, .int 0, .null]) (by decide) ef6 (Nat.le_of_ble_eq_true rfl) (Nat.le_of_ble_eq_true rfl) dX7_init_25 (fun H hC => ?_)
  have v0_f6 := (congrFun ef6 (0)).trans ((va_up_ne _ _ (by decide)).trans v0_f5)
  have v60_f6 : f6 (60) = .inr (1, [.int 0, .int 0, .null]) := (congrFun ef6 (60)).trans (if_pos rfl)
  have s1_f6 : ∀ k, 1 ≤ k → k < 4 → f6 k = cd_e0 G k := fun k z1 z2 => (congrFun ef6 k).trans ((va_up_ne _ _ (by omega)).trans (s1_f5 k z1 z2))
  have s4_f6 : ∀ k, 4 ≤ k → k < 60 → f6 k = cd_e0 G k := fun k z1 z2 => (congrFun ef6 k).trans ((va_up_ne _ _ (by omega)).trans (s4_f5 k z1 z2))
  have Pf6 : ∀ k, k < 0 → f6 k = f k := fun k z => (congrFun ef6 k).trans ((va_up_ne _ _ (by omega)).trans (Pf5 k z))
  have hC : cd_C G (61) f6 s.heap H locs := hC
  refine lv_dup S.1 S.2.1 dX7_init_28 rfl ?_
  refine lv_aload_n S.1 S.2.1 dX7_init_29 rfl (lv_at hl 0 rfl) ?_
  refine cd_kcall (N := 1) (q := 60) (As := [.ref (G.2.2.2.2 + 1)]) S hK hC hl.1 (c_X1_init l G f6 v60_f6) cd_m_X7_23 cd_i_X1_init cd_n_X1 cd_c_X1_init (by decide +kernel) ⟨Nat.le_of_ble_eq_true rfl, Nat.le_of_ble_eq_true rfl⟩ ⟨rfl, rfl⟩ rfl rfl (Nat.le_of_ble_eq_true rfl) ⟨Nat.le_of_ble_eq_true rfl, Nat.le_of_ble_eq_true rfl⟩ dX7_init_30 (fun f7 H locs Rf7 Tf7 hC => ?_)
  have v0_f7 := (Rf7 (0) (by omega)).trans v0_f6
  have s1_f7 : ∀ k, 1 ≤ k → k < 4 → f7 k = cd_e0 G k := fun k z1 z2 => (Rf7 k (by omega)).trans (s1_f6 k z1 z2)
  have s4_f7 : ∀ k, 4 ≤ k → k < 60 → f7 k = cd_e0 G k := fun k z1 z2 => (Rf7 k (by omega)).trans (s4_f6 k z1 z2)
  have s60_f7 : ∀ k, 60 ≤ k → k < 398 → f7 k = cd_e0 G k := fun k z1 z2 => Tf7 k z1 (by omega)
  have Pf7 : ∀ k, k < 0 → f7 k = f k := fun k z => (Rf7 k (by omega)).trans (Pf6 k z)
  have hC : cd_C G (398) f7 s.heap H locs := hC
  obtain ⟨f8, ef8⟩ : ∃ z, z = va_up f7 (0) (.inr (7, [.ref (G.2.2.2.2 + 4), .ref (G.2.2.2.2 + 60), .null, .null])) := ⟨_, rfl⟩
  refine cd_kputF (q := 0) (n := 398) (ci := 7) (C := RX7) (T := TX7) (N := 4) S hK hin2 hC rfl cd_x7 tyX7 tyX7_ok nmX7 (fs := [.ref (G.2.2.2.2 + 4), .null, .null, .null]) (by decide) v0_f7 1 (by decide) cd_f_X7_24 rfl rfl rfl rfl (Nat.le_of_ble_eq_true rfl) ef8 dX7_init_33 (fun H locs hC => ?_)
  have v0_f8 : f8 (0) = .inr (7, [.ref (G.2.2.2.2 + 4), .ref (G.2.2.2.2 + 60), .null, .null]) := (congrFun ef8 (0)).trans (if_pos rfl)
  have s1_f8 : ∀ k, 1 ≤ k → k < 4 → f8 k = cd_e0 G k := fun k z1 z2 => (congrFun ef8 k).trans ((va_up_ne _ _ (by omega)).trans (s1_f7 k z1 z2))
  have s4_f8 : ∀ k, 4 ≤ k → k < 60 → f8 k = cd_e0 G k := fun k z1 z2 => (congrFun ef8 k).trans ((va_up_ne _ _ (by omega)).trans (s4_f7 k z1 z2))
  have s60_f8 : ∀ k, 60 ≤ k → k < 398 → f8 k = cd_e0 G k := fun k z1 z2 => (congrFun ef8 k).trans ((va_up_ne _ _ (by omega)).trans (s60_f7 k z1 z2))
  have Pf8 : ∀ k, k < 0 → f8 k = f k := fun k z => (congrFun ef8 k).trans ((va_up_ne _ _ (by omega)).trans (Pf7 k z))
  refine lv_aload_n S.1 S.2.1 dX7_init_36 rfl (lv_at hl 1 rfl) ?_
  obtain ⟨f9, ef9⟩ : ∃ z, z = va_up f8 (398) (.inr (6, [.int 0, .int 0, .null, .null, .null, .null, .int 0, .int 0])) := ⟨_, rfl⟩
  refine cd_knew (n := 398) (ci := 6) (C := RX6) (T := TX6) (N := 8) S hK hC rfl cd_x6 tyX6 tyX6_ok cd_k_X7_28 cd_j_X6 cd_n_X6 (fs := [.int 0, .int 0, .null, .null, .null, .null, .int 0, .int 0]) (by decide) ef9 (Nat.le_of_ble_eq_true rfl) (Nat.le_of_ble_eq_true rfl) dX7_init_37 (fun H hC => ?_)
  have v0_f9 := (congrFun ef9 (0)).trans ((va_up_ne _ _ (by decide)).trans v0_f8)
  have v398_f9 : f9 (398) = .inr (6, [.int 0, .int 0, .null, .null, .null, .null, .int 0, .int 0]) := (congrFun ef9 (398)).trans (if_pos rfl)
  have s1_f9 : ∀ k, 1 ≤ k → k < 4 → f9 k = cd_e0 G k := fun k z1 z2 => (congrFun ef9 k).trans ((va_up_ne _ _ (by omega)).trans (s1_f8 k z1 z2))
  have s4_f9 : ∀ k, 4 ≤ k → k < 60 → f9 k = cd_e0 G k := fun k z1 z2 => (congrFun ef9 k).trans ((va_up_ne _ _ (by omega)).trans (s4_f8 k z1 z2))
  have s60_f9 : ∀ k, 60 ≤ k → k < 398 → f9 k = cd_e0 G k := fun k z1 z2 => (congrFun ef9 k).trans ((va_up_ne _ _ (by omega)).trans (s60_f8 k z1 z2))
  have Pf9 : ∀ k, k < 0 → f9 k = f k := fun k z => (congrFun ef9 k).trans ((va_up_ne _ _ (by omega)).trans (Pf8 k z))
  have hC : cd_C G (399) f9 s.heap H locs := hC
  refine lv_dup S.1 S.2.1 dX7_init_40 rfl ?_
  refine cd_kcall (N := 0) (q := 398) (As := []) S hK hC hl.1 (c_X6_init l G f9 v398_f9) cd_m_X7_30 cd_i_X6_init cd_n_X6 cd_c_X6_init (by decide +kernel) ⟨Nat.le_of_ble_eq_true rfl, Nat.le_of_ble_eq_true rfl⟩ ⟨rfl, rfl⟩ rfl rfl (Nat.le_of_ble_eq_true rfl) ⟨Nat.le_of_ble_eq_true rfl, Nat.le_of_ble_eq_true rfl⟩ dX7_init_41 (fun f10 H locs Rf10 Tf10 hC => ?_)
  have v0_f10 := (Rf10 (0) (by omega)).trans v0_f9
  have s1_f10 : ∀ k, 1 ≤ k → k < 4 → f10 k = cd_e0 G k := fun k z1 z2 => (Rf10 k (by omega)).trans (s1_f9 k z1 z2)
  have s4_f10 : ∀ k, 4 ≤ k → k < 60 → f10 k = cd_e0 G k := fun k z1 z2 => (Rf10 k (by omega)).trans (s4_f9 k z1 z2)
  have s60_f10 : ∀ k, 60 ≤ k → k < 398 → f10 k = cd_e0 G k := fun k z1 z2 => (Rf10 k (by omega)).trans (s60_f9 k z1 z2)
  have s398_f10 : ∀ k, 398 ≤ k → k < 403 → f10 k = cd_e0 G k := fun k z1 z2 => Tf10 k z1 (by omega)
  have Pf10 : ∀ k, k < 0 → f10 k = f k := fun k z => (Rf10 k (by omega)).trans (Pf9 k z)
  have hC : cd_C G (403) f10 s.heap H locs := hC
  obtain ⟨f11, ef11⟩ : ∃ z, z = va_up f10 (0) (.inr (7, [.ref (G.2.2.2.2 + 4), .ref (G.2.2.2.2 + 60), .ref (G.2.2.2.2 + 398), .null])) := ⟨_, rfl⟩
  refine cd_kputF (q := 0) (n := 403) (ci := 7) (C := RX7) (T := TX7) (N := 4) S hK hin2 hC rfl cd_x7 tyX7 tyX7_ok nmX7 (fs := [.ref (G.2.2.2.2 + 4), .ref (G.2.2.2.2 + 60), .null, .null]) (by decide) v0_f10 2 (by decide) cd_f_X7_31 rfl rfl rfl rfl (Nat.le_of_ble_eq_true rfl) ef11 dX7_init_44 (fun H locs hC => ?_)
  have v0_f11 : f11 (0) = .inr (7, [.ref (G.2.2.2.2 + 4), .ref (G.2.2.2.2 + 60), .ref (G.2.2.2.2 + 398), .null]) := (congrFun ef11 (0)).trans (if_pos rfl)
  have s1_f11 : ∀ k, 1 ≤ k → k < 4 → f11 k = cd_e0 G k := fun k z1 z2 => (congrFun ef11 k).trans ((va_up_ne _ _ (by omega)).trans (s1_f10 k z1 z2))
  have s4_f11 : ∀ k, 4 ≤ k → k < 60 → f11 k = cd_e0 G k := fun k z1 z2 => (congrFun ef11 k).trans ((va_up_ne _ _ (by omega)).trans (s4_f10 k z1 z2))
  have s60_f11 : ∀ k, 60 ≤ k → k < 398 → f11 k = cd_e0 G k := fun k z1 z2 => (congrFun ef11 k).trans ((va_up_ne _ _ (by omega)).trans (s60_f10 k z1 z2))
  have s398_f11 : ∀ k, 398 ≤ k → k < 403 → f11 k = cd_e0 G k := fun k z1 z2 => (congrFun ef11 k).trans ((va_up_ne _ _ (by omega)).trans (s398_f10 k z1 z2))
  have Pf11 : ∀ k, k < 0 → f11 k = f k := fun k z => (congrFun ef11 k).trans ((va_up_ne _ _ (by omega)).trans (Pf10 k z))
  refine lv_aload_n S.1 S.2.1 dX7_init_47 rfl (lv_at hl 1 rfl) ?_
  refine lv_iconst (v := 3) S.1 S.2.1 dX7_init_48 (by decide) ?_
  obtain ⟨f12, ef12⟩ : ∃ z, z = va_up f11 (403) (.inl (G.2.1, 3, .inl (fun _ => 0))) := ⟨_, rfl⟩
  refine cd_knewa (n := 403) S hK hC (by decide) (N' := 3) (by decide) (Nat.le_of_ble_eq_true rfl) ef12 (Nat.le_of_ble_eq_true rfl) (Nat.le_of_ble_eq_true rfl) dX7_init_49 (fun H hC => ?_)
  have v0_f12 := (congrFun ef12 (0)).trans ((va_up_ne _ _ (by decide)).trans v0_f11)
  have v403_f12 : f12 (403) = .inl (G.2.1, 3, .inl (fun _ => 0)) := (congrFun ef12 (403)).trans (if_pos rfl)
  have s1_f12 : ∀ k, 1 ≤ k → k < 4 → f12 k = cd_e0 G k := fun k z1 z2 => (congrFun ef12 k).trans ((va_up_ne _ _ (by omega)).trans (s1_f11 k z1 z2))
  have s4_f12 : ∀ k, 4 ≤ k → k < 60 → f12 k = cd_e0 G k := fun k z1 z2 => (congrFun ef12 k).trans ((va_up_ne _ _ (by omega)).trans (s4_f11 k z1 z2))
  have s60_f12 : ∀ k, 60 ≤ k → k < 398 → f12 k = cd_e0 G k := fun k z1 z2 => (congrFun ef12 k).trans ((va_up_ne _ _ (by omega)).trans (s60_f11 k z1 z2))
  have s398_f12 : ∀ k, 398 ≤ k → k < 403 → f12 k = cd_e0 G k := fun k z1 z2 => (congrFun ef12 k).trans ((va_up_ne _ _ (by omega)).trans (s398_f11 k z1 z2))
  have Pf12 : ∀ k, k < 0 → f12 k = f k := fun k z => (congrFun ef12 k).trans ((va_up_ne _ _ (by omega)).trans (Pf11 k z))
  have hC : cd_C G (404) f12 s.heap H locs := hC
  obtain ⟨f13, ef13⟩ : ∃ z, z = va_up f12 (0) (.inr (7, [.ref (G.2.2.2.2 + 4), .ref (G.2.2.2.2 + 60), .ref (G.2.2.2.2 + 398), .ref (G.2.2.2.2 + 403)])) := ⟨_, rfl⟩
  refine cd_kputF (q := 0) (n := 404) (ci := 7) (C := RX7) (T := TX7) (N := 4) S hK hin2 hC rfl cd_x7 tyX7 tyX7_ok nmX7 (fs := [.ref (G.2.2.2.2 + 4), .ref (G.2.2.2.2 + 60), .ref (G.2.2.2.2 + 398), .null]) (by decide) v0_f12 3 (by decide) cd_f_X7_35 rfl rfl rfl rfl (Nat.le_of_ble_eq_true rfl) ef13 dX7_init_51 (fun H locs hC => ?_)
  have v403_f13 := (congrFun ef13 (403)).trans ((va_up_ne _ _ (by decide)).trans v403_f12)
  have v0_f13 : f13 (0) = .inr (7, [.ref (G.2.2.2.2 + 4), .ref (G.2.2.2.2 + 60), .ref (G.2.2.2.2 + 398), .ref (G.2.2.2.2 + 403)]) := (congrFun ef13 (0)).trans (if_pos rfl)
  have s1_f13 : ∀ k, 1 ≤ k → k < 4 → f13 k = cd_e0 G k := fun k z1 z2 => (congrFun ef13 k).trans ((va_up_ne _ _ (by omega)).trans (s1_f12 k z1 z2))
  have s4_f13 : ∀ k, 4 ≤ k → k < 60 → f13 k = cd_e0 G k := fun k z1 z2 => (congrFun ef13 k).trans ((va_up_ne _ _ (by omega)).trans (s4_f12 k z1 z2))
  have s60_f13 : ∀ k, 60 ≤ k → k < 398 → f13 k = cd_e0 G k := fun k z1 z2 => (congrFun ef13 k).trans ((va_up_ne _ _ (by omega)).trans (s60_f12 k z1 z2))
  have s398_f13 : ∀ k, 398 ≤ k → k < 403 → f13 k = cd_e0 G k := fun k z1 z2 => (congrFun ef13 k).trans ((va_up_ne _ _ (by omega)).trans (s398_f12 k z1 z2))
  have Pf13 : ∀ k, k < 0 → f13 k = f k := fun k z => (congrFun ef13 k).trans ((va_up_ne _ _ (by omega)).trans (Pf12 k z))
  refine hret f13 H locs _ ls Pf13 ?_ hC dX7_init_54
  intro k z1 z2
  rcases (show (0 ≤ k ∧ k < 1) ∨ (1 ≤ k ∧ k < 4) ∨ (4 ≤ k ∧ k < 60) ∨ (60 ≤ k ∧ k < 398) ∨ (398 ≤ k ∧ k < 403) ∨ (403 ≤ k ∧ k < 404) by omega) with ⟨y1, y2⟩ | ⟨y1, y2⟩ | ⟨y1, y2⟩ | ⟨y1, y2⟩ | ⟨y1, y2⟩ | ⟨y1, y2⟩
  · obtain rfl : k = 0 := by omega
    rw [v0_f13]
    exact cd_w7_0
  · exact s1_f13 k y1 y2
  · exact s4_f13 k y1 y2
  · exact s60_f13 k y1 y2
  · exact s398_f13 k y1 y2
  · obtain rfl : k = 403 := by omega
    rw [v403_f13]
    exact cd_w7_403
theorem cd_w8_0 {G : cd_G} : (.inr (8, [.ref (G.2.2.2.2 + 405), .ref (G.2.2.2.2 + 406), .ref (G.2.2.2.2 + 407), .int 0, .ref (G.2.2.2.2 + 408), .ref (G.2.2.2.2 + 409), .int 0, .ref (G.2.2.2.2 + 410), .ref (G.2.2.2.2 + 411), .int 0, .ref (G.2.2.2.2 + 412), .ref (G.2.2.2.2 + 413), .ref (G.2.2.2.2 + 414), .ref (G.2.2.2.2 + 415), .int 0, .int 0, .int 0, .long 0]) : va_E) = cd_e0 G (404) := by
  rw [cd_e0_at (kn := (8, 0)) (by decide +kernel)]
  show _ = Sum.inr (8, cd_fs8 G.2.2.2.2 cd_h0 404)
  rfl
theorem cd_w8_1 {G : cd_G} : (.inl (G.2.1, 659, .inl (upd (upd (upd (upd (upd (upd (upd (upd (upd (upd (upd (upd (fun _ => 0) (Int32.toNatClampNeg (0)) 2) (Int32.toNatClampNeg (1 + 0)) 15) (Int32.toNatClampNeg (1 + 1)) 15) (Int32.toNatClampNeg (1 + 2)) 15) (Int32.toNatClampNeg (1 + 3)) 15) (Int32.toNatClampNeg (1 + 4)) 15) (Int32.toNatClampNeg (1 + 5)) 15) (Int32.toNatClampNeg (1 + 6)) 15) (Int32.toNatClampNeg (1 + 7)) 15) (Int32.toNatClampNeg (9)) 1) (Int32.toNatClampNeg (10)) ((-1))) (Int32.toNatClampNeg (427)) 1)) : va_E) = cd_e0 G (405) := by
  rw [cd_e0_ar (show cd_ar 659 405 from (by decide +kernel : cd_tb[405]? = some (11, 659)))]
  congr 3
  refine congrArg Sum.inl (funext fun i => ?_)
  show _ = if i = 0 then (2 : Int32) else if i < 9 then 15 else if i = 9 then 1 else if i = 10 then -1 else if i = 427 then 1 else 0
  exact cd_u8 i
theorem cd_w8_2 {G : cd_G} : (.inl (G.2.1, 659, .inl (fun _ => 0)) : va_E) = cd_e0 G (406) := by
  exact (cd_e0_z (show cd_ar 659 406 from (by decide +kernel : cd_tb[406]? = some (11, 659))) (by decide) (by decide)).symm
theorem cd_w8_3 {G : cd_G} : (.inl (G.2.1, 3295, .inl (fun _ => 0)) : va_E) = cd_e0 G (407) := by
  exact (cd_e0_z (show cd_ar 3295 407 from (by decide +kernel : cd_tb[407]? = some (11, 3295))) (by decide) (by decide)).symm
theorem cd_w8_4 {G : cd_G} : (.inl (G.2.1, 3, .inl (fun _ => 0)) : va_E) = cd_e0 G (408) := by
  exact (cd_e0_z (show cd_ar 3 408 from (by decide +kernel : cd_tb[408]? = some (11, 3))) (by decide) (by decide)).symm
theorem cd_w8_5 {G : cd_G} : (.inl (G.2.1, 120, .inl (fun _ => 0)) : va_E) = cd_e0 G (409) := by
  exact (cd_e0_z (show cd_ar 120 409 from (by decide +kernel : cd_tb[409]? = some (11, 120))) (by decide) (by decide)).symm
theorem cd_w8_6 {G : cd_G} : (.inl (G.2.1, 4, .inl (fun _ => 0)) : va_E) = cd_e0 G (410) := by
  exact (cd_e0_z (show cd_ar 4 410 from (by decide +kernel : cd_tb[410]? = some (11, 4))) (by decide) (by decide)).symm
theorem cd_w8_7 {G : cd_G} : (.inl (G.2.1, 4, .inl (fun _ => 0)) : va_E) = cd_e0 G (411) := by
  exact (cd_e0_z (show cd_ar 4 411 from (by decide +kernel : cd_tb[411]? = some (11, 4))) (by decide) (by decide)).symm
theorem cd_w8_8 {G : cd_G} : (.inl (G.2.1, 4, .inl (fun _ => 0)) : va_E) = cd_e0 G (412) := by
  exact (cd_e0_z (show cd_ar 4 412 from (by decide +kernel : cd_tb[412]? = some (11, 4))) (by decide) (by decide)).symm
theorem cd_w8_9 {G : cd_G} : (.inl (G.2.1, 60, .inl (fun _ => 0)) : va_E) = cd_e0 G (413) := by
  exact (cd_e0_z (show cd_ar 60 413 from (by decide +kernel : cd_tb[413]? = some (11, 60))) (by decide) (by decide)).symm
theorem cd_w8_10 {G : cd_G} : (.inl (G.2.1, 61, .inl (fun _ => 0)) : va_E) = cd_e0 G (414) := by
  exact (cd_e0_z (show cd_ar 61 414 from (by decide +kernel : cd_tb[414]? = some (11, 61))) (by decide) (by decide)).symm
theorem cd_w8_11 {G : cd_G} : (.inl (G.2.1, 128, .inl (fun _ => 0)) : va_E) = cd_e0 G (415) := by
  exact (cd_e0_z (show cd_ar 128 415 from (by decide +kernel : cd_tb[415]? = some (11, 128))) (by decide) (by decide)).symm
abbrev rk_X8 : Room := { frames := 1, cells := 11, slots := 4997, locals := 12 }
set_option maxHeartbeats 4000000 in
set_option maxRecDepth 100000 in
theorem c_X8_init (l : Launch) (G : cd_G) (f : Nat → va_E) (hf : f 404 = .inr (8, [.null, .null, .null, .int 0, .null, .null, .int 0, .null, .null, .int 0, .null, .null, .null, .null, .int 0, .int 0, .int 0, .long 0])) : cd_Mk l G yX8_init (Cond.code yX8_init cX8_init 2 none :: cd_T) rk_X8 [.ref (G.2.2.2.2 + 404)] 404 12 11 4997 f := by
  refine cd_kin (by decide) rfl (Nat.le_of_ble_eq_true rfl) ?_
  intro p e s m args below meth c Q ls H locs S hK hin2 hC hl hret
  have hl : lv_has ls 2 [(0, .ref (G.2.2.2.2 + 404))] := hl
  have hC : cd_C G 405 f s.heap H locs := hC
  have P0 : ∀ k, k < 404 → f k = f k := fun k _ => rfl
  refine lv_aload_n S.1 S.2.1 dX8_init_0 rfl (lv_at hl 0 rfl) ?_
  refine cd_kinit S hl.1 cd_m_X8_1 (Nat.le_of_ble_eq_true rfl) (Nat.le_of_ble_eq_true rfl) dX8_init_1 ?_
  refine lv_aload_n S.1 S.2.1 dX8_init_4 rfl (lv_at hl 0 rfl) ?_
  refine lv_sipush (v := 659) S.1 S.2.1 dX8_init_5 (by decide) ?_
  obtain ⟨f1, ef1⟩ : ∃ z, z = va_up f (405) (.inl (G.2.1, 659, .inl (fun _ => 0))) := ⟨_, rfl⟩
  refine cd_knewa (n := 405) S hK hC (by decide) (N' := 659) (by decide) (Nat.le_of_ble_eq_true rfl) ef1 (Nat.le_of_ble_eq_true rfl) (Nat.le_of_ble_eq_true rfl) dX8_init_8 (fun H hC => ?_)
  have v0_f1 := (congrFun ef1 (404)).trans ((va_up_ne _ _ (by decide)).trans hf)
  have v1_f1 : f1 (405) = .inl (G.2.1, 659, .inl (fun _ => 0)) := (congrFun ef1 (405)).trans (if_pos rfl)
  have Pf1 : ∀ k, k < 404 → f1 k = f k := fun k z => (congrFun ef1 k).trans ((va_up_ne _ _ (by omega)).trans (P0 k z))
  have hC : cd_C G (406) f1 s.heap H locs := hC
  obtain ⟨f2, ef2⟩ : ∃ z, z = va_up f1 (404) (.inr (8, [.ref (G.2.2.2.2 + 405), .null, .null, .int 0, .null, .null, .int 0, .null, .null, .int 0, .null, .null, .null, .null, .int 0, .int 0, .int 0, .long 0])) := ⟨_, rfl⟩
  refine cd_kputF (q := 404) (n := 406) (ci := 8) (C := RX8) (T := TX8) (N := 18) S hK hin2 hC rfl cd_x8 tyX8 tyX8_ok nmX8 (fs := [.null, .null, .null, .int 0, .null, .null, .int 0, .null, .null, .int 0, .null, .null, .null, .null, .int 0, .int 0, .int 0, .long 0]) (by decide) v0_f1 0 (by decide) cd_f_X8_7 rfl rfl rfl rfl (Nat.le_of_ble_eq_true rfl) ef2 dX8_init_10 (fun H locs hC => ?_)
  have v1_f2 := (congrFun ef2 (405)).trans ((va_up_ne _ _ (by decide)).trans v1_f1)
  have v0_f2 : f2 (404) = .inr (8, [.ref (G.2.2.2.2 + 405), .null, .null, .int 0, .null, .null, .int 0, .null, .null, .int 0, .null, .null, .null, .null, .int 0, .int 0, .int 0, .long 0]) := (congrFun ef2 (404)).trans (if_pos rfl)
  have Pf2 : ∀ k, k < 404 → f2 k = f k := fun k z => (congrFun ef2 k).trans ((va_up_ne _ _ (by omega)).trans (Pf1 k z))
  refine lv_aload_n S.1 S.2.1 dX8_init_13 rfl (lv_at hl 0 rfl) ?_
  refine lv_sipush (v := 659) S.1 S.2.1 dX8_init_14 (by decide) ?_
  obtain ⟨f3, ef3⟩ : ∃ z, z = va_up f2 (406) (.inl (G.2.1, 659, .inl (fun _ => 0))) := ⟨_, rfl⟩
  refine cd_knewa (n := 406) S hK hC (by decide) (N' := 659) (by decide) (Nat.le_of_ble_eq_true rfl) ef3 (Nat.le_of_ble_eq_true rfl) (Nat.le_of_ble_eq_true rfl) dX8_init_17 (fun H hC => ?_)
  have v0_f3 := (congrFun ef3 (404)).trans ((va_up_ne _ _ (by decide)).trans v0_f2)
  have v1_f3 := (congrFun ef3 (405)).trans ((va_up_ne _ _ (by decide)).trans v1_f2)
  have v2_f3 : f3 (406) = .inl (G.2.1, 659, .inl (fun _ => 0)) := (congrFun ef3 (406)).trans (if_pos rfl)
  have Pf3 : ∀ k, k < 404 → f3 k = f k := fun k z => (congrFun ef3 k).trans ((va_up_ne _ _ (by omega)).trans (Pf2 k z))
  have hC : cd_C G (407) f3 s.heap H locs := hC
  obtain ⟨f4, ef4⟩ : ∃ z, z = va_up f3 (404) (.inr (8, [.ref (G.2.2.2.2 + 405), .ref (G.2.2.2.2 + 406), .null, .int 0, .null, .null, .int 0, .null, .null, .int 0, .null, .null, .null, .null, .int 0, .int 0, .int 0, .long 0])) := ⟨_, rfl⟩
  refine cd_kputF (q := 404) (n := 407) (ci := 8) (C := RX8) (T := TX8) (N := 18) S hK hin2 hC rfl cd_x8 tyX8 tyX8_ok nmX8 (fs := [.ref (G.2.2.2.2 + 405), .null, .null, .int 0, .null, .null, .int 0, .null, .null, .int 0, .null, .null, .null, .null, .int 0, .int 0, .int 0, .long 0]) (by decide) v0_f3 1 (by decide) cd_f_X8_13 rfl rfl rfl rfl (Nat.le_of_ble_eq_true rfl) ef4 dX8_init_19 (fun H locs hC => ?_)
  have v1_f4 := (congrFun ef4 (405)).trans ((va_up_ne _ _ (by decide)).trans v1_f3)
  have v2_f4 := (congrFun ef4 (406)).trans ((va_up_ne _ _ (by decide)).trans v2_f3)
  have v0_f4 : f4 (404) = .inr (8, [.ref (G.2.2.2.2 + 405), .ref (G.2.2.2.2 + 406), .null, .int 0, .null, .null, .int 0, .null, .null, .int 0, .null, .null, .null, .null, .int 0, .int 0, .int 0, .long 0]) := (congrFun ef4 (404)).trans (if_pos rfl)
  have Pf4 : ∀ k, k < 404 → f4 k = f k := fun k z => (congrFun ef4 k).trans ((va_up_ne _ _ (by omega)).trans (Pf3 k z))
  refine lv_aload_n S.1 S.2.1 dX8_init_22 rfl (lv_at hl 0 rfl) ?_
  refine lv_sipush (v := 3295) S.1 S.2.1 dX8_init_23 (by decide) ?_
  obtain ⟨f5, ef5⟩ : ∃ z, z = va_up f4 (407) (.inl (G.2.1, 3295, .inl (fun _ => 0))) := ⟨_, rfl⟩
  refine cd_knewa (n := 407) S hK hC (by decide) (N' := 3295) (by decide) (Nat.le_of_ble_eq_true rfl) ef5 (Nat.le_of_ble_eq_true rfl) (Nat.le_of_ble_eq_true rfl) dX8_init_26 (fun H hC => ?_)
  have v0_f5 := (congrFun ef5 (404)).trans ((va_up_ne _ _ (by decide)).trans v0_f4)
  have v1_f5 := (congrFun ef5 (405)).trans ((va_up_ne _ _ (by decide)).trans v1_f4)
  have v2_f5 := (congrFun ef5 (406)).trans ((va_up_ne _ _ (by decide)).trans v2_f4)
  have v3_f5 : f5 (407) = .inl (G.2.1, 3295, .inl (fun _ => 0)) := (congrFun ef5 (407)).trans (if_pos rfl)
  have Pf5 : ∀ k, k < 404 → f5 k = f k := fun k z => (congrFun ef5 k).trans ((va_up_ne _ _ (by omega)).trans (Pf4 k z))
  have hC : cd_C G (408) f5 s.heap H locs := hC
  obtain ⟨f6, ef6⟩ : ∃ z, z = va_up f5 (404) (.inr (8, [.ref (G.2.2.2.2 + 405), .ref (G.2.2.2.2 + 406), .ref (G.2.2.2.2 + 407), .int 0, .null, .null, .int 0, .null, .null, .int 0, .null, .null, .null, .null, .int 0, .int 0, .int 0, .long 0])) := ⟨_, rfl⟩
  refine cd_kputF (q := 404) (n := 408) (ci := 8) (C := RX8) (T := TX8) (N := 18) S hK hin2 hC rfl cd_x8 tyX8 tyX8_ok nmX8 (fs := [.ref (G.2.2.2.2 + 405), .ref (G.2.2.2.2 + 406), .null, .int 0, .null, .null, .int 0, .null, .null, .int 0, .null, .null, .null, .null, .int 0, .int 0, .int 0, .long 0]) (by decide) v0_f5 2 (by decide) cd_f_X8_16 rfl rfl rfl rfl (Nat.le_of_ble_eq_true rfl) ef6 dX8_init_28 (fun H locs hC => ?_)
  have v1_f6 := (congrFun ef6 (405)).trans ((va_up_ne _ _ (by decide)).trans v1_f5)
  have v2_f6 := (congrFun ef6 (406)).trans ((va_up_ne _ _ (by decide)).trans v2_f5)
  have v3_f6 := (congrFun ef6 (407)).trans ((va_up_ne _ _ (by decide)).trans v3_f5)
  have v0_f6 : f6 (404) = .inr (8, [.ref (G.2.2.2.2 + 405), .ref (G.2.2.2.2 + 406), .ref (G.2.2.2.2 + 407), .int 0, .null, .null, .int 0, .null, .null, .int 0, .null, .null, .null, .null, .int 0, .int 0, .int 0, .long 0]) := (congrFun ef6 (404)).trans (if_pos rfl)
  have Pf6 : ∀ k, k < 404 → f6 k = f k := fun k z => (congrFun ef6 k).trans ((va_up_ne _ _ (by omega)).trans (Pf5 k z))
  refine lv_aload_n S.1 S.2.1 dX8_init_31 rfl (lv_at hl 0 rfl) ?_
  refine lv_iconst (v := 3) S.1 S.2.1 dX8_init_32 (by decide) ?_
  obtain ⟨f7, ef7⟩ : ∃ z, z = va_up f6 (408) (.inl (G.2.1, 3, .inl (fun _ => 0))) := ⟨_, rfl⟩
  refine cd_knewa (n := 408) S hK hC (by decide) (N' := 3) (by decide) (Nat.le_of_ble_eq_true rfl) ef7 (Nat.le_of_ble_eq_true rfl) (Nat.le_of_ble_eq_true rfl) dX8_init_33 (fun H hC => ?_)
  have v0_f7 := (congrFun ef7 (404)).trans ((va_up_ne _ _ (by decide)).trans v0_f6)
  have v1_f7 := (congrFun ef7 (405)).trans ((va_up_ne _ _ (by decide)).trans v1_f6)
  have v2_f7 := (congrFun ef7 (406)).trans ((va_up_ne _ _ (by decide)).trans v2_f6)
  have v3_f7 := (congrFun ef7 (407)).trans ((va_up_ne _ _ (by decide)).trans v3_f6)
  have v4_f7 : f7 (408) = .inl (G.2.1, 3, .inl (fun _ => 0)) := (congrFun ef7 (408)).trans (if_pos rfl)
  have Pf7 : ∀ k, k < 404 → f7 k = f k := fun k z => (congrFun ef7 k).trans ((va_up_ne _ _ (by omega)).trans (Pf6 k z))
  have hC : cd_C G (409) f7 s.heap H locs := hC
  obtain ⟨f8, ef8⟩ : ∃ z, z = va_up f7 (404) (.inr (8, [.ref (G.2.2.2.2 + 405), .ref (G.2.2.2.2 + 406), .ref (G.2.2.2.2 + 407), .int 0, .ref (G.2.2.2.2 + 408), .null, .int 0, .null, .null, .int 0, .null, .null, .null, .null, .int 0, .int 0, .int 0, .long 0])) := ⟨_, rfl⟩
  refine cd_kputF (q := 404) (n := 409) (ci := 8) (C := RX8) (T := TX8) (N := 18) S hK hin2 hC rfl cd_x8 tyX8 tyX8_ok nmX8 (fs := [.ref (G.2.2.2.2 + 405), .ref (G.2.2.2.2 + 406), .ref (G.2.2.2.2 + 407), .int 0, .null, .null, .int 0, .null, .null, .int 0, .null, .null, .null, .null, .int 0, .int 0, .int 0, .long 0]) (by decide) v0_f7 4 (by decide) cd_f_X8_19 rfl rfl rfl rfl (Nat.le_of_ble_eq_true rfl) ef8 dX8_init_35 (fun H locs hC => ?_)
  have v1_f8 := (congrFun ef8 (405)).trans ((va_up_ne _ _ (by decide)).trans v1_f7)
  have v2_f8 := (congrFun ef8 (406)).trans ((va_up_ne _ _ (by decide)).trans v2_f7)
  have v3_f8 := (congrFun ef8 (407)).trans ((va_up_ne _ _ (by decide)).trans v3_f7)
  have v4_f8 := (congrFun ef8 (408)).trans ((va_up_ne _ _ (by decide)).trans v4_f7)
  have v0_f8 : f8 (404) = .inr (8, [.ref (G.2.2.2.2 + 405), .ref (G.2.2.2.2 + 406), .ref (G.2.2.2.2 + 407), .int 0, .ref (G.2.2.2.2 + 408), .null, .int 0, .null, .null, .int 0, .null, .null, .null, .null, .int 0, .int 0, .int 0, .long 0]) := (congrFun ef8 (404)).trans (if_pos rfl)
  have Pf8 : ∀ k, k < 404 → f8 k = f k := fun k z => (congrFun ef8 k).trans ((va_up_ne _ _ (by omega)).trans (Pf7 k z))
  refine lv_aload_n S.1 S.2.1 dX8_init_38 rfl (lv_at hl 0 rfl) ?_
  refine lv_bipush (v := 120) S.1 S.2.1 dX8_init_39 (by decide) ?_
  obtain ⟨f9, ef9⟩ : ∃ z, z = va_up f8 (409) (.inl (G.2.1, 120, .inl (fun _ => 0))) := ⟨_, rfl⟩
  refine cd_knewa (n := 409) S hK hC (by decide) (N' := 120) (by decide) (Nat.le_of_ble_eq_true rfl) ef9 (Nat.le_of_ble_eq_true rfl) (Nat.le_of_ble_eq_true rfl) dX8_init_41 (fun H hC => ?_)
  have v0_f9 := (congrFun ef9 (404)).trans ((va_up_ne _ _ (by decide)).trans v0_f8)
  have v1_f9 := (congrFun ef9 (405)).trans ((va_up_ne _ _ (by decide)).trans v1_f8)
  have v2_f9 := (congrFun ef9 (406)).trans ((va_up_ne _ _ (by decide)).trans v2_f8)
  have v3_f9 := (congrFun ef9 (407)).trans ((va_up_ne _ _ (by decide)).trans v3_f8)
  have v4_f9 := (congrFun ef9 (408)).trans ((va_up_ne _ _ (by decide)).trans v4_f8)
  have v5_f9 : f9 (409) = .inl (G.2.1, 120, .inl (fun _ => 0)) := (congrFun ef9 (409)).trans (if_pos rfl)
  have Pf9 : ∀ k, k < 404 → f9 k = f k := fun k z => (congrFun ef9 k).trans ((va_up_ne _ _ (by omega)).trans (Pf8 k z))
  have hC : cd_C G (410) f9 s.heap H locs := hC
  obtain ⟨f10, ef10⟩ : ∃ z, z = va_up f9 (404) (.inr (8, [.ref (G.2.2.2.2 + 405), .ref (G.2.2.2.2 + 406), .ref (G.2.2.2.2 + 407), .int 0, .ref (G.2.2.2.2 + 408), .ref (G.2.2.2.2 + 409), .int 0, .null, .null, .int 0, .null, .null, .null, .null, .int 0, .int 0, .int 0, .long 0])) := ⟨_, rfl⟩
  refine cd_kputF (q := 404) (n := 410) (ci := 8) (C := RX8) (T := TX8) (N := 18) S hK hin2 hC rfl cd_x8 tyX8 tyX8_ok nmX8 (fs := [.ref (G.2.2.2.2 + 405), .ref (G.2.2.2.2 + 406), .ref (G.2.2.2.2 + 407), .int 0, .ref (G.2.2.2.2 + 408), .null, .int 0, .null, .null, .int 0, .null, .null, .null, .null, .int 0, .int 0, .int 0, .long 0]) (by decide) v0_f9 5 (by decide) cd_f_X8_22 rfl rfl rfl rfl (Nat.le_of_ble_eq_true rfl) ef10 dX8_init_43 (fun H locs hC => ?_)
  have v1_f10 := (congrFun ef10 (405)).trans ((va_up_ne _ _ (by decide)).trans v1_f9)
  have v2_f10 := (congrFun ef10 (406)).trans ((va_up_ne _ _ (by decide)).trans v2_f9)
  have v3_f10 := (congrFun ef10 (407)).trans ((va_up_ne _ _ (by decide)).trans v3_f9)
  have v4_f10 := (congrFun ef10 (408)).trans ((va_up_ne _ _ (by decide)).trans v4_f9)
  have v5_f10 := (congrFun ef10 (409)).trans ((va_up_ne _ _ (by decide)).trans v5_f9)
  have v0_f10 : f10 (404) = .inr (8, [.ref (G.2.2.2.2 + 405), .ref (G.2.2.2.2 + 406), .ref (G.2.2.2.2 + 407), .int 0, .ref (G.2.2.2.2 + 408), .ref (G.2.2.2.2 + 409), .int 0, .null, .null, .int 0, .null, .null, .null, .null, .int 0, .int 0, .int 0, .long 0]) := (congrFun ef10 (404)).trans (if_pos rfl)
  have Pf10 : ∀ k, k < 404 → f10 k = f k := fun k z => (congrFun ef10 k).trans ((va_up_ne _ _ (by omega)).trans (Pf9 k z))
  refine lv_aload_n S.1 S.2.1 dX8_init_46 rfl (lv_at hl 0 rfl) ?_
  refine lv_iconst (v := 4) S.1 S.2.1 dX8_init_47 (by decide) ?_
  obtain ⟨f11, ef11⟩ : ∃ z, z = va_up f10 (410) (.inl (G.2.1, 4, .inl (fun _ => 0))) := ⟨_, rfl⟩
  refine cd_knewa (n := 410) S hK hC (by decide) (N' := 4) (by decide) (Nat.le_of_ble_eq_true rfl) ef11 (Nat.le_of_ble_eq_true rfl) (Nat.le_of_ble_eq_true rfl) dX8_init_48 (fun H hC => ?_)
  have v0_f11 := (congrFun ef11 (404)).trans ((va_up_ne _ _ (by decide)).trans v0_f10)
  have v1_f11 := (congrFun ef11 (405)).trans ((va_up_ne _ _ (by decide)).trans v1_f10)
  have v2_f11 := (congrFun ef11 (406)).trans ((va_up_ne _ _ (by decide)).trans v2_f10)
  have v3_f11 := (congrFun ef11 (407)).trans ((va_up_ne _ _ (by decide)).trans v3_f10)
  have v4_f11 := (congrFun ef11 (408)).trans ((va_up_ne _ _ (by decide)).trans v4_f10)
  have v5_f11 := (congrFun ef11 (409)).trans ((va_up_ne _ _ (by decide)).trans v5_f10)
  have v6_f11 : f11 (410) = .inl (G.2.1, 4, .inl (fun _ => 0)) := (congrFun ef11 (410)).trans (if_pos rfl)
  have Pf11 : ∀ k, k < 404 → f11 k = f k := fun k z => (congrFun ef11 k).trans ((va_up_ne _ _ (by omega)).trans (Pf10 k z))
  have hC : cd_C G (411) f11 s.heap H locs := hC
  obtain ⟨f12, ef12⟩ : ∃ z, z = va_up f11 (404) (.inr (8, [.ref (G.2.2.2.2 + 405), .ref (G.2.2.2.2 + 406), .ref (G.2.2.2.2 + 407), .int 0, .ref (G.2.2.2.2 + 408), .ref (G.2.2.2.2 + 409), .int 0, .ref (G.2.2.2.2 + 410), .null, .int 0, .null, .null, .null, .null, .int 0, .int 0, .int 0, .long 0])) := ⟨_, rfl⟩
  refine cd_kputF (q := 404) (n := 411) (ci := 8) (C := RX8) (T := TX8) (N := 18) S hK hin2 hC rfl cd_x8 tyX8 tyX8_ok nmX8 (fs := [.ref (G.2.2.2.2 + 405), .ref (G.2.2.2.2 + 406), .ref (G.2.2.2.2 + 407), .int 0, .ref (G.2.2.2.2 + 408), .ref (G.2.2.2.2 + 409), .int 0, .null, .null, .int 0, .null, .null, .null, .null, .int 0, .int 0, .int 0, .long 0]) (by decide) v0_f11 7 (by decide) cd_f_X8_25 rfl rfl rfl rfl (Nat.le_of_ble_eq_true rfl) ef12 dX8_init_50 (fun H locs hC => ?_)
  have v1_f12 := (congrFun ef12 (405)).trans ((va_up_ne _ _ (by decide)).trans v1_f11)
  have v2_f12 := (congrFun ef12 (406)).trans ((va_up_ne _ _ (by decide)).trans v2_f11)
  have v3_f12 := (congrFun ef12 (407)).trans ((va_up_ne _ _ (by decide)).trans v3_f11)
  have v4_f12 := (congrFun ef12 (408)).trans ((va_up_ne _ _ (by decide)).trans v4_f11)
  have v5_f12 := (congrFun ef12 (409)).trans ((va_up_ne _ _ (by decide)).trans v5_f11)
  have v6_f12 := (congrFun ef12 (410)).trans ((va_up_ne _ _ (by decide)).trans v6_f11)
  have v0_f12 : f12 (404) = .inr (8, [.ref (G.2.2.2.2 + 405), .ref (G.2.2.2.2 + 406), .ref (G.2.2.2.2 + 407), .int 0, .ref (G.2.2.2.2 + 408), .ref (G.2.2.2.2 + 409), .int 0, .ref (G.2.2.2.2 + 410), .null, .int 0, .null, .null, .null, .null, .int 0, .int 0, .int 0, .long 0]) := (congrFun ef12 (404)).trans (if_pos rfl)
  have Pf12 : ∀ k, k < 404 → f12 k = f k := fun k z => (congrFun ef12 k).trans ((va_up_ne _ _ (by omega)).trans (Pf11 k z))
  refine lv_aload_n S.1 S.2.1 dX8_init_53 rfl (lv_at hl 0 rfl) ?_
  refine lv_iconst (v := 4) S.1 S.2.1 dX8_init_54 (by decide) ?_
  obtain ⟨f13, ef13⟩ : ∃ z, z = va_up f12 (411) (.inl (G.2.1, 4, .inl (fun _ => 0))) := ⟨_, rfl⟩
  refine cd_knewa (n := 411) S hK hC (by decide) (N' := 4) (by decide) (Nat.le_of_ble_eq_true rfl) ef13 (Nat.le_of_ble_eq_true rfl) (Nat.le_of_ble_eq_true rfl) dX8_init_55 (fun H hC => ?_)
  have v0_f13 := (congrFun ef13 (404)).trans ((va_up_ne _ _ (by decide)).trans v0_f12)
  have v1_f13 := (congrFun ef13 (405)).trans ((va_up_ne _ _ (by decide)).trans v1_f12)
  have v2_f13 := (congrFun ef13 (406)).trans ((va_up_ne _ _ (by decide)).trans v2_f12)
  have v3_f13 := (congrFun ef13 (407)).trans ((va_up_ne _ _ (by decide)).trans v3_f12)
  have v4_f13 := (congrFun ef13 (408)).trans ((va_up_ne _ _ (by decide)).trans v4_f12)
  have v5_f13 := (congrFun ef13 (409)).trans ((va_up_ne _ _ (by decide)).trans v5_f12)
  have v6_f13 := (congrFun ef13 (410)).trans ((va_up_ne _ _ (by decide)).trans v6_f12)
  have v7_f13 : f13 (411) = .inl (G.2.1, 4, .inl (fun _ => 0)) := (congrFun ef13 (411)).trans (if_pos rfl)
  have Pf13 : ∀ k, k < 404 → f13 k = f k := fun k z => (congrFun ef13 k).trans ((va_up_ne _ _ (by omega)).trans (Pf12 k z))
  have hC : cd_C G (412) f13 s.heap H locs := hC
  obtain ⟨f14, ef14⟩ : ∃ z, z = va_up f13 (404) (.inr (8, [.ref (G.2.2.2.2 + 405), .ref (G.2.2.2.2 + 406), .ref (G.2.2.2.2 + 407), .int 0, .ref (G.2.2.2.2 + 408), .ref (G.2.2.2.2 + 409), .int 0, .ref (G.2.2.2.2 + 410), .ref (G.2.2.2.2 + 411), .int 0, .null, .null, .null, .null, .int 0, .int 0, .int 0, .long 0])) := ⟨_, rfl⟩
  refine cd_kputF (q := 404) (n := 412) (ci := 8) (C := RX8) (T := TX8) (N := 18) S hK hin2 hC rfl cd_x8 tyX8 tyX8_ok nmX8 (fs := [.ref (G.2.2.2.2 + 405), .ref (G.2.2.2.2 + 406), .ref (G.2.2.2.2 + 407), .int 0, .ref (G.2.2.2.2 + 408), .ref (G.2.2.2.2 + 409), .int 0, .ref (G.2.2.2.2 + 410), .null, .int 0, .null, .null, .null, .null, .int 0, .int 0, .int 0, .long 0]) (by decide) v0_f13 8 (by decide) cd_f_X8_28 rfl rfl rfl rfl (Nat.le_of_ble_eq_true rfl) ef14 dX8_init_57 (fun H locs hC => ?_)
  have v1_f14 := (congrFun ef14 (405)).trans ((va_up_ne _ _ (by decide)).trans v1_f13)
  have v2_f14 := (congrFun ef14 (406)).trans ((va_up_ne _ _ (by decide)).trans v2_f13)
  have v3_f14 := (congrFun ef14 (407)).trans ((va_up_ne _ _ (by decide)).trans v3_f13)
  have v4_f14 := (congrFun ef14 (408)).trans ((va_up_ne _ _ (by decide)).trans v4_f13)
  have v5_f14 := (congrFun ef14 (409)).trans ((va_up_ne _ _ (by decide)).trans v5_f13)
  have v6_f14 := (congrFun ef14 (410)).trans ((va_up_ne _ _ (by decide)).trans v6_f13)
  have v7_f14 := (congrFun ef14 (411)).trans ((va_up_ne _ _ (by decide)).trans v7_f13)
  have v0_f14 : f14 (404) = .inr (8, [.ref (G.2.2.2.2 + 405), .ref (G.2.2.2.2 + 406), .ref (G.2.2.2.2 + 407), .int 0, .ref (G.2.2.2.2 + 408), .ref (G.2.2.2.2 + 409), .int 0, .ref (G.2.2.2.2 + 410), .ref (G.2.2.2.2 + 411), .int 0, .null, .null, .null, .null, .int 0, .int 0, .int 0, .long 0]) := (congrFun ef14 (404)).trans (if_pos rfl)
  have Pf14 : ∀ k, k < 404 → f14 k = f k := fun k z => (congrFun ef14 k).trans ((va_up_ne _ _ (by omega)).trans (Pf13 k z))
  refine lv_aload_n S.1 S.2.1 dX8_init_60 rfl (lv_at hl 0 rfl) ?_
  refine lv_iconst (v := 4) S.1 S.2.1 dX8_init_61 (by decide) ?_
  obtain ⟨f15, ef15⟩ : ∃ z, z = va_up f14 (412) (.inl (G.2.1, 4, .inl (fun _ => 0))) := ⟨_, rfl⟩
  refine cd_knewa (n := 412) S hK hC (by decide) (N' := 4) (by decide) (Nat.le_of_ble_eq_true rfl) ef15 (Nat.le_of_ble_eq_true rfl) (Nat.le_of_ble_eq_true rfl) dX8_init_62 (fun H hC => ?_)
  have v0_f15 := (congrFun ef15 (404)).trans ((va_up_ne _ _ (by decide)).trans v0_f14)
  have v1_f15 := (congrFun ef15 (405)).trans ((va_up_ne _ _ (by decide)).trans v1_f14)
  have v2_f15 := (congrFun ef15 (406)).trans ((va_up_ne _ _ (by decide)).trans v2_f14)
  have v3_f15 := (congrFun ef15 (407)).trans ((va_up_ne _ _ (by decide)).trans v3_f14)
  have v4_f15 := (congrFun ef15 (408)).trans ((va_up_ne _ _ (by decide)).trans v4_f14)
  have v5_f15 := (congrFun ef15 (409)).trans ((va_up_ne _ _ (by decide)).trans v5_f14)
  have v6_f15 := (congrFun ef15 (410)).trans ((va_up_ne _ _ (by decide)).trans v6_f14)
  have v7_f15 := (congrFun ef15 (411)).trans ((va_up_ne _ _ (by decide)).trans v7_f14)
  have v8_f15 : f15 (412) = .inl (G.2.1, 4, .inl (fun _ => 0)) := (congrFun ef15 (412)).trans (if_pos rfl)
  have Pf15 : ∀ k, k < 404 → f15 k = f k := fun k z => (congrFun ef15 k).trans ((va_up_ne _ _ (by omega)).trans (Pf14 k z))
  have hC : cd_C G (413) f15 s.heap H locs := hC
  obtain ⟨f16, ef16⟩ : ∃ z, z = va_up f15 (404) (.inr (8, [.ref (G.2.2.2.2 + 405), .ref (G.2.2.2.2 + 406), .ref (G.2.2.2.2 + 407), .int 0, .ref (G.2.2.2.2 + 408), .ref (G.2.2.2.2 + 409), .int 0, .ref (G.2.2.2.2 + 410), .ref (G.2.2.2.2 + 411), .int 0, .ref (G.2.2.2.2 + 412), .null, .null, .null, .int 0, .int 0, .int 0, .long 0])) := ⟨_, rfl⟩
  refine cd_kputF (q := 404) (n := 413) (ci := 8) (C := RX8) (T := TX8) (N := 18) S hK hin2 hC rfl cd_x8 tyX8 tyX8_ok nmX8 (fs := [.ref (G.2.2.2.2 + 405), .ref (G.2.2.2.2 + 406), .ref (G.2.2.2.2 + 407), .int 0, .ref (G.2.2.2.2 + 408), .ref (G.2.2.2.2 + 409), .int 0, .ref (G.2.2.2.2 + 410), .ref (G.2.2.2.2 + 411), .int 0, .null, .null, .null, .null, .int 0, .int 0, .int 0, .long 0]) (by decide) v0_f15 10 (by decide) cd_f_X8_31 rfl rfl rfl rfl (Nat.le_of_ble_eq_true rfl) ef16 dX8_init_64 (fun H locs hC => ?_)
  have v1_f16 := (congrFun ef16 (405)).trans ((va_up_ne _ _ (by decide)).trans v1_f15)
  have v2_f16 := (congrFun ef16 (406)).trans ((va_up_ne _ _ (by decide)).trans v2_f15)
  have v3_f16 := (congrFun ef16 (407)).trans ((va_up_ne _ _ (by decide)).trans v3_f15)
  have v4_f16 := (congrFun ef16 (408)).trans ((va_up_ne _ _ (by decide)).trans v4_f15)
  have v5_f16 := (congrFun ef16 (409)).trans ((va_up_ne _ _ (by decide)).trans v5_f15)
  have v6_f16 := (congrFun ef16 (410)).trans ((va_up_ne _ _ (by decide)).trans v6_f15)
  have v7_f16 := (congrFun ef16 (411)).trans ((va_up_ne _ _ (by decide)).trans v7_f15)
  have v8_f16 := (congrFun ef16 (412)).trans ((va_up_ne _ _ (by decide)).trans v8_f15)
  have v0_f16 : f16 (404) = .inr (8, [.ref (G.2.2.2.2 + 405), .ref (G.2.2.2.2 + 406), .ref (G.2.2.2.2 + 407), .int 0, .ref (G.2.2.2.2 + 408), .ref (G.2.2.2.2 + 409), .int 0, .ref (G.2.2.2.2 + 410), .ref (G.2.2.2.2 + 411), .int 0, .ref (G.2.2.2.2 + 412), .null, .null, .null, .int 0, .int 0, .int 0, .long 0]) := (congrFun ef16 (404)).trans (if_pos rfl)
  have Pf16 : ∀ k, k < 404 → f16 k = f k := fun k z => (congrFun ef16 k).trans ((va_up_ne _ _ (by omega)).trans (Pf15 k z))
  refine lv_aload_n S.1 S.2.1 dX8_init_67 rfl (lv_at hl 0 rfl) ?_
  refine lv_bipush (v := 60) S.1 S.2.1 dX8_init_68 (by decide) ?_
  obtain ⟨f17, ef17⟩ : ∃ z, z = va_up f16 (413) (.inl (G.2.1, 60, .inl (fun _ => 0))) := ⟨_, rfl⟩
  refine cd_knewa (n := 413) S hK hC (by decide) (N' := 60) (by decide) (Nat.le_of_ble_eq_true rfl) ef17 (Nat.le_of_ble_eq_true rfl) (Nat.le_of_ble_eq_true rfl) dX8_init_70 (fun H hC => ?_)
  have v0_f17 := (congrFun ef17 (404)).trans ((va_up_ne _ _ (by decide)).trans v0_f16)
  have v1_f17 := (congrFun ef17 (405)).trans ((va_up_ne _ _ (by decide)).trans v1_f16)
  have v2_f17 := (congrFun ef17 (406)).trans ((va_up_ne _ _ (by decide)).trans v2_f16)
  have v3_f17 := (congrFun ef17 (407)).trans ((va_up_ne _ _ (by decide)).trans v3_f16)
  have v4_f17 := (congrFun ef17 (408)).trans ((va_up_ne _ _ (by decide)).trans v4_f16)
  have v5_f17 := (congrFun ef17 (409)).trans ((va_up_ne _ _ (by decide)).trans v5_f16)
  have v6_f17 := (congrFun ef17 (410)).trans ((va_up_ne _ _ (by decide)).trans v6_f16)
  have v7_f17 := (congrFun ef17 (411)).trans ((va_up_ne _ _ (by decide)).trans v7_f16)
  have v8_f17 := (congrFun ef17 (412)).trans ((va_up_ne _ _ (by decide)).trans v8_f16)
  have v9_f17 : f17 (413) = .inl (G.2.1, 60, .inl (fun _ => 0)) := (congrFun ef17 (413)).trans (if_pos rfl)
  have Pf17 : ∀ k, k < 404 → f17 k = f k := fun k z => (congrFun ef17 k).trans ((va_up_ne _ _ (by omega)).trans (Pf16 k z))
  have hC : cd_C G (414) f17 s.heap H locs := hC
  obtain ⟨f18, ef18⟩ : ∃ z, z = va_up f17 (404) (.inr (8, [.ref (G.2.2.2.2 + 405), .ref (G.2.2.2.2 + 406), .ref (G.2.2.2.2 + 407), .int 0, .ref (G.2.2.2.2 + 408), .ref (G.2.2.2.2 + 409), .int 0, .ref (G.2.2.2.2 + 410), .ref (G.2.2.2.2 + 411), .int 0, .ref (G.2.2.2.2 + 412), .ref (G.2.2.2.2 + 413), .null, .null, .int 0, .int 0, .int 0, .long 0])) := ⟨_, rfl⟩
  refine cd_kputF (q := 404) (n := 414) (ci := 8) (C := RX8) (T := TX8) (N := 18) S hK hin2 hC rfl cd_x8 tyX8 tyX8_ok nmX8 (fs := [.ref (G.2.2.2.2 + 405), .ref (G.2.2.2.2 + 406), .ref (G.2.2.2.2 + 407), .int 0, .ref (G.2.2.2.2 + 408), .ref (G.2.2.2.2 + 409), .int 0, .ref (G.2.2.2.2 + 410), .ref (G.2.2.2.2 + 411), .int 0, .ref (G.2.2.2.2 + 412), .null, .null, .null, .int 0, .int 0, .int 0, .long 0]) (by decide) v0_f17 11 (by decide) cd_f_X8_34 rfl rfl rfl rfl (Nat.le_of_ble_eq_true rfl) ef18 dX8_init_72 (fun H locs hC => ?_)
  have v1_f18 := (congrFun ef18 (405)).trans ((va_up_ne _ _ (by decide)).trans v1_f17)
  have v2_f18 := (congrFun ef18 (406)).trans ((va_up_ne _ _ (by decide)).trans v2_f17)
  have v3_f18 := (congrFun ef18 (407)).trans ((va_up_ne _ _ (by decide)).trans v3_f17)
  have v4_f18 := (congrFun ef18 (408)).trans ((va_up_ne _ _ (by decide)).trans v4_f17)
  have v5_f18 := (congrFun ef18 (409)).trans ((va_up_ne _ _ (by decide)).trans v5_f17)
  have v6_f18 := (congrFun ef18 (410)).trans ((va_up_ne _ _ (by decide)).trans v6_f17)
  have v7_f18 := (congrFun ef18 (411)).trans ((va_up_ne _ _ (by decide)).trans v7_f17)
  have v8_f18 := (congrFun ef18 (412)).trans ((va_up_ne _ _ (by decide)).trans v8_f17)
  have v9_f18 := (congrFun ef18 (413)).trans ((va_up_ne _ _ (by decide)).trans v9_f17)
  have v0_f18 : f18 (404) = .inr (8, [.ref (G.2.2.2.2 + 405), .ref (G.2.2.2.2 + 406), .ref (G.2.2.2.2 + 407), .int 0, .ref (G.2.2.2.2 + 408), .ref (G.2.2.2.2 + 409), .int 0, .ref (G.2.2.2.2 + 410), .ref (G.2.2.2.2 + 411), .int 0, .ref (G.2.2.2.2 + 412), .ref (G.2.2.2.2 + 413), .null, .null, .int 0, .int 0, .int 0, .long 0]) := (congrFun ef18 (404)).trans (if_pos rfl)
  have Pf18 : ∀ k, k < 404 → f18 k = f k := fun k z => (congrFun ef18 k).trans ((va_up_ne _ _ (by omega)).trans (Pf17 k z))
  refine lv_aload_n S.1 S.2.1 dX8_init_75 rfl (lv_at hl 0 rfl) ?_
  refine lv_bipush (v := 61) S.1 S.2.1 dX8_init_76 (by decide) ?_
  obtain ⟨f19, ef19⟩ : ∃ z, z = va_up f18 (414) (.inl (G.2.1, 61, .inl (fun _ => 0))) := ⟨_, rfl⟩
  refine cd_knewa (n := 414) S hK hC (by decide) (N' := 61) (by decide) (Nat.le_of_ble_eq_true rfl) ef19 (Nat.le_of_ble_eq_true rfl) (Nat.le_of_ble_eq_true rfl) dX8_init_78 (fun H hC => ?_)
  have v0_f19 := (congrFun ef19 (404)).trans ((va_up_ne _ _ (by decide)).trans v0_f18)
  have v1_f19 := (congrFun ef19 (405)).trans ((va_up_ne _ _ (by decide)).trans v1_f18)
  have v2_f19 := (congrFun ef19 (406)).trans ((va_up_ne _ _ (by decide)).trans v2_f18)
  have v3_f19 := (congrFun ef19 (407)).trans ((va_up_ne _ _ (by decide)).trans v3_f18)
  have v4_f19 := (congrFun ef19 (408)).trans ((va_up_ne _ _ (by decide)).trans v4_f18)
  have v5_f19 := (congrFun ef19 (409)).trans ((va_up_ne _ _ (by decide)).trans v5_f18)
  have v6_f19 := (congrFun ef19 (410)).trans ((va_up_ne _ _ (by decide)).trans v6_f18)
  have v7_f19 := (congrFun ef19 (411)).trans ((va_up_ne _ _ (by decide)).trans v7_f18)
  have v8_f19 := (congrFun ef19 (412)).trans ((va_up_ne _ _ (by decide)).trans v8_f18)
  have v9_f19 := (congrFun ef19 (413)).trans ((va_up_ne _ _ (by decide)).trans v9_f18)
  have v10_f19 : f19 (414) = .inl (G.2.1, 61, .inl (fun _ => 0)) := (congrFun ef19 (414)).trans (if_pos rfl)
  have Pf19 : ∀ k, k < 404 → f19 k = f k := fun k z => (congrFun ef19 k).trans ((va_up_ne _ _ (by omega)).trans (Pf18 k z))
  have hC : cd_C G (415) f19 s.heap H locs := hC
  obtain ⟨f20, ef20⟩ : ∃ z, z = va_up f19 (404) (.inr (8, [.ref (G.2.2.2.2 + 405), .ref (G.2.2.2.2 + 406), .ref (G.2.2.2.2 + 407), .int 0, .ref (G.2.2.2.2 + 408), .ref (G.2.2.2.2 + 409), .int 0, .ref (G.2.2.2.2 + 410), .ref (G.2.2.2.2 + 411), .int 0, .ref (G.2.2.2.2 + 412), .ref (G.2.2.2.2 + 413), .ref (G.2.2.2.2 + 414), .null, .int 0, .int 0, .int 0, .long 0])) := ⟨_, rfl⟩
  refine cd_kputF (q := 404) (n := 415) (ci := 8) (C := RX8) (T := TX8) (N := 18) S hK hin2 hC rfl cd_x8 tyX8 tyX8_ok nmX8 (fs := [.ref (G.2.2.2.2 + 405), .ref (G.2.2.2.2 + 406), .ref (G.2.2.2.2 + 407), .int 0, .ref (G.2.2.2.2 + 408), .ref (G.2.2.2.2 + 409), .int 0, .ref (G.2.2.2.2 + 410), .ref (G.2.2.2.2 + 411), .int 0, .ref (G.2.2.2.2 + 412), .ref (G.2.2.2.2 + 413), .null, .null, .int 0, .int 0, .int 0, .long 0]) (by decide) v0_f19 12 (by decide) cd_f_X8_37 rfl rfl rfl rfl (Nat.le_of_ble_eq_true rfl) ef20 dX8_init_80 (fun H locs hC => ?_)
  have v1_f20 := (congrFun ef20 (405)).trans ((va_up_ne _ _ (by decide)).trans v1_f19)
  have v2_f20 := (congrFun ef20 (406)).trans ((va_up_ne _ _ (by decide)).trans v2_f19)
  have v3_f20 := (congrFun ef20 (407)).trans ((va_up_ne _ _ (by decide)).trans v3_f19)
  have v4_f20 := (congrFun ef20 (408)).trans ((va_up_ne _ _ (by decide)).trans v4_f19)
  have v5_f20 := (congrFun ef20 (409)).trans ((va_up_ne _ _ (by decide)).trans v5_f19)
  have v6_f20 := (congrFun ef20 (410)).trans ((va_up_ne _ _ (by decide)).trans v6_f19)
  have v7_f20 := (congrFun ef20 (411)).trans ((va_up_ne _ _ (by decide)).trans v7_f19)
  have v8_f20 := (congrFun ef20 (412)).trans ((va_up_ne _ _ (by decide)).trans v8_f19)
  have v9_f20 := (congrFun ef20 (413)).trans ((va_up_ne _ _ (by decide)).trans v9_f19)
  have v10_f20 := (congrFun ef20 (414)).trans ((va_up_ne _ _ (by decide)).trans v10_f19)
  have v0_f20 : f20 (404) = .inr (8, [.ref (G.2.2.2.2 + 405), .ref (G.2.2.2.2 + 406), .ref (G.2.2.2.2 + 407), .int 0, .ref (G.2.2.2.2 + 408), .ref (G.2.2.2.2 + 409), .int 0, .ref (G.2.2.2.2 + 410), .ref (G.2.2.2.2 + 411), .int 0, .ref (G.2.2.2.2 + 412), .ref (G.2.2.2.2 + 413), .ref (G.2.2.2.2 + 414), .null, .int 0, .int 0, .int 0, .long 0]) := (congrFun ef20 (404)).trans (if_pos rfl)
  have Pf20 : ∀ k, k < 404 → f20 k = f k := fun k z => (congrFun ef20 k).trans ((va_up_ne _ _ (by omega)).trans (Pf19 k z))
  refine lv_aload_n S.1 S.2.1 dX8_init_83 rfl (lv_at hl 0 rfl) ?_
  refine lv_sipush (v := 128) S.1 S.2.1 dX8_init_84 (by decide) ?_
  obtain ⟨f21, ef21⟩ : ∃ z, z = va_up f20 (415) (.inl (G.2.1, 128, .inl (fun _ => 0))) := ⟨_, rfl⟩
  refine cd_knewa (n := 415) S hK hC (by decide) (N' := 128) (by decide) (Nat.le_of_ble_eq_true rfl) ef21 (Nat.le_of_ble_eq_true rfl) (Nat.le_of_ble_eq_true rfl) dX8_init_87 (fun H hC => ?_)
  have v0_f21 := (congrFun ef21 (404)).trans ((va_up_ne _ _ (by decide)).trans v0_f20)
  have v1_f21 := (congrFun ef21 (405)).trans ((va_up_ne _ _ (by decide)).trans v1_f20)
  have v2_f21 := (congrFun ef21 (406)).trans ((va_up_ne _ _ (by decide)).trans v2_f20)
  have v3_f21 := (congrFun ef21 (407)).trans ((va_up_ne _ _ (by decide)).trans v3_f20)
  have v4_f21 := (congrFun ef21 (408)).trans ((va_up_ne _ _ (by decide)).trans v4_f20)
  have v5_f21 := (congrFun ef21 (409)).trans ((va_up_ne _ _ (by decide)).trans v5_f20)
  have v6_f21 := (congrFun ef21 (410)).trans ((va_up_ne _ _ (by decide)).trans v6_f20)
  have v7_f21 := (congrFun ef21 (411)).trans ((va_up_ne _ _ (by decide)).trans v7_f20)
  have v8_f21 := (congrFun ef21 (412)).trans ((va_up_ne _ _ (by decide)).trans v8_f20)
  have v9_f21 := (congrFun ef21 (413)).trans ((va_up_ne _ _ (by decide)).trans v9_f20)
  have v10_f21 := (congrFun ef21 (414)).trans ((va_up_ne _ _ (by decide)).trans v10_f20)
  have v11_f21 : f21 (415) = .inl (G.2.1, 128, .inl (fun _ => 0)) := (congrFun ef21 (415)).trans (if_pos rfl)
  have Pf21 : ∀ k, k < 404 → f21 k = f k := fun k z => (congrFun ef21 k).trans ((va_up_ne _ _ (by omega)).trans (Pf20 k z))
  have hC : cd_C G (416) f21 s.heap H locs := hC
  obtain ⟨f22, ef22⟩ : ∃ z, z = va_up f21 (404) (.inr (8, [.ref (G.2.2.2.2 + 405), .ref (G.2.2.2.2 + 406), .ref (G.2.2.2.2 + 407), .int 0, .ref (G.2.2.2.2 + 408), .ref (G.2.2.2.2 + 409), .int 0, .ref (G.2.2.2.2 + 410), .ref (G.2.2.2.2 + 411), .int 0, .ref (G.2.2.2.2 + 412), .ref (G.2.2.2.2 + 413), .ref (G.2.2.2.2 + 414), .ref (G.2.2.2.2 + 415), .int 0, .int 0, .int 0, .long 0])) := ⟨_, rfl⟩
  refine cd_kputF (q := 404) (n := 416) (ci := 8) (C := RX8) (T := TX8) (N := 18) S hK hin2 hC rfl cd_x8 tyX8 tyX8_ok nmX8 (fs := [.ref (G.2.2.2.2 + 405), .ref (G.2.2.2.2 + 406), .ref (G.2.2.2.2 + 407), .int 0, .ref (G.2.2.2.2 + 408), .ref (G.2.2.2.2 + 409), .int 0, .ref (G.2.2.2.2 + 410), .ref (G.2.2.2.2 + 411), .int 0, .ref (G.2.2.2.2 + 412), .ref (G.2.2.2.2 + 413), .ref (G.2.2.2.2 + 414), .null, .int 0, .int 0, .int 0, .long 0]) (by decide) v0_f21 13 (by decide) cd_f_X8_40 rfl rfl rfl rfl (Nat.le_of_ble_eq_true rfl) ef22 dX8_init_89 (fun H locs hC => ?_)
  have v1_f22 := (congrFun ef22 (405)).trans ((va_up_ne _ _ (by decide)).trans v1_f21)
  have v2_f22 := (congrFun ef22 (406)).trans ((va_up_ne _ _ (by decide)).trans v2_f21)
  have v3_f22 := (congrFun ef22 (407)).trans ((va_up_ne _ _ (by decide)).trans v3_f21)
  have v4_f22 := (congrFun ef22 (408)).trans ((va_up_ne _ _ (by decide)).trans v4_f21)
  have v5_f22 := (congrFun ef22 (409)).trans ((va_up_ne _ _ (by decide)).trans v5_f21)
  have v6_f22 := (congrFun ef22 (410)).trans ((va_up_ne _ _ (by decide)).trans v6_f21)
  have v7_f22 := (congrFun ef22 (411)).trans ((va_up_ne _ _ (by decide)).trans v7_f21)
  have v8_f22 := (congrFun ef22 (412)).trans ((va_up_ne _ _ (by decide)).trans v8_f21)
  have v9_f22 := (congrFun ef22 (413)).trans ((va_up_ne _ _ (by decide)).trans v9_f21)
  have v10_f22 := (congrFun ef22 (414)).trans ((va_up_ne _ _ (by decide)).trans v10_f21)
  have v11_f22 := (congrFun ef22 (415)).trans ((va_up_ne _ _ (by decide)).trans v11_f21)
  have v0_f22 : f22 (404) = .inr (8, [.ref (G.2.2.2.2 + 405), .ref (G.2.2.2.2 + 406), .ref (G.2.2.2.2 + 407), .int 0, .ref (G.2.2.2.2 + 408), .ref (G.2.2.2.2 + 409), .int 0, .ref (G.2.2.2.2 + 410), .ref (G.2.2.2.2 + 411), .int 0, .ref (G.2.2.2.2 + 412), .ref (G.2.2.2.2 + 413), .ref (G.2.2.2.2 + 414), .ref (G.2.2.2.2 + 415), .int 0, .int 0, .int 0, .long 0]) := (congrFun ef22 (404)).trans (if_pos rfl)
  have Pf22 : ∀ k, k < 404 → f22 k = f k := fun k z => (congrFun ef22 k).trans ((va_up_ne _ _ (by omega)).trans (Pf21 k z))
  refine lv_aload_n S.1 S.2.1 dX8_init_92 rfl (lv_at hl 0 rfl) ?_
  refine cd_kget (q := 404) (n := 416) (ci := 8) (C := RX8) (T := TX8) (N := 18) (v := .ref (G.2.2.2.2 + 405)) S hK hC rfl cd_x8 (by decide) v0_f22 0 (by decide) cd_f_X8_7 rfl dX8_init_93 ?_
  refine lv_iconst (v := 0) S.1 S.2.1 dX8_init_96 (by decide) ?_
  refine lv_iconst (v := 2) S.1 S.2.1 dX8_init_97 (by decide) ?_
  obtain ⟨f23, ef23⟩ : ∃ z, z = va_up f22 (405) (.inl (G.2.1, 659, .inl (upd (fun _ => 0) (Int32.toNatClampNeg (0)) 2))) := ⟨_, rfl⟩
  refine cd_kiast (q := 405) (n := 416) (N := 659) S hK hC (by decide) v1_f22 (cd_ix_in (by decide)) ef23 dX8_init_98 (fun H locs hC => ?_)
  have v0_f23 := (congrFun ef23 (404)).trans ((va_up_ne _ _ (by decide)).trans v0_f22)
  have v2_f23 := (congrFun ef23 (406)).trans ((va_up_ne _ _ (by decide)).trans v2_f22)
  have v3_f23 := (congrFun ef23 (407)).trans ((va_up_ne _ _ (by decide)).trans v3_f22)
  have v4_f23 := (congrFun ef23 (408)).trans ((va_up_ne _ _ (by decide)).trans v4_f22)
  have v5_f23 := (congrFun ef23 (409)).trans ((va_up_ne _ _ (by decide)).trans v5_f22)
  have v6_f23 := (congrFun ef23 (410)).trans ((va_up_ne _ _ (by decide)).trans v6_f22)
  have v7_f23 := (congrFun ef23 (411)).trans ((va_up_ne _ _ (by decide)).trans v7_f22)
  have v8_f23 := (congrFun ef23 (412)).trans ((va_up_ne _ _ (by decide)).trans v8_f22)
  have v9_f23 := (congrFun ef23 (413)).trans ((va_up_ne _ _ (by decide)).trans v9_f22)
  have v10_f23 := (congrFun ef23 (414)).trans ((va_up_ne _ _ (by decide)).trans v10_f22)
  have v11_f23 := (congrFun ef23 (415)).trans ((va_up_ne _ _ (by decide)).trans v11_f22)
  have v1_f23 : f23 (405) = .inl (G.2.1, 659, .inl (upd (fun _ => 0) (Int32.toNatClampNeg (0)) 2)) := (congrFun ef23 (405)).trans (if_pos rfl)
  have Pf23 : ∀ k, k < 404 → f23 k = f k := fun k z => (congrFun ef23 k).trans ((va_up_ne _ _ (by omega)).trans (Pf22 k z))
  refine lv_iconst (v := 0) S.1 S.2.1 dX8_init_99 (by decide) ?_
  refine lv_istore_n (lv' := [(1, .int 0), (0, .ref (G.2.2.2.2 + 404))]) S.1 S.2.1 dX8_init_100 rfl hl (by decide) rfl (fun ls hl => ?_)
  refine lv_iload_n S.1 S.2.1 dX8_init_101 rfl (lv_at hl 0 rfl) ?_
  refine lv_bipush (v := 8) S.1 S.2.1 dX8_init_102 (by decide) ?_
  refine lv_icmp_ge (tgt := 123) S.1 S.2.1 dX8_init_104 (by decide) (fun z => absurd z (by decide)) (fun _ => ?_)
  refine lv_aload_n S.1 S.2.1 dX8_init_107 rfl (lv_at hl 1 rfl) ?_
  refine cd_kget (q := 404) (n := 416) (ci := 8) (C := RX8) (T := TX8) (N := 18) (v := .ref (G.2.2.2.2 + 405)) S hK hC rfl cd_x8 (by decide) v0_f23 0 (by decide) cd_f_X8_7 rfl dX8_init_108 ?_
  refine lv_iconst (v := 1) S.1 S.2.1 dX8_init_111 (by decide) ?_
  refine lv_iload_n S.1 S.2.1 dX8_init_112 rfl (lv_at hl 0 rfl) ?_
  refine lv_iadd S.1 S.2.1 dX8_init_113 ?_
  refine lv_bipush (v := 15) S.1 S.2.1 dX8_init_114 (by decide) ?_
  obtain ⟨f24, ef24⟩ : ∃ z, z = va_up f23 (405) (.inl (G.2.1, 659, .inl (upd (upd (fun _ => 0) (Int32.toNatClampNeg (0)) 2) (Int32.toNatClampNeg (1 + 0)) 15))) := ⟨_, rfl⟩
  refine cd_kiast (q := 405) (n := 416) (N := 659) S hK hC (by decide) v1_f23 (cd_ix_in (by decide)) ef24 dX8_init_116 (fun H locs hC => ?_)
  have v0_f24 := (congrFun ef24 (404)).trans ((va_up_ne _ _ (by decide)).trans v0_f23)
  have v2_f24 := (congrFun ef24 (406)).trans ((va_up_ne _ _ (by decide)).trans v2_f23)
  have v3_f24 := (congrFun ef24 (407)).trans ((va_up_ne _ _ (by decide)).trans v3_f23)
  have v4_f24 := (congrFun ef24 (408)).trans ((va_up_ne _ _ (by decide)).trans v4_f23)
  have v5_f24 := (congrFun ef24 (409)).trans ((va_up_ne _ _ (by decide)).trans v5_f23)
  have v6_f24 := (congrFun ef24 (410)).trans ((va_up_ne _ _ (by decide)).trans v6_f23)
  have v7_f24 := (congrFun ef24 (411)).trans ((va_up_ne _ _ (by decide)).trans v7_f23)
  have v8_f24 := (congrFun ef24 (412)).trans ((va_up_ne _ _ (by decide)).trans v8_f23)
  have v9_f24 := (congrFun ef24 (413)).trans ((va_up_ne _ _ (by decide)).trans v9_f23)
  have v10_f24 := (congrFun ef24 (414)).trans ((va_up_ne _ _ (by decide)).trans v10_f23)
  have v11_f24 := (congrFun ef24 (415)).trans ((va_up_ne _ _ (by decide)).trans v11_f23)
  have v1_f24 : f24 (405) = .inl (G.2.1, 659, .inl (upd (upd (fun _ => 0) (Int32.toNatClampNeg (0)) 2) (Int32.toNatClampNeg (1 + 0)) 15)) := (congrFun ef24 (405)).trans (if_pos rfl)
  have Pf24 : ∀ k, k < 404 → f24 k = f k := fun k z => (congrFun ef24 k).trans ((va_up_ne _ _ (by omega)).trans (Pf23 k z))
  refine lv_iinc (v := 1) (lv' := [(1, .int 1), (0, .ref (G.2.2.2.2 + 404))]) S.1 S.2.1 dX8_init_117 hl (k := 0) rfl (by decide) (by decide) rfl (fun ls hl => ?_)
  refine lv_goto (tgt := 101) S.1 S.2.1 dX8_init_120 (by decide) ?_
  refine lv_iload_n S.1 S.2.1 dX8_init_101 rfl (lv_at hl 0 rfl) ?_
  refine lv_bipush (v := 8) S.1 S.2.1 dX8_init_102 (by decide) ?_
  refine lv_icmp_ge (tgt := 123) S.1 S.2.1 dX8_init_104 (by decide) (fun z => absurd z (by decide)) (fun _ => ?_)
  refine lv_aload_n S.1 S.2.1 dX8_init_107 rfl (lv_at hl 1 rfl) ?_
  refine cd_kget (q := 404) (n := 416) (ci := 8) (C := RX8) (T := TX8) (N := 18) (v := .ref (G.2.2.2.2 + 405)) S hK hC rfl cd_x8 (by decide) v0_f24 0 (by decide) cd_f_X8_7 rfl dX8_init_108 ?_
  refine lv_iconst (v := 1) S.1 S.2.1 dX8_init_111 (by decide) ?_
  refine lv_iload_n S.1 S.2.1 dX8_init_112 rfl (lv_at hl 0 rfl) ?_
  refine lv_iadd S.1 S.2.1 dX8_init_113 ?_
  refine lv_bipush (v := 15) S.1 S.2.1 dX8_init_114 (by decide) ?_
  obtain ⟨f25, ef25⟩ : ∃ z, z = va_up f24 (405) (.inl (G.2.1, 659, .inl (upd (upd (upd (fun _ => 0) (Int32.toNatClampNeg (0)) 2) (Int32.toNatClampNeg (1 + 0)) 15) (Int32.toNatClampNeg (1 + 1)) 15))) := ⟨_, rfl⟩
  refine cd_kiast (q := 405) (n := 416) (N := 659) S hK hC (by decide) v1_f24 (cd_ix_in (by decide)) ef25 dX8_init_116 (fun H locs hC => ?_)
  have v0_f25 := (congrFun ef25 (404)).trans ((va_up_ne _ _ (by decide)).trans v0_f24)
  have v2_f25 := (congrFun ef25 (406)).trans ((va_up_ne _ _ (by decide)).trans v2_f24)
  have v3_f25 := (congrFun ef25 (407)).trans ((va_up_ne _ _ (by decide)).trans v3_f24)
  have v4_f25 := (congrFun ef25 (408)).trans ((va_up_ne _ _ (by decide)).trans v4_f24)
  have v5_f25 := (congrFun ef25 (409)).trans ((va_up_ne _ _ (by decide)).trans v5_f24)
  have v6_f25 := (congrFun ef25 (410)).trans ((va_up_ne _ _ (by decide)).trans v6_f24)
  have v7_f25 := (congrFun ef25 (411)).trans ((va_up_ne _ _ (by decide)).trans v7_f24)
  have v8_f25 := (congrFun ef25 (412)).trans ((va_up_ne _ _ (by decide)).trans v8_f24)
  have v9_f25 := (congrFun ef25 (413)).trans ((va_up_ne _ _ (by decide)).trans v9_f24)
  have v10_f25 := (congrFun ef25 (414)).trans ((va_up_ne _ _ (by decide)).trans v10_f24)
  have v11_f25 := (congrFun ef25 (415)).trans ((va_up_ne _ _ (by decide)).trans v11_f24)
  have v1_f25 : f25 (405) = .inl (G.2.1, 659, .inl (upd (upd (upd (fun _ => 0) (Int32.toNatClampNeg (0)) 2) (Int32.toNatClampNeg (1 + 0)) 15) (Int32.toNatClampNeg (1 + 1)) 15)) := (congrFun ef25 (405)).trans (if_pos rfl)
  have Pf25 : ∀ k, k < 404 → f25 k = f k := fun k z => (congrFun ef25 k).trans ((va_up_ne _ _ (by omega)).trans (Pf24 k z))
  refine lv_iinc (v := 2) (lv' := [(1, .int 2), (0, .ref (G.2.2.2.2 + 404))]) S.1 S.2.1 dX8_init_117 hl (k := 0) rfl (by decide) (by decide) rfl (fun ls hl => ?_)
  refine lv_goto (tgt := 101) S.1 S.2.1 dX8_init_120 (by decide) ?_
  refine lv_iload_n S.1 S.2.1 dX8_init_101 rfl (lv_at hl 0 rfl) ?_
  refine lv_bipush (v := 8) S.1 S.2.1 dX8_init_102 (by decide) ?_
  refine lv_icmp_ge (tgt := 123) S.1 S.2.1 dX8_init_104 (by decide) (fun z => absurd z (by decide)) (fun _ => ?_)
  refine lv_aload_n S.1 S.2.1 dX8_init_107 rfl (lv_at hl 1 rfl) ?_
  refine cd_kget (q := 404) (n := 416) (ci := 8) (C := RX8) (T := TX8) (N := 18) (v := .ref (G.2.2.2.2 + 405)) S hK hC rfl cd_x8 (by decide) v0_f25 0 (by decide) cd_f_X8_7 rfl dX8_init_108 ?_
  refine lv_iconst (v := 1) S.1 S.2.1 dX8_init_111 (by decide) ?_
  refine lv_iload_n S.1 S.2.1 dX8_init_112 rfl (lv_at hl 0 rfl) ?_
  refine lv_iadd S.1 S.2.1 dX8_init_113 ?_
  refine lv_bipush (v := 15) S.1 S.2.1 dX8_init_114 (by decide) ?_
  obtain ⟨f26, ef26⟩ : ∃ z, z = va_up f25 (405) (.inl (G.2.1, 659, .inl (upd (upd (upd (upd (fun _ => 0) (Int32.toNatClampNeg (0)) 2) (Int32.toNatClampNeg (1 + 0)) 15) (Int32.toNatClampNeg (1 + 1)) 15) (Int32.toNatClampNeg (1 + 2)) 15))) := ⟨_, rfl⟩
  refine cd_kiast (q := 405) (n := 416) (N := 659) S hK hC (by decide) v1_f25 (cd_ix_in (by decide)) ef26 dX8_init_116 (fun H locs hC => ?_)
  have v0_f26 := (congrFun ef26 (404)).trans ((va_up_ne _ _ (by decide)).trans v0_f25)
  have v2_f26 := (congrFun ef26 (406)).trans ((va_up_ne _ _ (by decide)).trans v2_f25)
  have v3_f26 := (congrFun ef26 (407)).trans ((va_up_ne _ _ (by decide)).trans v3_f25)
  have v4_f26 := (congrFun ef26 (408)).trans ((va_up_ne _ _ (by decide)).trans v4_f25)
  have v5_f26 := (congrFun ef26 (409)).trans ((va_up_ne _ _ (by decide)).trans v5_f25)
  have v6_f26 := (congrFun ef26 (410)).trans ((va_up_ne _ _ (by decide)).trans v6_f25)
  have v7_f26 := (congrFun ef26 (411)).trans ((va_up_ne _ _ (by decide)).trans v7_f25)
  have v8_f26 := (congrFun ef26 (412)).trans ((va_up_ne _ _ (by decide)).trans v8_f25)
  have v9_f26 := (congrFun ef26 (413)).trans ((va_up_ne _ _ (by decide)).trans v9_f25)
  have v10_f26 := (congrFun ef26 (414)).trans ((va_up_ne _ _ (by decide)).trans v10_f25)
  have v11_f26 := (congrFun ef26 (415)).trans ((va_up_ne _ _ (by decide)).trans v11_f25)
  have v1_f26 : f26 (405) = .inl (G.2.1, 659, .inl (upd (upd (upd (upd (fun _ => 0) (Int32.toNatClampNeg (0)) 2) (Int32.toNatClampNeg (1 + 0)) 15) (Int32.toNatClampNeg (1 + 1)) 15) (Int32.toNatClampNeg (1 + 2)) 15)) := (congrFun ef26 (405)).trans (if_pos rfl)
  have Pf26 : ∀ k, k < 404 → f26 k = f k := fun k z => (congrFun ef26 k).trans ((va_up_ne _ _ (by omega)).trans (Pf25 k z))
  refine lv_iinc (v := 3) (lv' := [(1, .int 3), (0, .ref (G.2.2.2.2 + 404))]) S.1 S.2.1 dX8_init_117 hl (k := 0) rfl (by decide) (by decide) rfl (fun ls hl => ?_)
  refine lv_goto (tgt := 101) S.1 S.2.1 dX8_init_120 (by decide) ?_
  refine lv_iload_n S.1 S.2.1 dX8_init_101 rfl (lv_at hl 0 rfl) ?_
  refine lv_bipush (v := 8) S.1 S.2.1 dX8_init_102 (by decide) ?_
  refine lv_icmp_ge (tgt := 123) S.1 S.2.1 dX8_init_104 (by decide) (fun z => absurd z (by decide)) (fun _ => ?_)
  refine lv_aload_n S.1 S.2.1 dX8_init_107 rfl (lv_at hl 1 rfl) ?_
  refine cd_kget (q := 404) (n := 416) (ci := 8) (C := RX8) (T := TX8) (N := 18) (v := .ref (G.2.2.2.2 + 405)) S hK hC rfl cd_x8 (by decide) v0_f26 0 (by decide) cd_f_X8_7 rfl dX8_init_108 ?_
  refine lv_iconst (v := 1) S.1 S.2.1 dX8_init_111 (by decide) ?_
  refine lv_iload_n S.1 S.2.1 dX8_init_112 rfl (lv_at hl 0 rfl) ?_
  refine lv_iadd S.1 S.2.1 dX8_init_113 ?_
  refine lv_bipush (v := 15) S.1 S.2.1 dX8_init_114 (by decide) ?_
  obtain ⟨f27, ef27⟩ : ∃ z, z = va_up f26 (405) (.inl (G.2.1, 659, .inl (upd (upd (upd (upd (upd (fun _ => 0) (Int32.toNatClampNeg (0)) 2) (Int32.toNatClampNeg (1 + 0)) 15) (Int32.toNatClampNeg (1 + 1)) 15) (Int32.toNatClampNeg (1 + 2)) 15) (Int32.toNatClampNeg (1 + 3)) 15))) := ⟨_, rfl⟩
  refine cd_kiast (q := 405) (n := 416) (N := 659) S hK hC (by decide) v1_f26 (cd_ix_in (by decide)) ef27 dX8_init_116 (fun H locs hC => ?_)
  have v0_f27 := (congrFun ef27 (404)).trans ((va_up_ne _ _ (by decide)).trans v0_f26)
  have v2_f27 := (congrFun ef27 (406)).trans ((va_up_ne _ _ (by decide)).trans v2_f26)
  have v3_f27 := (congrFun ef27 (407)).trans ((va_up_ne _ _ (by decide)).trans v3_f26)
  have v4_f27 := (congrFun ef27 (408)).trans ((va_up_ne _ _ (by decide)).trans v4_f26)
  have v5_f27 := (congrFun ef27 (409)).trans ((va_up_ne _ _ (by decide)).trans v5_f26)
  have v6_f27 := (congrFun ef27 (410)).trans ((va_up_ne _ _ (by decide)).trans v6_f26)
  have v7_f27 := (congrFun ef27 (411)).trans ((va_up_ne _ _ (by decide)).trans v7_f26)
  have v8_f27 := (congrFun ef27 (412)).trans ((va_up_ne _ _ (by decide)).trans v8_f26)
  have v9_f27 := (congrFun ef27 (413)).trans ((va_up_ne _ _ (by decide)).trans v9_f26)
  have v10_f27 := (congrFun ef27 (414)).trans ((va_up_ne _ _ (by decide)).trans v10_f26)
  have v11_f27 := (congrFun ef27 (415)).trans ((va_up_ne _ _ (by decide)).trans v11_f26)
  have v1_f27 : f27 (405) = .inl (G.2.1, 659, .inl (upd (upd (upd (upd (upd (fun _ => 0) (Int32.toNatClampNeg (0)) 2) (Int32.toNatClampNeg (1 + 0)) 15) (Int32.toNatClampNeg (1 + 1)) 15) (Int32.toNatClampNeg (1 + 2)) 15) (Int32.toNatClampNeg (1 + 3)) 15)) := (congrFun ef27 (405)).trans (if_pos rfl)
  have Pf27 : ∀ k, k < 404 → f27 k = f k := fun k z => (congrFun ef27 k).trans ((va_up_ne _ _ (by omega)).trans (Pf26 k z))
  refine lv_iinc (v := 4) (lv' := [(1, .int 4), (0, .ref (G.2.2.2.2 + 404))]) S.1 S.2.1 dX8_init_117 hl (k := 0) rfl (by decide) (by decide) rfl (fun ls hl => ?_)
  refine lv_goto (tgt := 101) S.1 S.2.1 dX8_init_120 (by decide) ?_
  refine lv_iload_n S.1 S.2.1 dX8_init_101 rfl (lv_at hl 0 rfl) ?_
  refine lv_bipush (v := 8) S.1 S.2.1 dX8_init_102 (by decide) ?_
  refine lv_icmp_ge (tgt := 123) S.1 S.2.1 dX8_init_104 (by decide) (fun z => absurd z (by decide)) (fun _ => ?_)
  refine lv_aload_n S.1 S.2.1 dX8_init_107 rfl (lv_at hl 1 rfl) ?_
  refine cd_kget (q := 404) (n := 416) (ci := 8) (C := RX8) (T := TX8) (N := 18) (v := .ref (G.2.2.2.2 + 405)) S hK hC rfl cd_x8 (by decide) v0_f27 0 (by decide) cd_f_X8_7 rfl dX8_init_108 ?_
  refine lv_iconst (v := 1) S.1 S.2.1 dX8_init_111 (by decide) ?_
  refine lv_iload_n S.1 S.2.1 dX8_init_112 rfl (lv_at hl 0 rfl) ?_
  refine lv_iadd S.1 S.2.1 dX8_init_113 ?_
  refine lv_bipush (v := 15) S.1 S.2.1 dX8_init_114 (by decide) ?_
  obtain ⟨f28, ef28⟩ : ∃ z, z = va_up f27 (405) (.inl (G.2.1, 659, .inl (upd (upd (upd (upd (upd (upd (fun _ => 0) (Int32.toNatClampNeg (0)) 2) (Int32.toNatClampNeg (1 + 0)) 15) (Int32.toNatClampNeg (1 + 1)) 15) (Int32.toNatClampNeg (1 + 2)) 15) (Int32.toNatClampNeg (1 + 3)) 15) (Int32.toNatClampNeg (1 + 4)) 15))) := ⟨_, rfl⟩
  refine cd_kiast (q := 405) (n := 416) (N := 659) S hK hC (by decide) v1_f27 (cd_ix_in (by decide)) ef28 dX8_init_116 (fun H locs hC => ?_)
  have v0_f28 := (congrFun ef28 (404)).trans ((va_up_ne _ _ (by decide)).trans v0_f27)
  have v2_f28 := (congrFun ef28 (406)).trans ((va_up_ne _ _ (by decide)).trans v2_f27)
  have v3_f28 := (congrFun ef28 (407)).trans ((va_up_ne _ _ (by decide)).trans v3_f27)
  have v4_f28 := (congrFun ef28 (408)).trans ((va_up_ne _ _ (by decide)).trans v4_f27)
  have v5_f28 := (congrFun ef28 (409)).trans ((va_up_ne _ _ (by decide)).trans v5_f27)
  have v6_f28 := (congrFun ef28 (410)).trans ((va_up_ne _ _ (by decide)).trans v6_f27)
  have v7_f28 := (congrFun ef28 (411)).trans ((va_up_ne _ _ (by decide)).trans v7_f27)
  have v8_f28 := (congrFun ef28 (412)).trans ((va_up_ne _ _ (by decide)).trans v8_f27)
  have v9_f28 := (congrFun ef28 (413)).trans ((va_up_ne _ _ (by decide)).trans v9_f27)
  have v10_f28 := (congrFun ef28 (414)).trans ((va_up_ne _ _ (by decide)).trans v10_f27)
  have v11_f28 := (congrFun ef28 (415)).trans ((va_up_ne _ _ (by decide)).trans v11_f27)
  have v1_f28 : f28 (405) = .inl (G.2.1, 659, .inl (upd (upd (upd (upd (upd (upd (fun _ => 0) (Int32.toNatClampNeg (0)) 2) (Int32.toNatClampNeg (1 + 0)) 15) (Int32.toNatClampNeg (1 + 1)) 15) (Int32.toNatClampNeg (1 + 2)) 15) (Int32.toNatClampNeg (1 + 3)) 15) (Int32.toNatClampNeg (1 + 4)) 15)) := (congrFun ef28 (405)).trans (if_pos rfl)
  have Pf28 : ∀ k, k < 404 → f28 k = f k := fun k z => (congrFun ef28 k).trans ((va_up_ne _ _ (by omega)).trans (Pf27 k z))
  refine lv_iinc (v := 5) (lv' := [(1, .int 5), (0, .ref (G.2.2.2.2 + 404))]) S.1 S.2.1 dX8_init_117 hl (k := 0) rfl (by decide) (by decide) rfl (fun ls hl => ?_)
  refine lv_goto (tgt := 101) S.1 S.2.1 dX8_init_120 (by decide) ?_
  refine lv_iload_n S.1 S.2.1 dX8_init_101 rfl (lv_at hl 0 rfl) ?_
  refine lv_bipush (v := 8) S.1 S.2.1 dX8_init_102 (by decide) ?_
  refine lv_icmp_ge (tgt := 123) S.1 S.2.1 dX8_init_104 (by decide) (fun z => absurd z (by decide)) (fun _ => ?_)
  refine lv_aload_n S.1 S.2.1 dX8_init_107 rfl (lv_at hl 1 rfl) ?_
  refine cd_kget (q := 404) (n := 416) (ci := 8) (C := RX8) (T := TX8) (N := 18) (v := .ref (G.2.2.2.2 + 405)) S hK hC rfl cd_x8 (by decide) v0_f28 0 (by decide) cd_f_X8_7 rfl dX8_init_108 ?_
  refine lv_iconst (v := 1) S.1 S.2.1 dX8_init_111 (by decide) ?_
  refine lv_iload_n S.1 S.2.1 dX8_init_112 rfl (lv_at hl 0 rfl) ?_
  refine lv_iadd S.1 S.2.1 dX8_init_113 ?_
  refine lv_bipush (v := 15) S.1 S.2.1 dX8_init_114 (by decide) ?_
  obtain ⟨f29, ef29⟩ : ∃ z, z = va_up f28 (405) (.inl (G.2.1, 659, .inl (upd (upd (upd (upd (upd (upd (upd (fun _ => 0) (Int32.toNatClampNeg (0)) 2) (Int32.toNatClampNeg (1 + 0)) 15) (Int32.toNatClampNeg (1 + 1)) 15) (Int32.toNatClampNeg (1 + 2)) 15) (Int32.toNatClampNeg (1 + 3)) 15) (Int32.toNatClampNeg (1 + 4)) 15) (Int32.toNatClampNeg (1 + 5)) 15))) := ⟨_, rfl⟩
  refine cd_kiast (q := 405) (n := 416) (N := 659) S hK hC (by decide) v1_f28 (cd_ix_in (by decide)) ef29 dX8_init_116 (fun H locs hC => ?_)
  have v0_f29 := (congrFun ef29 (404)).trans ((va_up_ne _ _ (by decide)).trans v0_f28)
  have v2_f29 := (congrFun ef29 (406)).trans ((va_up_ne _ _ (by decide)).trans v2_f28)
  have v3_f29 := (congrFun ef29 (407)).trans ((va_up_ne _ _ (by decide)).trans v3_f28)
  have v4_f29 := (congrFun ef29 (408)).trans ((va_up_ne _ _ (by decide)).trans v4_f28)
  have v5_f29 := (congrFun ef29 (409)).trans ((va_up_ne _ _ (by decide)).trans v5_f28)
  have v6_f29 := (congrFun ef29 (410)).trans ((va_up_ne _ _ (by decide)).trans v6_f28)
  have v7_f29 := (congrFun ef29 (411)).trans ((va_up_ne _ _ (by decide)).trans v7_f28)
  have v8_f29 := (congrFun ef29 (412)).trans ((va_up_ne _ _ (by decide)).trans v8_f28)
  have v9_f29 := (congrFun ef29 (413)).trans ((va_up_ne _ _ (by decide)).trans v9_f28)
  have v10_f29 := (congrFun ef29 (414)).trans ((va_up_ne _ _ (by decide)).trans v10_f28)
  have v11_f29 := (congrFun ef29 (415)).trans ((va_up_ne _ _ (by decide)).trans v11_f28)
  have v1_f29 : f29 (405) = .inl (G.2.1, 659, .inl (upd (upd (upd (upd (upd (upd (upd (fun _ => 0) (Int32.toNatClampNeg (0)) 2) (Int32.toNatClampNeg (1 + 0)) 15) (Int32.toNatClampNeg (1 + 1)) 15) (Int32.toNatClampNeg (1 + 2)) 15) (Int32.toNatClampNeg (1 + 3)) 15) (Int32.toNatClampNeg (1 + 4)) 15) (Int32.toNatClampNeg (1 + 5)) 15)) := (congrFun ef29 (405)).trans (if_pos rfl)
  have Pf29 : ∀ k, k < 404 → f29 k = f k := fun k z => (congrFun ef29 k).trans ((va_up_ne _ _ (by omega)).trans (Pf28 k z))
  refine lv_iinc (v := 6) (lv' := [(1, .int 6), (0, .ref (G.2.2.2.2 + 404))]) S.1 S.2.1 dX8_init_117 hl (k := 0) rfl (by decide) (by decide) rfl (fun ls hl => ?_)
  refine lv_goto (tgt := 101) S.1 S.2.1 dX8_init_120 (by decide) ?_
  refine lv_iload_n S.1 S.2.1 dX8_init_101 rfl (lv_at hl 0 rfl) ?_
  refine lv_bipush (v := 8) S.1 S.2.1 dX8_init_102 (by decide) ?_
  refine lv_icmp_ge (tgt := 123) S.1 S.2.1 dX8_init_104 (by decide) (fun z => absurd z (by decide)) (fun _ => ?_)
  refine lv_aload_n S.1 S.2.1 dX8_init_107 rfl (lv_at hl 1 rfl) ?_
  refine cd_kget (q := 404) (n := 416) (ci := 8) (C := RX8) (T := TX8) (N := 18) (v := .ref (G.2.2.2.2 + 405)) S hK hC rfl cd_x8 (by decide) v0_f29 0 (by decide) cd_f_X8_7 rfl dX8_init_108 ?_
  refine lv_iconst (v := 1) S.1 S.2.1 dX8_init_111 (by decide) ?_
  refine lv_iload_n S.1 S.2.1 dX8_init_112 rfl (lv_at hl 0 rfl) ?_
  refine lv_iadd S.1 S.2.1 dX8_init_113 ?_
  refine lv_bipush (v := 15) S.1 S.2.1 dX8_init_114 (by decide) ?_
  obtain ⟨f30, ef30⟩ : ∃ z, z = va_up f29 (405) (.inl (G.2.1, 659, .inl (upd (upd (upd (upd (upd (upd (upd (upd (fun _ => 0) (Int32.toNatClampNeg (0)) 2) (Int32.toNatClampNeg (1 + 0)) 15) (Int32.toNatClampNeg (1 + 1)) 15) (Int32.toNatClampNeg (1 + 2)) 15) (Int32.toNatClampNeg (1 + 3)) 15) (Int32.toNatClampNeg (1 + 4)) 15) (Int32.toNatClampNeg (1 + 5)) 15) (Int32.toNatClampNeg (1 + 6)) 15))) := ⟨_, rfl⟩
  refine cd_kiast (q := 405) (n := 416) (N := 659) S hK hC (by decide) v1_f29 (cd_ix_in (by decide)) ef30 dX8_init_116 (fun H locs hC => ?_)
  have v0_f30 := (congrFun ef30 (404)).trans ((va_up_ne _ _ (by decide)).trans v0_f29)
  have v2_f30 := (congrFun ef30 (406)).trans ((va_up_ne _ _ (by decide)).trans v2_f29)
  have v3_f30 := (congrFun ef30 (407)).trans ((va_up_ne _ _ (by decide)).trans v3_f29)
  have v4_f30 := (congrFun ef30 (408)).trans ((va_up_ne _ _ (by decide)).trans v4_f29)
  have v5_f30 := (congrFun ef30 (409)).trans ((va_up_ne _ _ (by decide)).trans v5_f29)
  have v6_f30 := (congrFun ef30 (410)).trans ((va_up_ne _ _ (by decide)).trans v6_f29)
  have v7_f30 := (congrFun ef30 (411)).trans ((va_up_ne _ _ (by decide)).trans v7_f29)
  have v8_f30 := (congrFun ef30 (412)).trans ((va_up_ne _ _ (by decide)).trans v8_f29)
  have v9_f30 := (congrFun ef30 (413)).trans ((va_up_ne _ _ (by decide)).trans v9_f29)
  have v10_f30 := (congrFun ef30 (414)).trans ((va_up_ne _ _ (by decide)).trans v10_f29)
  have v11_f30 := (congrFun ef30 (415)).trans ((va_up_ne _ _ (by decide)).trans v11_f29)
  have v1_f30 : f30 (405) = .inl (G.2.1, 659, .inl (upd (upd (upd (upd (upd (upd (upd (upd (fun _ => 0) (Int32.toNatClampNeg (0)) 2) (Int32.toNatClampNeg (1 + 0)) 15) (Int32.toNatClampNeg (1 + 1)) 15) (Int32.toNatClampNeg (1 + 2)) 15) (Int32.toNatClampNeg (1 + 3)) 15) (Int32.toNatClampNeg (1 + 4)) 15) (Int32.toNatClampNeg (1 + 5)) 15) (Int32.toNatClampNeg (1 + 6)) 15)) := (congrFun ef30 (405)).trans (if_pos rfl)
  have Pf30 : ∀ k, k < 404 → f30 k = f k := fun k z => (congrFun ef30 k).trans ((va_up_ne _ _ (by omega)).trans (Pf29 k z))
  refine lv_iinc (v := 7) (lv' := [(1, .int 7), (0, .ref (G.2.2.2.2 + 404))]) S.1 S.2.1 dX8_init_117 hl (k := 0) rfl (by decide) (by decide) rfl (fun ls hl => ?_)
  refine lv_goto (tgt := 101) S.1 S.2.1 dX8_init_120 (by decide) ?_
  refine lv_iload_n S.1 S.2.1 dX8_init_101 rfl (lv_at hl 0 rfl) ?_
  refine lv_bipush (v := 8) S.1 S.2.1 dX8_init_102 (by decide) ?_
  refine lv_icmp_ge (tgt := 123) S.1 S.2.1 dX8_init_104 (by decide) (fun z => absurd z (by decide)) (fun _ => ?_)
  refine lv_aload_n S.1 S.2.1 dX8_init_107 rfl (lv_at hl 1 rfl) ?_
  refine cd_kget (q := 404) (n := 416) (ci := 8) (C := RX8) (T := TX8) (N := 18) (v := .ref (G.2.2.2.2 + 405)) S hK hC rfl cd_x8 (by decide) v0_f30 0 (by decide) cd_f_X8_7 rfl dX8_init_108 ?_
  refine lv_iconst (v := 1) S.1 S.2.1 dX8_init_111 (by decide) ?_
  refine lv_iload_n S.1 S.2.1 dX8_init_112 rfl (lv_at hl 0 rfl) ?_
  refine lv_iadd S.1 S.2.1 dX8_init_113 ?_
  refine lv_bipush (v := 15) S.1 S.2.1 dX8_init_114 (by decide) ?_
  obtain ⟨f31, ef31⟩ : ∃ z, z = va_up f30 (405) (.inl (G.2.1, 659, .inl (upd (upd (upd (upd (upd (upd (upd (upd (upd (fun _ => 0) (Int32.toNatClampNeg (0)) 2) (Int32.toNatClampNeg (1 + 0)) 15) (Int32.toNatClampNeg (1 + 1)) 15) (Int32.toNatClampNeg (1 + 2)) 15) (Int32.toNatClampNeg (1 + 3)) 15) (Int32.toNatClampNeg (1 + 4)) 15) (Int32.toNatClampNeg (1 + 5)) 15) (Int32.toNatClampNeg (1 + 6)) 15) (Int32.toNatClampNeg (1 + 7)) 15))) := ⟨_, rfl⟩
  refine cd_kiast (q := 405) (n := 416) (N := 659) S hK hC (by decide) v1_f30 (cd_ix_in (by decide)) ef31 dX8_init_116 (fun H locs hC => ?_)
  have v0_f31 := (congrFun ef31 (404)).trans ((va_up_ne _ _ (by decide)).trans v0_f30)
  have v2_f31 := (congrFun ef31 (406)).trans ((va_up_ne _ _ (by decide)).trans v2_f30)
  have v3_f31 := (congrFun ef31 (407)).trans ((va_up_ne _ _ (by decide)).trans v3_f30)
  have v4_f31 := (congrFun ef31 (408)).trans ((va_up_ne _ _ (by decide)).trans v4_f30)
  have v5_f31 := (congrFun ef31 (409)).trans ((va_up_ne _ _ (by decide)).trans v5_f30)
  have v6_f31 := (congrFun ef31 (410)).trans ((va_up_ne _ _ (by decide)).trans v6_f30)
  have v7_f31 := (congrFun ef31 (411)).trans ((va_up_ne _ _ (by decide)).trans v7_f30)
  have v8_f31 := (congrFun ef31 (412)).trans ((va_up_ne _ _ (by decide)).trans v8_f30)
  have v9_f31 := (congrFun ef31 (413)).trans ((va_up_ne _ _ (by decide)).trans v9_f30)
  have v10_f31 := (congrFun ef31 (414)).trans ((va_up_ne _ _ (by decide)).trans v10_f30)
  have v11_f31 := (congrFun ef31 (415)).trans ((va_up_ne _ _ (by decide)).trans v11_f30)
  have v1_f31 : f31 (405) = .inl (G.2.1, 659, .inl (upd (upd (upd (upd (upd (upd (upd (upd (upd (fun _ => 0) (Int32.toNatClampNeg (0)) 2) (Int32.toNatClampNeg (1 + 0)) 15) (Int32.toNatClampNeg (1 + 1)) 15) (Int32.toNatClampNeg (1 + 2)) 15) (Int32.toNatClampNeg (1 + 3)) 15) (Int32.toNatClampNeg (1 + 4)) 15) (Int32.toNatClampNeg (1 + 5)) 15) (Int32.toNatClampNeg (1 + 6)) 15) (Int32.toNatClampNeg (1 + 7)) 15)) := (congrFun ef31 (405)).trans (if_pos rfl)
  have Pf31 : ∀ k, k < 404 → f31 k = f k := fun k z => (congrFun ef31 k).trans ((va_up_ne _ _ (by omega)).trans (Pf30 k z))
  refine lv_iinc (v := 8) (lv' := [(1, .int 8), (0, .ref (G.2.2.2.2 + 404))]) S.1 S.2.1 dX8_init_117 hl (k := 0) rfl (by decide) (by decide) rfl (fun ls hl => ?_)
  refine lv_goto (tgt := 101) S.1 S.2.1 dX8_init_120 (by decide) ?_
  refine lv_iload_n S.1 S.2.1 dX8_init_101 rfl (lv_at hl 0 rfl) ?_
  refine lv_bipush (v := 8) S.1 S.2.1 dX8_init_102 (by decide) ?_
  refine lv_icmp_ge (tgt := 123) S.1 S.2.1 dX8_init_104 (by decide) (fun _ => ?_) (fun z => absurd z (by decide))
  refine lv_aload_n S.1 S.2.1 dX8_init_123 rfl (lv_at hl 1 rfl) ?_
  refine cd_kget (q := 404) (n := 416) (ci := 8) (C := RX8) (T := TX8) (N := 18) (v := .ref (G.2.2.2.2 + 405)) S hK hC rfl cd_x8 (by decide) v0_f31 0 (by decide) cd_f_X8_7 rfl dX8_init_124 ?_
  refine lv_bipush (v := 9) S.1 S.2.1 dX8_init_127 (by decide) ?_
  refine lv_iconst (v := 1) S.1 S.2.1 dX8_init_129 (by decide) ?_
  obtain ⟨f32, ef32⟩ : ∃ z, z = va_up f31 (405) (.inl (G.2.1, 659, .inl (upd (upd (upd (upd (upd (upd (upd (upd (upd (upd (fun _ => 0) (Int32.toNatClampNeg (0)) 2) (Int32.toNatClampNeg (1 + 0)) 15) (Int32.toNatClampNeg (1 + 1)) 15) (Int32.toNatClampNeg (1 + 2)) 15) (Int32.toNatClampNeg (1 + 3)) 15) (Int32.toNatClampNeg (1 + 4)) 15) (Int32.toNatClampNeg (1 + 5)) 15) (Int32.toNatClampNeg (1 + 6)) 15) (Int32.toNatClampNeg (1 + 7)) 15) (Int32.toNatClampNeg (9)) 1))) := ⟨_, rfl⟩
  refine cd_kiast (q := 405) (n := 416) (N := 659) S hK hC (by decide) v1_f31 (cd_ix_in (by decide)) ef32 dX8_init_130 (fun H locs hC => ?_)
  have v0_f32 := (congrFun ef32 (404)).trans ((va_up_ne _ _ (by decide)).trans v0_f31)
  have v2_f32 := (congrFun ef32 (406)).trans ((va_up_ne _ _ (by decide)).trans v2_f31)
  have v3_f32 := (congrFun ef32 (407)).trans ((va_up_ne _ _ (by decide)).trans v3_f31)
  have v4_f32 := (congrFun ef32 (408)).trans ((va_up_ne _ _ (by decide)).trans v4_f31)
  have v5_f32 := (congrFun ef32 (409)).trans ((va_up_ne _ _ (by decide)).trans v5_f31)
  have v6_f32 := (congrFun ef32 (410)).trans ((va_up_ne _ _ (by decide)).trans v6_f31)
  have v7_f32 := (congrFun ef32 (411)).trans ((va_up_ne _ _ (by decide)).trans v7_f31)
  have v8_f32 := (congrFun ef32 (412)).trans ((va_up_ne _ _ (by decide)).trans v8_f31)
  have v9_f32 := (congrFun ef32 (413)).trans ((va_up_ne _ _ (by decide)).trans v9_f31)
  have v10_f32 := (congrFun ef32 (414)).trans ((va_up_ne _ _ (by decide)).trans v10_f31)
  have v11_f32 := (congrFun ef32 (415)).trans ((va_up_ne _ _ (by decide)).trans v11_f31)
  have v1_f32 : f32 (405) = .inl (G.2.1, 659, .inl (upd (upd (upd (upd (upd (upd (upd (upd (upd (upd (fun _ => 0) (Int32.toNatClampNeg (0)) 2) (Int32.toNatClampNeg (1 + 0)) 15) (Int32.toNatClampNeg (1 + 1)) 15) (Int32.toNatClampNeg (1 + 2)) 15) (Int32.toNatClampNeg (1 + 3)) 15) (Int32.toNatClampNeg (1 + 4)) 15) (Int32.toNatClampNeg (1 + 5)) 15) (Int32.toNatClampNeg (1 + 6)) 15) (Int32.toNatClampNeg (1 + 7)) 15) (Int32.toNatClampNeg (9)) 1)) := (congrFun ef32 (405)).trans (if_pos rfl)
  have Pf32 : ∀ k, k < 404 → f32 k = f k := fun k z => (congrFun ef32 k).trans ((va_up_ne _ _ (by omega)).trans (Pf31 k z))
  refine lv_aload_n S.1 S.2.1 dX8_init_131 rfl (lv_at hl 1 rfl) ?_
  refine cd_kget (q := 404) (n := 416) (ci := 8) (C := RX8) (T := TX8) (N := 18) (v := .ref (G.2.2.2.2 + 405)) S hK hC rfl cd_x8 (by decide) v0_f32 0 (by decide) cd_f_X8_7 rfl dX8_init_132 ?_
  refine lv_bipush (v := 10) S.1 S.2.1 dX8_init_135 (by decide) ?_
  refine lv_iconst (v := (-1)) S.1 S.2.1 dX8_init_137 (by decide) ?_
  obtain ⟨f33, ef33⟩ : ∃ z, z = va_up f32 (405) (.inl (G.2.1, 659, .inl (upd (upd (upd (upd (upd (upd (upd (upd (upd (upd (upd (fun _ => 0) (Int32.toNatClampNeg (0)) 2) (Int32.toNatClampNeg (1 + 0)) 15) (Int32.toNatClampNeg (1 + 1)) 15) (Int32.toNatClampNeg (1 + 2)) 15) (Int32.toNatClampNeg (1 + 3)) 15) (Int32.toNatClampNeg (1 + 4)) 15) (Int32.toNatClampNeg (1 + 5)) 15) (Int32.toNatClampNeg (1 + 6)) 15) (Int32.toNatClampNeg (1 + 7)) 15) (Int32.toNatClampNeg (9)) 1) (Int32.toNatClampNeg (10)) ((-1))))) := ⟨_, rfl⟩
  refine cd_kiast (q := 405) (n := 416) (N := 659) S hK hC (by decide) v1_f32 (cd_ix_in (by decide)) ef33 dX8_init_138 (fun H locs hC => ?_)
  have v0_f33 := (congrFun ef33 (404)).trans ((va_up_ne _ _ (by decide)).trans v0_f32)
  have v2_f33 := (congrFun ef33 (406)).trans ((va_up_ne _ _ (by decide)).trans v2_f32)
  have v3_f33 := (congrFun ef33 (407)).trans ((va_up_ne _ _ (by decide)).trans v3_f32)
  have v4_f33 := (congrFun ef33 (408)).trans ((va_up_ne _ _ (by decide)).trans v4_f32)
  have v5_f33 := (congrFun ef33 (409)).trans ((va_up_ne _ _ (by decide)).trans v5_f32)
  have v6_f33 := (congrFun ef33 (410)).trans ((va_up_ne _ _ (by decide)).trans v6_f32)
  have v7_f33 := (congrFun ef33 (411)).trans ((va_up_ne _ _ (by decide)).trans v7_f32)
  have v8_f33 := (congrFun ef33 (412)).trans ((va_up_ne _ _ (by decide)).trans v8_f32)
  have v9_f33 := (congrFun ef33 (413)).trans ((va_up_ne _ _ (by decide)).trans v9_f32)
  have v10_f33 := (congrFun ef33 (414)).trans ((va_up_ne _ _ (by decide)).trans v10_f32)
  have v11_f33 := (congrFun ef33 (415)).trans ((va_up_ne _ _ (by decide)).trans v11_f32)
  have v1_f33 : f33 (405) = .inl (G.2.1, 659, .inl (upd (upd (upd (upd (upd (upd (upd (upd (upd (upd (upd (fun _ => 0) (Int32.toNatClampNeg (0)) 2) (Int32.toNatClampNeg (1 + 0)) 15) (Int32.toNatClampNeg (1 + 1)) 15) (Int32.toNatClampNeg (1 + 2)) 15) (Int32.toNatClampNeg (1 + 3)) 15) (Int32.toNatClampNeg (1 + 4)) 15) (Int32.toNatClampNeg (1 + 5)) 15) (Int32.toNatClampNeg (1 + 6)) 15) (Int32.toNatClampNeg (1 + 7)) 15) (Int32.toNatClampNeg (9)) 1) (Int32.toNatClampNeg (10)) ((-1)))) := (congrFun ef33 (405)).trans (if_pos rfl)
  have Pf33 : ∀ k, k < 404 → f33 k = f k := fun k z => (congrFun ef33 k).trans ((va_up_ne _ _ (by omega)).trans (Pf32 k z))
  refine lv_aload_n S.1 S.2.1 dX8_init_139 rfl (lv_at hl 1 rfl) ?_
  refine cd_kget (q := 404) (n := 416) (ci := 8) (C := RX8) (T := TX8) (N := 18) (v := .ref (G.2.2.2.2 + 405)) S hK hC rfl cd_x8 (by decide) v0_f33 0 (by decide) cd_f_X8_7 rfl dX8_init_140 ?_
  refine lv_sipush (v := 427) S.1 S.2.1 dX8_init_143 (by decide) ?_
  refine lv_iconst (v := 1) S.1 S.2.1 dX8_init_146 (by decide) ?_
  obtain ⟨f34, ef34⟩ : ∃ z, z = va_up f33 (405) (.inl (G.2.1, 659, .inl (upd (upd (upd (upd (upd (upd (upd (upd (upd (upd (upd (upd (fun _ => 0) (Int32.toNatClampNeg (0)) 2) (Int32.toNatClampNeg (1 + 0)) 15) (Int32.toNatClampNeg (1 + 1)) 15) (Int32.toNatClampNeg (1 + 2)) 15) (Int32.toNatClampNeg (1 + 3)) 15) (Int32.toNatClampNeg (1 + 4)) 15) (Int32.toNatClampNeg (1 + 5)) 15) (Int32.toNatClampNeg (1 + 6)) 15) (Int32.toNatClampNeg (1 + 7)) 15) (Int32.toNatClampNeg (9)) 1) (Int32.toNatClampNeg (10)) ((-1))) (Int32.toNatClampNeg (427)) 1))) := ⟨_, rfl⟩
  refine cd_kiast (q := 405) (n := 416) (N := 659) S hK hC (by decide) v1_f33 (cd_ix_in (by decide)) ef34 dX8_init_147 (fun H locs hC => ?_)
  have v0_f34 := (congrFun ef34 (404)).trans ((va_up_ne _ _ (by decide)).trans v0_f33)
  have v2_f34 := (congrFun ef34 (406)).trans ((va_up_ne _ _ (by decide)).trans v2_f33)
  have v3_f34 := (congrFun ef34 (407)).trans ((va_up_ne _ _ (by decide)).trans v3_f33)
  have v4_f34 := (congrFun ef34 (408)).trans ((va_up_ne _ _ (by decide)).trans v4_f33)
  have v5_f34 := (congrFun ef34 (409)).trans ((va_up_ne _ _ (by decide)).trans v5_f33)
  have v6_f34 := (congrFun ef34 (410)).trans ((va_up_ne _ _ (by decide)).trans v6_f33)
  have v7_f34 := (congrFun ef34 (411)).trans ((va_up_ne _ _ (by decide)).trans v7_f33)
  have v8_f34 := (congrFun ef34 (412)).trans ((va_up_ne _ _ (by decide)).trans v8_f33)
  have v9_f34 := (congrFun ef34 (413)).trans ((va_up_ne _ _ (by decide)).trans v9_f33)
  have v10_f34 := (congrFun ef34 (414)).trans ((va_up_ne _ _ (by decide)).trans v10_f33)
  have v11_f34 := (congrFun ef34 (415)).trans ((va_up_ne _ _ (by decide)).trans v11_f33)
  have v1_f34 : f34 (405) = .inl (G.2.1, 659, .inl (upd (upd (upd (upd (upd (upd (upd (upd (upd (upd (upd (upd (fun _ => 0) (Int32.toNatClampNeg (0)) 2) (Int32.toNatClampNeg (1 + 0)) 15) (Int32.toNatClampNeg (1 + 1)) 15) (Int32.toNatClampNeg (1 + 2)) 15) (Int32.toNatClampNeg (1 + 3)) 15) (Int32.toNatClampNeg (1 + 4)) 15) (Int32.toNatClampNeg (1 + 5)) 15) (Int32.toNatClampNeg (1 + 6)) 15) (Int32.toNatClampNeg (1 + 7)) 15) (Int32.toNatClampNeg (9)) 1) (Int32.toNatClampNeg (10)) ((-1))) (Int32.toNatClampNeg (427)) 1)) := (congrFun ef34 (405)).trans (if_pos rfl)
  have Pf34 : ∀ k, k < 404 → f34 k = f k := fun k z => (congrFun ef34 k).trans ((va_up_ne _ _ (by omega)).trans (Pf33 k z))
  refine hret f34 H locs _ ls Pf34 ?_ hC dX8_init_148
  intro k z1 z2
  rcases (show (404 ≤ k ∧ k < 405) ∨ (405 ≤ k ∧ k < 406) ∨ (406 ≤ k ∧ k < 407) ∨ (407 ≤ k ∧ k < 408) ∨ (408 ≤ k ∧ k < 409) ∨ (409 ≤ k ∧ k < 410) ∨ (410 ≤ k ∧ k < 411) ∨ (411 ≤ k ∧ k < 412) ∨ (412 ≤ k ∧ k < 413) ∨ (413 ≤ k ∧ k < 414) ∨ (414 ≤ k ∧ k < 415) ∨ (415 ≤ k ∧ k < 416) by omega) with ⟨y1, y2⟩ | ⟨y1, y2⟩ | ⟨y1, y2⟩ | ⟨y1, y2⟩ | ⟨y1, y2⟩ | ⟨y1, y2⟩ | ⟨y1, y2⟩ | ⟨y1, y2⟩ | ⟨y1, y2⟩ | ⟨y1, y2⟩ | ⟨y1, y2⟩ | ⟨y1, y2⟩
  · obtain rfl : k = 404 := by omega
    rw [v0_f34]
    exact cd_w8_0
  · obtain rfl : k = 405 := by omega
    rw [v1_f34]
    exact cd_w8_1
  · obtain rfl : k = 406 := by omega
    rw [v2_f34]
    exact cd_w8_2
  · obtain rfl : k = 407 := by omega
    rw [v3_f34]
    exact cd_w8_3
  · obtain rfl : k = 408 := by omega
    rw [v4_f34]
    exact cd_w8_4
  · obtain rfl : k = 409 := by omega
    rw [v5_f34]
    exact cd_w8_5
  · obtain rfl : k = 410 := by omega
    rw [v6_f34]
    exact cd_w8_6
  · obtain rfl : k = 411 := by omega
    rw [v7_f34]
    exact cd_w8_7
  · obtain rfl : k = 412 := by omega
    rw [v8_f34]
    exact cd_w8_8
  · obtain rfl : k = 413 := by omega
    rw [v9_f34]
    exact cd_w8_9
  · obtain rfl : k = 414 := by omega
    rw [v10_f34]
    exact cd_w8_10
  · obtain rfl : k = 415 := by omega
    rw [v11_f34]
    exact cd_w8_11
