-- THE LAW FROM ITS ENTRY (written by wip/whole: genstart)
theorem cd_t_X4_59 : Cond.methodLinkNest RX4 59 yX7_copyRow "CounterDeals" ∈ lw_tbl := List.mem_append_right _ (List.mem_append_right _ (List.mem_append_left _ (List.mem_of_getElem? (i := 55) (by decide +kernel))))
theorem cd_t_X5_25 : Cond.methodLinkNest RX5 25 yX7_copyRow "CounterDeals" ∈ lw_tbl := List.mem_append_right _ (List.mem_append_right _ (List.mem_append_left _ (List.mem_of_getElem? (i := 68) (by decide +kernel))))
theorem cd_t_X0_62 : Cond.methodLinkNest RX0 62 yX7_copyRow "CounterDeals" ∈ lw_tbl := List.mem_append_right _ (List.mem_append_right _ (List.mem_append_left _ (List.mem_of_getElem? (i := 73) (by decide +kernel))))
theorem cd_t_X4_73 : Cond.methodLinkNest RX4 73 yX7_isWithin "CounterDeals" ∈ lw_tbl := List.mem_append_right _ (List.mem_append_right _ (List.mem_append_left _ (List.mem_of_getElem? (i := 83) (by decide +kernel))))
theorem cd_t_X5_29 : Cond.methodLinkNest RX5 29 yX7_isWithin "CounterDeals" ∈ lw_tbl := List.mem_append_right _ (List.mem_append_right _ (List.mem_append_left _ (List.mem_of_getElem? (i := 122) (by decide +kernel))))
theorem cd_t_X4_121 : Cond.methodLinkNest RX4 121 yX7_bit "CounterDeals" ∈ lw_tbl := List.mem_append_right _ (List.mem_append_right _ (List.mem_append_left _ (List.mem_of_getElem? (i := 213) (by decide +kernel))))
theorem cd_t_X0_66 : Cond.methodLinkNest RX0 66 yX7_isWithin "CounterDeals" ∈ lw_tbl := List.mem_append_right _ (List.mem_append_right _ (List.mem_append_right _ (List.mem_append_left _ (List.mem_of_getElem? (i := 103) (by decide +kernel)))))
theorem cd_t_X2_47 : Cond.methodLinkNest RX2 47 yX7_isWithin "CounterDeals" ∈ lw_tbl := List.mem_append_right _ (List.mem_append_right _ (List.mem_append_right _ (List.mem_append_left _ (List.mem_of_getElem? (i := 178) (by decide +kernel)))))
theorem cd_t_X6_24 : Cond.methodLinkNest RX6 24 yX7_isWithin "CounterDeals" ∈ lw_tbl := List.mem_append_right _ (List.mem_append_right _ (List.mem_append_right _ (List.mem_append_left _ (List.mem_of_getElem? (i := 199) (by decide +kernel)))))
theorem cd_t_ao_X0 : Cond.arrayOver (.object RX0) ∈ lw_tbl := List.mem_append_right _ (List.mem_append_left _ (List.mem_of_getElem? (i := 71) (by decide +kernel)))
theorem cd_t_ao_X4 : Cond.arrayOver (.object RX4) ∈ lw_tbl := List.mem_append_right _ (List.mem_append_left _ (List.mem_of_getElem? (i := 224) (by decide +kernel)))
theorem cd_W_h0 {G : cd_G} {f : Nat → va_E} (h : ∀ k, k < 416 → f k = cd_e0 G k) : cd_Wf G 416 f = cd_W G cd_h0 := by
  unfold cd_Wf cd_W
  apply List.map_congr_left
  intro k hk
  rw [h k (List.mem_range.mp hk)]
  rfl
set_option maxHeartbeats 4000000 in
set_option maxRecDepth 100000 in
theorem whole_open {p : Program} {e : Env} {s : State} {m : MethodId} {below : List Frame} {meth : Method} {c : Code} (l : Launch) {b L : Nat} {xs : Nat → Int32} (hL : L ≤ 3072) (C0 : lw_At p s m meth c b L xs) {Inv : Nat → cd_Hp → Prop} (hI : cd_stp Inv) (hI0 : Inv 0 cd_h0) : W p l e room_1 s m #[Value.ref b] below meth c s.heap [] 0 0 (lw_Z below #[Value.ref b] s) (entryFrame m ([Value.ref b] : List Value).toArray 4) := by
  obtain ⟨hx, hb, hr, hml, hown, hts, hX, hbl, hlocks, hgv⟩ := id C0
  have S : CallFix p m c cL_law 4 s #[Value.ref b] cd_T RL := ⟨hx, hb, hml, hown, fun w hw => hts w (cd_T_in hw)⟩
  obtain ⟨c0, iS0, hKn0⟩ := u_known (C := RX0) (T := TX0) (N := 16) (n := 16) S.2.2.2.2 cd_x0 (S.2.2.2.2 _ cd_j_X0)
  obtain ⟨c1, iS1, hKn1⟩ := u_known (C := RX1) (T := TX1) (N := 3) (n := 3) S.2.2.2.2 cd_x1 (S.2.2.2.2 _ cd_j_X1)
  obtain ⟨c2, iS2, hKn2⟩ := u_known (C := RX2) (T := TX2) (N := 8) (n := 8) S.2.2.2.2 cd_x2 (S.2.2.2.2 _ cd_j_X2)
  obtain ⟨c3, iS3, hKn3⟩ := u_known (C := RX3) (T := TX3) (N := 4) (n := 4) S.2.2.2.2 cd_x3 (S.2.2.2.2 _ cd_j_X3)
  obtain ⟨c4, iS4, hKn4⟩ := u_known (C := RX4) (T := TX4) (N := 11) (n := 11) S.2.2.2.2 cd_x4 (S.2.2.2.2 _ cd_j_X4)
  obtain ⟨c5, iS5, hKn5⟩ := u_known (C := RX5) (T := TX5) (N := 4) (n := 4) S.2.2.2.2 cd_x5 (S.2.2.2.2 _ cd_j_X5)
  obtain ⟨c6, iS6, hKn6⟩ := u_known (C := RX6) (T := TX6) (N := 8) (n := 8) S.2.2.2.2 cd_x6 (S.2.2.2.2 _ cd_j_X6)
  obtain ⟨c7, iS7, hKn7⟩ := u_known (C := RX7) (T := TX7) (N := 4) (n := 4) S.2.2.2.2 cd_x7 (S.2.2.2.2 _ cd_j_X7)
  obtain ⟨c8, iS8, hKn8⟩ := u_known (C := RX8) (T := TX8) (N := 18) (n := 18) S.2.2.2.2 cd_x8 (S.2.2.2.2 _ cd_j_X8)
  have hao0 : va_AO RX0 s := va_AO.of (hts _ cd_t_ao_X0)
  have hao4 : va_AO RX4 s := va_AO.of (hts _ cd_t_ao_X4)
  obtain ⟨cI, kI, compI, i1, i2, i3⟩ := Cond.arrayClass_spec (S.2.2.2.2 _ cd_a_Jvm_ClassFile_FieldType_int)
  obtain ⟨compG, cG, kG, g1, g2, g3, g4, g5⟩ := Cond.arrayOver_spec hao0
  obtain ⟨compS, cS, kS, s1, s2, s3, s4, s5⟩ := Cond.arrayOver_spec hao4
  obtain ⟨dC, dI, hKc⟩ : ∃ (dC : Nat → ClassId) (dI : Nat → Nat → Nat), ∀ (k : Nat) (q : vw_C), vwCl[k]? = some q → u_Kn s q.1 q.2.1 q.2.2 (dC k) (dI k) := by
    refine ⟨fun k => if k = 0 then c0 else if k = 1 then c1 else if k = 2 then c2 else if k = 3 then c3 else if k = 4 then c4 else if k = 5 then c5 else if k = 6 then c6 else if k = 7 then c7 else c8, fun k => if k = 0 then iS0 else if k = 1 then iS1 else if k = 2 then iS2 else if k = 3 then iS3 else if k = 4 then iS4 else if k = 5 then iS5 else if k = 6 then iS6 else if k = 7 then iS7 else iS8, ?_⟩
    intro k q hq
    match k, hq with
    | 0, hq => cases hq; exact hKn0
    | 1, hq => cases hq; exact hKn1
    | 2, hq => cases hq; exact hKn2
    | 3, hq => cases hq; exact hKn3
    | 4, hq => cases hq; exact hKn4
    | 5, hq => cases hq; exact hKn5
    | 6, hq => cases hq; exact hKn6
    | 7, hq => cases hq; exact hKn7
    | 8, hq => cases hq; exact hKn8
    | k + 9, hq => simp [vwCl] at hq
  obtain ⟨G, hG⟩ : ∃ G : cd_G, G = ((dC, dI), cI, cG, cS, s.heap.size) := ⟨_, rfl⟩
  have hK0 : cd_K G s := by
    subst hG
    refine ⟨⟨hKc, fun k q h => ?_⟩, va_Nw.of rfl (hts _ cd_t_X4_59), va_Nw.of rfl (hts _ cd_t_X5_25), va_Nw.of rfl (hts _ cd_t_X0_62), va_Nw.of rfl (hts _ cd_t_X4_73), va_Nw.of rfl (hts _ cd_t_X5_29), va_Nw.of rfl (hts _ cd_t_X4_121), va_Nw.of rfl (hts _ cd_t_X0_66), va_Nw.of rfl (hts _ cd_t_X2_47), va_Nw.of rfl (hts _ cd_t_X6_24)⟩
    match k, h with
    | 0, h => cases h; exact ⟨fun n z => ⟨fun k h => (by cases h), kI, i2, compI, i3⟩, i1⟩
    | 1, h => cases h; exact ⟨fun n z => ⟨fun k h => (by cases h), kG, g3, compG, g4⟩, kG, compG, g3, g4, g1, g5⟩
    | 2, h => cases h; exact ⟨fun n z => ⟨fun k h => (by cases h), kS, s3, compS, s4⟩, kS, compS, s3, s4, s1, s5⟩
    | k + 3, h => simp [cd_ty] at h
  have hK : cd_KK G s := ⟨hK0, hao0, hao4⟩
  have hg0 : G.2.2.2.2 = s.heap.size := by rw [hG]
  obtain ⟨f, hf⟩ : ∃ f : Nat → va_E, f = fun _ => .inr (0, []) := ⟨_, rfl⟩
  have hC : cd_C G 0 f s.heap s.heap [] := ⟨by rw [hg0]; rfl, fun k q h => by simp [cd_Wf] at h, va_S.rf⟩
  have hl := lv_entry ([.ref b]) (n := 4) (Nat.le_of_ble_eq_true rfl)
  rw [lg_entry_eq]
  generalize (lg_sl ([.ref b]) ++ List.replicate (4 - (lg_sl ([.ref b])).length) Slot.unset).toArray = ls at hl ⊢
  have hl : lv_has ls 4 [(0, .ref b)] := hl
  obtain ⟨f1, ef1⟩ : ∃ z, z = va_up f 0 (.inr (7, [.null, .null, .null, .null])) := ⟨_, rfl⟩
  refine cd_knew (n := 0) (ci := 7) (C := RX7) (T := TX7) (N := 4) S hK hC rfl cd_x7 tyX7 tyX7_ok cd_k_L_7 cd_j_X7 cd_n_X7 (fs := [.null, .null, .null, .null]) (by decide) ef1 (Nat.le_of_ble_eq_true rfl) (Nat.le_of_ble_eq_true rfl) dL_law_0 (fun H hC => ?_)
  have v1 : f1 0 = .inr (7, [.null, .null, .null, .null]) := (congrFun ef1 0).trans (if_pos rfl)
  refine lv_dup S.1 S.2.1 dL_law_3 rfl ?_
  refine cd_kcall (N := 0) (q := 0) (As := []) S hK hC hl.1 (c_X7_init l G f1 v1) cd_m_L_9 cd_i_X7_init cd_n_X7 cd_c_X7_init (by decide +kernel) ⟨Nat.le_of_ble_eq_true rfl, Nat.le_of_ble_eq_true rfl⟩ ⟨rfl, rfl⟩ rfl rfl (Nat.le_of_ble_eq_true rfl) ⟨Nat.le_of_ble_eq_true rfl, Nat.le_of_ble_eq_true rfl⟩ dL_law_4 (fun f2 H locs R2 T2 hC => ?_)
  have hC : cd_C G 404 f2 s.heap H locs := hC
  refine lv_astore_n (lv' := [(1, .ref (G.2.2.2.2 + 0)), (0, .ref b)]) S.1 S.2.1 dL_law_7 rfl hl (by decide) rfl (fun ls hl => ?_)
  obtain ⟨f3, ef3⟩ : ∃ z, z = va_up f2 404 (.inr (8, [.null, .null, .null, .int 0, .null, .null, .int 0, .null, .null, .int 0, .null, .null, .null, .null, .int 0, .int 0, .int 0, .long 0])) := ⟨_, rfl⟩
  refine cd_knew (n := 404) (ci := 8) (C := RX8) (T := TX8) (N := 18) S hK hC rfl cd_x8 tyX8 tyX8_ok cd_k_L_10 cd_j_X8 cd_n_X8 (fs := [.null, .null, .null, .int 0, .null, .null, .int 0, .null, .null, .int 0, .null, .null, .null, .null, .int 0, .int 0, .int 0, .long 0]) (by decide) ef3 (Nat.le_of_ble_eq_true rfl) (Nat.le_of_ble_eq_true rfl) dL_law_8 (fun H hC => ?_)
  have v3 : f3 404 = .inr (8, [.null, .null, .null, .int 0, .null, .null, .int 0, .null, .null, .int 0, .null, .null, .null, .null, .int 0, .int 0, .int 0, .long 0]) := (congrFun ef3 404).trans (if_pos rfl)
  refine lv_dup S.1 S.2.1 dL_law_11 rfl ?_
  refine cd_kcall (N := 0) (q := 404) (As := []) S hK hC hl.1 (c_X8_init l G f3 v3) cd_m_L_12 cd_i_X8_init cd_n_X8 cd_c_X8_init (by decide +kernel) ⟨Nat.le_of_ble_eq_true rfl, Nat.le_of_ble_eq_true rfl⟩ ⟨rfl, rfl⟩ rfl rfl (Nat.le_of_ble_eq_true rfl) ⟨Nat.le_of_ble_eq_true rfl, Nat.le_of_ble_eq_true rfl⟩ dL_law_12 (fun f4 H locs R4 T4 hC => ?_)
  have hC : cd_C G 416 f4 s.heap H locs := hC
  have hall : ∀ k, k < 416 → f4 k = cd_e0 G k := fun k z => by
    rcases Nat.lt_or_ge k 404 with y | y
    · rw [R4 k y, ef3, va_up_ne _ _ (by omega), T2 k (Nat.zero_le _) (by omega)]
    · exact T4 k y (by omega)
  have hZ : cd_Z G cd_h0 s.heap H locs := ⟨by rw [← cd_W_h0 hall]; exact hC.2.1, hC.2.2⟩
  refine lv_astore_n (lv' := [(2, .ref (G.2.2.2.2 + 404)), (1, .ref (G.2.2.2.2 + 0)), (0, .ref b)]) S.1 S.2.1 dL_law_15 rfl hl (by decide) rfl (fun ls hl => ?_)
  refine lv_iconst (v := 0) S.1 S.2.1 dL_law_16 (by decide) ?_
  refine lv_istore_n (lv' := [(3, .int 0), (2, .ref (G.2.2.2.2 + 404)), (1, .ref (G.2.2.2.2 + 0)), (0, .ref b)]) S.1 S.2.1 dL_law_17 rfl hl (by decide) rfl (fun ls hl => ?_)
  exact law_loop hL C0 hK0 hg0 hI 513 0 cd_h0 H locs ls (by decide) (by decide) (Nat.zero_le _) hI0 hZ (lv_sub hl [3, 2, 1, 0] rfl)
