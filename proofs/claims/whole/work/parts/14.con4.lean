-- CONTRACTS (written by wip/whole/gen.py): X5_fork X6_addByte X6_letterAt X6_numbersOf X6_numberAt X6_mostNumbers X6_readLetter X6_readFirstFigure X6_readFigure X6_leastNumbers X6_readEnd X6_readByte X6_readOrders X7_isRefusal X7_answer X7_settle X7_counters X7_masks X7_rates X7_forks X7_exits X7_group X7_event X7_periods X7_skids X7_lives X7_runs X7_task X7_of X7_about X7_count X7_times X7_scaled X7_fit X7_queue X7_sample X7_told X7_type X7_clear X7_carryOutGroup X7_carryOut X7_does
abbrev rm_X5_fork : Room := { frames := 2, cells := 0, slots := 0, locals := 80 }
theorem cd_v_X5_fork : cd_V yX5_fork cX5_fork 3 (some .int) 1 := ⟨cd_i_X5_fork, cd_e_X5_X5_fork, cd_n_X5, cd_c_X5_fork, by decide +kernel⟩
set_option maxHeartbeats 4000000 in
set_option maxRecDepth 100000 in
theorem c_X5_fork (l : Launch) (G : cd_G) (q : Nat) (a1 : Int32) (hq : cd_is 5 q) (h : cd_Hp) (out : (Int32 × cd_Hp)) (E : f_X5_fork q a1 h = some out) : cd_Mi l G yX5_fork (Cond.code yX5_fork cX5_fork 3 (some .int) :: cd_T) rm_X5_fork [.ref (G.2.2.2.2 + q), .int a1] h out := by
  refine cd_ini (by decide) (Nat.le_of_ble_eq_true rfl) ?_
  intro p e s m args below meth c Q ls H locs S hK hZ hl hret
  have hl : lv_has ls 3 [(0, .ref (G.2.2.2.2 + q)), (1, .int a1)] := hl
  unfold f_X5_fork at E
  refine lv_aload_n S.1 S.2.1 dX5_fork_0 rfl (lv_at hl 0 rfl) ?_
  refine lv_iload_n S.1 S.2.1 dX5_fork_1 rfl (lv_at hl 1 rfl) ?_
  refine cd_cVz (As := [.int a1]) S hK hZ hl.1 (c_X5_has l G q a1 hq h _ rfl) cd_v_X5_has cd_m_X5_33 ⟨Nat.le_of_ble_eq_true rfl, Nat.le_of_ble_eq_true rfl⟩ ⟨rfl, rfl⟩ (ci := 5) (by decide) rfl hq rfl rfl (Nat.le_of_ble_eq_true rfl) ⟨Nat.zero_le _, Nat.zero_le _⟩ dX5_fork_2 (fun H locs hZ b1 => ?_)
  refine lv_if_ne (tgt := 11) S.1 S.2.1 dX5_fork_5 (by decide) (fun c2 => ?_) (fun c2 => ?_)
  · have E := cd_fE c2 E
    refine lv_aload_n S.1 S.2.1 dX5_fork_11 rfl (lv_at hl 0 rfl) ?_
    refine lv_iload_n S.1 S.2.1 dX5_fork_12 rfl (lv_at hl 1 rfl) ?_
    obtain ⟨o3, E1, E⟩ := cd_bE E
    refine cd_cVz (As := [.int a1]) S hK hZ hl.1 (c_X5_hasEnded l G q a1 hq h o3 E1) cd_v_X5_hasEnded cd_m_X5_41 ⟨Nat.le_of_ble_eq_true rfl, Nat.le_of_ble_eq_true rfl⟩ ⟨rfl, rfl⟩ (ci := 5) (by decide) rfl hq rfl rfl (Nat.le_of_ble_eq_true rfl) ⟨Nat.zero_le _, Nat.zero_le _⟩ dX5_fork_13 (fun H locs hZ b4 => ?_)
    refine lv_if_eq (tgt := 22) S.1 S.2.1 dX5_fork_16 (by decide) (fun c5 => ?_) (fun c5 => ?_)
    · have E := cd_tE c5 E
      refine lv_aload_n S.1 S.2.1 dX5_fork_22 rfl (lv_at hl 0 rfl) ?_
      refine cd_get5 (v := .int (cd_g h q 0)) S hK hZ hq 0 cd_f_X5_9 rfl dX5_fork_23 ?_
      refine lv_bipush (v := 6) S.1 S.2.1 dX5_fork_26 (by decide) ?_
      refine lv_icmp_lt (tgt := 34) S.1 S.2.1 dX5_fork_28 (by decide) (fun c6 => ?_) (fun c6 => ?_)
      · have E := cd_tE c6 E
        refine lv_aload_n S.1 S.2.1 dX5_fork_34 rfl (lv_at hl 0 rfl) ?_
        refine cd_get5 (v := .int (cd_g h q 0)) S hK hZ hq 0 cd_f_X5_9 rfl dX5_fork_35 ?_
        obtain ⟨x7, ex7, E⟩ := cd_nmE E
        refine cd_topi ex7 ?_
        refine lv_istore_n (lv' := [(2, .int x7), (0, .ref (G.2.2.2.2 + q)), (1, .int a1)]) S.1 S.2.1 dX5_fork_38 rfl hl (by decide) rfl (fun ls hl => ?_)
        refine lv_aload_n S.1 S.2.1 dX5_fork_39 rfl (lv_at hl 1 rfl) ?_
        refine lv_dup S.1 S.2.1 dX5_fork_40 rfl ?_
        refine cd_get5 (v := .int (cd_g h q 0)) S hK hZ hq 0 cd_f_X5_9 rfl dX5_fork_41 ?_
        refine lv_iconst (v := 1) S.1 S.2.1 dX5_fork_44 (by decide) ?_
        refine lv_iadd S.1 S.2.1 dX5_fork_45 ?_
        obtain ⟨h8, eh8, E⟩ := cd_nmE E
        refine cd_put5_0 S hK hZ hq cd_f_X5_9 eh8 dX5_fork_46 (fun H locs hZ => ?_)
        refine lv_aload_n S.1 S.2.1 dX5_fork_49 rfl (lv_at hl 1 rfl) ?_
        refine cd_get5 (v := .ref (G.2.2.2.2 + (q + 1))) S hK hZ hq 1 cd_f_X5_15 rfl dX5_fork_50 ?_
        refine lv_iload_n S.1 S.2.1 dX5_fork_53 rfl (lv_at hl 0 rfl) ?_
        refine lv_iload_n S.1 S.2.1 dX5_fork_54 rfl (lv_at hl 2 rfl) ?_
        obtain ⟨z9, E⟩ := cd_ckE E
        obtain ⟨h10, eh10, E⟩ := cd_nmE E
        refine cd_iast S hK hZ (cd_r5_1 hq) z9 eh10 dX5_fork_55 (fun H locs hZ => ?_)
        refine lv_aload_n S.1 S.2.1 dX5_fork_56 rfl (lv_at hl 1 rfl) ?_
        refine cd_get5 (v := .ref (G.2.2.2.2 + (q + 2))) S hK hZ hq 2 cd_f_X5_19 rfl dX5_fork_57 ?_
        refine lv_iload_n S.1 S.2.1 dX5_fork_60 rfl (lv_at hl 0 rfl) ?_
        refine lv_iconst (v := 0) S.1 S.2.1 dX5_fork_61 (by decide) ?_
        obtain ⟨z11, E⟩ := cd_ckE E
        obtain ⟨h12, eh12, E⟩ := cd_nmE E
        refine cd_iast S hK hZ (cd_r5_2 hq) z11 eh12 dX5_fork_62 (fun H locs hZ => ?_)
        refine lv_aload_n S.1 S.2.1 dX5_fork_63 rfl (lv_at hl 1 rfl) ?_
        refine cd_get5 (v := .ref (G.2.2.2.2 + (q + 3))) S hK hZ hq 3 cd_f_X5_22 rfl dX5_fork_64 ?_
        refine lv_iload_n S.1 S.2.1 dX5_fork_67 rfl (lv_at hl 2 rfl) ?_
        refine lv_bipush (v := 8) S.1 S.2.1 dX5_fork_68 (by decide) ?_
        refine lv_imul S.1 S.2.1 dX5_fork_70 ?_
        refine lv_aload_n S.1 S.2.1 dX5_fork_71 rfl (lv_at hl 1 rfl) ?_
        refine cd_get5 (v := .ref (G.2.2.2.2 + (q + 3))) S hK hZ hq 3 cd_f_X5_22 rfl dX5_fork_72 ?_
        refine lv_iload_n S.1 S.2.1 dX5_fork_75 rfl (lv_at hl 0 rfl) ?_
        refine lv_bipush (v := 8) S.1 S.2.1 dX5_fork_76 (by decide) ?_
        refine lv_imul S.1 S.2.1 dX5_fork_78 ?_
        refine lv_bipush (v := 8) S.1 S.2.1 dX5_fork_79 (by decide) ?_
        obtain ⟨z13, E⟩ := cd_ckE E
        obtain ⟨h14, eh14, E⟩ := cd_nmE E
        refine cd_copy S hK hZ hl.1 (cd_r5_3 hq) (cd_r5_3 hq) z13 eh14 cd_m_X5_44 cd_v_java_lang_System_arraycopy cd_s_java_lang_System_arraycopy cd_n_J10 (Nat.le_of_ble_eq_true rfl) (by decide) dX5_fork_81 (fun H locs hZ => ?_)
        refine lv_iload_n S.1 S.2.1 dX5_fork_84 rfl (lv_at hl 0 rfl) ?_
        exact hret _ _ _ _ _ _ (Option.some.inj E) hZ dX5_fork_85
      · have E := cd_fE c6 E
        refine lv_bipush (v := (-4)) S.1 S.2.1 dX5_fork_31 (by decide) ?_
        exact hret _ _ _ _ _ _ (Option.some.inj E) hZ dX5_fork_33
    · have E := cd_fE c5 E
      refine lv_bipush (v := (-3)) S.1 S.2.1 dX5_fork_19 (by decide) ?_
      exact hret _ _ _ _ _ _ (Option.some.inj E) hZ dX5_fork_21
  · have E := cd_tE c2 E
    refine lv_bipush (v := (-2)) S.1 S.2.1 dX5_fork_8 (by decide) ?_
    exact hret _ _ _ _ _ _ (Option.some.inj E) hZ dX5_fork_10
abbrev rm_X6_addByte : Room := { frames := 1, cells := 0, slots := 0, locals := 22 }
theorem cd_v_X6_addByte : cd_V yX6_addByte cX6_addByte 2 (some .int) 1 := ⟨cd_i_X6_addByte, cd_e_X6_X6_addByte, cd_n_X6, cd_c_X6_addByte, by decide +kernel⟩
set_option maxHeartbeats 4000000 in
set_option maxRecDepth 100000 in
theorem c_X6_addByte (l : Launch) (G : cd_G) (q : Nat) (a1 : Int32) (hq : cd_is 6 q) (h : cd_Hp) (out : (Int32 × cd_Hp)) (E : f_X6_addByte q a1 h = some out) : cd_Mi l G yX6_addByte (Cond.code yX6_addByte cX6_addByte 2 (some .int) :: cd_T) rm_X6_addByte [.ref (G.2.2.2.2 + q), .int a1] h out := by
  refine cd_ini (by decide) (Nat.le_of_ble_eq_true rfl) ?_
  intro p e s m args below meth c Q ls H locs S hK hZ hl hret
  have hl : lv_has ls 2 [(0, .ref (G.2.2.2.2 + q)), (1, .int a1)] := hl
  unfold f_X6_addByte at E
  refine lv_iload_n S.1 S.2.1 dX6_addByte_0 rfl (lv_at hl 1 rfl) ?_
  refine lv_iconst (v := 0) S.1 S.2.1 dX6_addByte_1 (by decide) ?_
  refine lv_bipush (v := 127) S.1 S.2.1 dX6_addByte_2 (by decide) ?_
  refine cd_cNz (As := [.int a1, .int 0, .int 127]) S hK hZ hl.1 (c_X7_isWithin l G a1 0 127 h _ rfl) cd_v_X7_isWithin (cd_nX6_24 hK.2) ⟨Nat.le_of_ble_eq_true rfl, Nat.le_of_ble_eq_true rfl⟩ ⟨rfl, rfl⟩ rfl rfl (Nat.le_of_ble_eq_true rfl) ⟨Nat.zero_le _, Nat.zero_le _⟩ dX6_addByte_4 (fun H locs hZ b1 => ?_)
  refine lv_if_ne (tgt := 13) S.1 S.2.1 dX6_addByte_7 (by decide) (fun c2 => ?_) (fun c2 => ?_)
  · have E := cd_fE c2 E
    refine lv_aload_n S.1 S.2.1 dX6_addByte_13 rfl (lv_at hl 0 rfl) ?_
    refine cd_get6 (v := .int (cd_g h q 0)) S hK hZ hq 0 cd_f_X6_28 rfl dX6_addByte_14 ?_
    refine lv_bipush (v := 120) S.1 S.2.1 dX6_addByte_17 (by decide) ?_
    refine lv_icmp_lt (tgt := 25) S.1 S.2.1 dX6_addByte_19 (by decide) (fun c3 => ?_) (fun c3 => ?_)
    · have E := cd_tE c3 E
      refine lv_aload_n S.1 S.2.1 dX6_addByte_25 rfl (lv_at hl 0 rfl) ?_
      refine cd_get6 (v := .ref (G.2.2.2.2 + (q + 1))) S hK hZ hq 2 cd_f_X6_9 rfl dX6_addByte_26 ?_
      refine lv_aload_n S.1 S.2.1 dX6_addByte_29 rfl (lv_at hl 0 rfl) ?_
      refine cd_get6 (v := .int (cd_g h q 0)) S hK hZ hq 0 cd_f_X6_28 rfl dX6_addByte_30 ?_
      refine lv_iload_n S.1 S.2.1 dX6_addByte_33 rfl (lv_at hl 1 rfl) ?_
      obtain ⟨z4, E⟩ := cd_ckE E
      obtain ⟨h5, eh5, E⟩ := cd_nmE E
      refine cd_iast S hK hZ (cd_r6_2 hq) z4 eh5 dX6_addByte_34 (fun H locs hZ => ?_)
      refine lv_aload_n S.1 S.2.1 dX6_addByte_35 rfl (lv_at hl 0 rfl) ?_
      refine lv_dup S.1 S.2.1 dX6_addByte_36 rfl ?_
      refine cd_get6 (v := .int (cd_g h5 q 0)) S hK hZ hq 0 cd_f_X6_28 rfl dX6_addByte_37 ?_
      refine lv_iconst (v := 1) S.1 S.2.1 dX6_addByte_40 (by decide) ?_
      refine lv_iadd S.1 S.2.1 dX6_addByte_41 ?_
      obtain ⟨h6, eh6, E⟩ := cd_nmE E
      refine cd_put6_0 S hK hZ hq cd_f_X6_28 eh6 dX6_addByte_42 (fun H locs hZ => ?_)
      refine lv_aload_n S.1 S.2.1 dX6_addByte_45 rfl (lv_at hl 0 rfl) ?_
      refine cd_get6 (v := .int (cd_g h6 q 0)) S hK hZ hq 0 cd_f_X6_28 rfl dX6_addByte_46 ?_
      exact hret _ _ _ _ _ _ (Option.some.inj E) hZ dX6_addByte_49
    · have E := cd_fE c3 E
      refine lv_bipush (v := (-4)) S.1 S.2.1 dX6_addByte_22 (by decide) ?_
      exact hret _ _ _ _ _ _ (Option.some.inj E) hZ dX6_addByte_24
  · have E := cd_tE c2 E
    refine lv_bipush (v := (-2)) S.1 S.2.1 dX6_addByte_10 (by decide) ?_
    exact hret _ _ _ _ _ _ (Option.some.inj E) hZ dX6_addByte_12
abbrev rm_X6_letterAt : Room := { frames := 1, cells := 0, slots := 0, locals := 22 }
theorem cd_v_X6_letterAt : cd_V yX6_letterAt cX6_letterAt 2 (some .int) 1 := ⟨cd_i_X6_letterAt, cd_e_X6_X6_letterAt, cd_n_X6, cd_c_X6_letterAt, by decide +kernel⟩
set_option maxHeartbeats 4000000 in
set_option maxRecDepth 100000 in
theorem c_X6_letterAt (l : Launch) (G : cd_G) (q : Nat) (a1 : Int32) (hq : cd_is 6 q) (h : cd_Hp) (out : Int32) (E : f_X6_letterAt q a1 h = some out) : cd_Mi l G yX6_letterAt (Cond.code yX6_letterAt cX6_letterAt 2 (some .int) :: cd_T) rm_X6_letterAt [.ref (G.2.2.2.2 + q), .int a1] h (out, h) := by
  refine cd_ini (by decide) (Nat.le_of_ble_eq_true rfl) ?_
  intro p e s m args below meth c Q ls H locs S hK hZ hl hret
  have hl : lv_has ls 2 [(0, .ref (G.2.2.2.2 + q)), (1, .int a1)] := hl
  unfold f_X6_letterAt at E
  refine lv_iload_n S.1 S.2.1 dX6_letterAt_0 rfl (lv_at hl 1 rfl) ?_
  refine lv_iconst (v := 0) S.1 S.2.1 dX6_letterAt_1 (by decide) ?_
  refine lv_aload_n S.1 S.2.1 dX6_letterAt_2 rfl (lv_at hl 0 rfl) ?_
  refine cd_get6 (v := .int (cd_g h q 1)) S hK hZ hq 1 cd_f_X6_32 rfl dX6_letterAt_3 ?_
  refine lv_iconst (v := 1) S.1 S.2.1 dX6_letterAt_6 (by decide) ?_
  refine lv_isub S.1 S.2.1 dX6_letterAt_7 ?_
  refine cd_cNz (As := [.int a1, .int 0, .int ((cd_g h q 1) - 1)]) S hK hZ hl.1 (c_X7_isWithin l G a1 0 ((cd_g h q 1) - 1) h _ rfl) cd_v_X7_isWithin (cd_nX6_24 hK.2) ⟨Nat.le_of_ble_eq_true rfl, Nat.le_of_ble_eq_true rfl⟩ ⟨rfl, rfl⟩ rfl rfl (Nat.le_of_ble_eq_true rfl) ⟨Nat.zero_le _, Nat.zero_le _⟩ dX6_letterAt_8 (fun H locs hZ b1 => ?_)
  refine lv_if_eq (tgt := 23) S.1 S.2.1 dX6_letterAt_11 (by decide) (fun c2 => ?_) (fun c2 => ?_)
  · have E := cd_tE c2 E
    refine lv_iconst (v := 0) S.1 S.2.1 dX6_letterAt_23 (by decide) ?_
    exact hret _ _ _ _ _ _ (congrArg (fun z => (z, h)) (Option.some.inj E)) hZ dX6_letterAt_24
  · have E := cd_fE c2 E
    refine lv_aload_n S.1 S.2.1 dX6_letterAt_14 rfl (lv_at hl 0 rfl) ?_
    refine cd_get6 (v := .ref (G.2.2.2.2 + (q + 2))) S hK hZ hq 3 cd_f_X6_15 rfl dX6_letterAt_15 ?_
    refine lv_iload_n S.1 S.2.1 dX6_letterAt_18 rfl (lv_at hl 1 rfl) ?_
    obtain ⟨z3, E⟩ := cd_ckE E
    refine cd_iald S hK hZ (cd_r6_3 hq) z3 dX6_letterAt_19 ?_
    refine lv_goto (tgt := 24) S.1 S.2.1 dX6_letterAt_20 (by decide) ?_
    exact hret _ _ _ _ _ _ (congrArg (fun z => (z, h)) (Option.some.inj E)) hZ dX6_letterAt_24
abbrev rm_X6_numbersOf : Room := { frames := 1, cells := 0, slots := 0, locals := 22 }
theorem cd_v_X6_numbersOf : cd_V yX6_numbersOf cX6_numbersOf 2 (some .int) 1 := ⟨cd_i_X6_numbersOf, cd_e_X6_X6_numbersOf, cd_n_X6, cd_c_X6_numbersOf, by decide +kernel⟩
set_option maxHeartbeats 4000000 in
set_option maxRecDepth 100000 in
theorem c_X6_numbersOf (l : Launch) (G : cd_G) (q : Nat) (a1 : Int32) (hq : cd_is 6 q) (h : cd_Hp) (out : Int32) (E : f_X6_numbersOf q a1 h = some out) : cd_Mi l G yX6_numbersOf (Cond.code yX6_numbersOf cX6_numbersOf 2 (some .int) :: cd_T) rm_X6_numbersOf [.ref (G.2.2.2.2 + q), .int a1] h (out, h) := by
  refine cd_ini (by decide) (Nat.le_of_ble_eq_true rfl) ?_
  intro p e s m args below meth c Q ls H locs S hK hZ hl hret
  have hl : lv_has ls 2 [(0, .ref (G.2.2.2.2 + q)), (1, .int a1)] := hl
  unfold f_X6_numbersOf at E
  refine lv_iload_n S.1 S.2.1 dX6_numbersOf_0 rfl (lv_at hl 1 rfl) ?_
  refine lv_iconst (v := 0) S.1 S.2.1 dX6_numbersOf_1 (by decide) ?_
  refine lv_aload_n S.1 S.2.1 dX6_numbersOf_2 rfl (lv_at hl 0 rfl) ?_
  refine cd_get6 (v := .int (cd_g h q 1)) S hK hZ hq 1 cd_f_X6_32 rfl dX6_numbersOf_3 ?_
  refine lv_iconst (v := 1) S.1 S.2.1 dX6_numbersOf_6 (by decide) ?_
  refine lv_isub S.1 S.2.1 dX6_numbersOf_7 ?_
  refine cd_cNz (As := [.int a1, .int 0, .int ((cd_g h q 1) - 1)]) S hK hZ hl.1 (c_X7_isWithin l G a1 0 ((cd_g h q 1) - 1) h _ rfl) cd_v_X7_isWithin (cd_nX6_24 hK.2) ⟨Nat.le_of_ble_eq_true rfl, Nat.le_of_ble_eq_true rfl⟩ ⟨rfl, rfl⟩ rfl rfl (Nat.le_of_ble_eq_true rfl) ⟨Nat.zero_le _, Nat.zero_le _⟩ dX6_numbersOf_8 (fun H locs hZ b1 => ?_)
  refine lv_if_eq (tgt := 23) S.1 S.2.1 dX6_numbersOf_11 (by decide) (fun c2 => ?_) (fun c2 => ?_)
  · have E := cd_tE c2 E
    refine lv_iconst (v := 0) S.1 S.2.1 dX6_numbersOf_23 (by decide) ?_
    exact hret _ _ _ _ _ _ (congrArg (fun z => (z, h)) (Option.some.inj E)) hZ dX6_numbersOf_24
  · have E := cd_fE c2 E
    refine lv_aload_n S.1 S.2.1 dX6_numbersOf_14 rfl (lv_at hl 0 rfl) ?_
    refine cd_get6 (v := .ref (G.2.2.2.2 + (q + 3))) S hK hZ hq 4 cd_f_X6_18 rfl dX6_numbersOf_15 ?_
    refine lv_iload_n S.1 S.2.1 dX6_numbersOf_18 rfl (lv_at hl 1 rfl) ?_
    obtain ⟨z3, E⟩ := cd_ckE E
    refine cd_iald S hK hZ (cd_r6_4 hq) z3 dX6_numbersOf_19 ?_
    refine lv_goto (tgt := 24) S.1 S.2.1 dX6_numbersOf_20 (by decide) ?_
    exact hret _ _ _ _ _ _ (congrArg (fun z => (z, h)) (Option.some.inj E)) hZ dX6_numbersOf_24
abbrev rm_X6_numberAt : Room := { frames := 2, cells := 0, slots := 0, locals := 43 }
theorem cd_v_X6_numberAt : cd_V yX6_numberAt cX6_numberAt 3 (some .int) 2 := ⟨cd_i_X6_numberAt, cd_e_X6_X6_numberAt, cd_n_X6, cd_c_X6_numberAt, by decide +kernel⟩
set_option maxHeartbeats 4000000 in
set_option maxRecDepth 100000 in
theorem c_X6_numberAt (l : Launch) (G : cd_G) (q : Nat) (a1 : Int32) (a2 : Int32) (hq : cd_is 6 q) (h : cd_Hp) (out : Int32) (E : f_X6_numberAt q a1 a2 h = some out) : cd_Mi l G yX6_numberAt (Cond.code yX6_numberAt cX6_numberAt 3 (some .int) :: cd_T) rm_X6_numberAt [.ref (G.2.2.2.2 + q), .int a1, .int a2] h (out, h) := by
  refine cd_ini (by decide) (Nat.le_of_ble_eq_true rfl) ?_
  intro p e s m args below meth c Q ls H locs S hK hZ hl hret
  have hl : lv_has ls 3 [(0, .ref (G.2.2.2.2 + q)), (1, .int a1), (2, .int a2)] := hl
  unfold f_X6_numberAt at E
  refine lv_iload_n S.1 S.2.1 dX6_numberAt_0 rfl (lv_at hl 2 rfl) ?_
  refine lv_iconst (v := 0) S.1 S.2.1 dX6_numberAt_1 (by decide) ?_
  refine lv_aload_n S.1 S.2.1 dX6_numberAt_2 rfl (lv_at hl 0 rfl) ?_
  refine lv_iload_n S.1 S.2.1 dX6_numberAt_3 rfl (lv_at hl 1 rfl) ?_
  obtain ⟨o1, E1, E⟩ := cd_bE E
  refine cd_cVi (As := [.int a1]) S hK hZ hl.1 (c_X6_numbersOf l G q a1 hq h o1 E1) cd_v_X6_numbersOf cd_m_X6_35 ⟨Nat.le_of_ble_eq_true rfl, Nat.le_of_ble_eq_true rfl⟩ ⟨rfl, rfl⟩ (ci := 6) (by decide) rfl hq rfl rfl (Nat.le_of_ble_eq_true rfl) ⟨Nat.zero_le _, Nat.zero_le _⟩ dX6_numberAt_4 (fun H locs hZ => ?_)
  refine lv_iconst (v := 1) S.1 S.2.1 dX6_numberAt_7 (by decide) ?_
  refine lv_isub S.1 S.2.1 dX6_numberAt_8 ?_
  refine cd_cNz (As := [.int a2, .int 0, .int (o1 - 1)]) S hK hZ hl.1 (c_X7_isWithin l G a2 0 (o1 - 1) h _ rfl) cd_v_X7_isWithin (cd_nX6_24 hK.2) ⟨Nat.le_of_ble_eq_true rfl, Nat.le_of_ble_eq_true rfl⟩ ⟨rfl, rfl⟩ rfl rfl (Nat.le_of_ble_eq_true rfl) ⟨Nat.zero_le _, Nat.zero_le _⟩ dX6_numberAt_9 (fun H locs hZ b3 => ?_)
  refine lv_if_eq (tgt := 29) S.1 S.2.1 dX6_numberAt_12 (by decide) (fun c4 => ?_) (fun c4 => ?_)
  · have E := cd_tE c4 E
    refine lv_iconst (v := (-1)) S.1 S.2.1 dX6_numberAt_29 (by decide) ?_
    exact hret _ _ _ _ _ _ (congrArg (fun z => (z, h)) (Option.some.inj E)) hZ dX6_numberAt_30
  · have E := cd_fE c4 E
    refine lv_aload_n S.1 S.2.1 dX6_numberAt_15 rfl (lv_at hl 0 rfl) ?_
    refine cd_get6 (v := .ref (G.2.2.2.2 + (q + 4))) S hK hZ hq 5 cd_f_X6_21 rfl dX6_numberAt_16 ?_
    refine lv_iload_n S.1 S.2.1 dX6_numberAt_19 rfl (lv_at hl 1 rfl) ?_
    refine lv_bipush (v := 8) S.1 S.2.1 dX6_numberAt_20 (by decide) ?_
    refine lv_imul S.1 S.2.1 dX6_numberAt_22 ?_
    refine lv_iload_n S.1 S.2.1 dX6_numberAt_23 rfl (lv_at hl 2 rfl) ?_
    refine lv_iadd S.1 S.2.1 dX6_numberAt_24 ?_
    obtain ⟨z5, E⟩ := cd_ckE E
    refine cd_iald S hK hZ (cd_r6_5 hq) z5 dX6_numberAt_25 ?_
    refine lv_goto (tgt := 30) S.1 S.2.1 dX6_numberAt_26 (by decide) ?_
    exact hret _ _ _ _ _ _ (congrArg (fun z => (z, h)) (Option.some.inj E)) hZ dX6_numberAt_30
abbrev rm_X6_mostNumbers : Room := { frames := 0, cells := 0, slots := 0, locals := 0 }
theorem cd_v_X6_mostNumbers : cd_Vs yX6_mostNumbers cX6_mostNumbers 1 (some .int) 1 := ⟨cd_s_X6_mostNumbers, cd_n_X6, cd_c_X6_mostNumbers, by decide +kernel⟩
set_option maxHeartbeats 4000000 in
set_option maxRecDepth 100000 in
theorem c_X6_mostNumbers (l : Launch) (G : cd_G) (a0 : Int32) (h : cd_Hp) (out : Int32) (E : f_X6_mostNumbers a0 = out) : cd_Mi l G yX6_mostNumbers (Cond.code yX6_mostNumbers cX6_mostNumbers 1 (some .int) :: cd_T) rm_X6_mostNumbers [.int a0] h (out, h) := by
  refine cd_ini (by decide) (Nat.le_of_ble_eq_true rfl) ?_
  intro p e s m args below meth c Q ls H locs S hK hZ hl hret
  have hl : lv_has ls 1 [(0, .int a0)] := hl
  unfold f_X6_mostNumbers at E
  refine lv_iload_n S.1 S.2.1 dX6_mostNumbers_0 rfl (lv_at hl 0 rfl) ?_
  refine cd_by (p := a0 = 99) (fun c1 => ?_) (fun c1 => ?_)
  · have E := cd_tE c1 E
    refine lv_lookup (off := 55) (tgt := 56) S.1 S.2.1 dX6_mostNumbers_1 (by decide) (by rw [c1]; first | done | rfl) (by decide) ?_
    refine lv_iconst (v := 3) S.1 S.2.1 dX6_mostNumbers_56 (by decide) ?_
    exact hret _ _ _ _ _ _ (congrArg (fun z => (z, h)) (E)) hZ dX6_mostNumbers_57
  · have E := cd_fE c1 E
    refine cd_by (p := a0 = 102) (fun c2 => ?_) (fun c2 => ?_)
    · have E := cd_tE c2 E
      refine lv_lookup (off := 51) (tgt := 52) S.1 S.2.1 dX6_mostNumbers_1 (by decide) (by rw [c2]; first | done | rfl) (by decide) ?_
      refine lv_iconst (v := 1) S.1 S.2.1 dX6_mostNumbers_52 (by decide) ?_
      exact hret _ _ _ _ _ _ (congrArg (fun z => (z, h)) (E)) hZ dX6_mostNumbers_53
    · have E := cd_fE c2 E
      refine cd_by (p := a0 = 103) (fun c3 => ?_) (fun c3 => ?_)
      · have E := cd_tE c3 E
        refine lv_lookup (off := 57) (tgt := 58) S.1 S.2.1 dX6_mostNumbers_1 (by decide) (by rw [c3]; first | done | rfl) (by decide) ?_
        refine lv_bipush (v := 8) S.1 S.2.1 dX6_mostNumbers_58 (by decide) ?_
        exact hret _ _ _ _ _ _ (congrArg (fun z => (z, h)) (E)) hZ dX6_mostNumbers_60
      · have E := cd_fE c3 E
        refine cd_by (p := a0 = 109) (fun c4 => ?_) (fun c4 => ?_)
        · have E := cd_tE c4 E
          refine lv_lookup (off := 53) (tgt := 54) S.1 S.2.1 dX6_mostNumbers_1 (by decide) (by rw [c4]; first | done | rfl) (by decide) ?_
          refine lv_iconst (v := 2) S.1 S.2.1 dX6_mostNumbers_54 (by decide) ?_
          exact hret _ _ _ _ _ _ (congrArg (fun z => (z, h)) (E)) hZ dX6_mostNumbers_55
        · have E := cd_fE c4 E
          refine cd_by (p := a0 = 114) (fun c5 => ?_) (fun c5 => ?_)
          · have E := cd_tE c5 E
            refine lv_lookup (off := 53) (tgt := 54) S.1 S.2.1 dX6_mostNumbers_1 (by decide) (by rw [c5]; first | done | rfl) (by decide) ?_
            refine lv_iconst (v := 2) S.1 S.2.1 dX6_mostNumbers_54 (by decide) ?_
            exact hret _ _ _ _ _ _ (congrArg (fun z => (z, h)) (E)) hZ dX6_mostNumbers_55
          · have E := cd_fE c5 E
            refine lv_lookup (off := 60) (tgt := 61) S.1 S.2.1 dX6_mostNumbers_1 (by decide) (by show Op.lookupswitch.offset _ _ _ = _; rw [lv_osw c1 (by decide)]; rw [lv_osw c2 (by decide)]; rw [lv_osw c3 (by decide)]; rw [lv_osw c4 (by decide)]; rw [lv_osw c5 (by decide)]; first | done | rfl) (by decide) ?_
            refine lv_iconst (v := 0) S.1 S.2.1 dX6_mostNumbers_61 (by decide) ?_
            exact hret _ _ _ _ _ _ (congrArg (fun z => (z, h)) (E)) hZ dX6_mostNumbers_62
abbrev rm_X6_readLetter : Room := { frames := 1, cells := 0, slots := 0, locals := 20 }
theorem cd_v_X6_readLetter : cd_V yX6_readLetter cX6_readLetter 2 (some .boolean) 1 := ⟨cd_i_X6_readLetter, cd_e_X6_X6_readLetter, cd_n_X6, cd_c_X6_readLetter, by decide +kernel⟩
set_option maxHeartbeats 4000000 in
set_option maxRecDepth 100000 in
theorem c_X6_readLetter (l : Launch) (G : cd_G) (q : Nat) (a1 : Int32) (hq : cd_is 6 q) (h : cd_Hp) (out : (Int32 × cd_Hp)) (E : f_X6_readLetter q a1 h = some out) : cd_Mz l G yX6_readLetter (Cond.code yX6_readLetter cX6_readLetter 2 (some .boolean) :: cd_T) rm_X6_readLetter [.ref (G.2.2.2.2 + q), .int a1] h out := by
  refine cd_inz (by decide) (Nat.le_of_ble_eq_true rfl) ?_
  intro p e s m args below meth c Q ls H locs S hK hZ hl hret
  have hl : lv_has ls 2 [(0, .ref (G.2.2.2.2 + q)), (1, .int a1)] := hl
  unfold f_X6_readLetter at E
  refine lv_iload_n S.1 S.2.1 dX6_readLetter_0 rfl (lv_at hl 1 rfl) ?_
  refine cd_cSi (As := [.int a1]) S hK hZ hl.1 (c_X6_mostNumbers l G a1 h _ rfl) cd_v_X6_mostNumbers cd_m_X6_59 ⟨Nat.le_of_ble_eq_true rfl, Nat.le_of_ble_eq_true rfl⟩ ⟨rfl, rfl⟩ rfl rfl (Nat.le_of_ble_eq_true rfl) ⟨Nat.zero_le _, Nat.zero_le _⟩ dX6_readLetter_1 (fun H locs hZ => ?_)
  refine lv_if_eq (tgt := 16) S.1 S.2.1 dX6_readLetter_4 (by decide) (fun c2 => ?_) (fun c2 => ?_)
  · have E := cd_tE c2 E
    refine lv_iconst (v := 0) S.1 S.2.1 dX6_readLetter_16 (by decide) ?_
    exact hret _ _ _ _ _ _ (by decide) (Option.some.inj E) hZ dX6_readLetter_17
  · have E := cd_fE c2 E
    refine lv_aload_n S.1 S.2.1 dX6_readLetter_7 rfl (lv_at hl 0 rfl) ?_
    refine cd_get6 (v := .int (cd_g h q 1)) S hK hZ hq 1 cd_f_X6_32 rfl dX6_readLetter_8 ?_
    refine lv_bipush (v := 40) S.1 S.2.1 dX6_readLetter_11 (by decide) ?_
    refine lv_icmp_lt (tgt := 18) S.1 S.2.1 dX6_readLetter_13 (by decide) (fun c3 => ?_) (fun c3 => ?_)
    · have E := cd_tE c3 E
      refine lv_aload_n S.1 S.2.1 dX6_readLetter_18 rfl (lv_at hl 0 rfl) ?_
      refine lv_iload_n S.1 S.2.1 dX6_readLetter_19 rfl (lv_at hl 1 rfl) ?_
      obtain ⟨h4, eh4, E⟩ := cd_nmE E
      refine cd_put6_6 S hK hZ hq cd_f_X6_39 eh4 dX6_readLetter_20 (fun H locs hZ => ?_)
      refine lv_aload_n S.1 S.2.1 dX6_readLetter_23 rfl (lv_at hl 0 rfl) ?_
      refine cd_get6 (v := .ref (G.2.2.2.2 + (q + 2))) S hK hZ hq 3 cd_f_X6_15 rfl dX6_readLetter_24 ?_
      refine lv_aload_n S.1 S.2.1 dX6_readLetter_27 rfl (lv_at hl 0 rfl) ?_
      refine cd_get6 (v := .int (cd_g h4 q 1)) S hK hZ hq 1 cd_f_X6_32 rfl dX6_readLetter_28 ?_
      refine lv_iload_n S.1 S.2.1 dX6_readLetter_31 rfl (lv_at hl 1 rfl) ?_
      obtain ⟨z5, E⟩ := cd_ckE E
      obtain ⟨h6, eh6, E⟩ := cd_nmE E
      refine cd_iast S hK hZ (cd_r6_3 hq) z5 eh6 dX6_readLetter_32 (fun H locs hZ => ?_)
      refine lv_aload_n S.1 S.2.1 dX6_readLetter_33 rfl (lv_at hl 0 rfl) ?_
      refine cd_get6 (v := .ref (G.2.2.2.2 + (q + 3))) S hK hZ hq 4 cd_f_X6_18 rfl dX6_readLetter_34 ?_
      refine lv_aload_n S.1 S.2.1 dX6_readLetter_37 rfl (lv_at hl 0 rfl) ?_
      refine cd_get6 (v := .int (cd_g h6 q 1)) S hK hZ hq 1 cd_f_X6_32 rfl dX6_readLetter_38 ?_
      refine lv_iconst (v := 0) S.1 S.2.1 dX6_readLetter_41 (by decide) ?_
      obtain ⟨z7, E⟩ := cd_ckE E
      obtain ⟨h8, eh8, E⟩ := cd_nmE E
      refine cd_iast S hK hZ (cd_r6_4 hq) z7 eh8 dX6_readLetter_42 (fun H locs hZ => ?_)
      refine lv_iconst (v := 1) S.1 S.2.1 dX6_readLetter_43 (by decide) ?_
      exact hret _ _ _ _ _ _ (by decide) (Option.some.inj E) hZ dX6_readLetter_44
    · have E := cd_fE c3 E
      refine lv_iconst (v := 0) S.1 S.2.1 dX6_readLetter_16 (by decide) ?_
      exact hret _ _ _ _ _ _ (by decide) (Option.some.inj E) hZ dX6_readLetter_17
abbrev rm_X6_readFirstFigure : Room := { frames := 1, cells := 0, slots := 0, locals := 20 }
theorem cd_v_X6_readFirstFigure : cd_V yX6_readFirstFigure cX6_readFirstFigure 2 (some .boolean) 1 := ⟨cd_i_X6_readFirstFigure, cd_e_X6_X6_readFirstFigure, cd_n_X6, cd_c_X6_readFirstFigure, by decide +kernel⟩
set_option maxHeartbeats 4000000 in
set_option maxRecDepth 100000 in
theorem c_X6_readFirstFigure (l : Launch) (G : cd_G) (q : Nat) (a1 : Int32) (hq : cd_is 6 q) (h : cd_Hp) (out : (Int32 × cd_Hp)) (E : f_X6_readFirstFigure q a1 h = some out) : cd_Mz l G yX6_readFirstFigure (Cond.code yX6_readFirstFigure cX6_readFirstFigure 2 (some .boolean) :: cd_T) rm_X6_readFirstFigure [.ref (G.2.2.2.2 + q), .int a1] h out := by
  refine cd_inz (by decide) (Nat.le_of_ble_eq_true rfl) ?_
  intro p e s m args below meth c Q ls H locs S hK hZ hl hret
  have hl : lv_has ls 2 [(0, .ref (G.2.2.2.2 + q)), (1, .int a1)] := hl
  unfold f_X6_readFirstFigure at E
  refine lv_aload_n S.1 S.2.1 dX6_readFirstFigure_0 rfl (lv_at hl 0 rfl) ?_
  refine cd_get6 (v := .ref (G.2.2.2.2 + (q + 3))) S hK hZ hq 4 cd_f_X6_18 rfl dX6_readFirstFigure_1 ?_
  refine lv_aload_n S.1 S.2.1 dX6_readFirstFigure_4 rfl (lv_at hl 0 rfl) ?_
  refine cd_get6 (v := .int (cd_g h q 1)) S hK hZ hq 1 cd_f_X6_32 rfl dX6_readFirstFigure_5 ?_
  obtain ⟨z1, E⟩ := cd_ckE E
  refine cd_iald S hK hZ (cd_r6_4 hq) z1 dX6_readFirstFigure_8 ?_
  refine lv_aload_n S.1 S.2.1 dX6_readFirstFigure_9 rfl (lv_at hl 0 rfl) ?_
  refine cd_get6 (v := .int (cd_g h q 6)) S hK hZ hq 6 cd_f_X6_39 rfl dX6_readFirstFigure_10 ?_
  refine cd_cSi (As := [.int (cd_g h q 6)]) S hK hZ hl.1 (c_X6_mostNumbers l G (cd_g h q 6) h _ rfl) cd_v_X6_mostNumbers cd_m_X6_59 ⟨Nat.le_of_ble_eq_true rfl, Nat.le_of_ble_eq_true rfl⟩ ⟨rfl, rfl⟩ rfl rfl (Nat.le_of_ble_eq_true rfl) ⟨Nat.zero_le _, Nat.zero_le _⟩ dX6_readFirstFigure_13 (fun H locs hZ => ?_)
  refine lv_icmp_lt (tgt := 21) S.1 S.2.1 dX6_readFirstFigure_16 (by decide) (fun c3 => ?_) (fun c3 => ?_)
  · have E := cd_tE c3 E
    refine lv_aload_n S.1 S.2.1 dX6_readFirstFigure_21 rfl (lv_at hl 0 rfl) ?_
    refine cd_get6 (v := .ref (G.2.2.2.2 + (q + 4))) S hK hZ hq 5 cd_f_X6_21 rfl dX6_readFirstFigure_22 ?_
    refine lv_aload_n S.1 S.2.1 dX6_readFirstFigure_25 rfl (lv_at hl 0 rfl) ?_
    refine cd_get6 (v := .int (cd_g h q 1)) S hK hZ hq 1 cd_f_X6_32 rfl dX6_readFirstFigure_26 ?_
    refine lv_bipush (v := 8) S.1 S.2.1 dX6_readFirstFigure_29 (by decide) ?_
    refine lv_imul S.1 S.2.1 dX6_readFirstFigure_31 ?_
    refine lv_aload_n S.1 S.2.1 dX6_readFirstFigure_32 rfl (lv_at hl 0 rfl) ?_
    refine cd_get6 (v := .ref (G.2.2.2.2 + (q + 3))) S hK hZ hq 4 cd_f_X6_18 rfl dX6_readFirstFigure_33 ?_
    refine lv_aload_n S.1 S.2.1 dX6_readFirstFigure_36 rfl (lv_at hl 0 rfl) ?_
    refine cd_get6 (v := .int (cd_g h q 1)) S hK hZ hq 1 cd_f_X6_32 rfl dX6_readFirstFigure_37 ?_
    obtain ⟨z4, E⟩ := cd_ckE E
    refine cd_iald S hK hZ (cd_r6_4 hq) z4 dX6_readFirstFigure_40 ?_
    refine lv_iadd S.1 S.2.1 dX6_readFirstFigure_41 ?_
    refine lv_iload_n S.1 S.2.1 dX6_readFirstFigure_42 rfl (lv_at hl 1 rfl) ?_
    obtain ⟨z5, E⟩ := cd_ckE E
    obtain ⟨h6, eh6, E⟩ := cd_nmE E
    refine cd_iast S hK hZ (cd_r6_5 hq) z5 eh6 dX6_readFirstFigure_43 (fun H locs hZ => ?_)
    refine lv_aload_n S.1 S.2.1 dX6_readFirstFigure_44 rfl (lv_at hl 0 rfl) ?_
    refine cd_get6 (v := .ref (G.2.2.2.2 + (q + 3))) S hK hZ hq 4 cd_f_X6_18 rfl dX6_readFirstFigure_45 ?_
    refine lv_aload_n S.1 S.2.1 dX6_readFirstFigure_48 rfl (lv_at hl 0 rfl) ?_
    refine cd_get6 (v := .int (cd_g h6 q 1)) S hK hZ hq 1 cd_f_X6_32 rfl dX6_readFirstFigure_49 ?_
    refine lv_dup2_11 S.1 S.2.1 dX6_readFirstFigure_52 rfl rfl ?_
    obtain ⟨z7, E⟩ := cd_ckE E
    refine cd_iald S hK hZ (cd_r6_4 hq) z7 dX6_readFirstFigure_53 ?_
    refine lv_iconst (v := 1) S.1 S.2.1 dX6_readFirstFigure_54 (by decide) ?_
    refine lv_iadd S.1 S.2.1 dX6_readFirstFigure_55 ?_
    obtain ⟨z8, E⟩ := cd_ckE E
    obtain ⟨h9, eh9, E⟩ := cd_nmE E
    refine cd_iast S hK hZ (cd_r6_4 hq) z8 eh9 dX6_readFirstFigure_56 (fun H locs hZ => ?_)
    refine lv_aload_n S.1 S.2.1 dX6_readFirstFigure_57 rfl (lv_at hl 0 rfl) ?_
    refine lv_iconst (v := 1) S.1 S.2.1 dX6_readFirstFigure_58 (by decide) ?_
    obtain ⟨h10, eh10, E⟩ := cd_nmE E
    refine cd_put6_7 S hK hZ hq cd_f_X6_42 eh10 dX6_readFirstFigure_59 (fun H locs hZ => ?_)
    refine lv_iconst (v := 1) S.1 S.2.1 dX6_readFirstFigure_62 (by decide) ?_
    exact hret _ _ _ _ _ _ (by decide) (Option.some.inj E) hZ dX6_readFirstFigure_63
  · have E := cd_fE c3 E
    refine lv_iconst (v := 0) S.1 S.2.1 dX6_readFirstFigure_19 (by decide) ?_
    exact hret _ _ _ _ _ _ (by decide) (Option.some.inj E) hZ dX6_readFirstFigure_20
abbrev rm_X6_readFigure : Room := { frames := 2, cells := 0, slots := 0, locals := 41 }
theorem cd_v_X6_readFigure : cd_V yX6_readFigure cX6_readFigure 3 (some .boolean) 1 := ⟨cd_i_X6_readFigure, cd_e_X6_X6_readFigure, cd_n_X6, cd_c_X6_readFigure, by decide +kernel⟩
set_option maxHeartbeats 4000000 in
set_option maxRecDepth 100000 in
theorem c_X6_readFigure (l : Launch) (G : cd_G) (q : Nat) (a1 : Int32) (hq : cd_is 6 q) (h : cd_Hp) (out : (Int32 × cd_Hp)) (E : f_X6_readFigure q a1 h = some out) : cd_Mz l G yX6_readFigure (Cond.code yX6_readFigure cX6_readFigure 3 (some .boolean) :: cd_T) rm_X6_readFigure [.ref (G.2.2.2.2 + q), .int a1] h out := by
  refine cd_inz (by decide) (Nat.le_of_ble_eq_true rfl) ?_
  intro p e s m args below meth c Q ls H locs S hK hZ hl hret
  have hl : lv_has ls 3 [(0, .ref (G.2.2.2.2 + q)), (1, .int a1)] := hl
  unfold f_X6_readFigure at E
  refine lv_aload_n S.1 S.2.1 dX6_readFigure_0 rfl (lv_at hl 0 rfl) ?_
  refine cd_get6 (v := .int (cd_g h q 7)) S hK hZ hq 7 cd_f_X6_42 rfl dX6_readFigure_1 ?_
  refine lv_if_ne (tgt := 13) S.1 S.2.1 dX6_readFigure_4 (by decide) (fun c1 => ?_) (fun c1 => ?_)
  · have E := cd_fE c1 E
    refine lv_aload_n S.1 S.2.1 dX6_readFigure_13 rfl (lv_at hl 0 rfl) ?_
    refine cd_get6 (v := .int (cd_g h q 7)) S hK hZ hq 7 cd_f_X6_42 rfl dX6_readFigure_14 ?_
    refine lv_iconst (v := 3) S.1 S.2.1 dX6_readFigure_17 (by decide) ?_
    refine lv_icmp_lt (tgt := 23) S.1 S.2.1 dX6_readFigure_18 (by decide) (fun c2 => ?_) (fun c2 => ?_)
    · have E := cd_tE c2 E
      refine lv_aload_n S.1 S.2.1 dX6_readFigure_23 rfl (lv_at hl 0 rfl) ?_
      refine cd_get6 (v := .int (cd_g h q 1)) S hK hZ hq 1 cd_f_X6_32 rfl dX6_readFigure_24 ?_
      refine lv_bipush (v := 8) S.1 S.2.1 dX6_readFigure_27 (by decide) ?_
      refine lv_imul S.1 S.2.1 dX6_readFigure_29 ?_
      refine lv_aload_n S.1 S.2.1 dX6_readFigure_30 rfl (lv_at hl 0 rfl) ?_
      refine cd_get6 (v := .ref (G.2.2.2.2 + (q + 3))) S hK hZ hq 4 cd_f_X6_18 rfl dX6_readFigure_31 ?_
      refine lv_aload_n S.1 S.2.1 dX6_readFigure_34 rfl (lv_at hl 0 rfl) ?_
      refine cd_get6 (v := .int (cd_g h q 1)) S hK hZ hq 1 cd_f_X6_32 rfl dX6_readFigure_35 ?_
      obtain ⟨z3, E⟩ := cd_ckE E
      refine cd_iald S hK hZ (cd_r6_4 hq) z3 dX6_readFigure_38 ?_
      refine lv_iadd S.1 S.2.1 dX6_readFigure_39 ?_
      refine lv_iconst (v := 1) S.1 S.2.1 dX6_readFigure_40 (by decide) ?_
      refine lv_isub S.1 S.2.1 dX6_readFigure_41 ?_
      obtain ⟨x4, ex4, E⟩ := cd_nmE E
      refine cd_topi ex4 ?_
      refine lv_istore_n (lv' := [(2, .int x4), (0, .ref (G.2.2.2.2 + q)), (1, .int a1)]) S.1 S.2.1 dX6_readFigure_42 rfl hl (by decide) rfl (fun ls hl => ?_)
      refine lv_aload_n S.1 S.2.1 dX6_readFigure_43 rfl (lv_at hl 1 rfl) ?_
      refine cd_get6 (v := .ref (G.2.2.2.2 + (q + 4))) S hK hZ hq 5 cd_f_X6_21 rfl dX6_readFigure_44 ?_
      refine lv_iload_n S.1 S.2.1 dX6_readFigure_47 rfl (lv_at hl 0 rfl) ?_
      refine lv_bipush (v := 10) S.1 S.2.1 dX6_readFigure_48 (by decide) ?_
      refine lv_aload_n S.1 S.2.1 dX6_readFigure_50 rfl (lv_at hl 1 rfl) ?_
      refine cd_get6 (v := .ref (G.2.2.2.2 + (q + 4))) S hK hZ hq 5 cd_f_X6_21 rfl dX6_readFigure_51 ?_
      refine lv_iload_n S.1 S.2.1 dX6_readFigure_54 rfl (lv_at hl 0 rfl) ?_
      obtain ⟨z5, E⟩ := cd_ckE E
      refine cd_iald S hK hZ (cd_r6_5 hq) z5 dX6_readFigure_55 ?_
      refine lv_imul S.1 S.2.1 dX6_readFigure_56 ?_
      refine lv_iload_n S.1 S.2.1 dX6_readFigure_57 rfl (lv_at hl 2 rfl) ?_
      refine lv_iadd S.1 S.2.1 dX6_readFigure_58 ?_
      obtain ⟨z6, E⟩ := cd_ckE E
      obtain ⟨h7, eh7, E⟩ := cd_nmE E
      refine cd_iast S hK hZ (cd_r6_5 hq) z6 eh7 dX6_readFigure_59 (fun H locs hZ => ?_)
      refine lv_aload_n S.1 S.2.1 dX6_readFigure_60 rfl (lv_at hl 1 rfl) ?_
      refine lv_dup S.1 S.2.1 dX6_readFigure_61 rfl ?_
      refine cd_get6 (v := .int (cd_g h7 q 7)) S hK hZ hq 7 cd_f_X6_42 rfl dX6_readFigure_62 ?_
      refine lv_iconst (v := 1) S.1 S.2.1 dX6_readFigure_65 (by decide) ?_
      refine lv_iadd S.1 S.2.1 dX6_readFigure_66 ?_
      obtain ⟨h8, eh8, E⟩ := cd_nmE E
      refine cd_put6_7 S hK hZ hq cd_f_X6_42 eh8 dX6_readFigure_67 (fun H locs hZ => ?_)
      refine lv_iconst (v := 1) S.1 S.2.1 dX6_readFigure_70 (by decide) ?_
      exact hret _ _ _ _ _ _ (by decide) (Option.some.inj E) hZ dX6_readFigure_71
    · have E := cd_fE c2 E
      refine lv_iconst (v := 0) S.1 S.2.1 dX6_readFigure_21 (by decide) ?_
      exact hret _ _ _ _ _ _ (by decide) (Option.some.inj E) hZ dX6_readFigure_22
  · have E := cd_tE c1 E
    refine lv_aload_n S.1 S.2.1 dX6_readFigure_7 rfl (lv_at hl 0 rfl) ?_
    refine lv_iload_n S.1 S.2.1 dX6_readFigure_8 rfl (lv_at hl 1 rfl) ?_
    obtain ⟨o9, E1, E⟩ := cd_bE E
    refine cd_cVz (As := [.int a1]) S hK hZ hl.1 (c_X6_readFirstFigure l G q a1 hq h o9 E1) cd_v_X6_readFirstFigure cd_m_X6_62 ⟨Nat.le_of_ble_eq_true rfl, Nat.le_of_ble_eq_true rfl⟩ ⟨rfl, rfl⟩ (ci := 6) (by decide) rfl hq rfl rfl (Nat.le_of_ble_eq_true rfl) ⟨Nat.zero_le _, Nat.zero_le _⟩ dX6_readFigure_9 (fun H locs hZ b10 => ?_)
    exact hret _ _ _ _ _ _ b10 (Option.some.inj E) hZ dX6_readFigure_12
abbrev rm_X6_leastNumbers : Room := { frames := 1, cells := 0, slots := 0, locals := 20 }
theorem cd_v_X6_leastNumbers : cd_Vs yX6_leastNumbers cX6_leastNumbers 1 (some .int) 1 := ⟨cd_s_X6_leastNumbers, cd_n_X6, cd_c_X6_leastNumbers, by decide +kernel⟩
set_option maxHeartbeats 4000000 in
set_option maxRecDepth 100000 in
theorem c_X6_leastNumbers (l : Launch) (G : cd_G) (a0 : Int32) (h : cd_Hp) (out : Int32) (E : f_X6_leastNumbers a0 = out) : cd_Mi l G yX6_leastNumbers (Cond.code yX6_leastNumbers cX6_leastNumbers 1 (some .int) :: cd_T) rm_X6_leastNumbers [.int a0] h (out, h) := by
  refine cd_ini (by decide) (Nat.le_of_ble_eq_true rfl) ?_
  intro p e s m args below meth c Q ls H locs S hK hZ hl hret
  have hl : lv_has ls 1 [(0, .int a0)] := hl
  unfold f_X6_leastNumbers at E
  refine lv_iload_n S.1 S.2.1 dX6_leastNumbers_0 rfl (lv_at hl 0 rfl) ?_
  refine lv_bipush (v := 103) S.1 S.2.1 dX6_leastNumbers_1 (by decide) ?_
  refine lv_icmp_ne (tgt := 10) S.1 S.2.1 dX6_leastNumbers_3 (by decide) (fun c1 => ?_) (fun c1 => ?_)
  · have E := cd_fE c1 E
    refine lv_iload_n S.1 S.2.1 dX6_leastNumbers_10 rfl (lv_at hl 0 rfl) ?_
    refine cd_cSi (As := [.int a0]) S hK hZ hl.1 (c_X6_mostNumbers l G a0 h _ rfl) cd_v_X6_mostNumbers cd_m_X6_59 ⟨Nat.le_of_ble_eq_true rfl, Nat.le_of_ble_eq_true rfl⟩ ⟨rfl, rfl⟩ rfl rfl (Nat.le_of_ble_eq_true rfl) ⟨Nat.zero_le _, Nat.zero_le _⟩ dX6_leastNumbers_11 (fun H locs hZ => ?_)
    exact hret _ _ _ _ _ _ (congrArg (fun z => (z, h)) (E)) hZ dX6_leastNumbers_14
  · have E := cd_tE c1 E
    refine lv_iconst (v := 5) S.1 S.2.1 dX6_leastNumbers_6 (by decide) ?_
    refine lv_goto (tgt := 14) S.1 S.2.1 dX6_leastNumbers_7 (by decide) ?_
    exact hret _ _ _ _ _ _ (congrArg (fun z => (z, h)) (E)) hZ dX6_leastNumbers_14
abbrev rm_X6_readEnd : Room := { frames := 2, cells := 0, slots := 0, locals := 40 }
theorem cd_v_X6_readEnd : cd_V yX6_readEnd cX6_readEnd 1 (some .boolean) 0 := ⟨cd_i_X6_readEnd, cd_e_X6_X6_readEnd, cd_n_X6, cd_c_X6_readEnd, by decide +kernel⟩
set_option maxHeartbeats 4000000 in
set_option maxRecDepth 100000 in
theorem c_X6_readEnd (l : Launch) (G : cd_G) (q : Nat) (hq : cd_is 6 q) (h : cd_Hp) (out : (Int32 × cd_Hp)) (E : f_X6_readEnd q h = some out) : cd_Mz l G yX6_readEnd (Cond.code yX6_readEnd cX6_readEnd 1 (some .boolean) :: cd_T) rm_X6_readEnd [.ref (G.2.2.2.2 + q)] h out := by
  refine cd_inz (by decide) (Nat.le_of_ble_eq_true rfl) ?_
  intro p e s m args below meth c Q ls H locs S hK hZ hl hret
  have hl : lv_has ls 1 [(0, .ref (G.2.2.2.2 + q))] := hl
  unfold f_X6_readEnd at E
  refine lv_aload_n S.1 S.2.1 dX6_readEnd_0 rfl (lv_at hl 0 rfl) ?_
  refine cd_get6 (v := .ref (G.2.2.2.2 + (q + 3))) S hK hZ hq 4 cd_f_X6_18 rfl dX6_readEnd_1 ?_
  refine lv_aload_n S.1 S.2.1 dX6_readEnd_4 rfl (lv_at hl 0 rfl) ?_
  refine cd_get6 (v := .int (cd_g h q 1)) S hK hZ hq 1 cd_f_X6_32 rfl dX6_readEnd_5 ?_
  obtain ⟨z1, E⟩ := cd_ckE E
  refine cd_iald S hK hZ (cd_r6_4 hq) z1 dX6_readEnd_8 ?_
  refine lv_aload_n S.1 S.2.1 dX6_readEnd_9 rfl (lv_at hl 0 rfl) ?_
  refine cd_get6 (v := .int (cd_g h q 6)) S hK hZ hq 6 cd_f_X6_39 rfl dX6_readEnd_10 ?_
  refine cd_cSi (As := [.int (cd_g h q 6)]) S hK hZ hl.1 (c_X6_leastNumbers l G (cd_g h q 6) h _ rfl) cd_v_X6_leastNumbers cd_m_X6_65 ⟨Nat.le_of_ble_eq_true rfl, Nat.le_of_ble_eq_true rfl⟩ ⟨rfl, rfl⟩ rfl rfl (Nat.le_of_ble_eq_true rfl) ⟨Nat.zero_le _, Nat.zero_le _⟩ dX6_readEnd_13 (fun H locs hZ => ?_)
  refine lv_icmp_ge (tgt := 21) S.1 S.2.1 dX6_readEnd_16 (by decide) (fun c3 => ?_) (fun c3 => ?_)
  · have E := cd_tE c3 E
    refine lv_aload_n S.1 S.2.1 dX6_readEnd_21 rfl (lv_at hl 0 rfl) ?_
    refine lv_dup S.1 S.2.1 dX6_readEnd_22 rfl ?_
    refine cd_get6 (v := .int (cd_g h q 1)) S hK hZ hq 1 cd_f_X6_32 rfl dX6_readEnd_23 ?_
    refine lv_iconst (v := 1) S.1 S.2.1 dX6_readEnd_26 (by decide) ?_
    refine lv_iadd S.1 S.2.1 dX6_readEnd_27 ?_
    obtain ⟨h4, eh4, E⟩ := cd_nmE E
    refine cd_put6_1 S hK hZ hq cd_f_X6_32 eh4 dX6_readEnd_28 (fun H locs hZ => ?_)
    refine lv_aload_n S.1 S.2.1 dX6_readEnd_31 rfl (lv_at hl 0 rfl) ?_
    refine lv_iconst (v := 0) S.1 S.2.1 dX6_readEnd_32 (by decide) ?_
    obtain ⟨h5, eh5, E⟩ := cd_nmE E
    refine cd_put6_6 S hK hZ hq cd_f_X6_39 eh5 dX6_readEnd_33 (fun H locs hZ => ?_)
    refine lv_aload_n S.1 S.2.1 dX6_readEnd_36 rfl (lv_at hl 0 rfl) ?_
    refine lv_iconst (v := 0) S.1 S.2.1 dX6_readEnd_37 (by decide) ?_
    obtain ⟨h6, eh6, E⟩ := cd_nmE E
    refine cd_put6_7 S hK hZ hq cd_f_X6_42 eh6 dX6_readEnd_38 (fun H locs hZ => ?_)
    refine lv_iconst (v := 1) S.1 S.2.1 dX6_readEnd_41 (by decide) ?_
    exact hret _ _ _ _ _ _ (by decide) (Option.some.inj E) hZ dX6_readEnd_42
  · have E := cd_fE c3 E
    refine lv_iconst (v := 0) S.1 S.2.1 dX6_readEnd_19 (by decide) ?_
    exact hret _ _ _ _ _ _ (by decide) (Option.some.inj E) hZ dX6_readEnd_20
abbrev rm_X6_readByte : Room := { frames := 3, cells := 0, slots := 0, locals := 63 }
theorem cd_v_X6_readByte : cd_V yX6_readByte cX6_readByte 2 (some .boolean) 1 := ⟨cd_i_X6_readByte, cd_e_X6_X6_readByte, cd_n_X6, cd_c_X6_readByte, by decide +kernel⟩
set_option maxHeartbeats 4000000 in
set_option maxRecDepth 100000 in
theorem c_X6_readByte (l : Launch) (G : cd_G) (q : Nat) (a1 : Int32) (hq : cd_is 6 q) (h : cd_Hp) (out : (Int32 × cd_Hp)) (E : f_X6_readByte q a1 h = some out) : cd_Mz l G yX6_readByte (Cond.code yX6_readByte cX6_readByte 2 (some .boolean) :: cd_T) rm_X6_readByte [.ref (G.2.2.2.2 + q), .int a1] h out := by
  refine cd_inz (by decide) (Nat.le_of_ble_eq_true rfl) ?_
  intro p e s m args below meth c Q ls H locs S hK hZ hl hret
  have hl : lv_has ls 2 [(0, .ref (G.2.2.2.2 + q)), (1, .int a1)] := hl
  unfold f_X6_readByte at E
  refine lv_iload_n S.1 S.2.1 dX6_readByte_0 rfl (lv_at hl 1 rfl) ?_
  refine lv_bipush (v := 32) S.1 S.2.1 dX6_readByte_1 (by decide) ?_
  refine lv_icmp_ne (tgt := 13) S.1 S.2.1 dX6_readByte_3 (by decide) (fun c1 => ?_) (fun c1 => ?_)
  · have E := cd_fE c1 E
    refine lv_aload_n S.1 S.2.1 dX6_readByte_13 rfl (lv_at hl 0 rfl) ?_
    refine cd_get6 (v := .int (cd_g h q 6)) S hK hZ hq 6 cd_f_X6_39 rfl dX6_readByte_14 ?_
    refine lv_if_ne (tgt := 26) S.1 S.2.1 dX6_readByte_17 (by decide) (fun c2 => ?_) (fun c2 => ?_)
    · have E := cd_fE c2 E
      refine lv_iload_n S.1 S.2.1 dX6_readByte_26 rfl (lv_at hl 1 rfl) ?_
      refine lv_bipush (v := 48) S.1 S.2.1 dX6_readByte_27 (by decide) ?_
      refine lv_bipush (v := 57) S.1 S.2.1 dX6_readByte_29 (by decide) ?_
      refine cd_cNz (As := [.int a1, .int 48, .int 57]) S hK hZ hl.1 (c_X7_isWithin l G a1 48 57 h _ rfl) cd_v_X7_isWithin (cd_nX6_24 hK.2) ⟨Nat.le_of_ble_eq_true rfl, Nat.le_of_ble_eq_true rfl⟩ ⟨rfl, rfl⟩ rfl rfl (Nat.le_of_ble_eq_true rfl) ⟨Nat.zero_le _, Nat.zero_le _⟩ dX6_readByte_31 (fun H locs hZ b3 => ?_)
      refine lv_if_eq (tgt := 46) S.1 S.2.1 dX6_readByte_34 (by decide) (fun c4 => ?_) (fun c4 => ?_)
      · have E := cd_tE c4 E
        refine lv_iload_n S.1 S.2.1 dX6_readByte_46 rfl (lv_at hl 1 rfl) ?_
        refine lv_bipush (v := 59) S.1 S.2.1 dX6_readByte_47 (by decide) ?_
        refine lv_icmp_ne (tgt := 63) S.1 S.2.1 dX6_readByte_49 (by decide) (fun c5 => ?_) (fun c5 => ?_)
        · have E := cd_fE c5 E
          refine lv_iconst (v := 0) S.1 S.2.1 dX6_readByte_63 (by decide) ?_
          exact hret _ _ _ _ _ _ (by decide) (Option.some.inj E) hZ dX6_readByte_64
        · have E := cd_tE c5 E
          refine lv_aload_n S.1 S.2.1 dX6_readByte_52 rfl (lv_at hl 0 rfl) ?_
          obtain ⟨o6, E1, E⟩ := cd_bE E
          refine cd_cVz (As := []) S hK hZ hl.1 (c_X6_readEnd l G q hq h o6 E1) cd_v_X6_readEnd cd_m_X6_55 ⟨Nat.le_of_ble_eq_true rfl, Nat.le_of_ble_eq_true rfl⟩ ⟨rfl, rfl⟩ (ci := 6) (by decide) rfl hq rfl rfl (Nat.le_of_ble_eq_true rfl) ⟨Nat.zero_le _, Nat.zero_le _⟩ dX6_readByte_53 (fun H locs hZ b7 => ?_)
          refine lv_if_eq (tgt := 63) S.1 S.2.1 dX6_readByte_56 (by decide) (fun c8 => ?_) (fun c8 => ?_)
          · have E := cd_tE c8 E
            refine lv_iconst (v := 0) S.1 S.2.1 dX6_readByte_63 (by decide) ?_
            exact hret _ _ _ _ _ _ (by decide) (Option.some.inj E) hZ dX6_readByte_64
          · have E := cd_fE c8 E
            refine lv_iconst (v := 1) S.1 S.2.1 dX6_readByte_59 (by decide) ?_
            refine lv_goto (tgt := 64) S.1 S.2.1 dX6_readByte_60 (by decide) ?_
            exact hret _ _ _ _ _ _ (by decide) (Option.some.inj E) hZ dX6_readByte_64
      · have E := cd_fE c4 E
        refine lv_aload_n S.1 S.2.1 dX6_readByte_37 rfl (lv_at hl 0 rfl) ?_
        refine lv_iload_n S.1 S.2.1 dX6_readByte_38 rfl (lv_at hl 1 rfl) ?_
        refine lv_bipush (v := 48) S.1 S.2.1 dX6_readByte_39 (by decide) ?_
        refine lv_isub S.1 S.2.1 dX6_readByte_41 ?_
        obtain ⟨o9, E1, E⟩ := cd_bE E
        refine cd_cVz (As := [.int (a1 - 48)]) S hK hZ hl.1 (c_X6_readFigure l G q (a1 - 48) hq h o9 E1) cd_v_X6_readFigure cd_m_X6_52 ⟨Nat.le_of_ble_eq_true rfl, Nat.le_of_ble_eq_true rfl⟩ ⟨rfl, rfl⟩ (ci := 6) (by decide) rfl hq rfl rfl (Nat.le_of_ble_eq_true rfl) ⟨Nat.zero_le _, Nat.zero_le _⟩ dX6_readByte_42 (fun H locs hZ b10 => ?_)
        exact hret _ _ _ _ _ _ b10 (Option.some.inj E) hZ dX6_readByte_45
    · have E := cd_tE c2 E
      refine lv_aload_n S.1 S.2.1 dX6_readByte_20 rfl (lv_at hl 0 rfl) ?_
      refine lv_iload_n S.1 S.2.1 dX6_readByte_21 rfl (lv_at hl 1 rfl) ?_
      obtain ⟨o11, E1, E⟩ := cd_bE E
      refine cd_cVz (As := [.int a1]) S hK hZ hl.1 (c_X6_readLetter l G q a1 hq h o11 E1) cd_v_X6_readLetter cd_m_X6_49 ⟨Nat.le_of_ble_eq_true rfl, Nat.le_of_ble_eq_true rfl⟩ ⟨rfl, rfl⟩ (ci := 6) (by decide) rfl hq rfl rfl (Nat.le_of_ble_eq_true rfl) ⟨Nat.zero_le _, Nat.zero_le _⟩ dX6_readByte_22 (fun H locs hZ b12 => ?_)
      exact hret _ _ _ _ _ _ b12 (Option.some.inj E) hZ dX6_readByte_25
  · have E := cd_tE c1 E
    refine lv_aload_n S.1 S.2.1 dX6_readByte_6 rfl (lv_at hl 0 rfl) ?_
    refine lv_iconst (v := 0) S.1 S.2.1 dX6_readByte_7 (by decide) ?_
    obtain ⟨h13, eh13, E⟩ := cd_nmE E
    refine cd_put6_7 S hK hZ hq cd_f_X6_42 eh13 dX6_readByte_8 (fun H locs hZ => ?_)
    refine lv_iconst (v := 1) S.1 S.2.1 dX6_readByte_11 (by decide) ?_
    exact hret _ _ _ _ _ _ (by decide) (Option.some.inj E) hZ dX6_readByte_12
abbrev rm_X6_readOrders : Room := { frames := 4, cells := 0, slots := 0, locals := 84 }
theorem cd_v_X6_readOrders : cd_V yX6_readOrders cX6_readOrders 2 (some .int) 0 := ⟨cd_i_X6_readOrders, cd_e_X6_X6_readOrders, cd_n_X6, cd_c_X6_readOrders, by decide +kernel⟩
set_option maxHeartbeats 4000000 in
set_option maxRecDepth 100000 in
theorem c_X6_readOrders (l : Launch) (G : cd_G) (q : Nat) (hq : cd_is 6 q) (h : cd_Hp) (out : (Int32 × cd_Hp)) (E : f_X6_readOrders q h = some out) : cd_Mi l G yX6_readOrders (Cond.code yX6_readOrders cX6_readOrders 2 (some .int) :: cd_T) rm_X6_readOrders [.ref (G.2.2.2.2 + q)] h out := by
  refine cd_ini (by decide) (Nat.le_of_ble_eq_true rfl) ?_
  intro p e s m args below meth c Q ls H locs S hK hZ hl hret
  have hl : lv_has ls 2 [(0, .ref (G.2.2.2.2 + q))] := hl
  have L17 : ∀ (n : Nat) (v17_1 : Int32) (h17_ : cd_Hp) (o : ((Int32 × cd_Hp) ⊕ (Int32 × cd_Hp))) (H : Heap) (locs : List Loc) (ls : Array Slot), cd_lp (f_X6_readOrders_B17 q) n (v17_1, h17_) = some o → cd_Z G h17_ s.heap H locs → lv_has ls 2 [(1, .int v17_1), (0, .ref (G.2.2.2.2 + q))] → (∀ x, o = .inl x → x = out) → (∀ st, o = .inr st → ∀ (H : Heap) (locs : List Loc) (ls : Array Slot), cd_Z G st.2 s.heap H locs → lv_has ls 2 [(1, .int st.1), (0, .ref (G.2.2.2.2 + q))] → W p l e rm_X6_readOrders s m args below meth c H locs 0 0 Q (F0 m 46 ls [])) → W p l e rm_X6_readOrders s m args below meth c H locs 0 0 Q (F0 m 17 ls []) := by
    intro n
    induction n with
    | zero => intro v17_1 h17_ o H locs ls E; exact nomatch (show (none : Option ((Int32 × cd_Hp) ⊕ (Int32 × cd_Hp))) = some o from E)
    | succ n ih =>
      intro v17_1 h17_ o H locs ls E hZ hl hin hex
      have E : f_X6_readOrders_B17 q (cd_lp (f_X6_readOrders_B17 q) n) (v17_1, h17_) = some o := E
      unfold f_X6_readOrders_B17 at E
      dsimp only at E
      refine lv_iload_n S.1 S.2.1 dX6_readOrders_17 rfl (lv_at hl 0 rfl) ?_
      refine lv_aload_n S.1 S.2.1 dX6_readOrders_18 rfl (lv_at hl 1 rfl) ?_
      refine cd_get6 (v := .int (cd_g h17_ q 0)) S hK hZ hq 0 cd_f_X6_28 rfl dX6_readOrders_19 ?_
      refine lv_icmp_ge (tgt := 46) S.1 S.2.1 dX6_readOrders_22 (by decide) (fun c4 => ?_) (fun c4 => ?_)
      · have E := cd_tE c4 E
        cases E
        exact hex _ rfl H locs ls hZ (lv_sub hl [0, 1] rfl)
      · have E := cd_fE c4 E
        refine lv_aload_n S.1 S.2.1 dX6_readOrders_25 rfl (lv_at hl 1 rfl) ?_
        refine lv_aload_n S.1 S.2.1 dX6_readOrders_26 rfl (lv_at hl 1 rfl) ?_
        refine cd_get6 (v := .ref (G.2.2.2.2 + (q + 1))) S hK hZ hq 2 cd_f_X6_9 rfl dX6_readOrders_27 ?_
        refine lv_iload_n S.1 S.2.1 dX6_readOrders_30 rfl (lv_at hl 0 rfl) ?_
        obtain ⟨z5, E⟩ := cd_ckE E
        refine cd_iald S hK hZ (cd_r6_2 hq) z5 dX6_readOrders_31 ?_
        obtain ⟨o6, E1, E⟩ := cd_bE E
        refine cd_cVz (As := [.int (cd_g h17_ (q + 1) (v17_1.toNatClampNeg))]) S hK hZ hl.1 (c_X6_readByte l G q (cd_g h17_ (q + 1) (v17_1.toNatClampNeg)) hq h17_ o6 E1) cd_v_X6_readByte cd_m_X6_45 ⟨Nat.le_of_ble_eq_true rfl, Nat.le_of_ble_eq_true rfl⟩ ⟨rfl, rfl⟩ (ci := 6) (by decide) rfl hq rfl rfl (Nat.le_of_ble_eq_true rfl) ⟨Nat.zero_le _, Nat.zero_le _⟩ dX6_readOrders_32 (fun H locs hZ b7 => ?_)
        refine lv_if_ne (tgt := 40) S.1 S.2.1 dX6_readOrders_35 (by decide) (fun c8 => ?_) (fun c8 => ?_)
        · have E := cd_fE c8 E
          obtain ⟨x9, ex9, E⟩ := cd_nmE E
          refine lv_iinc (v := x9) (lv' := [(1, .int x9), (0, .ref (G.2.2.2.2 + q))]) S.1 S.2.1 dX6_readOrders_40 hl (k := 0) rfl (by rw [ex9]; rfl) (by decide) rfl (fun ls hl => ?_)
          refine lv_goto (tgt := 17) S.1 S.2.1 dX6_readOrders_43 (by decide) ?_
          exact ih x9 o6.2 o H locs ls E hZ (lv_sub hl [0, 1] rfl) hin hex
        · have E := cd_tE c8 E
          refine lv_iload_n S.1 S.2.1 dX6_readOrders_38 rfl (lv_at hl 0 rfl) ?_
          cases E
          exact hret _ _ _ _ _ _ (hin _ rfl) hZ dX6_readOrders_39
  unfold f_X6_readOrders at E
  refine lv_aload_n S.1 S.2.1 dX6_readOrders_0 rfl (lv_at hl 0 rfl) ?_
  refine lv_iconst (v := 0) S.1 S.2.1 dX6_readOrders_1 (by decide) ?_
  obtain ⟨h1, eh1, E⟩ := cd_nmE E
  refine cd_put6_1 S hK hZ hq cd_f_X6_32 eh1 dX6_readOrders_2 (fun H locs hZ => ?_)
  refine lv_aload_n S.1 S.2.1 dX6_readOrders_5 rfl (lv_at hl 0 rfl) ?_
  refine lv_iconst (v := 0) S.1 S.2.1 dX6_readOrders_6 (by decide) ?_
  obtain ⟨h2, eh2, E⟩ := cd_nmE E
  refine cd_put6_6 S hK hZ hq cd_f_X6_39 eh2 dX6_readOrders_7 (fun H locs hZ => ?_)
  refine lv_aload_n S.1 S.2.1 dX6_readOrders_10 rfl (lv_at hl 0 rfl) ?_
  refine lv_iconst (v := 0) S.1 S.2.1 dX6_readOrders_11 (by decide) ?_
  obtain ⟨h3, eh3, E⟩ := cd_nmE E
  refine cd_put6_7 S hK hZ hq cd_f_X6_42 eh3 dX6_readOrders_12 (fun H locs hZ => ?_)
  refine lv_iconst (v := 0) S.1 S.2.1 dX6_readOrders_15 (by decide) ?_
  refine lv_istore_n (lv' := [(1, .int 0), (0, .ref (G.2.2.2.2 + q))]) S.1 S.2.1 dX6_readOrders_16 rfl hl (by decide) rfl (fun ls hl => ?_)
  obtain ⟨o10, E1, EL, ER⟩ := cd_b2E E
  refine L17 cd_fu 0 h3 o10 H locs ls E1 hZ (lv_sub hl [0, 1] rfl) EL (fun st11 hst H locs ls hZ hl => ?_)
  have E := ER st11 hst
  refine lv_aload_n S.1 S.2.1 dX6_readOrders_46 rfl (lv_at hl 1 rfl) ?_
  refine cd_get6 (v := .int (cd_g st11.2 q 6)) S hK hZ hq 6 cd_f_X6_39 rfl dX6_readOrders_47 ?_
  refine lv_if_ne (tgt := 60) S.1 S.2.1 dX6_readOrders_50 (by decide) (fun c12 => ?_) (fun c12 => ?_)
  · have E := cd_fE c12 E
    refine lv_aload_n S.1 S.2.1 dX6_readOrders_60 rfl (lv_at hl 1 rfl) ?_
    refine cd_get6 (v := .int (cd_g st11.2 q 0)) S hK hZ hq 0 cd_f_X6_28 rfl dX6_readOrders_61 ?_
    refine lv_goto (tgt := 68) S.1 S.2.1 dX6_readOrders_64 (by decide) ?_
    exact hret _ _ _ _ _ _ (Option.some.inj E) hZ dX6_readOrders_68
  · have E := cd_tE c12 E
    refine lv_aload_n S.1 S.2.1 dX6_readOrders_53 rfl (lv_at hl 1 rfl) ?_
    refine cd_get6 (v := .int (cd_g st11.2 q 1)) S hK hZ hq 1 cd_f_X6_32 rfl dX6_readOrders_54 ?_
    refine lv_if_ne (tgt := 67) S.1 S.2.1 dX6_readOrders_57 (by decide) (fun c13 => ?_) (fun c13 => ?_)
    · have E := cd_fE c13 E
      refine lv_iconst (v := (-1)) S.1 S.2.1 dX6_readOrders_67 (by decide) ?_
      exact hret _ _ _ _ _ _ (Option.some.inj E) hZ dX6_readOrders_68
    · have E := cd_tE c13 E
      refine lv_aload_n S.1 S.2.1 dX6_readOrders_60 rfl (lv_at hl 1 rfl) ?_
      refine cd_get6 (v := .int (cd_g st11.2 q 0)) S hK hZ hq 0 cd_f_X6_28 rfl dX6_readOrders_61 ?_
      refine lv_goto (tgt := 68) S.1 S.2.1 dX6_readOrders_64 (by decide) ?_
      exact hret _ _ _ _ _ _ (Option.some.inj E) hZ dX6_readOrders_68
abbrev rm_X7_isRefusal : Room := { frames := 0, cells := 0, slots := 0, locals := 0 }
theorem cd_v_X7_isRefusal : cd_Vs yX7_isRefusal cX7_isRefusal 1 (some .boolean) 1 := ⟨cd_s_X7_isRefusal, cd_n_X7, cd_c_X7_isRefusal, by decide +kernel⟩
set_option maxHeartbeats 4000000 in
set_option maxRecDepth 100000 in
theorem c_X7_isRefusal (l : Launch) (G : cd_G) (a0 : Int32) (h : cd_Hp) (out : Int32) (E : f_X7_isRefusal a0 = out) : cd_Mz l G yX7_isRefusal (Cond.code yX7_isRefusal cX7_isRefusal 1 (some .boolean) :: cd_T) rm_X7_isRefusal [.int a0] h (out, h) := by
  refine cd_inz (by decide) (Nat.le_of_ble_eq_true rfl) ?_
  intro p e s m args below meth c Q ls H locs S hK hZ hl hret
  have hl : lv_has ls 1 [(0, .int a0)] := hl
  unfold f_X7_isRefusal at E
  refine lv_iload_n S.1 S.2.1 dX7_isRefusal_0 rfl (lv_at hl 0 rfl) ?_
  refine lv_bipush (v := (-2)) S.1 S.2.1 dX7_isRefusal_1 (by decide) ?_
  refine lv_icmp_gt (tgt := 16) S.1 S.2.1 dX7_isRefusal_3 (by decide) (fun c1 => ?_) (fun c1 => ?_)
  · have E := cd_tE c1 E
    refine lv_iconst (v := 0) S.1 S.2.1 dX7_isRefusal_16 (by decide) ?_
    exact hret _ _ _ _ _ _ (by decide) (congrArg (fun z => (z, h)) (E)) hZ dX7_isRefusal_17
  · have E := cd_fE c1 E
    refine lv_iload_n S.1 S.2.1 dX7_isRefusal_6 rfl (lv_at hl 0 rfl) ?_
    refine lv_bipush (v := (-4)) S.1 S.2.1 dX7_isRefusal_7 (by decide) ?_
    refine lv_icmp_lt (tgt := 16) S.1 S.2.1 dX7_isRefusal_9 (by decide) (fun c2 => ?_) (fun c2 => ?_)
    · have E := cd_tE c2 E
      refine lv_iconst (v := 0) S.1 S.2.1 dX7_isRefusal_16 (by decide) ?_
      exact hret _ _ _ _ _ _ (by decide) (congrArg (fun z => (z, h)) (E)) hZ dX7_isRefusal_17
    · have E := cd_fE c2 E
      refine lv_iconst (v := 1) S.1 S.2.1 dX7_isRefusal_12 (by decide) ?_
      refine lv_goto (tgt := 17) S.1 S.2.1 dX7_isRefusal_13 (by decide) ?_
      exact hret _ _ _ _ _ _ (by decide) (congrArg (fun z => (z, h)) (E)) hZ dX7_isRefusal_17
abbrev rm_X7_answer : Room := { frames := 1, cells := 0, slots := 0, locals := 20 }
theorem cd_v_X7_answer : cd_V yX7_answer cX7_answer 2 (some .int) 1 := ⟨cd_i_X7_answer, cd_e_X7_X7_answer, cd_n_X7, cd_c_X7_answer, by decide +kernel⟩
set_option maxHeartbeats 4000000 in
set_option maxRecDepth 100000 in
theorem c_X7_answer (l : Launch) (G : cd_G) (a1 : Int32) (h : cd_Hp) (out : (Int32 × cd_Hp)) (E : f_X7_answer a1 h = some out) : cd_Mi l G yX7_answer (Cond.code yX7_answer cX7_answer 2 (some .int) :: cd_T) rm_X7_answer [.ref (G.2.2.2.2 + 0), .int a1] h out := by
  refine cd_ini (by decide) (Nat.le_of_ble_eq_true rfl) ?_
  intro p e s m args below meth c Q ls H locs S hK hZ hl hret
  have hl : lv_has ls 2 [(0, .ref (G.2.2.2.2 + 0)), (1, .int a1)] := hl
  unfold f_X7_answer at E
  refine lv_iload_n S.1 S.2.1 dX7_answer_0 rfl (lv_at hl 1 rfl) ?_
  refine cd_cSz (As := [.int a1]) S hK hZ hl.1 (c_X7_isRefusal l G a1 h _ rfl) cd_v_X7_isRefusal cd_m_X7_145 ⟨Nat.le_of_ble_eq_true rfl, Nat.le_of_ble_eq_true rfl⟩ ⟨rfl, rfl⟩ rfl rfl (Nat.le_of_ble_eq_true rfl) ⟨Nat.zero_le _, Nat.zero_le _⟩ dX7_answer_1 (fun H locs hZ b1 => ?_)
  refine lv_if_eq (tgt := 20) S.1 S.2.1 dX7_answer_4 (by decide) (fun c2 => ?_) (fun c2 => ?_)
  · have E := cd_tE c2 E
    refine lv_iload_n S.1 S.2.1 dX7_answer_20 rfl (lv_at hl 1 rfl) ?_
    exact hret _ _ _ _ _ _ (Option.some.inj E) hZ dX7_answer_21
  · have E := cd_fE c2 E
    refine lv_aload_n S.1 S.2.1 dX7_answer_7 rfl (lv_at hl 0 rfl) ?_
    refine cd_get7 (v := .ref (G.2.2.2.2 + 403)) S hK hZ cd_this7 3 cd_f_X7_35 rfl dX7_answer_8 ?_
    refine lv_bipush (v := (-2)) S.1 S.2.1 dX7_answer_11 (by decide) ?_
    refine lv_iload_n S.1 S.2.1 dX7_answer_13 rfl (lv_at hl 1 rfl) ?_
    refine lv_isub S.1 S.2.1 dX7_answer_14 ?_
    refine lv_dup2_11 S.1 S.2.1 dX7_answer_15 rfl rfl ?_
    obtain ⟨z3, E⟩ := cd_ckE E
    refine cd_iald S hK hZ (cd_r7_3 cd_this7) z3 dX7_answer_16 ?_
    refine lv_iconst (v := 1) S.1 S.2.1 dX7_answer_17 (by decide) ?_
    refine lv_iadd S.1 S.2.1 dX7_answer_18 ?_
    obtain ⟨z4, E⟩ := cd_ckE E
    obtain ⟨h5, eh5, E⟩ := cd_nmE E
    refine cd_iast S hK hZ (cd_r7_3 cd_this7) z4 eh5 dX7_answer_19 (fun H locs hZ => ?_)
    refine lv_iload_n S.1 S.2.1 dX7_answer_20 rfl (lv_at hl 1 rfl) ?_
    exact hret _ _ _ _ _ _ (Option.some.inj E) hZ dX7_answer_21
abbrev rm_X7_settle : Room := { frames := 2, cells := 0, slots := 0, locals := 60 }
theorem cd_v_X7_settle : cd_V yX7_settle cX7_settle 2 (some .int) 1 := ⟨cd_i_X7_settle, cd_e_X7_X7_settle, cd_n_X7, cd_c_X7_settle, by decide +kernel⟩
set_option maxHeartbeats 4000000 in
set_option maxRecDepth 100000 in
theorem c_X7_settle (l : Launch) (G : cd_G) (a1 : Int32) (h : cd_Hp) (out : (Int32 × cd_Hp)) (E : f_X7_settle a1 h = some out) : cd_Mi l G yX7_settle (Cond.code yX7_settle cX7_settle 2 (some .int) :: cd_T) rm_X7_settle [.ref (G.2.2.2.2 + 0), .int a1] h out := by
  refine cd_ini (by decide) (Nat.le_of_ble_eq_true rfl) ?_
  intro p e s m args below meth c Q ls H locs S hK hZ hl hret
  have hl : lv_has ls 2 [(0, .ref (G.2.2.2.2 + 0)), (1, .int a1)] := hl
  unfold f_X7_settle at E
  refine lv_iload_n S.1 S.2.1 dX7_settle_0 rfl (lv_at hl 1 rfl) ?_
  refine cd_cSz (As := [.int a1]) S hK hZ hl.1 (c_X7_isRefusal l G a1 h _ rfl) cd_v_X7_isRefusal cd_m_X7_145 ⟨Nat.le_of_ble_eq_true rfl, Nat.le_of_ble_eq_true rfl⟩ ⟨rfl, rfl⟩ rfl rfl (Nat.le_of_ble_eq_true rfl) ⟨Nat.zero_le _, Nat.zero_le _⟩ dX7_settle_1 (fun H locs hZ b1 => ?_)
  refine lv_if_ne (tgt := 14) S.1 S.2.1 dX7_settle_4 (by decide) (fun c2 => ?_) (fun c2 => ?_)
  · have E := cd_fE c2 E
    refine lv_aload_n S.1 S.2.1 dX7_settle_14 rfl (lv_at hl 0 rfl) ?_
    refine lv_iload_n S.1 S.2.1 dX7_settle_15 rfl (lv_at hl 1 rfl) ?_
    obtain ⟨o3, E1, E⟩ := cd_bE E
    refine cd_cVi (As := [.int a1]) S hK hZ hl.1 (c_X7_answer l G a1 h o3 E1) cd_v_X7_answer cd_m_X7_92 ⟨Nat.le_of_ble_eq_true rfl, Nat.le_of_ble_eq_true rfl⟩ ⟨rfl, rfl⟩ (ci := 7) (by decide) rfl cd_this7 rfl rfl (Nat.le_of_ble_eq_true rfl) ⟨Nat.zero_le _, Nat.zero_le _⟩ dX7_settle_16 (fun H locs hZ => ?_)
    exact hret _ _ _ _ _ _ (Option.some.inj E) hZ dX7_settle_19
  · have E := cd_tE c2 E
    refine lv_aload_n S.1 S.2.1 dX7_settle_7 rfl (lv_at hl 0 rfl) ?_
    refine cd_get7 (v := .ref (G.2.2.2.2 + 60)) S hK hZ cd_this7 1 cd_f_X7_24 rfl dX7_settle_8 ?_
    obtain ⟨o5, E1, E⟩ := cd_nmE E
    refine cd_cVv (As := []) S hK hZ hl.1 (c_X1_keep l G 60 (cd_r7_1 cd_this7) h o5 E1.symm) cd_v_X1_keep cd_m_X7_152 ⟨Nat.le_of_ble_eq_true rfl, Nat.le_of_ble_eq_true rfl⟩ ⟨rfl, rfl⟩ (ci := 1) (by decide) rfl (cd_r7_1 cd_this7) rfl rfl (Nat.le_of_ble_eq_true rfl) ⟨Nat.zero_le _, Nat.zero_le _⟩ dX7_settle_11 (fun H locs hZ => ?_)
    refine lv_aload_n S.1 S.2.1 dX7_settle_14 rfl (lv_at hl 0 rfl) ?_
    refine lv_iload_n S.1 S.2.1 dX7_settle_15 rfl (lv_at hl 1 rfl) ?_
    obtain ⟨o7, E1, E⟩ := cd_bE E
    refine cd_cVi (As := [.int a1]) S hK hZ hl.1 (c_X7_answer l G a1 o5 o7 E1) cd_v_X7_answer cd_m_X7_92 ⟨Nat.le_of_ble_eq_true rfl, Nat.le_of_ble_eq_true rfl⟩ ⟨rfl, rfl⟩ (ci := 7) (by decide) rfl cd_this7 rfl rfl (Nat.le_of_ble_eq_true rfl) ⟨Nat.zero_le _, Nat.zero_le _⟩ dX7_settle_16 (fun H locs hZ => ?_)
    exact hret _ _ _ _ _ _ (Option.some.inj E) hZ dX7_settle_19
abbrev rm_X7_counters : Room := { frames := 5, cells := 0, slots := 0, locals := 165 }
theorem cd_v_X7_counters : cd_V yX7_counters cX7_counters 2 (some .int) 1 := ⟨cd_i_X7_counters, cd_e_X7_X7_counters, cd_n_X7, cd_c_X7_counters, by decide +kernel⟩
set_option maxHeartbeats 4000000 in
set_option maxRecDepth 100000 in
theorem c_X7_counters (l : Launch) (G : cd_G) (a1 : Int32) (h : cd_Hp) (out : (Int32 × cd_Hp)) (E : f_X7_counters a1 h = some out) : cd_Mi l G yX7_counters (Cond.code yX7_counters cX7_counters 2 (some .int) :: cd_T) rm_X7_counters [.ref (G.2.2.2.2 + 0), .int a1] h out := by
  refine cd_ini (by decide) (Nat.le_of_ble_eq_true rfl) ?_
  intro p e s m args below meth c Q ls H locs S hK hZ hl hret
  have hl : lv_has ls 2 [(0, .ref (G.2.2.2.2 + 0)), (1, .int a1)] := hl
  unfold f_X7_counters at E
  refine lv_aload_n S.1 S.2.1 dX7_counters_0 rfl (lv_at hl 0 rfl) ?_
  refine cd_get7 (v := .ref (G.2.2.2.2 + 60)) S hK hZ cd_this7 1 cd_f_X7_24 rfl dX7_counters_1 ?_
  refine lv_aload_n S.1 S.2.1 dX7_counters_4 rfl (lv_at hl 0 rfl) ?_
  refine cd_get7 (v := .ref (G.2.2.2.2 + 4)) S hK hZ cd_this7 0 cd_f_X7_15 rfl dX7_counters_5 ?_
  obtain ⟨o1, E1, E⟩ := cd_bE E
  refine cd_cVv (As := [.ref (G.2.2.2.2 + 4)]) S hK hZ hl.1 (c_X1_hold l G 60 4 (cd_r7_1 cd_this7) (cd_r7_0 cd_this7) h o1 E1) cd_v_X1_hold cd_m_X7_39 ⟨Nat.le_of_ble_eq_true rfl, Nat.le_of_ble_eq_true rfl⟩ ⟨rfl, rfl⟩ (ci := 1) (by decide) rfl (cd_r7_1 cd_this7) rfl rfl (Nat.le_of_ble_eq_true rfl) ⟨Nat.zero_le _, Nat.zero_le _⟩ dX7_counters_8 (fun H locs hZ => ?_)
  refine lv_aload_n S.1 S.2.1 dX7_counters_11 rfl (lv_at hl 0 rfl) ?_
  refine lv_aload_n S.1 S.2.1 dX7_counters_12 rfl (lv_at hl 0 rfl) ?_
  refine cd_get7 (v := .ref (G.2.2.2.2 + 4)) S hK hZ cd_this7 0 cd_f_X7_15 rfl dX7_counters_13 ?_
  refine lv_iload_n S.1 S.2.1 dX7_counters_16 rfl (lv_at hl 1 rfl) ?_
  obtain ⟨o3, E1, E⟩ := cd_nmE E
  refine cd_cVi (As := [.int a1]) S hK hZ hl.1 (c_X4_putCounters l G 4 a1 (cd_r7_0 cd_this7) o1 o3 E1.symm) cd_v_X4_putCounters cd_m_X7_43 ⟨Nat.le_of_ble_eq_true rfl, Nat.le_of_ble_eq_true rfl⟩ ⟨rfl, rfl⟩ (ci := 4) (by decide) rfl (cd_r7_0 cd_this7) rfl rfl (Nat.le_of_ble_eq_true rfl) ⟨Nat.zero_le _, Nat.zero_le _⟩ dX7_counters_17 (fun H locs hZ => ?_)
  obtain ⟨o5, E1, E⟩ := cd_bE E
  refine cd_cVi (As := [.int o3.1]) S hK hZ hl.1 (c_X7_settle l G o3.1 o3.2 o5 E1) cd_v_X7_settle cd_m_X7_47 ⟨Nat.le_of_ble_eq_true rfl, Nat.le_of_ble_eq_true rfl⟩ ⟨rfl, rfl⟩ (ci := 7) (by decide) rfl cd_this7 rfl rfl (Nat.le_of_ble_eq_true rfl) ⟨Nat.zero_le _, Nat.zero_le _⟩ dX7_counters_20 (fun H locs hZ => ?_)
  exact hret _ _ _ _ _ _ (Option.some.inj E) hZ dX7_counters_23
abbrev rm_X7_masks : Room := { frames := 5, cells := 0, slots := 0, locals := 165 }
theorem cd_v_X7_masks : cd_V yX7_masks cX7_masks 3 (some .int) 2 := ⟨cd_i_X7_masks, cd_e_X7_X7_masks, cd_n_X7, cd_c_X7_masks, by decide +kernel⟩
set_option maxHeartbeats 4000000 in
set_option maxRecDepth 100000 in
theorem c_X7_masks (l : Launch) (G : cd_G) (a1 : Int32) (a2 : Int32) (h : cd_Hp) (out : (Int32 × cd_Hp)) (E : f_X7_masks a1 a2 h = some out) : cd_Mi l G yX7_masks (Cond.code yX7_masks cX7_masks 3 (some .int) :: cd_T) rm_X7_masks [.ref (G.2.2.2.2 + 0), .int a1, .int a2] h out := by
  refine cd_ini (by decide) (Nat.le_of_ble_eq_true rfl) ?_
  intro p e s m args below meth c Q ls H locs S hK hZ hl hret
  have hl : lv_has ls 3 [(0, .ref (G.2.2.2.2 + 0)), (1, .int a1), (2, .int a2)] := hl
  unfold f_X7_masks at E
  refine lv_aload_n S.1 S.2.1 dX7_masks_0 rfl (lv_at hl 0 rfl) ?_
  refine cd_get7 (v := .ref (G.2.2.2.2 + 60)) S hK hZ cd_this7 1 cd_f_X7_24 rfl dX7_masks_1 ?_
  refine lv_aload_n S.1 S.2.1 dX7_masks_4 rfl (lv_at hl 0 rfl) ?_
  refine cd_get7 (v := .ref (G.2.2.2.2 + 4)) S hK hZ cd_this7 0 cd_f_X7_15 rfl dX7_masks_5 ?_
  obtain ⟨o1, E1, E⟩ := cd_bE E
  refine cd_cVv (As := [.ref (G.2.2.2.2 + 4)]) S hK hZ hl.1 (c_X1_hold l G 60 4 (cd_r7_1 cd_this7) (cd_r7_0 cd_this7) h o1 E1) cd_v_X1_hold cd_m_X7_39 ⟨Nat.le_of_ble_eq_true rfl, Nat.le_of_ble_eq_true rfl⟩ ⟨rfl, rfl⟩ (ci := 1) (by decide) rfl (cd_r7_1 cd_this7) rfl rfl (Nat.le_of_ble_eq_true rfl) ⟨Nat.zero_le _, Nat.zero_le _⟩ dX7_masks_8 (fun H locs hZ => ?_)
  refine lv_aload_n S.1 S.2.1 dX7_masks_11 rfl (lv_at hl 0 rfl) ?_
  refine lv_aload_n S.1 S.2.1 dX7_masks_12 rfl (lv_at hl 0 rfl) ?_
  refine cd_get7 (v := .ref (G.2.2.2.2 + 4)) S hK hZ cd_this7 0 cd_f_X7_15 rfl dX7_masks_13 ?_
  refine lv_iload_n S.1 S.2.1 dX7_masks_16 rfl (lv_at hl 1 rfl) ?_
  refine lv_iload_n S.1 S.2.1 dX7_masks_17 rfl (lv_at hl 2 rfl) ?_
  obtain ⟨o3, E1, E⟩ := cd_bE E
  refine cd_cVi (As := [.int a1, .int a2]) S hK hZ hl.1 (c_X4_putMask l G 4 a1 a2 (cd_r7_0 cd_this7) o1 o3 E1) cd_v_X4_putMask cd_m_X7_50 ⟨Nat.le_of_ble_eq_true rfl, Nat.le_of_ble_eq_true rfl⟩ ⟨rfl, rfl⟩ (ci := 4) (by decide) rfl (cd_r7_0 cd_this7) rfl rfl (Nat.le_of_ble_eq_true rfl) ⟨Nat.zero_le _, Nat.zero_le _⟩ dX7_masks_18 (fun H locs hZ => ?_)
  obtain ⟨o5, E1, E⟩ := cd_bE E
  refine cd_cVi (As := [.int o3.1]) S hK hZ hl.1 (c_X7_settle l G o3.1 o3.2 o5 E1) cd_v_X7_settle cd_m_X7_47 ⟨Nat.le_of_ble_eq_true rfl, Nat.le_of_ble_eq_true rfl⟩ ⟨rfl, rfl⟩ (ci := 7) (by decide) rfl cd_this7 rfl rfl (Nat.le_of_ble_eq_true rfl) ⟨Nat.zero_le _, Nat.zero_le _⟩ dX7_masks_21 (fun H locs hZ => ?_)
  exact hret _ _ _ _ _ _ (Option.some.inj E) hZ dX7_masks_24
abbrev rm_X7_rates : Room := { frames := 5, cells := 0, slots := 0, locals := 165 }
theorem cd_v_X7_rates : cd_V yX7_rates cX7_rates 4 (some .int) 3 := ⟨cd_i_X7_rates, cd_e_X7_X7_rates, cd_n_X7, cd_c_X7_rates, by decide +kernel⟩
set_option maxHeartbeats 4000000 in
set_option maxRecDepth 100000 in
theorem c_X7_rates (l : Launch) (G : cd_G) (a1 : Int32) (a2 : Int32) (a3 : Int32) (h : cd_Hp) (out : (Int32 × cd_Hp)) (E : f_X7_rates a1 a2 a3 h = some out) : cd_Mi l G yX7_rates (Cond.code yX7_rates cX7_rates 4 (some .int) :: cd_T) rm_X7_rates [.ref (G.2.2.2.2 + 0), .int a1, .int a2, .int a3] h out := by
  refine cd_ini (by decide) (Nat.le_of_ble_eq_true rfl) ?_
  intro p e s m args below meth c Q ls H locs S hK hZ hl hret
  have hl : lv_has ls 4 [(0, .ref (G.2.2.2.2 + 0)), (1, .int a1), (2, .int a2), (3, .int a3)] := hl
  unfold f_X7_rates at E
  refine lv_aload_n S.1 S.2.1 dX7_rates_0 rfl (lv_at hl 0 rfl) ?_
  refine cd_get7 (v := .ref (G.2.2.2.2 + 60)) S hK hZ cd_this7 1 cd_f_X7_24 rfl dX7_rates_1 ?_
  refine lv_aload_n S.1 S.2.1 dX7_rates_4 rfl (lv_at hl 0 rfl) ?_
  refine cd_get7 (v := .ref (G.2.2.2.2 + 4)) S hK hZ cd_this7 0 cd_f_X7_15 rfl dX7_rates_5 ?_
  obtain ⟨o1, E1, E⟩ := cd_bE E
  refine cd_cVv (As := [.ref (G.2.2.2.2 + 4)]) S hK hZ hl.1 (c_X1_hold l G 60 4 (cd_r7_1 cd_this7) (cd_r7_0 cd_this7) h o1 E1) cd_v_X1_hold cd_m_X7_39 ⟨Nat.le_of_ble_eq_true rfl, Nat.le_of_ble_eq_true rfl⟩ ⟨rfl, rfl⟩ (ci := 1) (by decide) rfl (cd_r7_1 cd_this7) rfl rfl (Nat.le_of_ble_eq_true rfl) ⟨Nat.zero_le _, Nat.zero_le _⟩ dX7_rates_8 (fun H locs hZ => ?_)
  refine lv_aload_n S.1 S.2.1 dX7_rates_11 rfl (lv_at hl 0 rfl) ?_
  refine lv_aload_n S.1 S.2.1 dX7_rates_12 rfl (lv_at hl 0 rfl) ?_
  refine cd_get7 (v := .ref (G.2.2.2.2 + 4)) S hK hZ cd_this7 0 cd_f_X7_15 rfl dX7_rates_13 ?_
  refine cd_get4 (v := .ref (G.2.2.2.2 + (4 + 2))) S hK hZ (cd_r7_0 cd_this7) 6 cd_f_X7_54 rfl dX7_rates_16 ?_
  refine lv_iload_n S.1 S.2.1 dX7_rates_19 rfl (lv_at hl 1 rfl) ?_
  refine lv_iload_n S.1 S.2.1 dX7_rates_20 rfl (lv_at hl 2 rfl) ?_
  refine lv_iload_n S.1 S.2.1 dX7_rates_21 rfl (lv_at hl 3 rfl) ?_
  obtain ⟨o3, E1, E⟩ := cd_bE E
  refine cd_cVi (As := [.int a1, .int a2, .int a3]) S hK hZ hl.1 (c_X5_putRate l G (4 + 2) a1 a2 a3 (cd_r4_6 (cd_r7_0 cd_this7)) o1 o3 E1) cd_v_X5_putRate cd_m_X7_58 ⟨Nat.le_of_ble_eq_true rfl, Nat.le_of_ble_eq_true rfl⟩ ⟨rfl, rfl⟩ (ci := 5) (by decide) rfl (cd_r4_6 (cd_r7_0 cd_this7)) rfl rfl (Nat.le_of_ble_eq_true rfl) ⟨Nat.zero_le _, Nat.zero_le _⟩ dX7_rates_22 (fun H locs hZ => ?_)
  obtain ⟨o5, E1, E⟩ := cd_bE E
  refine cd_cVi (As := [.int o3.1]) S hK hZ hl.1 (c_X7_settle l G o3.1 o3.2 o5 E1) cd_v_X7_settle cd_m_X7_47 ⟨Nat.le_of_ble_eq_true rfl, Nat.le_of_ble_eq_true rfl⟩ ⟨rfl, rfl⟩ (ci := 7) (by decide) rfl cd_this7 rfl rfl (Nat.le_of_ble_eq_true rfl) ⟨Nat.zero_le _, Nat.zero_le _⟩ dX7_rates_25 (fun H locs hZ => ?_)
  exact hret _ _ _ _ _ _ (Option.some.inj E) hZ dX7_rates_28
abbrev rm_X7_forks : Room := { frames := 5, cells := 0, slots := 0, locals := 165 }
theorem cd_v_X7_forks : cd_V yX7_forks cX7_forks 2 (some .int) 1 := ⟨cd_i_X7_forks, cd_e_X7_X7_forks, cd_n_X7, cd_c_X7_forks, by decide +kernel⟩
set_option maxHeartbeats 4000000 in
set_option maxRecDepth 100000 in
theorem c_X7_forks (l : Launch) (G : cd_G) (a1 : Int32) (h : cd_Hp) (out : (Int32 × cd_Hp)) (E : f_X7_forks a1 h = some out) : cd_Mi l G yX7_forks (Cond.code yX7_forks cX7_forks 2 (some .int) :: cd_T) rm_X7_forks [.ref (G.2.2.2.2 + 0), .int a1] h out := by
  refine cd_ini (by decide) (Nat.le_of_ble_eq_true rfl) ?_
  intro p e s m args below meth c Q ls H locs S hK hZ hl hret
  have hl : lv_has ls 2 [(0, .ref (G.2.2.2.2 + 0)), (1, .int a1)] := hl
  unfold f_X7_forks at E
  refine lv_aload_n S.1 S.2.1 dX7_forks_0 rfl (lv_at hl 0 rfl) ?_
  refine cd_get7 (v := .ref (G.2.2.2.2 + 60)) S hK hZ cd_this7 1 cd_f_X7_24 rfl dX7_forks_1 ?_
  refine lv_aload_n S.1 S.2.1 dX7_forks_4 rfl (lv_at hl 0 rfl) ?_
  refine cd_get7 (v := .ref (G.2.2.2.2 + 4)) S hK hZ cd_this7 0 cd_f_X7_15 rfl dX7_forks_5 ?_
  obtain ⟨o1, E1, E⟩ := cd_bE E
  refine cd_cVv (As := [.ref (G.2.2.2.2 + 4)]) S hK hZ hl.1 (c_X1_hold l G 60 4 (cd_r7_1 cd_this7) (cd_r7_0 cd_this7) h o1 E1) cd_v_X1_hold cd_m_X7_39 ⟨Nat.le_of_ble_eq_true rfl, Nat.le_of_ble_eq_true rfl⟩ ⟨rfl, rfl⟩ (ci := 1) (by decide) rfl (cd_r7_1 cd_this7) rfl rfl (Nat.le_of_ble_eq_true rfl) ⟨Nat.zero_le _, Nat.zero_le _⟩ dX7_forks_8 (fun H locs hZ => ?_)
  refine lv_aload_n S.1 S.2.1 dX7_forks_11 rfl (lv_at hl 0 rfl) ?_
  refine lv_aload_n S.1 S.2.1 dX7_forks_12 rfl (lv_at hl 0 rfl) ?_
  refine cd_get7 (v := .ref (G.2.2.2.2 + 4)) S hK hZ cd_this7 0 cd_f_X7_15 rfl dX7_forks_13 ?_
  refine cd_get4 (v := .ref (G.2.2.2.2 + (4 + 2))) S hK hZ (cd_r7_0 cd_this7) 6 cd_f_X7_54 rfl dX7_forks_16 ?_
  refine lv_iload_n S.1 S.2.1 dX7_forks_19 rfl (lv_at hl 1 rfl) ?_
  obtain ⟨o3, E1, E⟩ := cd_bE E
  refine cd_cVi (As := [.int a1]) S hK hZ hl.1 (c_X5_fork l G (4 + 2) a1 (cd_r4_6 (cd_r7_0 cd_this7)) o1 o3 E1) cd_v_X5_fork cd_m_X7_64 ⟨Nat.le_of_ble_eq_true rfl, Nat.le_of_ble_eq_true rfl⟩ ⟨rfl, rfl⟩ (ci := 5) (by decide) rfl (cd_r4_6 (cd_r7_0 cd_this7)) rfl rfl (Nat.le_of_ble_eq_true rfl) ⟨Nat.zero_le _, Nat.zero_le _⟩ dX7_forks_20 (fun H locs hZ => ?_)
  obtain ⟨o5, E1, E⟩ := cd_bE E
  refine cd_cVi (As := [.int o3.1]) S hK hZ hl.1 (c_X7_settle l G o3.1 o3.2 o5 E1) cd_v_X7_settle cd_m_X7_47 ⟨Nat.le_of_ble_eq_true rfl, Nat.le_of_ble_eq_true rfl⟩ ⟨rfl, rfl⟩ (ci := 7) (by decide) rfl cd_this7 rfl rfl (Nat.le_of_ble_eq_true rfl) ⟨Nat.zero_le _, Nat.zero_le _⟩ dX7_forks_23 (fun H locs hZ => ?_)
  exact hret _ _ _ _ _ _ (Option.some.inj E) hZ dX7_forks_26
abbrev rm_X7_exits : Room := { frames := 5, cells := 0, slots := 0, locals := 165 }
theorem cd_v_X7_exits : cd_V yX7_exits cX7_exits 2 (some .int) 1 := ⟨cd_i_X7_exits, cd_e_X7_X7_exits, cd_n_X7, cd_c_X7_exits, by decide +kernel⟩
set_option maxHeartbeats 4000000 in
set_option maxRecDepth 100000 in
theorem c_X7_exits (l : Launch) (G : cd_G) (a1 : Int32) (h : cd_Hp) (out : (Int32 × cd_Hp)) (E : f_X7_exits a1 h = some out) : cd_Mi l G yX7_exits (Cond.code yX7_exits cX7_exits 2 (some .int) :: cd_T) rm_X7_exits [.ref (G.2.2.2.2 + 0), .int a1] h out := by
  refine cd_ini (by decide) (Nat.le_of_ble_eq_true rfl) ?_
  intro p e s m args below meth c Q ls H locs S hK hZ hl hret
  have hl : lv_has ls 2 [(0, .ref (G.2.2.2.2 + 0)), (1, .int a1)] := hl
  unfold f_X7_exits at E
  refine lv_aload_n S.1 S.2.1 dX7_exits_0 rfl (lv_at hl 0 rfl) ?_
  refine cd_get7 (v := .ref (G.2.2.2.2 + 60)) S hK hZ cd_this7 1 cd_f_X7_24 rfl dX7_exits_1 ?_
  refine lv_aload_n S.1 S.2.1 dX7_exits_4 rfl (lv_at hl 0 rfl) ?_
  refine cd_get7 (v := .ref (G.2.2.2.2 + 4)) S hK hZ cd_this7 0 cd_f_X7_15 rfl dX7_exits_5 ?_
  obtain ⟨o1, E1, E⟩ := cd_bE E
  refine cd_cVv (As := [.ref (G.2.2.2.2 + 4)]) S hK hZ hl.1 (c_X1_hold l G 60 4 (cd_r7_1 cd_this7) (cd_r7_0 cd_this7) h o1 E1) cd_v_X1_hold cd_m_X7_39 ⟨Nat.le_of_ble_eq_true rfl, Nat.le_of_ble_eq_true rfl⟩ ⟨rfl, rfl⟩ (ci := 1) (by decide) rfl (cd_r7_1 cd_this7) rfl rfl (Nat.le_of_ble_eq_true rfl) ⟨Nat.zero_le _, Nat.zero_le _⟩ dX7_exits_8 (fun H locs hZ => ?_)
  refine lv_aload_n S.1 S.2.1 dX7_exits_11 rfl (lv_at hl 0 rfl) ?_
  refine lv_aload_n S.1 S.2.1 dX7_exits_12 rfl (lv_at hl 0 rfl) ?_
  refine cd_get7 (v := .ref (G.2.2.2.2 + 4)) S hK hZ cd_this7 0 cd_f_X7_15 rfl dX7_exits_13 ?_
  refine lv_iload_n S.1 S.2.1 dX7_exits_16 rfl (lv_at hl 1 rfl) ?_
  obtain ⟨o3, E1, E⟩ := cd_bE E
  refine cd_cVi (As := [.int a1]) S hK hZ hl.1 (c_X4_endTask l G 4 a1 (cd_r7_0 cd_this7) o1 o3 E1) cd_v_X4_endTask cd_m_X7_67 ⟨Nat.le_of_ble_eq_true rfl, Nat.le_of_ble_eq_true rfl⟩ ⟨rfl, rfl⟩ (ci := 4) (by decide) rfl (cd_r7_0 cd_this7) rfl rfl (Nat.le_of_ble_eq_true rfl) ⟨Nat.zero_le _, Nat.zero_le _⟩ dX7_exits_17 (fun H locs hZ => ?_)
  obtain ⟨o5, E1, E⟩ := cd_bE E
  refine cd_cVi (As := [.int o3.1]) S hK hZ hl.1 (c_X7_settle l G o3.1 o3.2 o5 E1) cd_v_X7_settle cd_m_X7_47 ⟨Nat.le_of_ble_eq_true rfl, Nat.le_of_ble_eq_true rfl⟩ ⟨rfl, rfl⟩ (ci := 7) (by decide) rfl cd_this7 rfl rfl (Nat.le_of_ble_eq_true rfl) ⟨Nat.zero_le _, Nat.zero_le _⟩ dX7_exits_20 (fun H locs hZ => ?_)
  exact hret _ _ _ _ _ _ (Option.some.inj E) hZ dX7_exits_23
abbrev rm_X7_group : Room := { frames := 5, cells := 0, slots := 0, locals := 165 }
theorem cd_v_X7_group : cd_V yX7_group cX7_group 6 (some .int) 5 := ⟨cd_i_X7_group, cd_e_X7_X7_group, cd_n_X7, cd_c_X7_group, by decide +kernel⟩
set_option maxHeartbeats 4000000 in
set_option maxRecDepth 100000 in
theorem c_X7_group (l : Launch) (G : cd_G) (a1 : Int32) (a2 : Int32) (a3 : Int32) (a4 : Int32) (a5 : Int32) (h : cd_Hp) (out : (Int32 × cd_Hp)) (E : f_X7_group a1 a2 a3 a4 a5 h = some out) : cd_Mi l G yX7_group (Cond.code yX7_group cX7_group 6 (some .int) :: cd_T) rm_X7_group [.ref (G.2.2.2.2 + 0), .int a1, .int a2, .int a3, .int a4, .int a5] h out := by
  refine cd_ini (by decide) (Nat.le_of_ble_eq_true rfl) ?_
  intro p e s m args below meth c Q ls H locs S hK hZ hl hret
  have hl : lv_has ls 6 [(0, .ref (G.2.2.2.2 + 0)), (1, .int a1), (2, .int a2), (3, .int a3), (4, .int a4), (5, .int a5)] := hl
  unfold f_X7_group at E
  refine lv_aload_n S.1 S.2.1 dX7_group_0 rfl (lv_at hl 0 rfl) ?_
  refine cd_get7 (v := .ref (G.2.2.2.2 + 60)) S hK hZ cd_this7 1 cd_f_X7_24 rfl dX7_group_1 ?_
  refine lv_aload_n S.1 S.2.1 dX7_group_4 rfl (lv_at hl 0 rfl) ?_
  refine cd_get7 (v := .ref (G.2.2.2.2 + 4)) S hK hZ cd_this7 0 cd_f_X7_15 rfl dX7_group_5 ?_
  obtain ⟨o1, E1, E⟩ := cd_bE E
  refine cd_cVv (As := [.ref (G.2.2.2.2 + 4)]) S hK hZ hl.1 (c_X1_hold l G 60 4 (cd_r7_1 cd_this7) (cd_r7_0 cd_this7) h o1 E1) cd_v_X1_hold cd_m_X7_39 ⟨Nat.le_of_ble_eq_true rfl, Nat.le_of_ble_eq_true rfl⟩ ⟨rfl, rfl⟩ (ci := 1) (by decide) rfl (cd_r7_1 cd_this7) rfl rfl (Nat.le_of_ble_eq_true rfl) ⟨Nat.zero_le _, Nat.zero_le _⟩ dX7_group_8 (fun H locs hZ => ?_)
  refine lv_aload_n S.1 S.2.1 dX7_group_11 rfl (lv_at hl 0 rfl) ?_
  refine lv_aload_n S.1 S.2.1 dX7_group_12 rfl (lv_at hl 0 rfl) ?_
  refine cd_get7 (v := .ref (G.2.2.2.2 + 4)) S hK hZ cd_this7 0 cd_f_X7_15 rfl dX7_group_13 ?_
  refine lv_iload_n S.1 S.2.1 dX7_group_16 rfl (lv_at hl 1 rfl) ?_
  refine lv_iload_n S.1 S.2.1 dX7_group_17 rfl (lv_at hl 2 rfl) ?_
  refine lv_iload_n S.1 S.2.1 dX7_group_18 rfl (lv_at hl 3 rfl) ?_
  refine lv_iload S.1 S.2.1 dX7_group_19 (lv_at hl 4 rfl) ?_
  refine lv_iload S.1 S.2.1 dX7_group_21 (lv_at hl 5 rfl) ?_
  obtain ⟨o3, E1, E⟩ := cd_bE E
  refine cd_cVi (As := [.int a1, .int a2, .int a3, .int a4, .int a5]) S hK hZ hl.1 (c_X4_addGroup l G 4 a1 a2 a3 a4 a5 (cd_r7_0 cd_this7) o1 o3 E1) cd_v_X4_addGroup cd_m_X7_70 ⟨Nat.le_of_ble_eq_true rfl, Nat.le_of_ble_eq_true rfl⟩ ⟨rfl, rfl⟩ (ci := 4) (by decide) rfl (cd_r7_0 cd_this7) rfl rfl (Nat.le_of_ble_eq_true rfl) ⟨Nat.zero_le _, Nat.zero_le _⟩ dX7_group_23 (fun H locs hZ => ?_)
  obtain ⟨o5, E1, E⟩ := cd_bE E
  refine cd_cVi (As := [.int o3.1]) S hK hZ hl.1 (c_X7_settle l G o3.1 o3.2 o5 E1) cd_v_X7_settle cd_m_X7_47 ⟨Nat.le_of_ble_eq_true rfl, Nat.le_of_ble_eq_true rfl⟩ ⟨rfl, rfl⟩ (ci := 7) (by decide) rfl cd_this7 rfl rfl (Nat.le_of_ble_eq_true rfl) ⟨Nat.zero_le _, Nat.zero_le _⟩ dX7_group_26 (fun H locs hZ => ?_)
  exact hret _ _ _ _ _ _ (Option.some.inj E) hZ dX7_group_29
abbrev rm_X7_event : Room := { frames := 5, cells := 0, slots := 0, locals := 165 }
theorem cd_v_X7_event : cd_V yX7_event cX7_event 3 (some .int) 2 := ⟨cd_i_X7_event, cd_e_X7_X7_event, cd_n_X7, cd_c_X7_event, by decide +kernel⟩
set_option maxHeartbeats 4000000 in
set_option maxRecDepth 100000 in
theorem c_X7_event (l : Launch) (G : cd_G) (a1 : Int32) (a2 : Int32) (h : cd_Hp) (out : (Int32 × cd_Hp)) (E : f_X7_event a1 a2 h = some out) : cd_Mi l G yX7_event (Cond.code yX7_event cX7_event 3 (some .int) :: cd_T) rm_X7_event [.ref (G.2.2.2.2 + 0), .int a1, .int a2] h out := by
  refine cd_ini (by decide) (Nat.le_of_ble_eq_true rfl) ?_
  intro p e s m args below meth c Q ls H locs S hK hZ hl hret
  have hl : lv_has ls 3 [(0, .ref (G.2.2.2.2 + 0)), (1, .int a1), (2, .int a2)] := hl
  unfold f_X7_event at E
  refine lv_aload_n S.1 S.2.1 dX7_event_0 rfl (lv_at hl 0 rfl) ?_
  refine cd_get7 (v := .ref (G.2.2.2.2 + 60)) S hK hZ cd_this7 1 cd_f_X7_24 rfl dX7_event_1 ?_
  refine lv_aload_n S.1 S.2.1 dX7_event_4 rfl (lv_at hl 0 rfl) ?_
  refine cd_get7 (v := .ref (G.2.2.2.2 + 4)) S hK hZ cd_this7 0 cd_f_X7_15 rfl dX7_event_5 ?_
  obtain ⟨o1, E1, E⟩ := cd_bE E
  refine cd_cVv (As := [.ref (G.2.2.2.2 + 4)]) S hK hZ hl.1 (c_X1_hold l G 60 4 (cd_r7_1 cd_this7) (cd_r7_0 cd_this7) h o1 E1) cd_v_X1_hold cd_m_X7_39 ⟨Nat.le_of_ble_eq_true rfl, Nat.le_of_ble_eq_true rfl⟩ ⟨rfl, rfl⟩ (ci := 1) (by decide) rfl (cd_r7_1 cd_this7) rfl rfl (Nat.le_of_ble_eq_true rfl) ⟨Nat.zero_le _, Nat.zero_le _⟩ dX7_event_8 (fun H locs hZ => ?_)
  refine lv_aload_n S.1 S.2.1 dX7_event_11 rfl (lv_at hl 0 rfl) ?_
  refine lv_aload_n S.1 S.2.1 dX7_event_12 rfl (lv_at hl 0 rfl) ?_
  refine cd_get7 (v := .ref (G.2.2.2.2 + 4)) S hK hZ cd_this7 0 cd_f_X7_15 rfl dX7_event_13 ?_
  refine lv_iload_n S.1 S.2.1 dX7_event_16 rfl (lv_at hl 1 rfl) ?_
  refine lv_iload_n S.1 S.2.1 dX7_event_17 rfl (lv_at hl 2 rfl) ?_
  obtain ⟨o3, E1, E⟩ := cd_bE E
  refine cd_cVi (As := [.int a1, .int a2]) S hK hZ hl.1 (c_X4_addEvent l G 4 a1 a2 (cd_r7_0 cd_this7) o1 o3 E1) cd_v_X4_addEvent cd_m_X7_74 ⟨Nat.le_of_ble_eq_true rfl, Nat.le_of_ble_eq_true rfl⟩ ⟨rfl, rfl⟩ (ci := 4) (by decide) rfl (cd_r7_0 cd_this7) rfl rfl (Nat.le_of_ble_eq_true rfl) ⟨Nat.zero_le _, Nat.zero_le _⟩ dX7_event_18 (fun H locs hZ => ?_)
  obtain ⟨o5, E1, E⟩ := cd_bE E
  refine cd_cVi (As := [.int o3.1]) S hK hZ hl.1 (c_X7_settle l G o3.1 o3.2 o5 E1) cd_v_X7_settle cd_m_X7_47 ⟨Nat.le_of_ble_eq_true rfl, Nat.le_of_ble_eq_true rfl⟩ ⟨rfl, rfl⟩ (ci := 7) (by decide) rfl cd_this7 rfl rfl (Nat.le_of_ble_eq_true rfl) ⟨Nat.zero_le _, Nat.zero_le _⟩ dX7_event_21 (fun H locs hZ => ?_)
  exact hret _ _ _ _ _ _ (Option.some.inj E) hZ dX7_event_24
abbrev rm_X7_periods : Room := { frames := 5, cells := 0, slots := 0, locals := 165 }
theorem cd_v_X7_periods : cd_V yX7_periods cX7_periods 3 (some .int) 2 := ⟨cd_i_X7_periods, cd_e_X7_X7_periods, cd_n_X7, cd_c_X7_periods, by decide +kernel⟩
set_option maxHeartbeats 4000000 in
set_option maxRecDepth 100000 in
theorem c_X7_periods (l : Launch) (G : cd_G) (a1 : Int32) (a2 : Int32) (h : cd_Hp) (out : (Int32 × cd_Hp)) (E : f_X7_periods a1 a2 h = some out) : cd_Mi l G yX7_periods (Cond.code yX7_periods cX7_periods 3 (some .int) :: cd_T) rm_X7_periods [.ref (G.2.2.2.2 + 0), .int a1, .int a2] h out := by
  refine cd_ini (by decide) (Nat.le_of_ble_eq_true rfl) ?_
  intro p e s m args below meth c Q ls H locs S hK hZ hl hret
  have hl : lv_has ls 3 [(0, .ref (G.2.2.2.2 + 0)), (1, .int a1), (2, .int a2)] := hl
  unfold f_X7_periods at E
  refine lv_aload_n S.1 S.2.1 dX7_periods_0 rfl (lv_at hl 0 rfl) ?_
  refine cd_get7 (v := .ref (G.2.2.2.2 + 60)) S hK hZ cd_this7 1 cd_f_X7_24 rfl dX7_periods_1 ?_
  refine lv_aload_n S.1 S.2.1 dX7_periods_4 rfl (lv_at hl 0 rfl) ?_
  refine cd_get7 (v := .ref (G.2.2.2.2 + 4)) S hK hZ cd_this7 0 cd_f_X7_15 rfl dX7_periods_5 ?_
  obtain ⟨o1, E1, E⟩ := cd_bE E
  refine cd_cVv (As := [.ref (G.2.2.2.2 + 4)]) S hK hZ hl.1 (c_X1_hold l G 60 4 (cd_r7_1 cd_this7) (cd_r7_0 cd_this7) h o1 E1) cd_v_X1_hold cd_m_X7_39 ⟨Nat.le_of_ble_eq_true rfl, Nat.le_of_ble_eq_true rfl⟩ ⟨rfl, rfl⟩ (ci := 1) (by decide) rfl (cd_r7_1 cd_this7) rfl rfl (Nat.le_of_ble_eq_true rfl) ⟨Nat.zero_le _, Nat.zero_le _⟩ dX7_periods_8 (fun H locs hZ => ?_)
  refine lv_aload_n S.1 S.2.1 dX7_periods_11 rfl (lv_at hl 0 rfl) ?_
  refine lv_aload_n S.1 S.2.1 dX7_periods_12 rfl (lv_at hl 0 rfl) ?_
  refine cd_get7 (v := .ref (G.2.2.2.2 + 4)) S hK hZ cd_this7 0 cd_f_X7_15 rfl dX7_periods_13 ?_
  refine lv_iload_n S.1 S.2.1 dX7_periods_16 rfl (lv_at hl 1 rfl) ?_
  refine lv_iload_n S.1 S.2.1 dX7_periods_17 rfl (lv_at hl 2 rfl) ?_
  obtain ⟨o3, E1, E⟩ := cd_bE E
  refine cd_cVi (As := [.int a1, .int a2]) S hK hZ hl.1 (c_X4_putPeriod l G 4 a1 a2 (cd_r7_0 cd_this7) o1 o3 E1) cd_v_X4_putPeriod cd_m_X7_77 ⟨Nat.le_of_ble_eq_true rfl, Nat.le_of_ble_eq_true rfl⟩ ⟨rfl, rfl⟩ (ci := 4) (by decide) rfl (cd_r7_0 cd_this7) rfl rfl (Nat.le_of_ble_eq_true rfl) ⟨Nat.zero_le _, Nat.zero_le _⟩ dX7_periods_18 (fun H locs hZ => ?_)
  obtain ⟨o5, E1, E⟩ := cd_bE E
  refine cd_cVi (As := [.int o3.1]) S hK hZ hl.1 (c_X7_settle l G o3.1 o3.2 o5 E1) cd_v_X7_settle cd_m_X7_47 ⟨Nat.le_of_ble_eq_true rfl, Nat.le_of_ble_eq_true rfl⟩ ⟨rfl, rfl⟩ (ci := 7) (by decide) rfl cd_this7 rfl rfl (Nat.le_of_ble_eq_true rfl) ⟨Nat.zero_le _, Nat.zero_le _⟩ dX7_periods_21 (fun H locs hZ => ?_)
  exact hret _ _ _ _ _ _ (Option.some.inj E) hZ dX7_periods_24
abbrev rm_X7_skids : Room := { frames := 5, cells := 0, slots := 0, locals := 165 }
theorem cd_v_X7_skids : cd_V yX7_skids cX7_skids 2 (some .int) 1 := ⟨cd_i_X7_skids, cd_e_X7_X7_skids, cd_n_X7, cd_c_X7_skids, by decide +kernel⟩
set_option maxHeartbeats 4000000 in
set_option maxRecDepth 100000 in
theorem c_X7_skids (l : Launch) (G : cd_G) (a1 : Int32) (h : cd_Hp) (out : (Int32 × cd_Hp)) (E : f_X7_skids a1 h = some out) : cd_Mi l G yX7_skids (Cond.code yX7_skids cX7_skids 2 (some .int) :: cd_T) rm_X7_skids [.ref (G.2.2.2.2 + 0), .int a1] h out := by
  refine cd_ini (by decide) (Nat.le_of_ble_eq_true rfl) ?_
  intro p e s m args below meth c Q ls H locs S hK hZ hl hret
  have hl : lv_has ls 2 [(0, .ref (G.2.2.2.2 + 0)), (1, .int a1)] := hl
  unfold f_X7_skids at E
  refine lv_aload_n S.1 S.2.1 dX7_skids_0 rfl (lv_at hl 0 rfl) ?_
  refine cd_get7 (v := .ref (G.2.2.2.2 + 60)) S hK hZ cd_this7 1 cd_f_X7_24 rfl dX7_skids_1 ?_
  refine lv_aload_n S.1 S.2.1 dX7_skids_4 rfl (lv_at hl 0 rfl) ?_
  refine cd_get7 (v := .ref (G.2.2.2.2 + 4)) S hK hZ cd_this7 0 cd_f_X7_15 rfl dX7_skids_5 ?_
  obtain ⟨o1, E1, E⟩ := cd_bE E
  refine cd_cVv (As := [.ref (G.2.2.2.2 + 4)]) S hK hZ hl.1 (c_X1_hold l G 60 4 (cd_r7_1 cd_this7) (cd_r7_0 cd_this7) h o1 E1) cd_v_X1_hold cd_m_X7_39 ⟨Nat.le_of_ble_eq_true rfl, Nat.le_of_ble_eq_true rfl⟩ ⟨rfl, rfl⟩ (ci := 1) (by decide) rfl (cd_r7_1 cd_this7) rfl rfl (Nat.le_of_ble_eq_true rfl) ⟨Nat.zero_le _, Nat.zero_le _⟩ dX7_skids_8 (fun H locs hZ => ?_)
  refine lv_aload_n S.1 S.2.1 dX7_skids_11 rfl (lv_at hl 0 rfl) ?_
  refine lv_aload_n S.1 S.2.1 dX7_skids_12 rfl (lv_at hl 0 rfl) ?_
  refine cd_get7 (v := .ref (G.2.2.2.2 + 4)) S hK hZ cd_this7 0 cd_f_X7_15 rfl dX7_skids_13 ?_
  refine lv_iload_n S.1 S.2.1 dX7_skids_16 rfl (lv_at hl 1 rfl) ?_
  obtain ⟨o3, E1, E⟩ := cd_nmE E
  refine cd_cVi (As := [.int a1]) S hK hZ hl.1 (c_X4_putSkid l G 4 a1 (cd_r7_0 cd_this7) o1 o3 E1.symm) cd_v_X4_putSkid cd_m_X7_80 ⟨Nat.le_of_ble_eq_true rfl, Nat.le_of_ble_eq_true rfl⟩ ⟨rfl, rfl⟩ (ci := 4) (by decide) rfl (cd_r7_0 cd_this7) rfl rfl (Nat.le_of_ble_eq_true rfl) ⟨Nat.zero_le _, Nat.zero_le _⟩ dX7_skids_17 (fun H locs hZ => ?_)
  obtain ⟨o5, E1, E⟩ := cd_bE E
  refine cd_cVi (As := [.int o3.1]) S hK hZ hl.1 (c_X7_settle l G o3.1 o3.2 o5 E1) cd_v_X7_settle cd_m_X7_47 ⟨Nat.le_of_ble_eq_true rfl, Nat.le_of_ble_eq_true rfl⟩ ⟨rfl, rfl⟩ (ci := 7) (by decide) rfl cd_this7 rfl rfl (Nat.le_of_ble_eq_true rfl) ⟨Nat.zero_le _, Nat.zero_le _⟩ dX7_skids_20 (fun H locs hZ => ?_)
  exact hret _ _ _ _ _ _ (Option.some.inj E) hZ dX7_skids_23
abbrev rm_X7_lives : Room := { frames := 5, cells := 0, slots := 0, locals := 165 }
theorem cd_v_X7_lives : cd_V yX7_lives cX7_lives 3 (some .int) 2 := ⟨cd_i_X7_lives, cd_e_X7_X7_lives, cd_n_X7, cd_c_X7_lives, by decide +kernel⟩
set_option maxHeartbeats 4000000 in
set_option maxRecDepth 100000 in
theorem c_X7_lives (l : Launch) (G : cd_G) (a1 : Int32) (a2 : Int32) (h : cd_Hp) (out : (Int32 × cd_Hp)) (E : f_X7_lives a1 a2 h = some out) : cd_Mi l G yX7_lives (Cond.code yX7_lives cX7_lives 3 (some .int) :: cd_T) rm_X7_lives [.ref (G.2.2.2.2 + 0), .int a1, .int a2] h out := by
  refine cd_ini (by decide) (Nat.le_of_ble_eq_true rfl) ?_
  intro p e s m args below meth c Q ls H locs S hK hZ hl hret
  have hl : lv_has ls 3 [(0, .ref (G.2.2.2.2 + 0)), (1, .int a1), (2, .int a2)] := hl
  unfold f_X7_lives at E
  refine lv_aload_n S.1 S.2.1 dX7_lives_0 rfl (lv_at hl 0 rfl) ?_
  refine cd_get7 (v := .ref (G.2.2.2.2 + 60)) S hK hZ cd_this7 1 cd_f_X7_24 rfl dX7_lives_1 ?_
  refine lv_aload_n S.1 S.2.1 dX7_lives_4 rfl (lv_at hl 0 rfl) ?_
  refine cd_get7 (v := .ref (G.2.2.2.2 + 4)) S hK hZ cd_this7 0 cd_f_X7_15 rfl dX7_lives_5 ?_
  obtain ⟨o1, E1, E⟩ := cd_bE E
  refine cd_cVv (As := [.ref (G.2.2.2.2 + 4)]) S hK hZ hl.1 (c_X1_hold l G 60 4 (cd_r7_1 cd_this7) (cd_r7_0 cd_this7) h o1 E1) cd_v_X1_hold cd_m_X7_39 ⟨Nat.le_of_ble_eq_true rfl, Nat.le_of_ble_eq_true rfl⟩ ⟨rfl, rfl⟩ (ci := 1) (by decide) rfl (cd_r7_1 cd_this7) rfl rfl (Nat.le_of_ble_eq_true rfl) ⟨Nat.zero_le _, Nat.zero_le _⟩ dX7_lives_8 (fun H locs hZ => ?_)
  refine lv_aload_n S.1 S.2.1 dX7_lives_11 rfl (lv_at hl 0 rfl) ?_
  refine lv_aload_n S.1 S.2.1 dX7_lives_12 rfl (lv_at hl 0 rfl) ?_
  refine cd_get7 (v := .ref (G.2.2.2.2 + 4)) S hK hZ cd_this7 0 cd_f_X7_15 rfl dX7_lives_13 ?_
  refine lv_iload_n S.1 S.2.1 dX7_lives_16 rfl (lv_at hl 1 rfl) ?_
  refine lv_iload_n S.1 S.2.1 dX7_lives_17 rfl (lv_at hl 2 rfl) ?_
  obtain ⟨o3, E1, E⟩ := cd_bE E
  refine cd_cVi (As := [.int a1, .int a2]) S hK hZ hl.1 (c_X4_putLive l G 4 a1 a2 (cd_r7_0 cd_this7) o1 o3 E1) cd_v_X4_putLive cd_m_X7_83 ⟨Nat.le_of_ble_eq_true rfl, Nat.le_of_ble_eq_true rfl⟩ ⟨rfl, rfl⟩ (ci := 4) (by decide) rfl (cd_r7_0 cd_this7) rfl rfl (Nat.le_of_ble_eq_true rfl) ⟨Nat.zero_le _, Nat.zero_le _⟩ dX7_lives_18 (fun H locs hZ => ?_)
  obtain ⟨o5, E1, E⟩ := cd_bE E
  refine cd_cVi (As := [.int o3.1]) S hK hZ hl.1 (c_X7_settle l G o3.1 o3.2 o5 E1) cd_v_X7_settle cd_m_X7_47 ⟨Nat.le_of_ble_eq_true rfl, Nat.le_of_ble_eq_true rfl⟩ ⟨rfl, rfl⟩ (ci := 7) (by decide) rfl cd_this7 rfl rfl (Nat.le_of_ble_eq_true rfl) ⟨Nat.zero_le _, Nat.zero_le _⟩ dX7_lives_21 (fun H locs hZ => ?_)
  exact hret _ _ _ _ _ _ (Option.some.inj E) hZ dX7_lives_24
abbrev rm_X7_runs : Room := { frames := 10, cells := 0, slots := 0, locals := 248 }
theorem cd_v_X7_runs : cd_V yX7_runs cX7_runs 3 (some .int) 2 := ⟨cd_i_X7_runs, cd_e_X7_X7_runs, cd_n_X7, cd_c_X7_runs, by decide +kernel⟩
set_option maxHeartbeats 4000000 in
set_option maxRecDepth 100000 in
theorem c_X7_runs (l : Launch) (G : cd_G) (a1 : Int32) (a2 : Int32) (h : cd_Hp) (out : (Int32 × cd_Hp)) (E : f_X7_runs a1 a2 h = some out) : cd_Mi l G yX7_runs (Cond.code yX7_runs cX7_runs 3 (some .int) :: cd_T) rm_X7_runs [.ref (G.2.2.2.2 + 0), .int a1, .int a2] h out := by
  refine cd_ini (by decide) (Nat.le_of_ble_eq_true rfl) ?_
  intro p e s m args below meth c Q ls H locs S hK hZ hl hret
  have hl : lv_has ls 3 [(0, .ref (G.2.2.2.2 + 0)), (1, .int a1), (2, .int a2)] := hl
  unfold f_X7_runs at E
  refine lv_aload_n S.1 S.2.1 dX7_runs_0 rfl (lv_at hl 0 rfl) ?_
  refine cd_get7 (v := .ref (G.2.2.2.2 + 60)) S hK hZ cd_this7 1 cd_f_X7_24 rfl dX7_runs_1 ?_
  refine lv_aload_n S.1 S.2.1 dX7_runs_4 rfl (lv_at hl 0 rfl) ?_
  refine cd_get7 (v := .ref (G.2.2.2.2 + 4)) S hK hZ cd_this7 0 cd_f_X7_15 rfl dX7_runs_5 ?_
  obtain ⟨o1, E1, E⟩ := cd_bE E
  refine cd_cVv (As := [.ref (G.2.2.2.2 + 4)]) S hK hZ hl.1 (c_X1_hold l G 60 4 (cd_r7_1 cd_this7) (cd_r7_0 cd_this7) h o1 E1) cd_v_X1_hold cd_m_X7_39 ⟨Nat.le_of_ble_eq_true rfl, Nat.le_of_ble_eq_true rfl⟩ ⟨rfl, rfl⟩ (ci := 1) (by decide) rfl (cd_r7_1 cd_this7) rfl rfl (Nat.le_of_ble_eq_true rfl) ⟨Nat.zero_le _, Nat.zero_le _⟩ dX7_runs_8 (fun H locs hZ => ?_)
  refine lv_aload_n S.1 S.2.1 dX7_runs_11 rfl (lv_at hl 0 rfl) ?_
  refine lv_aload_n S.1 S.2.1 dX7_runs_12 rfl (lv_at hl 0 rfl) ?_
  refine cd_get7 (v := .ref (G.2.2.2.2 + 4)) S hK hZ cd_this7 0 cd_f_X7_15 rfl dX7_runs_13 ?_
  refine lv_iload_n S.1 S.2.1 dX7_runs_16 rfl (lv_at hl 1 rfl) ?_
  refine lv_iload_n S.1 S.2.1 dX7_runs_17 rfl (lv_at hl 2 rfl) ?_
  obtain ⟨o3, E1, E⟩ := cd_bE E
  refine cd_cVi (As := [.int a1, .int a2]) S hK hZ hl.1 (c_X4_runSlices l G 4 a1 a2 (cd_r7_0 cd_this7) o1 o3 E1) cd_v_X4_runSlices cd_m_X7_86 ⟨Nat.le_of_ble_eq_true rfl, Nat.le_of_ble_eq_true rfl⟩ ⟨rfl, rfl⟩ (ci := 4) (by decide) rfl (cd_r7_0 cd_this7) rfl rfl (Nat.le_of_ble_eq_true rfl) ⟨Nat.zero_le _, Nat.zero_le _⟩ dX7_runs_18 (fun H locs hZ => ?_)
  obtain ⟨o5, E1, E⟩ := cd_bE E
  refine cd_cVi (As := [.int o3.1]) S hK hZ hl.1 (c_X7_settle l G o3.1 o3.2 o5 E1) cd_v_X7_settle cd_m_X7_47 ⟨Nat.le_of_ble_eq_true rfl, Nat.le_of_ble_eq_true rfl⟩ ⟨rfl, rfl⟩ (ci := 7) (by decide) rfl cd_this7 rfl rfl (Nat.le_of_ble_eq_true rfl) ⟨Nat.zero_le _, Nat.zero_le _⟩ dX7_runs_21 (fun H locs hZ => ?_)
  exact hret _ _ _ _ _ _ (Option.some.inj E) hZ dX7_runs_24
abbrev rm_X7_task : Room := { frames := 4, cells := 0, slots := 0, locals := 94 }
theorem cd_v_X7_task : cd_V yX7_task cX7_task 3 (some .int) 2 := ⟨cd_i_X7_task, cd_e_X7_X7_task, cd_n_X7, cd_c_X7_task, by decide +kernel⟩
set_option maxHeartbeats 4000000 in
set_option maxRecDepth 100000 in
theorem c_X7_task (l : Launch) (G : cd_G) (a1 : Int32) (a2 : Int32) (h : cd_Hp) (out : (Int32 × cd_Hp)) (E : f_X7_task a1 a2 h = some out) : cd_Mi l G yX7_task (Cond.code yX7_task cX7_task 3 (some .int) :: cd_T) rm_X7_task [.ref (G.2.2.2.2 + 0), .int a1, .int a2] h out := by
  refine cd_ini (by decide) (Nat.le_of_ble_eq_true rfl) ?_
  intro p e s m args below meth c Q ls H locs S hK hZ hl hret
  have hl : lv_has ls 3 [(0, .ref (G.2.2.2.2 + 0)), (1, .int a1), (2, .int a2)] := hl
  unfold f_X7_task at E
  refine lv_aload_n S.1 S.2.1 dX7_task_0 rfl (lv_at hl 0 rfl) ?_
  refine lv_aload_n S.1 S.2.1 dX7_task_1 rfl (lv_at hl 0 rfl) ?_
  refine cd_get7 (v := .ref (G.2.2.2.2 + 4)) S hK hZ cd_this7 0 cd_f_X7_15 rfl dX7_task_2 ?_
  refine lv_iload_n S.1 S.2.1 dX7_task_5 rfl (lv_at hl 1 rfl) ?_
  refine lv_iload_n S.1 S.2.1 dX7_task_6 rfl (lv_at hl 2 rfl) ?_
  obtain ⟨o1, E1, E⟩ := cd_bE E
  refine cd_cVi (As := [.int a1, .int a2]) S hK hZ hl.1 (c_X4_taskFact l G 4 a1 a2 (cd_r7_0 cd_this7) h o1 E1) cd_v_X4_taskFact cd_m_X7_89 ⟨Nat.le_of_ble_eq_true rfl, Nat.le_of_ble_eq_true rfl⟩ ⟨rfl, rfl⟩ (ci := 4) (by decide) rfl (cd_r7_0 cd_this7) rfl rfl (Nat.le_of_ble_eq_true rfl) ⟨Nat.zero_le _, Nat.zero_le _⟩ dX7_task_7 (fun H locs hZ => ?_)
  obtain ⟨o3, E1, E⟩ := cd_bE E
  refine cd_cVi (As := [.int o1]) S hK hZ hl.1 (c_X7_answer l G o1 h o3 E1) cd_v_X7_answer cd_m_X7_92 ⟨Nat.le_of_ble_eq_true rfl, Nat.le_of_ble_eq_true rfl⟩ ⟨rfl, rfl⟩ (ci := 7) (by decide) rfl cd_this7 rfl rfl (Nat.le_of_ble_eq_true rfl) ⟨Nat.zero_le _, Nat.zero_le _⟩ dX7_task_10 (fun H locs hZ => ?_)
  exact hret _ _ _ _ _ _ (Option.some.inj E) hZ dX7_task_13
abbrev rm_X7_of : Room := { frames := 3, cells := 0, slots := 0, locals := 66 }
theorem cd_v_X7_of : cd_V yX7_of cX7_of 3 (some .int) 2 := ⟨cd_i_X7_of, cd_e_X7_X7_of, cd_n_X7, cd_c_X7_of, by decide +kernel⟩
set_option maxHeartbeats 4000000 in
set_option maxRecDepth 100000 in
theorem c_X7_of (l : Launch) (G : cd_G) (a1 : Int32) (a2 : Int32) (h : cd_Hp) (out : (Int32 × cd_Hp)) (E : f_X7_of a1 a2 h = some out) : cd_Mi l G yX7_of (Cond.code yX7_of cX7_of 3 (some .int) :: cd_T) rm_X7_of [.ref (G.2.2.2.2 + 0), .int a1, .int a2] h out := by
  refine cd_ini (by decide) (Nat.le_of_ble_eq_true rfl) ?_
  intro p e s m args below meth c Q ls H locs S hK hZ hl hret
  have hl : lv_has ls 3 [(0, .ref (G.2.2.2.2 + 0)), (1, .int a1), (2, .int a2)] := hl
  unfold f_X7_of at E
  refine lv_aload_n S.1 S.2.1 dX7_of_0 rfl (lv_at hl 0 rfl) ?_
  refine lv_aload_n S.1 S.2.1 dX7_of_1 rfl (lv_at hl 0 rfl) ?_
  refine cd_get7 (v := .ref (G.2.2.2.2 + 4)) S hK hZ cd_this7 0 cd_f_X7_15 rfl dX7_of_2 ?_
  refine lv_iload_n S.1 S.2.1 dX7_of_5 rfl (lv_at hl 1 rfl) ?_
  refine lv_iload_n S.1 S.2.1 dX7_of_6 rfl (lv_at hl 2 rfl) ?_
  obtain ⟨o1, E1, E⟩ := cd_bE E
  refine cd_cVi (As := [.int a1, .int a2]) S hK hZ hl.1 (c_X4_groupFact l G 4 a1 a2 (cd_r7_0 cd_this7) h o1 E1) cd_v_X4_groupFact cd_m_X7_95 ⟨Nat.le_of_ble_eq_true rfl, Nat.le_of_ble_eq_true rfl⟩ ⟨rfl, rfl⟩ (ci := 4) (by decide) rfl (cd_r7_0 cd_this7) rfl rfl (Nat.le_of_ble_eq_true rfl) ⟨Nat.zero_le _, Nat.zero_le _⟩ dX7_of_7 (fun H locs hZ => ?_)
  obtain ⟨o3, E1, E⟩ := cd_bE E
  refine cd_cVi (As := [.int o1]) S hK hZ hl.1 (c_X7_answer l G o1 h o3 E1) cd_v_X7_answer cd_m_X7_92 ⟨Nat.le_of_ble_eq_true rfl, Nat.le_of_ble_eq_true rfl⟩ ⟨rfl, rfl⟩ (ci := 7) (by decide) rfl cd_this7 rfl rfl (Nat.le_of_ble_eq_true rfl) ⟨Nat.zero_le _, Nat.zero_le _⟩ dX7_of_10 (fun H locs hZ => ?_)
  exact hret _ _ _ _ _ _ (Option.some.inj E) hZ dX7_of_13
abbrev rm_X7_about : Room := { frames := 4, cells := 0, slots := 0, locals := 88 }
theorem cd_v_X7_about : cd_V yX7_about cX7_about 4 (some .int) 3 := ⟨cd_i_X7_about, cd_e_X7_X7_about, cd_n_X7, cd_c_X7_about, by decide +kernel⟩
set_option maxHeartbeats 4000000 in
set_option maxRecDepth 100000 in
theorem c_X7_about (l : Launch) (G : cd_G) (a1 : Int32) (a2 : Int32) (a3 : Int32) (h : cd_Hp) (out : (Int32 × cd_Hp)) (E : f_X7_about a1 a2 a3 h = some out) : cd_Mi l G yX7_about (Cond.code yX7_about cX7_about 4 (some .int) :: cd_T) rm_X7_about [.ref (G.2.2.2.2 + 0), .int a1, .int a2, .int a3] h out := by
  refine cd_ini (by decide) (Nat.le_of_ble_eq_true rfl) ?_
  intro p e s m args below meth c Q ls H locs S hK hZ hl hret
  have hl : lv_has ls 4 [(0, .ref (G.2.2.2.2 + 0)), (1, .int a1), (2, .int a2), (3, .int a3)] := hl
  unfold f_X7_about at E
  refine lv_aload_n S.1 S.2.1 dX7_about_0 rfl (lv_at hl 0 rfl) ?_
  refine lv_aload_n S.1 S.2.1 dX7_about_1 rfl (lv_at hl 0 rfl) ?_
  refine cd_get7 (v := .ref (G.2.2.2.2 + 4)) S hK hZ cd_this7 0 cd_f_X7_15 rfl dX7_about_2 ?_
  refine lv_iload_n S.1 S.2.1 dX7_about_5 rfl (lv_at hl 1 rfl) ?_
  refine lv_iload_n S.1 S.2.1 dX7_about_6 rfl (lv_at hl 2 rfl) ?_
  refine lv_iload_n S.1 S.2.1 dX7_about_7 rfl (lv_at hl 3 rfl) ?_
  obtain ⟨o1, E1, E⟩ := cd_bE E
  refine cd_cVi (As := [.int a1, .int a2, .int a3]) S hK hZ hl.1 (c_X4_eventFact l G 4 a1 a2 a3 (cd_r7_0 cd_this7) h o1 E1) cd_v_X4_eventFact cd_m_X7_98 ⟨Nat.le_of_ble_eq_true rfl, Nat.le_of_ble_eq_true rfl⟩ ⟨rfl, rfl⟩ (ci := 4) (by decide) rfl (cd_r7_0 cd_this7) rfl rfl (Nat.le_of_ble_eq_true rfl) ⟨Nat.zero_le _, Nat.zero_le _⟩ dX7_about_8 (fun H locs hZ => ?_)
  obtain ⟨o3, E1, E⟩ := cd_bE E
  refine cd_cVi (As := [.int o1]) S hK hZ hl.1 (c_X7_answer l G o1 h o3 E1) cd_v_X7_answer cd_m_X7_92 ⟨Nat.le_of_ble_eq_true rfl, Nat.le_of_ble_eq_true rfl⟩ ⟨rfl, rfl⟩ (ci := 7) (by decide) rfl cd_this7 rfl rfl (Nat.le_of_ble_eq_true rfl) ⟨Nat.zero_le _, Nat.zero_le _⟩ dX7_about_11 (fun H locs hZ => ?_)
  exact hret _ _ _ _ _ _ (Option.some.inj E) hZ dX7_about_14
abbrev rm_X7_count : Room := { frames := 4, cells := 0, slots := 0, locals := 88 }
theorem cd_v_X7_count : cd_V yX7_count cX7_count 4 (some .int) 3 := ⟨cd_i_X7_count, cd_e_X7_X7_count, cd_n_X7, cd_c_X7_count, by decide +kernel⟩
set_option maxHeartbeats 4000000 in
set_option maxRecDepth 100000 in
theorem c_X7_count (l : Launch) (G : cd_G) (a1 : Int32) (a2 : Int32) (a3 : Int32) (h : cd_Hp) (out : (Int32 × cd_Hp)) (E : f_X7_count a1 a2 a3 h = some out) : cd_Mi l G yX7_count (Cond.code yX7_count cX7_count 4 (some .int) :: cd_T) rm_X7_count [.ref (G.2.2.2.2 + 0), .int a1, .int a2, .int a3] h out := by
  refine cd_ini (by decide) (Nat.le_of_ble_eq_true rfl) ?_
  intro p e s m args below meth c Q ls H locs S hK hZ hl hret
  have hl : lv_has ls 4 [(0, .ref (G.2.2.2.2 + 0)), (1, .int a1), (2, .int a2), (3, .int a3)] := hl
  unfold f_X7_count at E
  refine lv_aload_n S.1 S.2.1 dX7_count_0 rfl (lv_at hl 0 rfl) ?_
  refine lv_aload_n S.1 S.2.1 dX7_count_1 rfl (lv_at hl 0 rfl) ?_
  refine cd_get7 (v := .ref (G.2.2.2.2 + 4)) S hK hZ cd_this7 0 cd_f_X7_15 rfl dX7_count_2 ?_
  refine lv_iload_n S.1 S.2.1 dX7_count_5 rfl (lv_at hl 1 rfl) ?_
  refine lv_iload_n S.1 S.2.1 dX7_count_6 rfl (lv_at hl 2 rfl) ?_
  refine lv_iload_n S.1 S.2.1 dX7_count_7 rfl (lv_at hl 3 rfl) ?_
  obtain ⟨o1, E1, E⟩ := cd_bE E
  refine cd_cVi (As := [.int a1, .int a2, .int a3]) S hK hZ hl.1 (c_X4_countFact l G 4 a1 a2 a3 (cd_r7_0 cd_this7) h o1 E1) cd_v_X4_countFact cd_m_X7_101 ⟨Nat.le_of_ble_eq_true rfl, Nat.le_of_ble_eq_true rfl⟩ ⟨rfl, rfl⟩ (ci := 4) (by decide) rfl (cd_r7_0 cd_this7) rfl rfl (Nat.le_of_ble_eq_true rfl) ⟨Nat.zero_le _, Nat.zero_le _⟩ dX7_count_8 (fun H locs hZ => ?_)
  obtain ⟨o3, E1, E⟩ := cd_bE E
  refine cd_cVi (As := [.int o1]) S hK hZ hl.1 (c_X7_answer l G o1 h o3 E1) cd_v_X7_answer cd_m_X7_92 ⟨Nat.le_of_ble_eq_true rfl, Nat.le_of_ble_eq_true rfl⟩ ⟨rfl, rfl⟩ (ci := 7) (by decide) rfl cd_this7 rfl rfl (Nat.le_of_ble_eq_true rfl) ⟨Nat.zero_le _, Nat.zero_le _⟩ dX7_count_11 (fun H locs hZ => ?_)
  exact hret _ _ _ _ _ _ (Option.some.inj E) hZ dX7_count_14
abbrev rm_X7_times : Room := { frames := 3, cells := 0, slots := 0, locals := 68 }
theorem cd_v_X7_times : cd_V yX7_times cX7_times 4 (some .int) 3 := ⟨cd_i_X7_times, cd_e_X7_X7_times, cd_n_X7, cd_c_X7_times, by decide +kernel⟩
set_option maxHeartbeats 4000000 in
set_option maxRecDepth 100000 in
theorem c_X7_times (l : Launch) (G : cd_G) (a1 : Int32) (a2 : Int32) (a3 : Int32) (h : cd_Hp) (out : (Int32 × cd_Hp)) (E : f_X7_times a1 a2 a3 h = some out) : cd_Mi l G yX7_times (Cond.code yX7_times cX7_times 4 (some .int) :: cd_T) rm_X7_times [.ref (G.2.2.2.2 + 0), .int a1, .int a2, .int a3] h out := by
  refine cd_ini (by decide) (Nat.le_of_ble_eq_true rfl) ?_
  intro p e s m args below meth c Q ls H locs S hK hZ hl hret
  have hl : lv_has ls 4 [(0, .ref (G.2.2.2.2 + 0)), (1, .int a1), (2, .int a2), (3, .int a3)] := hl
  unfold f_X7_times at E
  refine lv_aload_n S.1 S.2.1 dX7_times_0 rfl (lv_at hl 0 rfl) ?_
  refine lv_aload_n S.1 S.2.1 dX7_times_1 rfl (lv_at hl 0 rfl) ?_
  refine cd_get7 (v := .ref (G.2.2.2.2 + 4)) S hK hZ cd_this7 0 cd_f_X7_15 rfl dX7_times_2 ?_
  refine lv_iload_n S.1 S.2.1 dX7_times_5 rfl (lv_at hl 1 rfl) ?_
  refine lv_iload_n S.1 S.2.1 dX7_times_6 rfl (lv_at hl 2 rfl) ?_
  refine lv_iload_n S.1 S.2.1 dX7_times_7 rfl (lv_at hl 3 rfl) ?_
  obtain ⟨o1, E1, E⟩ := cd_bE E
  refine cd_cVi (As := [.int a1, .int a2, .int a3]) S hK hZ hl.1 (c_X4_timeFact l G 4 a1 a2 a3 (cd_r7_0 cd_this7) h o1 E1) cd_v_X4_timeFact cd_m_X7_104 ⟨Nat.le_of_ble_eq_true rfl, Nat.le_of_ble_eq_true rfl⟩ ⟨rfl, rfl⟩ (ci := 4) (by decide) rfl (cd_r7_0 cd_this7) rfl rfl (Nat.le_of_ble_eq_true rfl) ⟨Nat.zero_le _, Nat.zero_le _⟩ dX7_times_8 (fun H locs hZ => ?_)
  obtain ⟨o3, E1, E⟩ := cd_bE E
  refine cd_cVi (As := [.int o1]) S hK hZ hl.1 (c_X7_answer l G o1 h o3 E1) cd_v_X7_answer cd_m_X7_92 ⟨Nat.le_of_ble_eq_true rfl, Nat.le_of_ble_eq_true rfl⟩ ⟨rfl, rfl⟩ (ci := 7) (by decide) rfl cd_this7 rfl rfl (Nat.le_of_ble_eq_true rfl) ⟨Nat.zero_le _, Nat.zero_le _⟩ dX7_times_11 (fun H locs hZ => ?_)
  exact hret _ _ _ _ _ _ (Option.some.inj E) hZ dX7_times_14
abbrev rm_X7_scaled : Room := { frames := 4, cells := 0, slots := 0, locals := 91 }
theorem cd_v_X7_scaled : cd_V yX7_scaled cX7_scaled 4 (some .int) 3 := ⟨cd_i_X7_scaled, cd_e_X7_X7_scaled, cd_n_X7, cd_c_X7_scaled, by decide +kernel⟩
set_option maxHeartbeats 4000000 in
set_option maxRecDepth 100000 in
theorem c_X7_scaled (l : Launch) (G : cd_G) (a1 : Int32) (a2 : Int32) (a3 : Int32) (h : cd_Hp) (out : (Int32 × cd_Hp)) (E : f_X7_scaled a1 a2 a3 h = some out) : cd_Mi l G yX7_scaled (Cond.code yX7_scaled cX7_scaled 4 (some .int) :: cd_T) rm_X7_scaled [.ref (G.2.2.2.2 + 0), .int a1, .int a2, .int a3] h out := by
  refine cd_ini (by decide) (Nat.le_of_ble_eq_true rfl) ?_
  intro p e s m args below meth c Q ls H locs S hK hZ hl hret
  have hl : lv_has ls 4 [(0, .ref (G.2.2.2.2 + 0)), (1, .int a1), (2, .int a2), (3, .int a3)] := hl
  unfold f_X7_scaled at E
  refine lv_aload_n S.1 S.2.1 dX7_scaled_0 rfl (lv_at hl 0 rfl) ?_
  refine lv_aload_n S.1 S.2.1 dX7_scaled_1 rfl (lv_at hl 0 rfl) ?_
  refine cd_get7 (v := .ref (G.2.2.2.2 + 4)) S hK hZ cd_this7 0 cd_f_X7_15 rfl dX7_scaled_2 ?_
  refine lv_iload_n S.1 S.2.1 dX7_scaled_5 rfl (lv_at hl 1 rfl) ?_
  refine lv_iload_n S.1 S.2.1 dX7_scaled_6 rfl (lv_at hl 2 rfl) ?_
  refine lv_iload_n S.1 S.2.1 dX7_scaled_7 rfl (lv_at hl 3 rfl) ?_
  obtain ⟨o1, E1, E⟩ := cd_bE E
  refine cd_cVi (As := [.int a1, .int a2, .int a3]) S hK hZ hl.1 (c_X4_scaledFact l G 4 a1 a2 a3 (cd_r7_0 cd_this7) h o1 E1) cd_v_X4_scaledFact cd_m_X7_107 ⟨Nat.le_of_ble_eq_true rfl, Nat.le_of_ble_eq_true rfl⟩ ⟨rfl, rfl⟩ (ci := 4) (by decide) rfl (cd_r7_0 cd_this7) rfl rfl (Nat.le_of_ble_eq_true rfl) ⟨Nat.zero_le _, Nat.zero_le _⟩ dX7_scaled_8 (fun H locs hZ => ?_)
  obtain ⟨o3, E1, E⟩ := cd_bE E
  refine cd_cVi (As := [.int o1]) S hK hZ hl.1 (c_X7_answer l G o1 h o3 E1) cd_v_X7_answer cd_m_X7_92 ⟨Nat.le_of_ble_eq_true rfl, Nat.le_of_ble_eq_true rfl⟩ ⟨rfl, rfl⟩ (ci := 7) (by decide) rfl cd_this7 rfl rfl (Nat.le_of_ble_eq_true rfl) ⟨Nat.zero_le _, Nat.zero_le _⟩ dX7_scaled_11 (fun H locs hZ => ?_)
  exact hret _ _ _ _ _ _ (Option.some.inj E) hZ dX7_scaled_14
abbrev rm_X7_fit : Room := { frames := 8, cells := 0, slots := 0, locals := 202 }
theorem cd_v_X7_fit : cd_V yX7_fit cX7_fit 2 (some .int) 1 := ⟨cd_i_X7_fit, cd_e_X7_X7_fit, cd_n_X7, cd_c_X7_fit, by decide +kernel⟩
set_option maxHeartbeats 4000000 in
set_option maxRecDepth 100000 in
theorem c_X7_fit (l : Launch) (G : cd_G) (a1 : Int32) (h : cd_Hp) (out : (Int32 × cd_Hp)) (E : f_X7_fit a1 h = some out) : cd_Mi l G yX7_fit (Cond.code yX7_fit cX7_fit 2 (some .int) :: cd_T) rm_X7_fit [.ref (G.2.2.2.2 + 0), .int a1] h out := by
  refine cd_ini (by decide) (Nat.le_of_ble_eq_true rfl) ?_
  intro p e s m args below meth c Q ls H locs S hK hZ hl hret
  have hl : lv_has ls 2 [(0, .ref (G.2.2.2.2 + 0)), (1, .int a1)] := hl
  unfold f_X7_fit at E
  refine lv_aload_n S.1 S.2.1 dX7_fit_0 rfl (lv_at hl 0 rfl) ?_
  refine lv_aload_n S.1 S.2.1 dX7_fit_1 rfl (lv_at hl 0 rfl) ?_
  refine cd_get7 (v := .ref (G.2.2.2.2 + 4)) S hK hZ cd_this7 0 cd_f_X7_15 rfl dX7_fit_2 ?_
  refine lv_iload_n S.1 S.2.1 dX7_fit_5 rfl (lv_at hl 1 rfl) ?_
  obtain ⟨o1, E1, E⟩ := cd_bE E
  refine cd_cVi (As := [.int a1]) S hK hZ hl.1 (c_X4_fitFact l G 4 a1 (cd_r7_0 cd_this7) h o1 E1) cd_v_X4_fitFact cd_m_X7_110 ⟨Nat.le_of_ble_eq_true rfl, Nat.le_of_ble_eq_true rfl⟩ ⟨rfl, rfl⟩ (ci := 4) (by decide) rfl (cd_r7_0 cd_this7) rfl rfl (Nat.le_of_ble_eq_true rfl) ⟨Nat.zero_le _, Nat.zero_le _⟩ dX7_fit_6 (fun H locs hZ => ?_)
  obtain ⟨o3, E1, E⟩ := cd_bE E
  refine cd_cVi (As := [.int o1.1]) S hK hZ hl.1 (c_X7_answer l G o1.1 o1.2 o3 E1) cd_v_X7_answer cd_m_X7_92 ⟨Nat.le_of_ble_eq_true rfl, Nat.le_of_ble_eq_true rfl⟩ ⟨rfl, rfl⟩ (ci := 7) (by decide) rfl cd_this7 rfl rfl (Nat.le_of_ble_eq_true rfl) ⟨Nat.zero_le _, Nat.zero_le _⟩ dX7_fit_9 (fun H locs hZ => ?_)
  exact hret _ _ _ _ _ _ (Option.some.inj E) hZ dX7_fit_12
abbrev rm_X7_queue : Room := { frames := 2, cells := 0, slots := 0, locals := 41 }
theorem cd_v_X7_queue : cd_V yX7_queue cX7_queue 2 (some .int) 1 := ⟨cd_i_X7_queue, cd_e_X7_X7_queue, cd_n_X7, cd_c_X7_queue, by decide +kernel⟩
set_option maxHeartbeats 4000000 in
set_option maxRecDepth 100000 in
theorem c_X7_queue (l : Launch) (G : cd_G) (a1 : Int32) (h : cd_Hp) (out : (Int32 × cd_Hp)) (E : f_X7_queue a1 h = some out) : cd_Mi l G yX7_queue (Cond.code yX7_queue cX7_queue 2 (some .int) :: cd_T) rm_X7_queue [.ref (G.2.2.2.2 + 0), .int a1] h out := by
  refine cd_ini (by decide) (Nat.le_of_ble_eq_true rfl) ?_
  intro p e s m args below meth c Q ls H locs S hK hZ hl hret
  have hl : lv_has ls 2 [(0, .ref (G.2.2.2.2 + 0)), (1, .int a1)] := hl
  unfold f_X7_queue at E
  refine lv_aload_n S.1 S.2.1 dX7_queue_0 rfl (lv_at hl 0 rfl) ?_
  refine lv_aload_n S.1 S.2.1 dX7_queue_1 rfl (lv_at hl 0 rfl) ?_
  refine cd_get7 (v := .ref (G.2.2.2.2 + 4)) S hK hZ cd_this7 0 cd_f_X7_15 rfl dX7_queue_2 ?_
  refine lv_iload_n S.1 S.2.1 dX7_queue_5 rfl (lv_at hl 1 rfl) ?_
  obtain ⟨o1, E1, E⟩ := cd_bE E
  refine cd_cVi (As := [.int a1]) S hK hZ hl.1 (c_X4_queueFact l G 4 a1 (cd_r7_0 cd_this7) h o1 E1) cd_v_X4_queueFact cd_m_X7_113 ⟨Nat.le_of_ble_eq_true rfl, Nat.le_of_ble_eq_true rfl⟩ ⟨rfl, rfl⟩ (ci := 4) (by decide) rfl (cd_r7_0 cd_this7) rfl rfl (Nat.le_of_ble_eq_true rfl) ⟨Nat.zero_le _, Nat.zero_le _⟩ dX7_queue_6 (fun H locs hZ => ?_)
  obtain ⟨o3, E1, E⟩ := cd_bE E
  refine cd_cVi (As := [.int o1]) S hK hZ hl.1 (c_X7_answer l G o1 h o3 E1) cd_v_X7_answer cd_m_X7_92 ⟨Nat.le_of_ble_eq_true rfl, Nat.le_of_ble_eq_true rfl⟩ ⟨rfl, rfl⟩ (ci := 7) (by decide) rfl cd_this7 rfl rfl (Nat.le_of_ble_eq_true rfl) ⟨Nat.zero_le _, Nat.zero_le _⟩ dX7_queue_9 (fun H locs hZ => ?_)
  exact hret _ _ _ _ _ _ (Option.some.inj E) hZ dX7_queue_12
abbrev rm_X7_sample : Room := { frames := 2, cells := 0, slots := 0, locals := 44 }
theorem cd_v_X7_sample : cd_V yX7_sample cX7_sample 3 (some .int) 2 := ⟨cd_i_X7_sample, cd_e_X7_X7_sample, cd_n_X7, cd_c_X7_sample, by decide +kernel⟩
set_option maxHeartbeats 4000000 in
set_option maxRecDepth 100000 in
theorem c_X7_sample (l : Launch) (G : cd_G) (a1 : Int32) (a2 : Int32) (h : cd_Hp) (out : (Int32 × cd_Hp)) (E : f_X7_sample a1 a2 h = some out) : cd_Mi l G yX7_sample (Cond.code yX7_sample cX7_sample 3 (some .int) :: cd_T) rm_X7_sample [.ref (G.2.2.2.2 + 0), .int a1, .int a2] h out := by
  refine cd_ini (by decide) (Nat.le_of_ble_eq_true rfl) ?_
  intro p e s m args below meth c Q ls H locs S hK hZ hl hret
  have hl : lv_has ls 3 [(0, .ref (G.2.2.2.2 + 0)), (1, .int a1), (2, .int a2)] := hl
  unfold f_X7_sample at E
  refine lv_aload_n S.1 S.2.1 dX7_sample_0 rfl (lv_at hl 0 rfl) ?_
  refine lv_aload_n S.1 S.2.1 dX7_sample_1 rfl (lv_at hl 0 rfl) ?_
  refine cd_get7 (v := .ref (G.2.2.2.2 + 4)) S hK hZ cd_this7 0 cd_f_X7_15 rfl dX7_sample_2 ?_
  refine cd_get4 (v := .ref (G.2.2.2.2 + (4 + 8))) S hK hZ (cd_r7_0 cd_this7) 9 cd_f_X7_116 rfl dX7_sample_5 ?_
  refine lv_iload_n S.1 S.2.1 dX7_sample_8 rfl (lv_at hl 1 rfl) ?_
  refine lv_iload_n S.1 S.2.1 dX7_sample_9 rfl (lv_at hl 2 rfl) ?_
  obtain ⟨o1, E1, E⟩ := cd_bE E
  refine cd_cVi (As := [.int a1, .int a2]) S hK hZ hl.1 (c_X2_keptFact l G (4 + 8) a1 a2 (cd_r4_9 (cd_r7_0 cd_this7)) h o1 E1) cd_v_X2_keptFact cd_m_X7_120 ⟨Nat.le_of_ble_eq_true rfl, Nat.le_of_ble_eq_true rfl⟩ ⟨rfl, rfl⟩ (ci := 2) (by decide) rfl (cd_r4_9 (cd_r7_0 cd_this7)) rfl rfl (Nat.le_of_ble_eq_true rfl) ⟨Nat.zero_le _, Nat.zero_le _⟩ dX7_sample_10 (fun H locs hZ => ?_)
  obtain ⟨o3, E1, E⟩ := cd_bE E
  refine cd_cVi (As := [.int o1]) S hK hZ hl.1 (c_X7_answer l G o1 h o3 E1) cd_v_X7_answer cd_m_X7_92 ⟨Nat.le_of_ble_eq_true rfl, Nat.le_of_ble_eq_true rfl⟩ ⟨rfl, rfl⟩ (ci := 7) (by decide) rfl cd_this7 rfl rfl (Nat.le_of_ble_eq_true rfl) ⟨Nat.zero_le _, Nat.zero_le _⟩ dX7_sample_13 (fun H locs hZ => ?_)
  exact hret _ _ _ _ _ _ (Option.some.inj E) hZ dX7_sample_16
abbrev rm_X7_told : Room := { frames := 3, cells := 0, slots := 0, locals := 63 }
theorem cd_v_X7_told : cd_V yX7_told cX7_told 2 (some .int) 1 := ⟨cd_i_X7_told, cd_e_X7_X7_told, cd_n_X7, cd_c_X7_told, by decide +kernel⟩
set_option maxHeartbeats 4000000 in
set_option maxRecDepth 100000 in
theorem c_X7_told (l : Launch) (G : cd_G) (a1 : Int32) (h : cd_Hp) (out : (Int32 × cd_Hp)) (E : f_X7_told a1 h = some out) : cd_Mi l G yX7_told (Cond.code yX7_told cX7_told 2 (some .int) :: cd_T) rm_X7_told [.ref (G.2.2.2.2 + 0), .int a1] h out := by
  refine cd_ini (by decide) (Nat.le_of_ble_eq_true rfl) ?_
  intro p e s m args below meth c Q ls H locs S hK hZ hl hret
  have hl : lv_has ls 2 [(0, .ref (G.2.2.2.2 + 0)), (1, .int a1)] := hl
  unfold f_X7_told at E
  refine lv_aload_n S.1 S.2.1 dX7_told_0 rfl (lv_at hl 0 rfl) ?_
  refine lv_aload_n S.1 S.2.1 dX7_told_1 rfl (lv_at hl 0 rfl) ?_
  refine cd_get7 (v := .ref (G.2.2.2.2 + 4)) S hK hZ cd_this7 0 cd_f_X7_15 rfl dX7_told_2 ?_
  refine lv_iload_n S.1 S.2.1 dX7_told_5 rfl (lv_at hl 1 rfl) ?_
  obtain ⟨o1, E1, E⟩ := cd_bE E
  refine cd_cVi (As := [.int a1]) S hK hZ hl.1 (c_X4_wholeFact l G 4 a1 (cd_r7_0 cd_this7) h o1 E1) cd_v_X4_wholeFact cd_m_X7_125 ⟨Nat.le_of_ble_eq_true rfl, Nat.le_of_ble_eq_true rfl⟩ ⟨rfl, rfl⟩ (ci := 4) (by decide) rfl (cd_r7_0 cd_this7) rfl rfl (Nat.le_of_ble_eq_true rfl) ⟨Nat.zero_le _, Nat.zero_le _⟩ dX7_told_6 (fun H locs hZ => ?_)
  obtain ⟨o3, E1, E⟩ := cd_bE E
  refine cd_cVi (As := [.int o1]) S hK hZ hl.1 (c_X7_answer l G o1 h o3 E1) cd_v_X7_answer cd_m_X7_92 ⟨Nat.le_of_ble_eq_true rfl, Nat.le_of_ble_eq_true rfl⟩ ⟨rfl, rfl⟩ (ci := 7) (by decide) rfl cd_this7 rfl rfl (Nat.le_of_ble_eq_true rfl) ⟨Nat.zero_le _, Nat.zero_le _⟩ dX7_told_9 (fun H locs hZ => ?_)
  exact hret _ _ _ _ _ _ (Option.some.inj E) hZ dX7_told_12
abbrev rm_X7_type : Room := { frames := 2, cells := 0, slots := 0, locals := 43 }
theorem cd_v_X7_type : cd_V yX7_type cX7_type 2 (some .int) 1 := ⟨cd_i_X7_type, cd_e_X7_X7_type, cd_n_X7, cd_c_X7_type, by decide +kernel⟩
set_option maxHeartbeats 4000000 in
set_option maxRecDepth 100000 in
theorem c_X7_type (l : Launch) (G : cd_G) (a1 : Int32) (h : cd_Hp) (out : (Int32 × cd_Hp)) (E : f_X7_type a1 h = some out) : cd_Mi l G yX7_type (Cond.code yX7_type cX7_type 2 (some .int) :: cd_T) rm_X7_type [.ref (G.2.2.2.2 + 0), .int a1] h out := by
  refine cd_ini (by decide) (Nat.le_of_ble_eq_true rfl) ?_
  intro p e s m args below meth c Q ls H locs S hK hZ hl hret
  have hl : lv_has ls 2 [(0, .ref (G.2.2.2.2 + 0)), (1, .int a1)] := hl
  unfold f_X7_type at E
  refine lv_aload_n S.1 S.2.1 dX7_type_0 rfl (lv_at hl 0 rfl) ?_
  refine lv_aload_n S.1 S.2.1 dX7_type_1 rfl (lv_at hl 0 rfl) ?_
  refine cd_get7 (v := .ref (G.2.2.2.2 + 398)) S hK hZ cd_this7 2 cd_f_X7_31 rfl dX7_type_2 ?_
  refine lv_iload_n S.1 S.2.1 dX7_type_5 rfl (lv_at hl 1 rfl) ?_
  obtain ⟨o1, E1, E⟩ := cd_bE E
  refine cd_cVi (As := [.int a1]) S hK hZ hl.1 (c_X6_addByte l G 398 a1 (cd_r7_2 cd_this7) h o1 E1) cd_v_X6_addByte cd_m_X7_128 ⟨Nat.le_of_ble_eq_true rfl, Nat.le_of_ble_eq_true rfl⟩ ⟨rfl, rfl⟩ (ci := 6) (by decide) rfl (cd_r7_2 cd_this7) rfl rfl (Nat.le_of_ble_eq_true rfl) ⟨Nat.zero_le _, Nat.zero_le _⟩ dX7_type_6 (fun H locs hZ => ?_)
  obtain ⟨o3, E1, E⟩ := cd_bE E
  refine cd_cVi (As := [.int o1.1]) S hK hZ hl.1 (c_X7_answer l G o1.1 o1.2 o3 E1) cd_v_X7_answer cd_m_X7_92 ⟨Nat.le_of_ble_eq_true rfl, Nat.le_of_ble_eq_true rfl⟩ ⟨rfl, rfl⟩ (ci := 7) (by decide) rfl cd_this7 rfl rfl (Nat.le_of_ble_eq_true rfl) ⟨Nat.zero_le _, Nat.zero_le _⟩ dX7_type_9 (fun H locs hZ => ?_)
  exact hret _ _ _ _ _ _ (Option.some.inj E) hZ dX7_type_12
abbrev rm_X7_clear : Room := { frames := 0, cells := 0, slots := 0, locals := 0 }
theorem cd_v_X7_clear : cd_V yX7_clear cX7_clear 2 (some .int) 0 := ⟨cd_i_X7_clear, cd_e_X7_X7_clear, cd_n_X7, cd_c_X7_clear, by decide +kernel⟩
set_option maxHeartbeats 4000000 in
set_option maxRecDepth 100000 in
theorem c_X7_clear (l : Launch) (G : cd_G)  (h : cd_Hp) (out : (Int32 × cd_Hp)) (E : f_X7_clear h = out) : cd_Mi l G yX7_clear (Cond.code yX7_clear cX7_clear 2 (some .int) :: cd_T) rm_X7_clear [.ref (G.2.2.2.2 + 0)] h out := by
  refine cd_ini (by decide) (Nat.le_of_ble_eq_true rfl) ?_
  intro p e s m args below meth c Q ls H locs S hK hZ hl hret
  have hl : lv_has ls 2 [(0, .ref (G.2.2.2.2 + 0))] := hl
  unfold f_X7_clear at E
  refine lv_aload_n S.1 S.2.1 dX7_clear_0 rfl (lv_at hl 0 rfl) ?_
  refine cd_get7 (v := .ref (G.2.2.2.2 + 398)) S hK hZ cd_this7 2 cd_f_X7_31 rfl dX7_clear_1 ?_
  refine cd_get6 (v := .int (cd_g h 398 0)) S hK hZ (cd_r7_2 cd_this7) 0 cd_f_X7_131 rfl dX7_clear_4 ?_
  obtain ⟨x1, ex1, E⟩ := cd_nmE E
  refine cd_topi ex1 ?_
  refine lv_istore_n (lv' := [(1, .int x1), (0, .ref (G.2.2.2.2 + 0))]) S.1 S.2.1 dX7_clear_7 rfl hl (by decide) rfl (fun ls hl => ?_)
  refine lv_aload_n S.1 S.2.1 dX7_clear_8 rfl (lv_at hl 1 rfl) ?_
  refine cd_get7 (v := .ref (G.2.2.2.2 + 398)) S hK hZ cd_this7 2 cd_f_X7_31 rfl dX7_clear_9 ?_
  refine lv_iconst (v := 0) S.1 S.2.1 dX7_clear_12 (by decide) ?_
  obtain ⟨h2, eh2, E⟩ := cd_nmE E
  refine cd_put6_0 S hK hZ (cd_r7_2 cd_this7) cd_f_X7_131 eh2 dX7_clear_13 (fun H locs hZ => ?_)
  refine lv_iload_n S.1 S.2.1 dX7_clear_16 rfl (lv_at hl 0 rfl) ?_
  exact hret _ _ _ _ _ _ (E) hZ dX7_clear_17
abbrev rm_X7_carryOutGroup : Room := { frames := 3, cells := 0, slots := 0, locals := 69 }
theorem cd_v_X7_carryOutGroup : cd_V yX7_carryOutGroup cX7_carryOutGroup 5 (some .int) 1 := ⟨cd_i_X7_carryOutGroup, cd_e_X7_X7_carryOutGroup, cd_n_X7, cd_c_X7_carryOutGroup, by decide +kernel⟩
set_option maxHeartbeats 4000000 in
set_option maxRecDepth 100000 in
theorem c_X7_carryOutGroup (l : Launch) (G : cd_G) (a1 : Int32) (h : cd_Hp) (out : (Int32 × cd_Hp)) (E : f_X7_carryOutGroup a1 h = some out) : cd_Mi l G yX7_carryOutGroup (Cond.code yX7_carryOutGroup cX7_carryOutGroup 5 (some .int) :: cd_T) rm_X7_carryOutGroup [.ref (G.2.2.2.2 + 0), .int a1] h out := by
  refine cd_ini (by decide) (Nat.le_of_ble_eq_true rfl) ?_
  intro p e s m args below meth c Q ls H locs S hK hZ hl hret
  have hl : lv_has ls 5 [(0, .ref (G.2.2.2.2 + 0)), (1, .int a1)] := hl
  have L66 : ∀ (p66_3 : Int32), ∀ (n : Nat) (v66_2 : Int32) (v66_4 : Int32) (h66_ : cd_Hp) (o : (Int32 × Int32 × cd_Hp)) (H : Heap) (locs : List Loc) (ls : Array Slot), cd_lp (f_X7_carryOutGroup_B66 a1 p66_3) n (v66_2, v66_4, h66_) = some o → cd_Z G h66_ s.heap H locs → lv_has ls 5 [(4, .int v66_4), (3, .int p66_3), (2, .int v66_2), (0, .ref (G.2.2.2.2 + 0)), (1, .int a1)] → (∀ (H : Heap) (locs : List Loc) (ls : Array Slot), cd_Z G o.2.2 s.heap H locs → lv_has ls 5 [(4, .int o.2.1), (3, .int p66_3), (2, .int o.1), (0, .ref (G.2.2.2.2 + 0)), (1, .int a1)] → W p l e rm_X7_carryOutGroup s m args below meth c H locs 0 0 Q (F0 m 111 ls [])) → W p l e rm_X7_carryOutGroup s m args below meth c H locs 0 0 Q (F0 m 66 ls []) := by
    intro p66_3
    intro n
    induction n with
    | zero => intro v66_2 v66_4 h66_ o H locs ls E; exact nomatch (show (none : Option (Int32 × Int32 × cd_Hp)) = some o from E)
    | succ n ih =>
      intro v66_2 v66_4 h66_ o H locs ls E hZ hl hex
      have E : f_X7_carryOutGroup_B66 a1 p66_3 (cd_lp (f_X7_carryOutGroup_B66 a1 p66_3) n) (v66_2, v66_4, h66_) = some o := E
      unfold f_X7_carryOutGroup_B66 at E
      dsimp only at E
      refine lv_iload S.1 S.2.1 dX7_carryOutGroup_66 (lv_at hl 0 rfl) ?_
      refine lv_aload_n S.1 S.2.1 dX7_carryOutGroup_68 rfl (lv_at hl 3 rfl) ?_
      refine cd_get7 (v := .ref (G.2.2.2.2 + 398)) S hK hZ cd_this7 2 cd_f_X7_31 rfl dX7_carryOutGroup_69 ?_
      refine lv_iload_n S.1 S.2.1 dX7_carryOutGroup_72 rfl (lv_at hl 4 rfl) ?_
      obtain ⟨o14, E1, E⟩ := cd_bE E
      refine cd_cVi (As := [.int a1]) S hK hZ hl.1 (c_X6_numbersOf l G 398 a1 (cd_r7_2 cd_this7) h66_ o14 E1) cd_v_X6_numbersOf cd_m_X7_212 ⟨Nat.le_of_ble_eq_true rfl, Nat.le_of_ble_eq_true rfl⟩ ⟨rfl, rfl⟩ (ci := 6) (by decide) rfl (cd_r7_2 cd_this7) rfl rfl (Nat.le_of_ble_eq_true rfl) ⟨Nat.zero_le _, Nat.zero_le _⟩ dX7_carryOutGroup_73 (fun H locs hZ => ?_)
      refine lv_icmp_ge (tgt := 111) S.1 S.2.1 dX7_carryOutGroup_76 (by decide) (fun c16 => ?_) (fun c16 => ?_)
      · have E := cd_tE c16 E
        cases E
        exact hex H locs ls hZ (lv_sub hl [0, 1, 2, 3, 4] rfl)
      · have E := cd_fE c16 E
        refine lv_iload_n S.1 S.2.1 dX7_carryOutGroup_79 rfl (lv_at hl 2 rfl) ?_
        refine cd_cSz (As := [.int v66_2]) S hK hZ hl.1 (c_X7_isRefusal l G v66_2 h66_ _ rfl) cd_v_X7_isRefusal cd_m_X7_145 ⟨Nat.le_of_ble_eq_true rfl, Nat.le_of_ble_eq_true rfl⟩ ⟨rfl, rfl⟩ rfl rfl (Nat.le_of_ble_eq_true rfl) ⟨Nat.zero_le _, Nat.zero_le _⟩ dX7_carryOutGroup_80 (fun H locs hZ b17 => ?_)
        refine lv_if_ne (tgt := 111) S.1 S.2.1 dX7_carryOutGroup_83 (by decide) (fun c18 => ?_) (fun c18 => ?_)
        · have E := cd_fE c18 E
          cases E
          exact hex H locs ls hZ (lv_sub hl [0, 1, 2, 3, 4] rfl)
        · have E := cd_tE c18 E
          refine lv_aload_n S.1 S.2.1 dX7_carryOutGroup_86 rfl (lv_at hl 3 rfl) ?_
          refine cd_get7 (v := .ref (G.2.2.2.2 + 4)) S hK hZ cd_this7 0 cd_f_X7_15 rfl dX7_carryOutGroup_87 ?_
          refine lv_iload_n S.1 S.2.1 dX7_carryOutGroup_90 rfl (lv_at hl 1 rfl) ?_
          refine lv_aload_n S.1 S.2.1 dX7_carryOutGroup_91 rfl (lv_at hl 3 rfl) ?_
          refine cd_get7 (v := .ref (G.2.2.2.2 + 398)) S hK hZ cd_this7 2 cd_f_X7_31 rfl dX7_carryOutGroup_92 ?_
          refine lv_iload_n S.1 S.2.1 dX7_carryOutGroup_95 rfl (lv_at hl 4 rfl) ?_
          refine lv_iload S.1 S.2.1 dX7_carryOutGroup_96 (lv_at hl 0 rfl) ?_
          obtain ⟨o19, E1, E⟩ := cd_bE E
          refine cd_cVi (As := [.int a1, .int v66_4]) S hK hZ hl.1 (c_X6_numberAt l G 398 a1 v66_4 (cd_r7_2 cd_this7) h66_ o19 E1) cd_v_X6_numberAt cd_m_X7_203 ⟨Nat.le_of_ble_eq_true rfl, Nat.le_of_ble_eq_true rfl⟩ ⟨rfl, rfl⟩ (ci := 6) (by decide) rfl (cd_r7_2 cd_this7) rfl rfl (Nat.le_of_ble_eq_true rfl) ⟨Nat.zero_le _, Nat.zero_le _⟩ dX7_carryOutGroup_98 (fun H locs hZ => ?_)
          obtain ⟨o21, E1, E⟩ := cd_bE E
          refine cd_cVi (As := [.int p66_3, .int o19]) S hK hZ hl.1 (c_X4_addEvent l G 4 p66_3 o19 (cd_r7_0 cd_this7) h66_ o21 E1) cd_v_X4_addEvent cd_m_X7_74 ⟨Nat.le_of_ble_eq_true rfl, Nat.le_of_ble_eq_true rfl⟩ ⟨rfl, rfl⟩ (ci := 4) (by decide) rfl (cd_r7_0 cd_this7) rfl rfl (Nat.le_of_ble_eq_true rfl) ⟨Nat.zero_le _, Nat.zero_le _⟩ dX7_carryOutGroup_101 (fun H locs hZ => ?_)
          refine lv_istore_n (lv' := [(2, .int o21.1), (4, .int v66_4), (3, .int p66_3), (0, .ref (G.2.2.2.2 + 0)), (1, .int a1)]) S.1 S.2.1 dX7_carryOutGroup_104 rfl hl (by decide) rfl (fun ls hl => ?_)
          obtain ⟨x23, ex23, E⟩ := cd_nmE E
          refine lv_iinc (v := x23) (lv' := [(4, .int x23), (2, .int o21.1), (3, .int p66_3), (0, .ref (G.2.2.2.2 + 0)), (1, .int a1)]) S.1 S.2.1 dX7_carryOutGroup_105 hl (k := 1) rfl (by rw [ex23]; rfl) (by decide) rfl (fun ls hl => ?_)
          refine lv_goto (tgt := 66) S.1 S.2.1 dX7_carryOutGroup_108 (by decide) ?_
          exact ih o21.1 x23 o21.2 o H locs ls E hZ (lv_sub hl [0, 2, 1, 3, 4] rfl) hex
  unfold f_X7_carryOutGroup at E
  refine lv_aload_n S.1 S.2.1 dX7_carryOutGroup_0 rfl (lv_at hl 0 rfl) ?_
  refine cd_get7 (v := .ref (G.2.2.2.2 + 4)) S hK hZ cd_this7 0 cd_f_X7_15 rfl dX7_carryOutGroup_1 ?_
  refine lv_aload_n S.1 S.2.1 dX7_carryOutGroup_4 rfl (lv_at hl 0 rfl) ?_
  refine cd_get7 (v := .ref (G.2.2.2.2 + 398)) S hK hZ cd_this7 2 cd_f_X7_31 rfl dX7_carryOutGroup_5 ?_
  refine lv_iload_n S.1 S.2.1 dX7_carryOutGroup_8 rfl (lv_at hl 1 rfl) ?_
  refine lv_iconst (v := 0) S.1 S.2.1 dX7_carryOutGroup_9 (by decide) ?_
  obtain ⟨o1, E1, E⟩ := cd_bE E
  refine cd_cVi (As := [.int a1, .int 0]) S hK hZ hl.1 (c_X6_numberAt l G 398 a1 0 (cd_r7_2 cd_this7) h o1 E1) cd_v_X6_numberAt cd_m_X7_203 ⟨Nat.le_of_ble_eq_true rfl, Nat.le_of_ble_eq_true rfl⟩ ⟨rfl, rfl⟩ (ci := 6) (by decide) rfl (cd_r7_2 cd_this7) rfl rfl (Nat.le_of_ble_eq_true rfl) ⟨Nat.zero_le _, Nat.zero_le _⟩ dX7_carryOutGroup_10 (fun H locs hZ => ?_)
  refine lv_aload_n S.1 S.2.1 dX7_carryOutGroup_13 rfl (lv_at hl 0 rfl) ?_
  refine cd_get7 (v := .ref (G.2.2.2.2 + 398)) S hK hZ cd_this7 2 cd_f_X7_31 rfl dX7_carryOutGroup_14 ?_
  refine lv_iload_n S.1 S.2.1 dX7_carryOutGroup_17 rfl (lv_at hl 1 rfl) ?_
  refine lv_iconst (v := 1) S.1 S.2.1 dX7_carryOutGroup_18 (by decide) ?_
  obtain ⟨o3, E1, E⟩ := cd_bE E
  refine cd_cVi (As := [.int a1, .int 1]) S hK hZ hl.1 (c_X6_numberAt l G 398 a1 1 (cd_r7_2 cd_this7) h o3 E1) cd_v_X6_numberAt cd_m_X7_203 ⟨Nat.le_of_ble_eq_true rfl, Nat.le_of_ble_eq_true rfl⟩ ⟨rfl, rfl⟩ (ci := 6) (by decide) rfl (cd_r7_2 cd_this7) rfl rfl (Nat.le_of_ble_eq_true rfl) ⟨Nat.zero_le _, Nat.zero_le _⟩ dX7_carryOutGroup_19 (fun H locs hZ => ?_)
  refine lv_aload_n S.1 S.2.1 dX7_carryOutGroup_22 rfl (lv_at hl 0 rfl) ?_
  refine cd_get7 (v := .ref (G.2.2.2.2 + 398)) S hK hZ cd_this7 2 cd_f_X7_31 rfl dX7_carryOutGroup_23 ?_
  refine lv_iload_n S.1 S.2.1 dX7_carryOutGroup_26 rfl (lv_at hl 1 rfl) ?_
  refine lv_iconst (v := 2) S.1 S.2.1 dX7_carryOutGroup_27 (by decide) ?_
  obtain ⟨o5, E1, E⟩ := cd_bE E
  refine cd_cVi (As := [.int a1, .int 2]) S hK hZ hl.1 (c_X6_numberAt l G 398 a1 2 (cd_r7_2 cd_this7) h o5 E1) cd_v_X6_numberAt cd_m_X7_203 ⟨Nat.le_of_ble_eq_true rfl, Nat.le_of_ble_eq_true rfl⟩ ⟨rfl, rfl⟩ (ci := 6) (by decide) rfl (cd_r7_2 cd_this7) rfl rfl (Nat.le_of_ble_eq_true rfl) ⟨Nat.zero_le _, Nat.zero_le _⟩ dX7_carryOutGroup_28 (fun H locs hZ => ?_)
  refine lv_aload_n S.1 S.2.1 dX7_carryOutGroup_31 rfl (lv_at hl 0 rfl) ?_
  refine cd_get7 (v := .ref (G.2.2.2.2 + 398)) S hK hZ cd_this7 2 cd_f_X7_31 rfl dX7_carryOutGroup_32 ?_
  refine lv_iload_n S.1 S.2.1 dX7_carryOutGroup_35 rfl (lv_at hl 1 rfl) ?_
  refine lv_iconst (v := 3) S.1 S.2.1 dX7_carryOutGroup_36 (by decide) ?_
  obtain ⟨o7, E1, E⟩ := cd_bE E
  refine cd_cVi (As := [.int a1, .int 3]) S hK hZ hl.1 (c_X6_numberAt l G 398 a1 3 (cd_r7_2 cd_this7) h o7 E1) cd_v_X6_numberAt cd_m_X7_203 ⟨Nat.le_of_ble_eq_true rfl, Nat.le_of_ble_eq_true rfl⟩ ⟨rfl, rfl⟩ (ci := 6) (by decide) rfl (cd_r7_2 cd_this7) rfl rfl (Nat.le_of_ble_eq_true rfl) ⟨Nat.zero_le _, Nat.zero_le _⟩ dX7_carryOutGroup_37 (fun H locs hZ => ?_)
  refine lv_aload_n S.1 S.2.1 dX7_carryOutGroup_40 rfl (lv_at hl 0 rfl) ?_
  refine cd_get7 (v := .ref (G.2.2.2.2 + 398)) S hK hZ cd_this7 2 cd_f_X7_31 rfl dX7_carryOutGroup_41 ?_
  refine lv_iload_n S.1 S.2.1 dX7_carryOutGroup_44 rfl (lv_at hl 1 rfl) ?_
  refine lv_iconst (v := 4) S.1 S.2.1 dX7_carryOutGroup_45 (by decide) ?_
  obtain ⟨o9, E1, E⟩ := cd_bE E
  refine cd_cVi (As := [.int a1, .int 4]) S hK hZ hl.1 (c_X6_numberAt l G 398 a1 4 (cd_r7_2 cd_this7) h o9 E1) cd_v_X6_numberAt cd_m_X7_203 ⟨Nat.le_of_ble_eq_true rfl, Nat.le_of_ble_eq_true rfl⟩ ⟨rfl, rfl⟩ (ci := 6) (by decide) rfl (cd_r7_2 cd_this7) rfl rfl (Nat.le_of_ble_eq_true rfl) ⟨Nat.zero_le _, Nat.zero_le _⟩ dX7_carryOutGroup_46 (fun H locs hZ => ?_)
  obtain ⟨o11, E1, E⟩ := cd_bE E
  refine cd_cVi (As := [.int o1, .int o3, .int o5, .int o7, .int o9]) S hK hZ hl.1 (c_X4_addGroup l G 4 o1 o3 o5 o7 o9 (cd_r7_0 cd_this7) h o11 E1) cd_v_X4_addGroup cd_m_X7_70 ⟨Nat.le_of_ble_eq_true rfl, Nat.le_of_ble_eq_true rfl⟩ ⟨rfl, rfl⟩ (ci := 4) (by decide) rfl (cd_r7_0 cd_this7) rfl rfl (Nat.le_of_ble_eq_true rfl) ⟨Nat.zero_le _, Nat.zero_le _⟩ dX7_carryOutGroup_49 (fun H locs hZ => ?_)
  refine lv_istore_n (lv' := [(2, .int o11.1), (0, .ref (G.2.2.2.2 + 0)), (1, .int a1)]) S.1 S.2.1 dX7_carryOutGroup_52 rfl hl (by decide) rfl (fun ls hl => ?_)
  refine lv_aload_n S.1 S.2.1 dX7_carryOutGroup_53 rfl (lv_at hl 1 rfl) ?_
  refine cd_get7 (v := .ref (G.2.2.2.2 + 4)) S hK hZ cd_this7 0 cd_f_X7_15 rfl dX7_carryOutGroup_54 ?_
  refine cd_get4 (v := .int (cd_g o11.2 4 3)) S hK hZ (cd_r7_0 cd_this7) 3 cd_f_X7_177 rfl dX7_carryOutGroup_57 ?_
  refine lv_iconst (v := 1) S.1 S.2.1 dX7_carryOutGroup_60 (by decide) ?_
  refine lv_isub S.1 S.2.1 dX7_carryOutGroup_61 ?_
  obtain ⟨x13, ex13, E⟩ := cd_nmE E
  refine cd_topi ex13 ?_
  refine lv_istore_n (lv' := [(3, .int x13), (2, .int o11.1), (0, .ref (G.2.2.2.2 + 0)), (1, .int a1)]) S.1 S.2.1 dX7_carryOutGroup_62 rfl hl (by decide) rfl (fun ls hl => ?_)
  refine lv_iconst (v := 5) S.1 S.2.1 dX7_carryOutGroup_63 (by decide) ?_
  refine lv_istore (lv' := [(4, .int 5), (3, .int x13), (2, .int o11.1), (0, .ref (G.2.2.2.2 + 0)), (1, .int a1)]) S.1 S.2.1 dX7_carryOutGroup_64 hl (by decide) rfl (fun ls hl => ?_)
  obtain ⟨o24, E1, E⟩ := cd_bE E
  refine L66 x13 cd_fu o11.1 5 o11.2 o24 H locs ls E1 hZ (lv_sub hl [0, 1, 2, 3, 4] rfl) (fun H locs ls hZ hl => ?_)
  refine lv_iload_n S.1 S.2.1 dX7_carryOutGroup_111 rfl (lv_at hl 2 rfl) ?_
  exact hret _ _ _ _ _ _ (Option.some.inj E) hZ dX7_carryOutGroup_112
abbrev rm_X7_carryOut : Room := { frames := 10, cells := 0, slots := 0, locals := 248 }
theorem cd_v_X7_carryOut : cd_V yX7_carryOut cX7_carryOut 5 (some .int) 1 := ⟨cd_i_X7_carryOut, cd_e_X7_X7_carryOut, cd_n_X7, cd_c_X7_carryOut, by decide +kernel⟩
set_option maxHeartbeats 4000000 in
set_option maxRecDepth 100000 in
theorem c_X7_carryOut (l : Launch) (G : cd_G) (a1 : Int32) (h : cd_Hp) (out : (Int32 × cd_Hp)) (E : f_X7_carryOut a1 h = some out) : cd_Mi l G yX7_carryOut (Cond.code yX7_carryOut cX7_carryOut 5 (some .int) :: cd_T) rm_X7_carryOut [.ref (G.2.2.2.2 + 0), .int a1] h out := by
  refine cd_ini (by decide) (Nat.le_of_ble_eq_true rfl) ?_
  intro p e s m args below meth c Q ls H locs S hK hZ hl hret
  have hl : lv_has ls 5 [(0, .ref (G.2.2.2.2 + 0)), (1, .int a1)] := hl
  unfold f_X7_carryOut at E
  refine lv_aload_n S.1 S.2.1 dX7_carryOut_0 rfl (lv_at hl 0 rfl) ?_
  refine cd_get7 (v := .ref (G.2.2.2.2 + 398)) S hK hZ cd_this7 2 cd_f_X7_31 rfl dX7_carryOut_1 ?_
  refine lv_iload_n S.1 S.2.1 dX7_carryOut_4 rfl (lv_at hl 1 rfl) ?_
  refine lv_iconst (v := 0) S.1 S.2.1 dX7_carryOut_5 (by decide) ?_
  obtain ⟨o1, E1, E⟩ := cd_bE E
  refine cd_cVi (As := [.int a1, .int 0]) S hK hZ hl.1 (c_X6_numberAt l G 398 a1 0 (cd_r7_2 cd_this7) h o1 E1) cd_v_X6_numberAt cd_m_X7_203 ⟨Nat.le_of_ble_eq_true rfl, Nat.le_of_ble_eq_true rfl⟩ ⟨rfl, rfl⟩ (ci := 6) (by decide) rfl (cd_r7_2 cd_this7) rfl rfl (Nat.le_of_ble_eq_true rfl) ⟨Nat.zero_le _, Nat.zero_le _⟩ dX7_carryOut_6 (fun H locs hZ => ?_)
  refine lv_istore_n (lv' := [(2, .int o1), (0, .ref (G.2.2.2.2 + 0)), (1, .int a1)]) S.1 S.2.1 dX7_carryOut_9 rfl hl (by decide) rfl (fun ls hl => ?_)
  refine lv_aload_n S.1 S.2.1 dX7_carryOut_10 rfl (lv_at hl 1 rfl) ?_
  refine cd_get7 (v := .ref (G.2.2.2.2 + 398)) S hK hZ cd_this7 2 cd_f_X7_31 rfl dX7_carryOut_11 ?_
  refine lv_iload_n S.1 S.2.1 dX7_carryOut_14 rfl (lv_at hl 2 rfl) ?_
  refine lv_iconst (v := 1) S.1 S.2.1 dX7_carryOut_15 (by decide) ?_
  obtain ⟨o3, E1, E⟩ := cd_bE E
  refine cd_cVi (As := [.int a1, .int 1]) S hK hZ hl.1 (c_X6_numberAt l G 398 a1 1 (cd_r7_2 cd_this7) h o3 E1) cd_v_X6_numberAt cd_m_X7_203 ⟨Nat.le_of_ble_eq_true rfl, Nat.le_of_ble_eq_true rfl⟩ ⟨rfl, rfl⟩ (ci := 6) (by decide) rfl (cd_r7_2 cd_this7) rfl rfl (Nat.le_of_ble_eq_true rfl) ⟨Nat.zero_le _, Nat.zero_le _⟩ dX7_carryOut_16 (fun H locs hZ => ?_)
  refine lv_istore_n (lv' := [(3, .int o3), (2, .int o1), (0, .ref (G.2.2.2.2 + 0)), (1, .int a1)]) S.1 S.2.1 dX7_carryOut_19 rfl hl (by decide) rfl (fun ls hl => ?_)
  refine lv_aload_n S.1 S.2.1 dX7_carryOut_20 rfl (lv_at hl 2 rfl) ?_
  refine cd_get7 (v := .ref (G.2.2.2.2 + 398)) S hK hZ cd_this7 2 cd_f_X7_31 rfl dX7_carryOut_21 ?_
  refine lv_iload_n S.1 S.2.1 dX7_carryOut_24 rfl (lv_at hl 3 rfl) ?_
  refine lv_iconst (v := 2) S.1 S.2.1 dX7_carryOut_25 (by decide) ?_
  obtain ⟨o5, E1, E⟩ := cd_bE E
  refine cd_cVi (As := [.int a1, .int 2]) S hK hZ hl.1 (c_X6_numberAt l G 398 a1 2 (cd_r7_2 cd_this7) h o5 E1) cd_v_X6_numberAt cd_m_X7_203 ⟨Nat.le_of_ble_eq_true rfl, Nat.le_of_ble_eq_true rfl⟩ ⟨rfl, rfl⟩ (ci := 6) (by decide) rfl (cd_r7_2 cd_this7) rfl rfl (Nat.le_of_ble_eq_true rfl) ⟨Nat.zero_le _, Nat.zero_le _⟩ dX7_carryOut_26 (fun H locs hZ => ?_)
  refine lv_istore (lv' := [(4, .int o5), (3, .int o3), (2, .int o1), (0, .ref (G.2.2.2.2 + 0)), (1, .int a1)]) S.1 S.2.1 dX7_carryOut_29 hl (by decide) rfl (fun ls hl => ?_)
  refine lv_aload_n S.1 S.2.1 dX7_carryOut_31 rfl (lv_at hl 3 rfl) ?_
  refine cd_get7 (v := .ref (G.2.2.2.2 + 398)) S hK hZ cd_this7 2 cd_f_X7_31 rfl dX7_carryOut_32 ?_
  refine lv_iload_n S.1 S.2.1 dX7_carryOut_35 rfl (lv_at hl 4 rfl) ?_
  obtain ⟨o7, E1, E⟩ := cd_bE E
  refine cd_cVi (As := [.int a1]) S hK hZ hl.1 (c_X6_letterAt l G 398 a1 (cd_r7_2 cd_this7) h o7 E1) cd_v_X6_letterAt cd_m_X7_206 ⟨Nat.le_of_ble_eq_true rfl, Nat.le_of_ble_eq_true rfl⟩ ⟨rfl, rfl⟩ (ci := 6) (by decide) rfl (cd_r7_2 cd_this7) rfl rfl (Nat.le_of_ble_eq_true rfl) ⟨Nat.zero_le _, Nat.zero_le _⟩ dX7_carryOut_36 (fun H locs hZ => ?_)
  refine cd_by (p := o7 = 99) (fun c9 => ?_) (fun c9 => ?_)
  · have E := cd_tE c9 E
    refine lv_lookup (off := 59) (tgt := 98) S.1 S.2.1 dX7_carryOut_39 (by decide) (by rw [c9]; first | done | rfl) (by decide) ?_
    refine lv_aload_n S.1 S.2.1 dX7_carryOut_98 rfl (lv_at hl 3 rfl) ?_
    refine cd_get7 (v := .ref (G.2.2.2.2 + 4)) S hK hZ cd_this7 0 cd_f_X7_15 rfl dX7_carryOut_99 ?_
    refine cd_get4 (v := .ref (G.2.2.2.2 + (4 + 2))) S hK hZ (cd_r7_0 cd_this7) 6 cd_f_X7_54 rfl dX7_carryOut_102 ?_
    refine lv_iload_n S.1 S.2.1 dX7_carryOut_105 rfl (lv_at hl 2 rfl) ?_
    refine lv_iload_n S.1 S.2.1 dX7_carryOut_106 rfl (lv_at hl 1 rfl) ?_
    refine lv_iload S.1 S.2.1 dX7_carryOut_107 (lv_at hl 0 rfl) ?_
    obtain ⟨o10, E1, E⟩ := cd_bE E
    refine cd_cVi (As := [.int o1, .int o3, .int o5]) S hK hZ hl.1 (c_X5_putRate l G (4 + 2) o1 o3 o5 (cd_r4_6 (cd_r7_0 cd_this7)) h o10 E1) cd_v_X5_putRate cd_m_X7_58 ⟨Nat.le_of_ble_eq_true rfl, Nat.le_of_ble_eq_true rfl⟩ ⟨rfl, rfl⟩ (ci := 5) (by decide) rfl (cd_r4_6 (cd_r7_0 cd_this7)) rfl rfl (Nat.le_of_ble_eq_true rfl) ⟨Nat.zero_le _, Nat.zero_le _⟩ dX7_carryOut_109 (fun H locs hZ => ?_)
    exact hret _ _ _ _ _ _ (Option.some.inj E) hZ dX7_carryOut_112
  · have E := cd_fE c9 E
    refine cd_by (p := o7 = 102) (fun c12 => ?_) (fun c12 => ?_)
    · have E := cd_tE c12 E
      refine lv_lookup (off := 74) (tgt := 113) S.1 S.2.1 dX7_carryOut_39 (by decide) (by rw [c12]; first | done | rfl) (by decide) ?_
      refine lv_aload_n S.1 S.2.1 dX7_carryOut_113 rfl (lv_at hl 3 rfl) ?_
      refine cd_get7 (v := .ref (G.2.2.2.2 + 4)) S hK hZ cd_this7 0 cd_f_X7_15 rfl dX7_carryOut_114 ?_
      refine cd_get4 (v := .ref (G.2.2.2.2 + (4 + 2))) S hK hZ (cd_r7_0 cd_this7) 6 cd_f_X7_54 rfl dX7_carryOut_117 ?_
      refine lv_iload_n S.1 S.2.1 dX7_carryOut_120 rfl (lv_at hl 2 rfl) ?_
      obtain ⟨o13, E1, E⟩ := cd_bE E
      refine cd_cVi (As := [.int o1]) S hK hZ hl.1 (c_X5_fork l G (4 + 2) o1 (cd_r4_6 (cd_r7_0 cd_this7)) h o13 E1) cd_v_X5_fork cd_m_X7_64 ⟨Nat.le_of_ble_eq_true rfl, Nat.le_of_ble_eq_true rfl⟩ ⟨rfl, rfl⟩ (ci := 5) (by decide) rfl (cd_r4_6 (cd_r7_0 cd_this7)) rfl rfl (Nat.le_of_ble_eq_true rfl) ⟨Nat.zero_le _, Nat.zero_le _⟩ dX7_carryOut_121 (fun H locs hZ => ?_)
      exact hret _ _ _ _ _ _ (Option.some.inj E) hZ dX7_carryOut_124
    · have E := cd_fE c12 E
      refine cd_by (p := o7 = 103) (fun c15 => ?_) (fun c15 => ?_)
      · have E := cd_tE c15 E
        refine lv_lookup (off := 86) (tgt := 125) S.1 S.2.1 dX7_carryOut_39 (by decide) (by rw [c15]; first | done | rfl) (by decide) ?_
        refine lv_aload_n S.1 S.2.1 dX7_carryOut_125 rfl (lv_at hl 3 rfl) ?_
        refine lv_iload_n S.1 S.2.1 dX7_carryOut_126 rfl (lv_at hl 4 rfl) ?_
        obtain ⟨o16, E1, E⟩ := cd_bE E
        refine cd_cVi (As := [.int a1]) S hK hZ hl.1 (c_X7_carryOutGroup l G a1 h o16 E1) cd_v_X7_carryOutGroup cd_m_X7_209 ⟨Nat.le_of_ble_eq_true rfl, Nat.le_of_ble_eq_true rfl⟩ ⟨rfl, rfl⟩ (ci := 7) (by decide) rfl cd_this7 rfl rfl (Nat.le_of_ble_eq_true rfl) ⟨Nat.zero_le _, Nat.zero_le _⟩ dX7_carryOut_127 (fun H locs hZ => ?_)
        exact hret _ _ _ _ _ _ (Option.some.inj E) hZ dX7_carryOut_130
      · have E := cd_fE c15 E
        refine cd_by (p := o7 = 109) (fun c18 => ?_) (fun c18 => ?_)
        · have E := cd_tE c18 E
          refine lv_lookup (off := 49) (tgt := 88) S.1 S.2.1 dX7_carryOut_39 (by decide) (by rw [c18]; first | done | rfl) (by decide) ?_
          refine lv_aload_n S.1 S.2.1 dX7_carryOut_88 rfl (lv_at hl 3 rfl) ?_
          refine cd_get7 (v := .ref (G.2.2.2.2 + 4)) S hK hZ cd_this7 0 cd_f_X7_15 rfl dX7_carryOut_89 ?_
          refine lv_iload_n S.1 S.2.1 dX7_carryOut_92 rfl (lv_at hl 2 rfl) ?_
          refine lv_iload_n S.1 S.2.1 dX7_carryOut_93 rfl (lv_at hl 1 rfl) ?_
          obtain ⟨o19, E1, E⟩ := cd_bE E
          refine cd_cVi (As := [.int o1, .int o3]) S hK hZ hl.1 (c_X4_putMask l G 4 o1 o3 (cd_r7_0 cd_this7) h o19 E1) cd_v_X4_putMask cd_m_X7_50 ⟨Nat.le_of_ble_eq_true rfl, Nat.le_of_ble_eq_true rfl⟩ ⟨rfl, rfl⟩ (ci := 4) (by decide) rfl (cd_r7_0 cd_this7) rfl rfl (Nat.le_of_ble_eq_true rfl) ⟨Nat.zero_le _, Nat.zero_le _⟩ dX7_carryOut_94 (fun H locs hZ => ?_)
          exact hret _ _ _ _ _ _ (Option.some.inj E) hZ dX7_carryOut_97
        · have E := cd_fE c18 E
          refine cd_by (p := o7 = 114) (fun c21 => ?_) (fun c21 => ?_)
          · have E := cd_tE c21 E
            refine lv_lookup (off := 92) (tgt := 131) S.1 S.2.1 dX7_carryOut_39 (by decide) (by rw [c21]; first | done | rfl) (by decide) ?_
            refine lv_aload_n S.1 S.2.1 dX7_carryOut_131 rfl (lv_at hl 3 rfl) ?_
            refine cd_get7 (v := .ref (G.2.2.2.2 + 4)) S hK hZ cd_this7 0 cd_f_X7_15 rfl dX7_carryOut_132 ?_
            refine lv_iload_n S.1 S.2.1 dX7_carryOut_135 rfl (lv_at hl 2 rfl) ?_
            refine lv_iload_n S.1 S.2.1 dX7_carryOut_136 rfl (lv_at hl 1 rfl) ?_
            obtain ⟨o22, E1, E⟩ := cd_bE E
            refine cd_cVi (As := [.int o1, .int o3]) S hK hZ hl.1 (c_X4_runSlices l G 4 o1 o3 (cd_r7_0 cd_this7) h o22 E1) cd_v_X4_runSlices cd_m_X7_86 ⟨Nat.le_of_ble_eq_true rfl, Nat.le_of_ble_eq_true rfl⟩ ⟨rfl, rfl⟩ (ci := 4) (by decide) rfl (cd_r7_0 cd_this7) rfl rfl (Nat.le_of_ble_eq_true rfl) ⟨Nat.zero_le _, Nat.zero_le _⟩ dX7_carryOut_137 (fun H locs hZ => ?_)
            exact hret _ _ _ _ _ _ (Option.some.inj E) hZ dX7_carryOut_140
          · have E := cd_fE c21 E
            refine lv_lookup (off := 102) (tgt := 141) S.1 S.2.1 dX7_carryOut_39 (by decide) (by show Op.lookupswitch.offset _ _ _ = _; rw [lv_osw c9 (by decide)]; rw [lv_osw c12 (by decide)]; rw [lv_osw c15 (by decide)]; rw [lv_osw c18 (by decide)]; rw [lv_osw c21 (by decide)]; first | done | rfl) (by decide) ?_
            refine lv_bipush (v := (-2)) S.1 S.2.1 dX7_carryOut_141 (by decide) ?_
            exact hret _ _ _ _ _ _ (Option.some.inj E) hZ dX7_carryOut_143
abbrev rm_X7_does : Room := { frames := 11, cells := 0, slots := 0, locals := 272 }
theorem cd_v_X7_does : cd_V yX7_does cX7_does 3 (some .int) 0 := ⟨cd_i_X7_does, cd_e_X7_X7_does, cd_n_X7, cd_c_X7_does, by decide +kernel⟩
set_option maxHeartbeats 4000000 in
set_option maxRecDepth 100000 in
theorem c_X7_does (l : Launch) (G : cd_G)  (h : cd_Hp) (out : (Int32 × cd_Hp)) (E : f_X7_does h = some out) : cd_Mi l G yX7_does (Cond.code yX7_does cX7_does 3 (some .int) :: cd_T) rm_X7_does [.ref (G.2.2.2.2 + 0)] h out := by
  refine cd_ini (by decide) (Nat.le_of_ble_eq_true rfl) ?_
  intro p e s m args below meth c Q ls H locs S hK hZ hl hret
  have hl : lv_has ls 3 [(0, .ref (G.2.2.2.2 + 0))] := hl
  have L31 : ∀ (n : Nat) (v31_2 : Int32) (h31_ : cd_Hp) (o : ((Int32 × cd_Hp) ⊕ (Int32 × cd_Hp))) (H : Heap) (locs : List Loc) (ls : Array Slot), cd_lp (f_X7_does_B31) n (v31_2, h31_) = some o → cd_Z G h31_ s.heap H locs → lv_has ls 3 [(2, .int v31_2), (0, .ref (G.2.2.2.2 + 0))] → (∀ x, o = .inl x → x = out) → (∀ st, o = .inr st → ∀ (H : Heap) (locs : List Loc) (ls : Array Slot), cd_Z G st.2 s.heap H locs → lv_has ls 3 [(2, .int st.1), (0, .ref (G.2.2.2.2 + 0))] → W p l e rm_X7_does s m args below meth c H locs 0 0 Q (F0 m 76 ls [])) → W p l e rm_X7_does s m args below meth c H locs 0 0 Q (F0 m 31 ls []) := by
    intro n
    induction n with
    | zero => intro v31_2 h31_ o H locs ls E; exact nomatch (show (none : Option ((Int32 × cd_Hp) ⊕ (Int32 × cd_Hp))) = some o from E)
    | succ n ih =>
      intro v31_2 h31_ o H locs ls E hZ hl hin hex
      have E : f_X7_does_B31 (cd_lp (f_X7_does_B31) n) (v31_2, h31_) = some o := E
      unfold f_X7_does_B31 at E
      dsimp only at E
      refine lv_iload_n S.1 S.2.1 dX7_does_31 rfl (lv_at hl 0 rfl) ?_
      refine lv_aload_n S.1 S.2.1 dX7_does_32 rfl (lv_at hl 1 rfl) ?_
      refine cd_get7 (v := .ref (G.2.2.2.2 + 398)) S hK hZ cd_this7 2 cd_f_X7_31 rfl dX7_does_33 ?_
      refine cd_get6 (v := .int (cd_g h31_ 398 1)) S hK hZ (cd_r7_2 cd_this7) 1 cd_f_X7_139 rfl dX7_does_36 ?_
      refine lv_icmp_ge (tgt := 76) S.1 S.2.1 dX7_does_39 (by decide) (fun c6 => ?_) (fun c6 => ?_)
      · have E := cd_tE c6 E
        cases E
        exact hex _ rfl H locs ls hZ (lv_sub hl [0, 1] rfl)
      · have E := cd_fE c6 E
        refine lv_aload_n S.1 S.2.1 dX7_does_42 rfl (lv_at hl 1 rfl) ?_
        refine lv_iload_n S.1 S.2.1 dX7_does_43 rfl (lv_at hl 0 rfl) ?_
        obtain ⟨o7, E1, E⟩ := cd_bE E
        refine cd_cVi (As := [.int v31_2]) S hK hZ hl.1 (c_X7_carryOut l G v31_2 h31_ o7 E1) cd_v_X7_carryOut cd_m_X7_142 ⟨Nat.le_of_ble_eq_true rfl, Nat.le_of_ble_eq_true rfl⟩ ⟨rfl, rfl⟩ (ci := 7) (by decide) rfl cd_this7 rfl rfl (Nat.le_of_ble_eq_true rfl) ⟨Nat.zero_le _, Nat.zero_le _⟩ dX7_does_44 (fun H locs hZ => ?_)
        refine cd_cSz (As := [.int o7.1]) S hK hZ hl.1 (c_X7_isRefusal l G o7.1 o7.2 _ rfl) cd_v_X7_isRefusal cd_m_X7_145 ⟨Nat.le_of_ble_eq_true rfl, Nat.le_of_ble_eq_true rfl⟩ ⟨rfl, rfl⟩ rfl rfl (Nat.le_of_ble_eq_true rfl) ⟨Nat.zero_le _, Nat.zero_le _⟩ dX7_does_47 (fun H locs hZ b9 => ?_)
        refine lv_if_eq (tgt := 70) S.1 S.2.1 dX7_does_50 (by decide) (fun c10 => ?_) (fun c10 => ?_)
        · have E := cd_tE c10 E
          obtain ⟨x11, ex11, E⟩ := cd_nmE E
          refine lv_iinc (v := x11) (lv' := [(2, .int x11), (0, .ref (G.2.2.2.2 + 0))]) S.1 S.2.1 dX7_does_70 hl (k := 0) rfl (by rw [ex11]; rfl) (by decide) rfl (fun ls hl => ?_)
          refine lv_goto (tgt := 31) S.1 S.2.1 dX7_does_73 (by decide) ?_
          exact ih x11 o7.2 o H locs ls E hZ (lv_sub hl [0, 1] rfl) hin hex
        · have E := cd_fE c10 E
          refine lv_aload_n S.1 S.2.1 dX7_does_53 rfl (lv_at hl 1 rfl) ?_
          refine cd_get7 (v := .ref (G.2.2.2.2 + 60)) S hK hZ cd_this7 1 cd_f_X7_24 rfl dX7_does_54 ?_
          refine lv_aload_n S.1 S.2.1 dX7_does_57 rfl (lv_at hl 1 rfl) ?_
          refine cd_get7 (v := .ref (G.2.2.2.2 + 4)) S hK hZ cd_this7 0 cd_f_X7_15 rfl dX7_does_58 ?_
          obtain ⟨o12, E1, E⟩ := cd_bE E
          refine cd_cVv (As := [.ref (G.2.2.2.2 + 4)]) S hK hZ hl.1 (c_X1_undo l G 60 4 (cd_r7_1 cd_this7) (cd_r7_0 cd_this7) o7.2 o12 E1) cd_v_X1_undo cd_m_X7_149 ⟨Nat.le_of_ble_eq_true rfl, Nat.le_of_ble_eq_true rfl⟩ ⟨rfl, rfl⟩ (ci := 1) (by decide) rfl (cd_r7_1 cd_this7) rfl rfl (Nat.le_of_ble_eq_true rfl) ⟨Nat.zero_le _, Nat.zero_le _⟩ dX7_does_61 (fun H locs hZ => ?_)
          refine lv_sipush (v := (-1000)) S.1 S.2.1 dX7_does_64 (by decide) ?_
          refine lv_iload_n S.1 S.2.1 dX7_does_67 rfl (lv_at hl 0 rfl) ?_
          refine lv_isub S.1 S.2.1 dX7_does_68 ?_
          cases E
          exact hret _ _ _ _ _ _ (hin _ rfl) hZ dX7_does_69
  unfold f_X7_does at E
  refine lv_aload_n S.1 S.2.1 dX7_does_0 rfl (lv_at hl 0 rfl) ?_
  refine cd_get7 (v := .ref (G.2.2.2.2 + 398)) S hK hZ cd_this7 2 cd_f_X7_31 rfl dX7_does_1 ?_
  obtain ⟨o1, E1, E⟩ := cd_bE E
  refine cd_cVi (As := []) S hK hZ hl.1 (c_X6_readOrders l G 398 (cd_r7_2 cd_this7) h o1 E1) cd_v_X6_readOrders cd_m_X7_135 ⟨Nat.le_of_ble_eq_true rfl, Nat.le_of_ble_eq_true rfl⟩ ⟨rfl, rfl⟩ (ci := 6) (by decide) rfl (cd_r7_2 cd_this7) rfl rfl (Nat.le_of_ble_eq_true rfl) ⟨Nat.zero_le _, Nat.zero_le _⟩ dX7_does_4 (fun H locs hZ => ?_)
  refine lv_istore_n (lv' := [(1, .int o1.1), (0, .ref (G.2.2.2.2 + 0))]) S.1 S.2.1 dX7_does_7 rfl hl (by decide) rfl (fun ls hl => ?_)
  refine lv_iload_n S.1 S.2.1 dX7_does_8 rfl (lv_at hl 0 rfl) ?_
  refine lv_iconst (v := (-1)) S.1 S.2.1 dX7_does_9 (by decide) ?_
  refine lv_icmp_eq (tgt := 18) S.1 S.2.1 dX7_does_10 (by decide) (fun c3 => ?_) (fun c3 => ?_)
  · have E := cd_tE c3 E
    refine lv_aload_n S.1 S.2.1 dX7_does_18 rfl (lv_at hl 1 rfl) ?_
    refine cd_get7 (v := .ref (G.2.2.2.2 + 60)) S hK hZ cd_this7 1 cd_f_X7_24 rfl dX7_does_19 ?_
    refine lv_aload_n S.1 S.2.1 dX7_does_22 rfl (lv_at hl 1 rfl) ?_
    refine cd_get7 (v := .ref (G.2.2.2.2 + 4)) S hK hZ cd_this7 0 cd_f_X7_15 rfl dX7_does_23 ?_
    obtain ⟨o4, E1, E⟩ := cd_bE E
    refine cd_cVv (As := [.ref (G.2.2.2.2 + 4)]) S hK hZ hl.1 (c_X1_hold l G 60 4 (cd_r7_1 cd_this7) (cd_r7_0 cd_this7) o1.2 o4 E1) cd_v_X1_hold cd_m_X7_39 ⟨Nat.le_of_ble_eq_true rfl, Nat.le_of_ble_eq_true rfl⟩ ⟨rfl, rfl⟩ (ci := 1) (by decide) rfl (cd_r7_1 cd_this7) rfl rfl (Nat.le_of_ble_eq_true rfl) ⟨Nat.zero_le _, Nat.zero_le _⟩ dX7_does_26 (fun H locs hZ => ?_)
    refine lv_iconst (v := 0) S.1 S.2.1 dX7_does_29 (by decide) ?_
    refine lv_istore_n (lv' := [(2, .int 0), (1, .int o1.1), (0, .ref (G.2.2.2.2 + 0))]) S.1 S.2.1 dX7_does_30 rfl hl (by decide) rfl (fun ls hl => ?_)
    obtain ⟨o14, E1, EL, ER⟩ := cd_b2E E
    refine L31 cd_fu 0 o4 o14 H locs ls E1 hZ (lv_sub hl [0, 2] rfl) EL (fun st15 hst H locs ls hZ hl => ?_)
    have E := ER st15 hst
    refine lv_aload_n S.1 S.2.1 dX7_does_76 rfl (lv_at hl 1 rfl) ?_
    refine cd_get7 (v := .ref (G.2.2.2.2 + 60)) S hK hZ cd_this7 1 cd_f_X7_24 rfl dX7_does_77 ?_
    obtain ⟨o16, E1, E⟩ := cd_nmE E
    refine cd_cVv (As := []) S hK hZ hl.1 (c_X1_keep l G 60 (cd_r7_1 cd_this7) st15.2 o16 E1.symm) cd_v_X1_keep cd_m_X7_152 ⟨Nat.le_of_ble_eq_true rfl, Nat.le_of_ble_eq_true rfl⟩ ⟨rfl, rfl⟩ (ci := 1) (by decide) rfl (cd_r7_1 cd_this7) rfl rfl (Nat.le_of_ble_eq_true rfl) ⟨Nat.zero_le _, Nat.zero_le _⟩ dX7_does_80 (fun H locs hZ => ?_)
    refine lv_aload_n S.1 S.2.1 dX7_does_83 rfl (lv_at hl 1 rfl) ?_
    refine cd_get7 (v := .ref (G.2.2.2.2 + 398)) S hK hZ cd_this7 2 cd_f_X7_31 rfl dX7_does_84 ?_
    refine cd_get6 (v := .int (cd_g o16 398 1)) S hK hZ (cd_r7_2 cd_this7) 1 cd_f_X7_139 rfl dX7_does_87 ?_
    exact hret _ _ _ _ _ _ (Option.some.inj E) hZ dX7_does_90
  · have E := cd_fE c3 E
    refine lv_bipush (v := (-10)) S.1 S.2.1 dX7_does_13 (by decide) ?_
    refine lv_iload_n S.1 S.2.1 dX7_does_15 rfl (lv_at hl 0 rfl) ?_
    refine lv_isub S.1 S.2.1 dX7_does_16 ?_
    exact hret _ _ _ _ _ _ (Option.some.inj E) hZ dX7_does_17
