-- CONTRACTS (written by wip/whole/gen.py): X3_take X3_sitAll X4_hasGroup X4_hasEvent X4_putCounters X4_putMask X5_has X5_hasEnded X5_hasOpenChild X4_endTask X4_addGroup X4_addEvent X4_putPeriod X4_putSkid X7_bit X4_putLive X5_reachesByParents X4_watchersOf X4_isIn X4_showSeatsOf X4_showSeats
abbrev rm_X3_take : Room := { frames := 6, cells := 0, slots := 0, locals := 156 }
theorem cd_v_X3_take : cd_V yX3_take cX3_take 5 (some .boolean) 2 := ⟨cd_i_X3_take, cd_e_X3_X3_take, cd_n_X3, cd_c_X3_take, by decide +kernel⟩
set_option maxHeartbeats 4000000 in
set_option maxRecDepth 100000 in
theorem c_X3_take (l : Launch) (G : cd_G) (q : Nat) (r1 : Nat) (r2 : Nat) (hq : cd_is 3 q) (hr1 : cd_is 0 r1) (hr2 : cd_ar (cd_ln r2) r2) (h : cd_Hp) (out : (Int32 × cd_Hp)) (E : f_X3_take q r1 r2 h = some out) : cd_Mz l G yX3_take (Cond.code yX3_take cX3_take 5 (some .boolean) :: cd_T) rm_X3_take [.ref (G.2.2.2.2 + q), .ref (G.2.2.2.2 + r1), .ref (G.2.2.2.2 + r2)] h out := by
  refine cd_inz (by decide) (Nat.le_of_ble_eq_true rfl) ?_
  intro p e s m args below meth c Q ls H locs S hK hZ hl hret
  have hl : lv_has ls 5 [(0, .ref (G.2.2.2.2 + q)), (1, .ref (G.2.2.2.2 + r1)), (2, .ref (G.2.2.2.2 + r2))] := hl
  have L20 : ∀ (p20_3 : Int32), ∀ (n : Nat) (v20_4 : Int32) (h20_ : cd_Hp) (o : (Int32 × cd_Hp)) (H : Heap) (locs : List Loc) (ls : Array Slot), cd_lp (f_X3_take_B20 q r1 r2 p20_3) n (v20_4, h20_) = some o → cd_Z G h20_ s.heap H locs → lv_has ls 5 [(4, .int v20_4), (3, .int p20_3), (0, .ref (G.2.2.2.2 + q)), (1, .ref (G.2.2.2.2 + r1)), (2, .ref (G.2.2.2.2 + r2))] → (∀ (H : Heap) (locs : List Loc) (ls : Array Slot), cd_Z G o.2 s.heap H locs → lv_has ls 5 [(4, .int o.1), (3, .int p20_3), (0, .ref (G.2.2.2.2 + q)), (1, .ref (G.2.2.2.2 + r1)), (2, .ref (G.2.2.2.2 + r2))] → W p l e rm_X3_take s m args below meth c H locs 0 0 Q (F0 m 63 ls [])) → W p l e rm_X3_take s m args below meth c H locs 0 0 Q (F0 m 20 ls []) := by
    intro p20_3
    intro n
    induction n with
    | zero => intro v20_4 h20_ o H locs ls E; exact nomatch (show (none : Option (Int32 × cd_Hp)) = some o from E)
    | succ n ih =>
      intro v20_4 h20_ o H locs ls E hZ hl hex
      have E : f_X3_take_B20 q r1 r2 p20_3 (cd_lp (f_X3_take_B20 q r1 r2 p20_3) n) (v20_4, h20_) = some o := E
      unfold f_X3_take_B20 at E
      dsimp only at E
      refine lv_iload S.1 S.2.1 dX3_take_20 (lv_at hl 0 rfl) ?_
      refine lv_aload_n S.1 S.2.1 dX3_take_22 rfl (lv_at hl 3 rfl) ?_
      refine cd_get0 (v := .int (cd_g h20_ r1 6)) S hK hZ hr1 6 cd_f_X3_25 rfl dX3_take_23 ?_
      refine lv_icmp_ge (tgt := 63) S.1 S.2.1 dX3_take_26 (by decide) (fun c3 => ?_) (fun c3 => ?_)
      · have E := cd_tE c3 E
        cases E
        exact hex H locs ls hZ (lv_sub hl [0, 1, 2, 3, 4] rfl)
      · have E := cd_fE c3 E
        refine lv_aload_n S.1 S.2.1 dX3_take_29 rfl (lv_at hl 2 rfl) ?_
        refine cd_get3 (v := .ref (G.2.2.2.2 + (q + 1))) S hK hZ hq 2 cd_f_X3_9 rfl dX3_take_30 ?_
        refine lv_aload_n S.1 S.2.1 dX3_take_33 rfl (lv_at hl 2 rfl) ?_
        refine cd_get3 (v := .int (cd_g h20_ q 0)) S hK hZ hq 0 cd_f_X3_18 rfl dX3_take_34 ?_
        refine lv_aload_n S.1 S.2.1 dX3_take_37 rfl (lv_at hl 4 rfl) ?_
        refine lv_aload_n S.1 S.2.1 dX3_take_38 rfl (lv_at hl 3 rfl) ?_
        refine cd_get0 (v := .ref (G.2.2.2.2 + (r1 + 1))) S hK hZ hr1 10 cd_f_X3_30 rfl dX3_take_39 ?_
        refine lv_iload S.1 S.2.1 dX3_take_42 (lv_at hl 0 rfl) ?_
        obtain ⟨z4, E⟩ := cd_ckE E
        refine cd_iald S hK hZ (cd_r0_10 hr1) z4 dX3_take_44 ?_
        obtain ⟨z5, E⟩ := cd_ckE E
        refine cd_iald S hK hZ hr2 z5 dX3_take_45 ?_
        obtain ⟨z6, E⟩ := cd_ckE E
        obtain ⟨h7, eh7, E⟩ := cd_nmE E
        refine cd_iast S hK hZ (cd_r3_2 hq) z6 eh7 dX3_take_46 (fun H locs hZ => ?_)
        refine lv_aload_n S.1 S.2.1 dX3_take_47 rfl (lv_at hl 2 rfl) ?_
        refine lv_dup S.1 S.2.1 dX3_take_48 rfl ?_
        refine cd_get3 (v := .int (cd_g h7 q 0)) S hK hZ hq 0 cd_f_X3_18 rfl dX3_take_49 ?_
        refine lv_iconst (v := 1) S.1 S.2.1 dX3_take_52 (by decide) ?_
        refine lv_iadd S.1 S.2.1 dX3_take_53 ?_
        obtain ⟨h8, eh8, E⟩ := cd_nmE E
        refine cd_put3_0 S hK hZ hq cd_f_X3_18 eh8 dX3_take_54 (fun H locs hZ => ?_)
        obtain ⟨x9, ex9, E⟩ := cd_nmE E
        refine lv_iinc (v := x9) (lv' := [(4, .int x9), (3, .int p20_3), (0, .ref (G.2.2.2.2 + q)), (1, .ref (G.2.2.2.2 + r1)), (2, .ref (G.2.2.2.2 + r2))]) S.1 S.2.1 dX3_take_57 hl (k := 0) rfl (by rw [ex9]; rfl) (by decide) rfl (fun ls hl => ?_)
        refine lv_goto (tgt := 20) S.1 S.2.1 dX3_take_60 (by decide) ?_
        exact ih x9 h8 o H locs ls E hZ (lv_sub hl [0, 1, 2, 3, 4] rfl) hex
  unfold f_X3_take at E
  refine lv_aload_n S.1 S.2.1 dX3_take_0 rfl (lv_at hl 0 rfl) ?_
  refine cd_get3 (v := .int (cd_g h q 0)) S hK hZ hq 0 cd_f_X3_18 rfl dX3_take_1 ?_
  obtain ⟨x1, ex1, E⟩ := cd_nmE E
  refine cd_topi ex1 ?_
  refine lv_istore_n (lv' := [(3, .int x1), (0, .ref (G.2.2.2.2 + q)), (1, .ref (G.2.2.2.2 + r1)), (2, .ref (G.2.2.2.2 + r2))]) S.1 S.2.1 dX3_take_4 rfl hl (by decide) rfl (fun ls hl => ?_)
  refine lv_iload_n S.1 S.2.1 dX3_take_5 rfl (lv_at hl 0 rfl) ?_
  refine lv_aload_n S.1 S.2.1 dX3_take_6 rfl (lv_at hl 2 rfl) ?_
  refine cd_get0 (v := .int (cd_g h r1 6)) S hK hZ hr1 6 cd_f_X3_25 rfl dX3_take_7 ?_
  refine lv_iadd S.1 S.2.1 dX3_take_10 ?_
  refine lv_iconst (v := 4) S.1 S.2.1 dX3_take_11 (by decide) ?_
  refine lv_icmp_le (tgt := 17) S.1 S.2.1 dX3_take_12 (by decide) (fun c2 => ?_) (fun c2 => ?_)
  · have E := cd_tE c2 E
    refine lv_iconst (v := 0) S.1 S.2.1 dX3_take_17 (by decide) ?_
    refine lv_istore (lv' := [(4, .int 0), (3, .int x1), (0, .ref (G.2.2.2.2 + q)), (1, .ref (G.2.2.2.2 + r1)), (2, .ref (G.2.2.2.2 + r2))]) S.1 S.2.1 dX3_take_18 hl (by decide) rfl (fun ls hl => ?_)
    obtain ⟨o10, E1, E⟩ := cd_bE E
    refine L20 x1 cd_fu 0 h o10 H locs ls E1 hZ (lv_sub hl [0, 1, 2, 3, 4] rfl) (fun H locs ls hZ hl => ?_)
    refine lv_aload_n S.1 S.2.1 dX3_take_63 rfl (lv_at hl 2 rfl) ?_
    refine cd_get3 (v := .ref (G.2.2.2.2 + (q + 1))) S hK hZ hq 2 cd_f_X3_9 rfl dX3_take_64 ?_
    refine lv_aload_n S.1 S.2.1 dX3_take_67 rfl (lv_at hl 2 rfl) ?_
    refine cd_get3 (v := .ref (G.2.2.2.2 + (q + 2))) S hK hZ hq 3 cd_f_X3_15 rfl dX3_take_68 ?_
    refine lv_aload_n S.1 S.2.1 dX3_take_71 rfl (lv_at hl 2 rfl) ?_
    refine cd_get3 (v := .int (cd_g o10.2 q 0)) S hK hZ hq 0 cd_f_X3_18 rfl dX3_take_72 ?_
    refine lv_iconst (v := 0) S.1 S.2.1 dX3_take_75 (by decide) ?_
    refine lv_aload_n S.1 S.2.1 dX3_take_76 rfl (lv_at hl 2 rfl) ?_
    refine cd_get3 (v := .int (cd_g o10.2 q 1)) S hK hZ hq 1 cd_f_X3_22 rfl dX3_take_77 ?_
    obtain ⟨o11, E1, E⟩ := cd_bE E
    refine cd_cSz (As := [.ref (G.2.2.2.2 + (q + 1)), .ref (G.2.2.2.2 + (q + 2)), .int (cd_g o10.2 q 0), .int 0, .int (cd_g o10.2 q 1)]) S hK hZ hl.1 (c_X3_sit l G (q + 1) (q + 2) (cd_g o10.2 q 0) 0 (cd_g o10.2 q 1) ((cd_r3_2 hq)).self ((cd_r3_3 hq)).self o10.2 o11 E1) cd_v_X3_sit cd_m_X3_33 ⟨Nat.le_of_ble_eq_true rfl, Nat.le_of_ble_eq_true rfl⟩ ⟨rfl, rfl⟩ rfl rfl (Nat.le_of_ble_eq_true rfl) ⟨Nat.zero_le _, Nat.zero_le _⟩ dX3_take_80 (fun H locs hZ b12 => ?_)
    refine lv_if_eq (tgt := 88) S.1 S.2.1 dX3_take_83 (by decide) (fun c13 => ?_) (fun c13 => ?_)
    · have E := cd_tE c13 E
      refine lv_aload_n S.1 S.2.1 dX3_take_88 rfl (lv_at hl 2 rfl) ?_
      refine lv_iload_n S.1 S.2.1 dX3_take_89 rfl (lv_at hl 1 rfl) ?_
      obtain ⟨h14, eh14, E⟩ := cd_nmE E
      refine cd_put3_0 S hK hZ hq cd_f_X3_18 eh14 dX3_take_90 (fun H locs hZ => ?_)
      refine lv_iconst (v := 0) S.1 S.2.1 dX3_take_93 (by decide) ?_
      exact hret _ _ _ _ _ _ (by decide) (Option.some.inj E) hZ dX3_take_94
    · have E := cd_fE c13 E
      refine lv_iconst (v := 1) S.1 S.2.1 dX3_take_86 (by decide) ?_
      exact hret _ _ _ _ _ _ (by decide) (Option.some.inj E) hZ dX3_take_87
  · have E := cd_fE c2 E
    refine lv_iconst (v := 0) S.1 S.2.1 dX3_take_15 (by decide) ?_
    exact hret _ _ _ _ _ _ (by decide) (Option.some.inj E) hZ dX3_take_16
abbrev rm_X3_sitAll : Room := { frames := 6, cells := 0, slots := 0, locals := 156 }
theorem cd_v_X3_sitAll : cd_V yX3_sitAll cX3_sitAll 1 none 0 := ⟨cd_i_X3_sitAll, cd_e_X3_X3_sitAll, cd_n_X3, cd_c_X3_sitAll, by decide +kernel⟩
set_option maxHeartbeats 4000000 in
set_option maxRecDepth 100000 in
theorem c_X3_sitAll (l : Launch) (G : cd_G) (q : Nat) (hq : cd_is 3 q) (h : cd_Hp) (out : cd_Hp) (E : f_X3_sitAll q h = some out) : cd_Mv l G yX3_sitAll (Cond.code yX3_sitAll cX3_sitAll 1 none :: cd_T) rm_X3_sitAll [.ref (G.2.2.2.2 + q)] h out := by
  refine cd_inv (by decide) (Nat.le_of_ble_eq_true rfl) ?_
  intro p e s m args below meth c Q ls H locs S hK hZ hl hret
  have hl : lv_has ls 1 [(0, .ref (G.2.2.2.2 + q))] := hl
  unfold f_X3_sitAll at E
  refine lv_aload_n S.1 S.2.1 dX3_sitAll_0 rfl (lv_at hl 0 rfl) ?_
  refine cd_get3 (v := .ref (G.2.2.2.2 + (q + 1))) S hK hZ hq 2 cd_f_X3_9 rfl dX3_sitAll_1 ?_
  refine lv_aload_n S.1 S.2.1 dX3_sitAll_4 rfl (lv_at hl 0 rfl) ?_
  refine cd_get3 (v := .ref (G.2.2.2.2 + (q + 2))) S hK hZ hq 3 cd_f_X3_15 rfl dX3_sitAll_5 ?_
  refine lv_aload_n S.1 S.2.1 dX3_sitAll_8 rfl (lv_at hl 0 rfl) ?_
  refine cd_get3 (v := .int (cd_g h q 0)) S hK hZ hq 0 cd_f_X3_18 rfl dX3_sitAll_9 ?_
  refine lv_iconst (v := 0) S.1 S.2.1 dX3_sitAll_12 (by decide) ?_
  refine lv_aload_n S.1 S.2.1 dX3_sitAll_13 rfl (lv_at hl 0 rfl) ?_
  refine cd_get3 (v := .int (cd_g h q 1)) S hK hZ hq 1 cd_f_X3_22 rfl dX3_sitAll_14 ?_
  obtain ⟨o1, E1, E⟩ := cd_bE E
  refine cd_cSz (As := [.ref (G.2.2.2.2 + (q + 1)), .ref (G.2.2.2.2 + (q + 2)), .int (cd_g h q 0), .int 0, .int (cd_g h q 1)]) S hK hZ hl.1 (c_X3_sit l G (q + 1) (q + 2) (cd_g h q 0) 0 (cd_g h q 1) ((cd_r3_2 hq)).self ((cd_r3_3 hq)).self h o1 E1) cd_v_X3_sit cd_m_X3_33 ⟨Nat.le_of_ble_eq_true rfl, Nat.le_of_ble_eq_true rfl⟩ ⟨rfl, rfl⟩ rfl rfl (Nat.le_of_ble_eq_true rfl) ⟨Nat.zero_le _, Nat.zero_le _⟩ dX3_sitAll_17 (fun H locs hZ b2 => ?_)
  refine lv_pop S.1 S.2.1 dX3_sitAll_20 rfl ?_
  exact hret _ _ _ _ _ (Option.some.inj E) hZ dX3_sitAll_21
abbrev rm_X4_hasGroup : Room := { frames := 1, cells := 0, slots := 0, locals := 22 }
theorem cd_v_X4_hasGroup : cd_V yX4_hasGroup cX4_hasGroup 2 (some .boolean) 1 := ⟨cd_i_X4_hasGroup, cd_e_X4_X4_hasGroup, cd_n_X4, cd_c_X4_hasGroup, by decide +kernel⟩
set_option maxHeartbeats 4000000 in
set_option maxRecDepth 100000 in
theorem c_X4_hasGroup (l : Launch) (G : cd_G) (q : Nat) (a1 : Int32) (hq : cd_is 4 q) (h : cd_Hp) (out : Int32) (E : f_X4_hasGroup q a1 h = out) : cd_Mz l G yX4_hasGroup (Cond.code yX4_hasGroup cX4_hasGroup 2 (some .boolean) :: cd_T) rm_X4_hasGroup [.ref (G.2.2.2.2 + q), .int a1] h (out, h) := by
  refine cd_inz (by decide) (Nat.le_of_ble_eq_true rfl) ?_
  intro p e s m args below meth c Q ls H locs S hK hZ hl hret
  have hl : lv_has ls 2 [(0, .ref (G.2.2.2.2 + q)), (1, .int a1)] := hl
  unfold f_X4_hasGroup at E
  refine lv_iload_n S.1 S.2.1 dX4_hasGroup_0 rfl (lv_at hl 1 rfl) ?_
  refine lv_iconst (v := 0) S.1 S.2.1 dX4_hasGroup_1 (by decide) ?_
  refine lv_aload_n S.1 S.2.1 dX4_hasGroup_2 rfl (lv_at hl 0 rfl) ?_
  refine cd_get4 (v := .int (cd_g h q 3)) S hK hZ hq 3 cd_f_X4_53 rfl dX4_hasGroup_3 ?_
  refine lv_iconst (v := 1) S.1 S.2.1 dX4_hasGroup_6 (by decide) ?_
  refine lv_isub S.1 S.2.1 dX4_hasGroup_7 ?_
  refine cd_cNz (As := [.int a1, .int 0, .int ((cd_g h q 3) - 1)]) S hK hZ hl.1 (c_X7_isWithin l G a1 0 ((cd_g h q 3) - 1) h _ rfl) cd_v_X7_isWithin (cd_nX4_73 hK.2) ⟨Nat.le_of_ble_eq_true rfl, Nat.le_of_ble_eq_true rfl⟩ ⟨rfl, rfl⟩ rfl rfl (Nat.le_of_ble_eq_true rfl) ⟨Nat.zero_le _, Nat.zero_le _⟩ dX4_hasGroup_8 (fun H locs hZ b1 => ?_)
  exact hret _ _ _ _ _ _ b1 (congrArg (fun z => (z, h)) (E)) hZ dX4_hasGroup_11
abbrev rm_X4_hasEvent : Room := { frames := 2, cells := 0, slots := 0, locals := 43 }
theorem cd_v_X4_hasEvent : cd_V yX4_hasEvent cX4_hasEvent 3 (some .boolean) 2 := ⟨cd_i_X4_hasEvent, cd_e_X4_X4_hasEvent, cd_n_X4, cd_c_X4_hasEvent, by decide +kernel⟩
set_option maxHeartbeats 4000000 in
set_option maxRecDepth 100000 in
theorem c_X4_hasEvent (l : Launch) (G : cd_G) (q : Nat) (a1 : Int32) (a2 : Int32) (hq : cd_is 4 q) (h : cd_Hp) (out : Int32) (E : f_X4_hasEvent q a1 a2 h = some out) : cd_Mz l G yX4_hasEvent (Cond.code yX4_hasEvent cX4_hasEvent 3 (some .boolean) :: cd_T) rm_X4_hasEvent [.ref (G.2.2.2.2 + q), .int a1, .int a2] h (out, h) := by
  refine cd_inz (by decide) (Nat.le_of_ble_eq_true rfl) ?_
  intro p e s m args below meth c Q ls H locs S hK hZ hl hret
  have hl : lv_has ls 3 [(0, .ref (G.2.2.2.2 + q)), (1, .int a1), (2, .int a2)] := hl
  unfold f_X4_hasEvent at E
  refine lv_aload_n S.1 S.2.1 dX4_hasEvent_0 rfl (lv_at hl 0 rfl) ?_
  refine lv_iload_n S.1 S.2.1 dX4_hasEvent_1 rfl (lv_at hl 1 rfl) ?_
  refine cd_cVz (As := [.int a1]) S hK hZ hl.1 (c_X4_hasGroup l G q a1 hq h _ rfl) cd_v_X4_hasGroup cd_m_X4_77 ⟨Nat.le_of_ble_eq_true rfl, Nat.le_of_ble_eq_true rfl⟩ ⟨rfl, rfl⟩ (ci := 4) (by decide) rfl hq rfl rfl (Nat.le_of_ble_eq_true rfl) ⟨Nat.zero_le _, Nat.zero_le _⟩ dX4_hasEvent_2 (fun H locs hZ b1 => ?_)
  refine lv_if_eq (tgt := 25) S.1 S.2.1 dX4_hasEvent_5 (by decide) (fun c2 => ?_) (fun c2 => ?_)
  · have E := cd_tE c2 E
    refine lv_iconst (v := 0) S.1 S.2.1 dX4_hasEvent_25 (by decide) ?_
    exact hret _ _ _ _ _ _ (by decide) (congrArg (fun z => (z, h)) (Option.some.inj E)) hZ dX4_hasEvent_26
  · have E := cd_fE c2 E
    refine lv_aload_n S.1 S.2.1 dX4_hasEvent_8 rfl (lv_at hl 0 rfl) ?_
    refine cd_get4 (v := .ref (G.2.2.2.2 + (q + 6))) S hK hZ hq 7 cd_f_X4_31 rfl dX4_hasEvent_9 ?_
    refine lv_iload_n S.1 S.2.1 dX4_hasEvent_12 rfl (lv_at hl 1 rfl) ?_
    obtain ⟨z3, E⟩ := cd_ckE E
    refine cd_aald9 S hK hZ (cd_r4_7 hq) z3 dX4_hasEvent_13 ?_
    refine lv_iload_n S.1 S.2.1 dX4_hasEvent_14 rfl (lv_at hl 2 rfl) ?_
    refine cd_cVz (As := [.int a2]) S hK hZ hl.1 (c_X0_hasEvent l G ((q + 6) + 8 + 7 * (a1.toNatClampNeg)) a2 (cd_r9 (cd_r4_7 hq) z3) h _ rfl) cd_v_X0_hasEvent cd_m_X4_81 ⟨Nat.le_of_ble_eq_true rfl, Nat.le_of_ble_eq_true rfl⟩ ⟨rfl, rfl⟩ (ci := 0) (by decide) rfl (cd_r9 (cd_r4_7 hq) z3) rfl rfl (Nat.le_of_ble_eq_true rfl) ⟨Nat.zero_le _, Nat.zero_le _⟩ dX4_hasEvent_15 (fun H locs hZ b4 => ?_)
    refine lv_if_eq (tgt := 25) S.1 S.2.1 dX4_hasEvent_18 (by decide) (fun c5 => ?_) (fun c5 => ?_)
    · have E := cd_tE c5 E
      refine lv_iconst (v := 0) S.1 S.2.1 dX4_hasEvent_25 (by decide) ?_
      exact hret _ _ _ _ _ _ (by decide) (congrArg (fun z => (z, h)) (Option.some.inj E)) hZ dX4_hasEvent_26
    · have E := cd_fE c5 E
      refine lv_iconst (v := 1) S.1 S.2.1 dX4_hasEvent_21 (by decide) ?_
      refine lv_goto (tgt := 26) S.1 S.2.1 dX4_hasEvent_22 (by decide) ?_
      exact hret _ _ _ _ _ _ (by decide) (congrArg (fun z => (z, h)) (Option.some.inj E)) hZ dX4_hasEvent_26
abbrev rm_X4_putCounters : Room := { frames := 1, cells := 0, slots := 0, locals := 22 }
theorem cd_v_X4_putCounters : cd_V yX4_putCounters cX4_putCounters 3 (some .int) 1 := ⟨cd_i_X4_putCounters, cd_e_X4_X4_putCounters, cd_n_X4, cd_c_X4_putCounters, by decide +kernel⟩
set_option maxHeartbeats 4000000 in
set_option maxRecDepth 100000 in
theorem c_X4_putCounters (l : Launch) (G : cd_G) (q : Nat) (a1 : Int32) (hq : cd_is 4 q) (h : cd_Hp) (out : (Int32 × cd_Hp)) (E : f_X4_putCounters q a1 h = out) : cd_Mi l G yX4_putCounters (Cond.code yX4_putCounters cX4_putCounters 3 (some .int) :: cd_T) rm_X4_putCounters [.ref (G.2.2.2.2 + q), .int a1] h out := by
  refine cd_ini (by decide) (Nat.le_of_ble_eq_true rfl) ?_
  intro p e s m args below meth c Q ls H locs S hK hZ hl hret
  have hl : lv_has ls 3 [(0, .ref (G.2.2.2.2 + q)), (1, .int a1)] := hl
  unfold f_X4_putCounters at E
  refine lv_iload_n S.1 S.2.1 dX4_putCounters_0 rfl (lv_at hl 1 rfl) ?_
  refine lv_iconst (v := 1) S.1 S.2.1 dX4_putCounters_1 (by decide) ?_
  refine lv_iconst (v := 4) S.1 S.2.1 dX4_putCounters_2 (by decide) ?_
  refine cd_cNz (As := [.int a1, .int 1, .int 4]) S hK hZ hl.1 (c_X7_isWithin l G a1 1 4 h _ rfl) cd_v_X7_isWithin (cd_nX4_73 hK.2) ⟨Nat.le_of_ble_eq_true rfl, Nat.le_of_ble_eq_true rfl⟩ ⟨rfl, rfl⟩ rfl rfl (Nat.le_of_ble_eq_true rfl) ⟨Nat.zero_le _, Nat.zero_le _⟩ dX4_putCounters_3 (fun H locs hZ b1 => ?_)
  refine lv_if_ne (tgt := 12) S.1 S.2.1 dX4_putCounters_6 (by decide) (fun c2 => ?_) (fun c2 => ?_)
  · have E := cd_fE c2 E
    refine lv_aload_n S.1 S.2.1 dX4_putCounters_12 rfl (lv_at hl 0 rfl) ?_
    refine cd_get4 (v := .int (cd_g h q 0)) S hK hZ hq 0 cd_f_X4_9 rfl dX4_putCounters_13 ?_
    obtain ⟨x3, ex3, E⟩ := cd_nmE E
    refine cd_topi ex3 ?_
    refine lv_istore_n (lv' := [(2, .int x3), (0, .ref (G.2.2.2.2 + q)), (1, .int a1)]) S.1 S.2.1 dX4_putCounters_16 rfl hl (by decide) rfl (fun ls hl => ?_)
    refine lv_aload_n S.1 S.2.1 dX4_putCounters_17 rfl (lv_at hl 1 rfl) ?_
    refine lv_iload_n S.1 S.2.1 dX4_putCounters_18 rfl (lv_at hl 2 rfl) ?_
    obtain ⟨h4, eh4, E⟩ := cd_nmE E
    refine cd_put4_0 S hK hZ hq cd_f_X4_9 eh4 dX4_putCounters_19 (fun H locs hZ => ?_)
    refine lv_iload_n S.1 S.2.1 dX4_putCounters_22 rfl (lv_at hl 0 rfl) ?_
    exact hret _ _ _ _ _ _ (E) hZ dX4_putCounters_23
  · have E := cd_tE c2 E
    refine lv_bipush (v := (-2)) S.1 S.2.1 dX4_putCounters_9 (by decide) ?_
    exact hret _ _ _ _ _ _ (E) hZ dX4_putCounters_11
abbrev rm_X4_putMask : Room := { frames := 1, cells := 0, slots := 0, locals := 22 }
theorem cd_v_X4_putMask : cd_V yX4_putMask cX4_putMask 4 (some .int) 2 := ⟨cd_i_X4_putMask, cd_e_X4_X4_putMask, cd_n_X4, cd_c_X4_putMask, by decide +kernel⟩
set_option maxHeartbeats 4000000 in
set_option maxRecDepth 100000 in
theorem c_X4_putMask (l : Launch) (G : cd_G) (q : Nat) (a1 : Int32) (a2 : Int32) (hq : cd_is 4 q) (h : cd_Hp) (out : (Int32 × cd_Hp)) (E : f_X4_putMask q a1 a2 h = some out) : cd_Mi l G yX4_putMask (Cond.code yX4_putMask cX4_putMask 4 (some .int) :: cd_T) rm_X4_putMask [.ref (G.2.2.2.2 + q), .int a1, .int a2] h out := by
  refine cd_ini (by decide) (Nat.le_of_ble_eq_true rfl) ?_
  intro p e s m args below meth c Q ls H locs S hK hZ hl hret
  have hl : lv_has ls 4 [(0, .ref (G.2.2.2.2 + q)), (1, .int a1), (2, .int a2)] := hl
  unfold f_X4_putMask at E
  refine lv_iload_n S.1 S.2.1 dX4_putMask_0 rfl (lv_at hl 1 rfl) ?_
  refine lv_iconst (v := 0) S.1 S.2.1 dX4_putMask_1 (by decide) ?_
  refine lv_bipush (v := 7) S.1 S.2.1 dX4_putMask_2 (by decide) ?_
  refine cd_cNz (As := [.int a1, .int 0, .int 7]) S hK hZ hl.1 (c_X7_isWithin l G a1 0 7 h _ rfl) cd_v_X7_isWithin (cd_nX4_73 hK.2) ⟨Nat.le_of_ble_eq_true rfl, Nat.le_of_ble_eq_true rfl⟩ ⟨rfl, rfl⟩ rfl rfl (Nat.le_of_ble_eq_true rfl) ⟨Nat.zero_le _, Nat.zero_le _⟩ dX4_putMask_4 (fun H locs hZ b1 => ?_)
  refine lv_if_eq (tgt := 20) S.1 S.2.1 dX4_putMask_7 (by decide) (fun c2 => ?_) (fun c2 => ?_)
  · have E := cd_tE c2 E
    refine lv_bipush (v := (-2)) S.1 S.2.1 dX4_putMask_20 (by decide) ?_
    exact hret _ _ _ _ _ _ (Option.some.inj E) hZ dX4_putMask_22
  · have E := cd_fE c2 E
    refine lv_iload_n S.1 S.2.1 dX4_putMask_10 rfl (lv_at hl 2 rfl) ?_
    refine lv_iconst (v := 0) S.1 S.2.1 dX4_putMask_11 (by decide) ?_
    refine lv_bipush (v := 15) S.1 S.2.1 dX4_putMask_12 (by decide) ?_
    refine cd_cNz (As := [.int a2, .int 0, .int 15]) S hK hZ hl.1 (c_X7_isWithin l G a2 0 15 h _ rfl) cd_v_X7_isWithin (cd_nX4_73 hK.2) ⟨Nat.le_of_ble_eq_true rfl, Nat.le_of_ble_eq_true rfl⟩ ⟨rfl, rfl⟩ rfl rfl (Nat.le_of_ble_eq_true rfl) ⟨Nat.zero_le _, Nat.zero_le _⟩ dX4_putMask_14 (fun H locs hZ b3 => ?_)
    refine lv_if_ne (tgt := 23) S.1 S.2.1 dX4_putMask_17 (by decide) (fun c4 => ?_) (fun c4 => ?_)
    · have E := cd_fE c4 E
      refine lv_aload_n S.1 S.2.1 dX4_putMask_23 rfl (lv_at hl 0 rfl) ?_
      refine cd_get4 (v := .ref (G.2.2.2.2 + (q + 1))) S hK hZ hq 5 cd_f_X4_18 rfl dX4_putMask_24 ?_
      refine lv_iload_n S.1 S.2.1 dX4_putMask_27 rfl (lv_at hl 1 rfl) ?_
      obtain ⟨z5, E⟩ := cd_ckE E
      refine cd_iald S hK hZ (cd_r4_5 hq) z5 dX4_putMask_28 ?_
      obtain ⟨x6, ex6, E⟩ := cd_nmE E
      refine cd_topi ex6 ?_
      refine lv_istore_n (lv' := [(3, .int x6), (0, .ref (G.2.2.2.2 + q)), (1, .int a1), (2, .int a2)]) S.1 S.2.1 dX4_putMask_29 rfl hl (by decide) rfl (fun ls hl => ?_)
      refine lv_aload_n S.1 S.2.1 dX4_putMask_30 rfl (lv_at hl 1 rfl) ?_
      refine cd_get4 (v := .ref (G.2.2.2.2 + (q + 1))) S hK hZ hq 5 cd_f_X4_18 rfl dX4_putMask_31 ?_
      refine lv_iload_n S.1 S.2.1 dX4_putMask_34 rfl (lv_at hl 2 rfl) ?_
      refine lv_iload_n S.1 S.2.1 dX4_putMask_35 rfl (lv_at hl 3 rfl) ?_
      obtain ⟨z7, E⟩ := cd_ckE E
      obtain ⟨h8, eh8, E⟩ := cd_nmE E
      refine cd_iast S hK hZ (cd_r4_5 hq) z7 eh8 dX4_putMask_36 (fun H locs hZ => ?_)
      refine lv_iload_n S.1 S.2.1 dX4_putMask_37 rfl (lv_at hl 0 rfl) ?_
      exact hret _ _ _ _ _ _ (Option.some.inj E) hZ dX4_putMask_38
    · have E := cd_tE c4 E
      refine lv_bipush (v := (-2)) S.1 S.2.1 dX4_putMask_20 (by decide) ?_
      exact hret _ _ _ _ _ _ (Option.some.inj E) hZ dX4_putMask_22
abbrev rm_X5_has : Room := { frames := 1, cells := 0, slots := 0, locals := 22 }
theorem cd_v_X5_has : cd_V yX5_has cX5_has 2 (some .boolean) 1 := ⟨cd_i_X5_has, cd_e_X5_X5_has, cd_n_X5, cd_c_X5_has, by decide +kernel⟩
set_option maxHeartbeats 4000000 in
set_option maxRecDepth 100000 in
theorem c_X5_has (l : Launch) (G : cd_G) (q : Nat) (a1 : Int32) (hq : cd_is 5 q) (h : cd_Hp) (out : Int32) (E : f_X5_has q a1 h = out) : cd_Mz l G yX5_has (Cond.code yX5_has cX5_has 2 (some .boolean) :: cd_T) rm_X5_has [.ref (G.2.2.2.2 + q), .int a1] h (out, h) := by
  refine cd_inz (by decide) (Nat.le_of_ble_eq_true rfl) ?_
  intro p e s m args below meth c Q ls H locs S hK hZ hl hret
  have hl : lv_has ls 2 [(0, .ref (G.2.2.2.2 + q)), (1, .int a1)] := hl
  unfold f_X5_has at E
  refine lv_iload_n S.1 S.2.1 dX5_has_0 rfl (lv_at hl 1 rfl) ?_
  refine lv_iconst (v := 0) S.1 S.2.1 dX5_has_1 (by decide) ?_
  refine lv_aload_n S.1 S.2.1 dX5_has_2 rfl (lv_at hl 0 rfl) ?_
  refine cd_get5 (v := .int (cd_g h q 0)) S hK hZ hq 0 cd_f_X5_9 rfl dX5_has_3 ?_
  refine lv_iconst (v := 1) S.1 S.2.1 dX5_has_6 (by decide) ?_
  refine lv_isub S.1 S.2.1 dX5_has_7 ?_
  refine cd_cNz (As := [.int a1, .int 0, .int ((cd_g h q 0) - 1)]) S hK hZ hl.1 (c_X7_isWithin l G a1 0 ((cd_g h q 0) - 1) h _ rfl) cd_v_X7_isWithin (cd_nX5_29 hK.2) ⟨Nat.le_of_ble_eq_true rfl, Nat.le_of_ble_eq_true rfl⟩ ⟨rfl, rfl⟩ rfl rfl (Nat.le_of_ble_eq_true rfl) ⟨Nat.zero_le _, Nat.zero_le _⟩ dX5_has_8 (fun H locs hZ b1 => ?_)
  exact hret _ _ _ _ _ _ b1 (congrArg (fun z => (z, h)) (E)) hZ dX5_has_11
abbrev rm_X5_hasEnded : Room := { frames := 0, cells := 0, slots := 0, locals := 0 }
theorem cd_v_X5_hasEnded : cd_V yX5_hasEnded cX5_hasEnded 2 (some .boolean) 1 := ⟨cd_i_X5_hasEnded, cd_e_X5_X5_hasEnded, cd_n_X5, cd_c_X5_hasEnded, by decide +kernel⟩
set_option maxHeartbeats 4000000 in
set_option maxRecDepth 100000 in
theorem c_X5_hasEnded (l : Launch) (G : cd_G) (q : Nat) (a1 : Int32) (hq : cd_is 5 q) (h : cd_Hp) (out : Int32) (E : f_X5_hasEnded q a1 h = some out) : cd_Mz l G yX5_hasEnded (Cond.code yX5_hasEnded cX5_hasEnded 2 (some .boolean) :: cd_T) rm_X5_hasEnded [.ref (G.2.2.2.2 + q), .int a1] h (out, h) := by
  refine cd_inz (by decide) (Nat.le_of_ble_eq_true rfl) ?_
  intro p e s m args below meth c Q ls H locs S hK hZ hl hret
  have hl : lv_has ls 2 [(0, .ref (G.2.2.2.2 + q)), (1, .int a1)] := hl
  unfold f_X5_hasEnded at E
  refine lv_aload_n S.1 S.2.1 dX5_hasEnded_0 rfl (lv_at hl 0 rfl) ?_
  refine cd_get5 (v := .ref (G.2.2.2.2 + (q + 2))) S hK hZ hq 2 cd_f_X5_19 rfl dX5_hasEnded_1 ?_
  refine lv_iload_n S.1 S.2.1 dX5_hasEnded_4 rfl (lv_at hl 1 rfl) ?_
  obtain ⟨z1, E⟩ := cd_ckE E
  refine cd_iald S hK hZ (cd_r5_2 hq) z1 dX5_hasEnded_5 ?_
  refine lv_iconst (v := 1) S.1 S.2.1 dX5_hasEnded_6 (by decide) ?_
  refine lv_icmp_ne (tgt := 14) S.1 S.2.1 dX5_hasEnded_7 (by decide) (fun c2 => ?_) (fun c2 => ?_)
  · have E := cd_fE c2 E
    refine lv_iconst (v := 0) S.1 S.2.1 dX5_hasEnded_14 (by decide) ?_
    exact hret _ _ _ _ _ _ (by decide) (congrArg (fun z => (z, h)) (Option.some.inj E)) hZ dX5_hasEnded_15
  · have E := cd_tE c2 E
    refine lv_iconst (v := 1) S.1 S.2.1 dX5_hasEnded_10 (by decide) ?_
    refine lv_goto (tgt := 15) S.1 S.2.1 dX5_hasEnded_11 (by decide) ?_
    exact hret _ _ _ _ _ _ (by decide) (congrArg (fun z => (z, h)) (Option.some.inj E)) hZ dX5_hasEnded_15
abbrev rm_X5_hasOpenChild : Room := { frames := 1, cells := 0, slots := 0, locals := 21 }
theorem cd_v_X5_hasOpenChild : cd_V yX5_hasOpenChild cX5_hasOpenChild 3 (some .boolean) 1 := ⟨cd_i_X5_hasOpenChild, cd_e_X5_X5_hasOpenChild, cd_n_X5, cd_c_X5_hasOpenChild, by decide +kernel⟩
set_option maxHeartbeats 4000000 in
set_option maxRecDepth 100000 in
theorem c_X5_hasOpenChild (l : Launch) (G : cd_G) (q : Nat) (a1 : Int32) (hq : cd_is 5 q) (h : cd_Hp) (out : Int32) (E : f_X5_hasOpenChild q a1 h = some out) : cd_Mz l G yX5_hasOpenChild (Cond.code yX5_hasOpenChild cX5_hasOpenChild 3 (some .boolean) :: cd_T) rm_X5_hasOpenChild [.ref (G.2.2.2.2 + q), .int a1] h (out, h) := by
  refine cd_inz (by decide) (Nat.le_of_ble_eq_true rfl) ?_
  intro p e s m args below meth c Q ls H locs S hK hZ hl hret
  have hl : lv_has ls 3 [(0, .ref (G.2.2.2.2 + q)), (1, .int a1)] := hl
  have L4 : ∀ (n : Nat) (v4_2 : Int32) (o : (Int32 ⊕ (Int32))) (H : Heap) (locs : List Loc) (ls : Array Slot), cd_lp (f_X5_hasOpenChild_B4 q a1 h) n v4_2 = some o → cd_Z G h s.heap H locs → lv_has ls 3 [(2, .int v4_2), (0, .ref (G.2.2.2.2 + q)), (1, .int a1)] → (∀ x, o = .inl x → x = out) → (∀ st, o = .inr st → ∀ (H : Heap) (locs : List Loc) (ls : Array Slot), cd_Z G h s.heap H locs → lv_has ls 3 [(2, .int st), (0, .ref (G.2.2.2.2 + q)), (1, .int a1)] → W p l e rm_X5_hasOpenChild s m args below meth c H locs 0 0 Q (F0 m 38 ls [])) → W p l e rm_X5_hasOpenChild s m args below meth c H locs 0 0 Q (F0 m 4 ls []) := by
    intro n
    induction n with
    | zero => intro v4_2 o H locs ls E; exact nomatch (show (none : Option (Int32 ⊕ (Int32))) = some o from E)
    | succ n ih =>
      intro v4_2 o H locs ls E hZ hl hin hex
      have E : f_X5_hasOpenChild_B4 q a1 h (cd_lp (f_X5_hasOpenChild_B4 q a1 h) n) v4_2 = some o := E
      unfold f_X5_hasOpenChild_B4 at E
      refine lv_iload_n S.1 S.2.1 dX5_hasOpenChild_4 rfl (lv_at hl 0 rfl) ?_
      refine lv_aload_n S.1 S.2.1 dX5_hasOpenChild_5 rfl (lv_at hl 1 rfl) ?_
      refine cd_get5 (v := .int (cd_g h q 0)) S hK hZ hq 0 cd_f_X5_9 rfl dX5_hasOpenChild_6 ?_
      refine lv_icmp_ge (tgt := 38) S.1 S.2.1 dX5_hasOpenChild_9 (by decide) (fun c2 => ?_) (fun c2 => ?_)
      · have E := cd_tE c2 E
        cases E
        exact hex _ rfl H locs ls hZ (lv_sub hl [0, 1, 2] rfl)
      · have E := cd_fE c2 E
        refine lv_aload_n S.1 S.2.1 dX5_hasOpenChild_12 rfl (lv_at hl 1 rfl) ?_
        refine cd_get5 (v := .ref (G.2.2.2.2 + (q + 1))) S hK hZ hq 1 cd_f_X5_15 rfl dX5_hasOpenChild_13 ?_
        refine lv_iload_n S.1 S.2.1 dX5_hasOpenChild_16 rfl (lv_at hl 0 rfl) ?_
        obtain ⟨z3, E⟩ := cd_ckE E
        refine cd_iald S hK hZ (cd_r5_1 hq) z3 dX5_hasOpenChild_17 ?_
        refine lv_iload_n S.1 S.2.1 dX5_hasOpenChild_18 rfl (lv_at hl 2 rfl) ?_
        refine lv_icmp_ne (tgt := 32) S.1 S.2.1 dX5_hasOpenChild_19 (by decide) (fun c4 => ?_) (fun c4 => ?_)
        · have E := cd_fE c4 E
          obtain ⟨x5, ex5, E⟩ := cd_nmE E
          refine lv_iinc (v := x5) (lv' := [(2, .int x5), (0, .ref (G.2.2.2.2 + q)), (1, .int a1)]) S.1 S.2.1 dX5_hasOpenChild_32 hl (k := 0) rfl (by rw [ex5]; rfl) (by decide) rfl (fun ls hl => ?_)
          refine lv_goto (tgt := 4) S.1 S.2.1 dX5_hasOpenChild_35 (by decide) ?_
          exact ih x5 o H locs ls E hZ (lv_sub hl [0, 1, 2] rfl) hin hex
        · have E := cd_tE c4 E
          refine lv_aload_n S.1 S.2.1 dX5_hasOpenChild_22 rfl (lv_at hl 1 rfl) ?_
          refine lv_iload_n S.1 S.2.1 dX5_hasOpenChild_23 rfl (lv_at hl 0 rfl) ?_
          obtain ⟨o6, E1, E⟩ := cd_bE E
          refine cd_cVz (As := [.int v4_2]) S hK hZ hl.1 (c_X5_hasEnded l G q v4_2 hq h o6 E1) cd_v_X5_hasEnded cd_m_X5_41 ⟨Nat.le_of_ble_eq_true rfl, Nat.le_of_ble_eq_true rfl⟩ ⟨rfl, rfl⟩ (ci := 5) (by decide) rfl hq rfl rfl (Nat.le_of_ble_eq_true rfl) ⟨Nat.zero_le _, Nat.zero_le _⟩ dX5_hasOpenChild_24 (fun H locs hZ b7 => ?_)
          refine lv_if_ne (tgt := 32) S.1 S.2.1 dX5_hasOpenChild_27 (by decide) (fun c8 => ?_) (fun c8 => ?_)
          · have E := cd_fE c8 E
            obtain ⟨x9, ex9, E⟩ := cd_nmE E
            refine lv_iinc (v := x9) (lv' := [(2, .int x9), (0, .ref (G.2.2.2.2 + q)), (1, .int a1)]) S.1 S.2.1 dX5_hasOpenChild_32 hl (k := 0) rfl (by rw [ex9]; rfl) (by decide) rfl (fun ls hl => ?_)
            refine lv_goto (tgt := 4) S.1 S.2.1 dX5_hasOpenChild_35 (by decide) ?_
            exact ih x9 o H locs ls E hZ (lv_sub hl [0, 1, 2] rfl) hin hex
          · have E := cd_tE c8 E
            refine lv_iconst (v := 1) S.1 S.2.1 dX5_hasOpenChild_30 (by decide) ?_
            cases E
            exact hret _ _ _ _ _ _ (by decide) (congrArg (fun z => (z, h)) (hin _ rfl)) hZ dX5_hasOpenChild_31
  unfold f_X5_hasOpenChild at E
  refine lv_iload_n S.1 S.2.1 dX5_hasOpenChild_0 rfl (lv_at hl 1 rfl) ?_
  refine lv_iconst (v := 1) S.1 S.2.1 dX5_hasOpenChild_1 (by decide) ?_
  refine lv_iadd S.1 S.2.1 dX5_hasOpenChild_2 ?_
  obtain ⟨x1, ex1, E⟩ := cd_nmE E
  refine cd_topi ex1 ?_
  refine lv_istore_n (lv' := [(2, .int x1), (0, .ref (G.2.2.2.2 + q)), (1, .int a1)]) S.1 S.2.1 dX5_hasOpenChild_3 rfl hl (by decide) rfl (fun ls hl => ?_)
  obtain ⟨o10, E1, EL, ER⟩ := cd_b2E E
  refine L4 cd_fu x1 o10 H locs ls E1 hZ (lv_sub hl [0, 1, 2] rfl) EL (fun st11 hst H locs ls hZ hl => ?_)
  have E := ER st11 hst
  refine lv_iconst (v := 0) S.1 S.2.1 dX5_hasOpenChild_38 (by decide) ?_
  exact hret _ _ _ _ _ _ (by decide) (congrArg (fun z => (z, h)) (Option.some.inj E)) hZ dX5_hasOpenChild_39
abbrev rm_X4_endTask : Room := { frames := 2, cells := 0, slots := 0, locals := 45 }
theorem cd_v_X4_endTask : cd_V yX4_endTask cX4_endTask 4 (some .int) 1 := ⟨cd_i_X4_endTask, cd_e_X4_X4_endTask, cd_n_X4, cd_c_X4_endTask, by decide +kernel⟩
set_option maxHeartbeats 4000000 in
set_option maxRecDepth 100000 in
theorem c_X4_endTask (l : Launch) (G : cd_G) (q : Nat) (a1 : Int32) (hq : cd_is 4 q) (h : cd_Hp) (out : (Int32 × cd_Hp)) (E : f_X4_endTask q a1 h = some out) : cd_Mi l G yX4_endTask (Cond.code yX4_endTask cX4_endTask 4 (some .int) :: cd_T) rm_X4_endTask [.ref (G.2.2.2.2 + q), .int a1] h out := by
  refine cd_ini (by decide) (Nat.le_of_ble_eq_true rfl) ?_
  intro p e s m args below meth c Q ls H locs S hK hZ hl hret
  have hl : lv_has ls 4 [(0, .ref (G.2.2.2.2 + q)), (1, .int a1)] := hl
  have L65 : ∀ (p65_2 : Int32), ∀ (n : Nat) (v65_3 : Int32) (h65_ : cd_Hp) (o : (Int32 × cd_Hp)) (H : Heap) (locs : List Loc) (ls : Array Slot), cd_lp (f_X4_endTask_B65 q a1 p65_2) n (v65_3, h65_) = some o → cd_Z G h65_ s.heap H locs → lv_has ls 4 [(3, .int v65_3), (2, .int p65_2), (0, .ref (G.2.2.2.2 + q)), (1, .int a1)] → (∀ (H : Heap) (locs : List Loc) (ls : Array Slot), cd_Z G o.2 s.heap H locs → lv_has ls 4 [(3, .int o.1), (2, .int p65_2), (0, .ref (G.2.2.2.2 + q)), (1, .int a1)] → W p l e rm_X4_endTask s m args below meth c H locs 0 0 Q (F0 m 90 ls [])) → W p l e rm_X4_endTask s m args below meth c H locs 0 0 Q (F0 m 65 ls []) := by
    intro p65_2
    intro n
    induction n with
    | zero => intro v65_3 h65_ o H locs ls E; exact nomatch (show (none : Option (Int32 × cd_Hp)) = some o from E)
    | succ n ih =>
      intro v65_3 h65_ o H locs ls E hZ hl hex
      have E : f_X4_endTask_B65 q a1 p65_2 (cd_lp (f_X4_endTask_B65 q a1 p65_2) n) (v65_3, h65_) = some o := E
      unfold f_X4_endTask_B65 at E
      dsimp only at E
      refine lv_iload_n S.1 S.2.1 dX4_endTask_65 rfl (lv_at hl 0 rfl) ?_
      refine lv_aload_n S.1 S.2.1 dX4_endTask_66 rfl (lv_at hl 2 rfl) ?_
      refine cd_get4 (v := .int (cd_g h65_ q 3)) S hK hZ hq 3 cd_f_X4_53 rfl dX4_endTask_67 ?_
      refine lv_icmp_ge (tgt := 90) S.1 S.2.1 dX4_endTask_70 (by decide) (fun c14 => ?_) (fun c14 => ?_)
      · have E := cd_tE c14 E
        cases E
        exact hex H locs ls hZ (lv_sub hl [0, 1, 2, 3] rfl)
      · have E := cd_fE c14 E
        refine lv_aload_n S.1 S.2.1 dX4_endTask_73 rfl (lv_at hl 2 rfl) ?_
        refine cd_get4 (v := .ref (G.2.2.2.2 + (q + 6))) S hK hZ hq 7 cd_f_X4_31 rfl dX4_endTask_74 ?_
        refine lv_iload_n S.1 S.2.1 dX4_endTask_77 rfl (lv_at hl 0 rfl) ?_
        obtain ⟨z15, E⟩ := cd_ckE E
        refine cd_aald9 S hK hZ (cd_r4_7 hq) z15 dX4_endTask_78 ?_
        refine lv_iload_n S.1 S.2.1 dX4_endTask_79 rfl (lv_at hl 3 rfl) ?_
        refine lv_iload_n S.1 S.2.1 dX4_endTask_80 rfl (lv_at hl 1 rfl) ?_
        obtain ⟨o16, E1, E⟩ := cd_bE E
        refine cd_cVv (As := [.int a1, .int p65_2]) S hK hZ hl.1 (c_X0_moveTo l G ((q + 6) + 8 + 7 * (v65_3.toNatClampNeg)) a1 p65_2 (cd_r9 (cd_r4_7 hq) z15) h65_ o16 E1) cd_v_X0_moveTo cd_m_X4_99 ⟨Nat.le_of_ble_eq_true rfl, Nat.le_of_ble_eq_true rfl⟩ ⟨rfl, rfl⟩ (ci := 0) (by decide) rfl (cd_r9 (cd_r4_7 hq) z15) rfl rfl (Nat.le_of_ble_eq_true rfl) ⟨Nat.zero_le _, Nat.zero_le _⟩ dX4_endTask_81 (fun H locs hZ => ?_)
        obtain ⟨x18, ex18, E⟩ := cd_nmE E
        refine lv_iinc (v := x18) (lv' := [(3, .int x18), (2, .int p65_2), (0, .ref (G.2.2.2.2 + q)), (1, .int a1)]) S.1 S.2.1 dX4_endTask_84 hl (k := 0) rfl (by rw [ex18]; rfl) (by decide) rfl (fun ls hl => ?_)
        refine lv_goto (tgt := 65) S.1 S.2.1 dX4_endTask_87 (by decide) ?_
        exact ih x18 o16 o H locs ls E hZ (lv_sub hl [0, 1, 2, 3] rfl) hex
  unfold f_X4_endTask at E
  refine lv_aload_n S.1 S.2.1 dX4_endTask_0 rfl (lv_at hl 0 rfl) ?_
  refine cd_get4 (v := .ref (G.2.2.2.2 + (q + 2))) S hK hZ hq 6 cd_f_X4_25 rfl dX4_endTask_1 ?_
  refine lv_iload_n S.1 S.2.1 dX4_endTask_4 rfl (lv_at hl 1 rfl) ?_
  refine cd_cVz (As := [.int a1]) S hK hZ hl.1 (c_X5_has l G (q + 2) a1 (cd_r4_6 hq) h _ rfl) cd_v_X5_has cd_m_X4_84 ⟨Nat.le_of_ble_eq_true rfl, Nat.le_of_ble_eq_true rfl⟩ ⟨rfl, rfl⟩ (ci := 5) (by decide) rfl (cd_r4_6 hq) rfl rfl (Nat.le_of_ble_eq_true rfl) ⟨Nat.zero_le _, Nat.zero_le _⟩ dX4_endTask_5 (fun H locs hZ b1 => ?_)
  refine lv_if_eq (tgt := 15) S.1 S.2.1 dX4_endTask_8 (by decide) (fun c2 => ?_) (fun c2 => ?_)
  · have E := cd_tE c2 E
    refine lv_bipush (v := (-2)) S.1 S.2.1 dX4_endTask_15 (by decide) ?_
    exact hret _ _ _ _ _ _ (Option.some.inj E) hZ dX4_endTask_17
  · have E := cd_fE c2 E
    refine lv_iload_n S.1 S.2.1 dX4_endTask_11 rfl (lv_at hl 1 rfl) ?_
    refine lv_if_ne (tgt := 18) S.1 S.2.1 dX4_endTask_12 (by decide) (fun c3 => ?_) (fun c3 => ?_)
    · have E := cd_fE c3 E
      refine lv_aload_n S.1 S.2.1 dX4_endTask_18 rfl (lv_at hl 0 rfl) ?_
      refine cd_get4 (v := .ref (G.2.2.2.2 + (q + 2))) S hK hZ hq 6 cd_f_X4_25 rfl dX4_endTask_19 ?_
      refine lv_iload_n S.1 S.2.1 dX4_endTask_22 rfl (lv_at hl 1 rfl) ?_
      obtain ⟨o4, E1, E⟩ := cd_bE E
      refine cd_cVz (As := [.int a1]) S hK hZ hl.1 (c_X5_hasEnded l G (q + 2) a1 (cd_r4_6 hq) h o4 E1) cd_v_X5_hasEnded cd_m_X4_87 ⟨Nat.le_of_ble_eq_true rfl, Nat.le_of_ble_eq_true rfl⟩ ⟨rfl, rfl⟩ (ci := 5) (by decide) rfl (cd_r4_6 hq) rfl rfl (Nat.le_of_ble_eq_true rfl) ⟨Nat.zero_le _, Nat.zero_le _⟩ dX4_endTask_23 (fun H locs hZ b5 => ?_)
      refine lv_if_ne (tgt := 40) S.1 S.2.1 dX4_endTask_26 (by decide) (fun c6 => ?_) (fun c6 => ?_)
      · have E := cd_fE c6 E
        refine lv_bipush (v := (-3)) S.1 S.2.1 dX4_endTask_40 (by decide) ?_
        exact hret _ _ _ _ _ _ (Option.some.inj E) hZ dX4_endTask_42
      · have E := cd_tE c6 E
        refine lv_aload_n S.1 S.2.1 dX4_endTask_29 rfl (lv_at hl 0 rfl) ?_
        refine cd_get4 (v := .ref (G.2.2.2.2 + (q + 2))) S hK hZ hq 6 cd_f_X4_25 rfl dX4_endTask_30 ?_
        refine lv_iload_n S.1 S.2.1 dX4_endTask_33 rfl (lv_at hl 1 rfl) ?_
        obtain ⟨o7, E1, E⟩ := cd_bE E
        refine cd_cVz (As := [.int a1]) S hK hZ hl.1 (c_X5_hasOpenChild l G (q + 2) a1 (cd_r4_6 hq) h o7 E1) cd_v_X5_hasOpenChild cd_m_X4_90 ⟨Nat.le_of_ble_eq_true rfl, Nat.le_of_ble_eq_true rfl⟩ ⟨rfl, rfl⟩ (ci := 5) (by decide) rfl (cd_r4_6 hq) rfl rfl (Nat.le_of_ble_eq_true rfl) ⟨Nat.zero_le _, Nat.zero_le _⟩ dX4_endTask_34 (fun H locs hZ b8 => ?_)
        refine lv_if_eq (tgt := 43) S.1 S.2.1 dX4_endTask_37 (by decide) (fun c9 => ?_) (fun c9 => ?_)
        · have E := cd_tE c9 E
          refine lv_aload_n S.1 S.2.1 dX4_endTask_43 rfl (lv_at hl 0 rfl) ?_
          refine cd_get4 (v := .ref (G.2.2.2.2 + (q + 2))) S hK hZ hq 6 cd_f_X4_25 rfl dX4_endTask_44 ?_
          refine cd_get5 (v := .ref (G.2.2.2.2 + ((q + 2) + 1))) S hK hZ (cd_r4_6 hq) 1 cd_f_X4_93 rfl dX4_endTask_47 ?_
          refine lv_iload_n S.1 S.2.1 dX4_endTask_50 rfl (lv_at hl 1 rfl) ?_
          obtain ⟨z10, E⟩ := cd_ckE E
          refine cd_iald S hK hZ (cd_r5_1 (cd_r4_6 hq)) z10 dX4_endTask_51 ?_
          obtain ⟨x11, ex11, E⟩ := cd_nmE E
          refine cd_topi ex11 ?_
          refine lv_istore_n (lv' := [(2, .int x11), (0, .ref (G.2.2.2.2 + q)), (1, .int a1)]) S.1 S.2.1 dX4_endTask_52 rfl hl (by decide) rfl (fun ls hl => ?_)
          refine lv_aload_n S.1 S.2.1 dX4_endTask_53 rfl (lv_at hl 1 rfl) ?_
          refine cd_get4 (v := .ref (G.2.2.2.2 + (q + 2))) S hK hZ hq 6 cd_f_X4_25 rfl dX4_endTask_54 ?_
          refine cd_get5 (v := .ref (G.2.2.2.2 + ((q + 2) + 2))) S hK hZ (cd_r4_6 hq) 2 cd_f_X4_96 rfl dX4_endTask_57 ?_
          refine lv_iload_n S.1 S.2.1 dX4_endTask_60 rfl (lv_at hl 2 rfl) ?_
          refine lv_iconst (v := 1) S.1 S.2.1 dX4_endTask_61 (by decide) ?_
          obtain ⟨z12, E⟩ := cd_ckE E
          obtain ⟨h13, eh13, E⟩ := cd_nmE E
          refine cd_iast S hK hZ (cd_r5_2 (cd_r4_6 hq)) z12 eh13 dX4_endTask_62 (fun H locs hZ => ?_)
          refine lv_iconst (v := 0) S.1 S.2.1 dX4_endTask_63 (by decide) ?_
          refine lv_istore_n (lv' := [(3, .int 0), (2, .int x11), (0, .ref (G.2.2.2.2 + q)), (1, .int a1)]) S.1 S.2.1 dX4_endTask_64 rfl hl (by decide) rfl (fun ls hl => ?_)
          obtain ⟨o19, E1, E⟩ := cd_bE E
          refine L65 x11 cd_fu 0 h13 o19 H locs ls E1 hZ (lv_sub hl [0, 1, 2, 3] rfl) (fun H locs ls hZ hl => ?_)
          refine lv_iload_n S.1 S.2.1 dX4_endTask_90 rfl (lv_at hl 1 rfl) ?_
          exact hret _ _ _ _ _ _ (Option.some.inj E) hZ dX4_endTask_91
        · have E := cd_fE c9 E
          refine lv_bipush (v := (-3)) S.1 S.2.1 dX4_endTask_40 (by decide) ?_
          exact hret _ _ _ _ _ _ (Option.some.inj E) hZ dX4_endTask_42
    · have E := cd_tE c3 E
      refine lv_bipush (v := (-2)) S.1 S.2.1 dX4_endTask_15 (by decide) ?_
      exact hret _ _ _ _ _ _ (Option.some.inj E) hZ dX4_endTask_17
abbrev rm_X4_addGroup : Room := { frames := 2, cells := 0, slots := 0, locals := 43 }
theorem cd_v_X4_addGroup : cd_V yX4_addGroup cX4_addGroup 7 (some .int) 5 := ⟨cd_i_X4_addGroup, cd_e_X4_X4_addGroup, cd_n_X4, cd_c_X4_addGroup, by decide +kernel⟩
set_option maxHeartbeats 4000000 in
set_option maxRecDepth 100000 in
theorem c_X4_addGroup (l : Launch) (G : cd_G) (q : Nat) (a1 : Int32) (a2 : Int32) (a3 : Int32) (a4 : Int32) (a5 : Int32) (hq : cd_is 4 q) (h : cd_Hp) (out : (Int32 × cd_Hp)) (E : f_X4_addGroup q a1 a2 a3 a4 a5 h = some out) : cd_Mi l G yX4_addGroup (Cond.code yX4_addGroup cX4_addGroup 7 (some .int) :: cd_T) rm_X4_addGroup [.ref (G.2.2.2.2 + q), .int a1, .int a2, .int a3, .int a4, .int a5] h out := by
  refine cd_ini (by decide) (Nat.le_of_ble_eq_true rfl) ?_
  intro p e s m args below meth c Q ls H locs S hK hZ hl hret
  have hl : lv_has ls 7 [(0, .ref (G.2.2.2.2 + q)), (1, .int a1), (2, .int a2), (3, .int a3), (4, .int a4), (5, .int a5)] := hl
  unfold f_X4_addGroup at E
  refine lv_aload_n S.1 S.2.1 dX4_addGroup_0 rfl (lv_at hl 0 rfl) ?_
  refine cd_get4 (v := .ref (G.2.2.2.2 + (q + 2))) S hK hZ hq 6 cd_f_X4_25 rfl dX4_addGroup_1 ?_
  refine lv_iload_n S.1 S.2.1 dX4_addGroup_4 rfl (lv_at hl 1 rfl) ?_
  refine cd_cVz (As := [.int a1]) S hK hZ hl.1 (c_X5_has l G (q + 2) a1 (cd_r4_6 hq) h _ rfl) cd_v_X5_has cd_m_X4_84 ⟨Nat.le_of_ble_eq_true rfl, Nat.le_of_ble_eq_true rfl⟩ ⟨rfl, rfl⟩ (ci := 5) (by decide) rfl (cd_r4_6 hq) rfl rfl (Nat.le_of_ble_eq_true rfl) ⟨Nat.zero_le _, Nat.zero_le _⟩ dX4_addGroup_5 (fun H locs hZ b1 => ?_)
  refine lv_if_eq (tgt := 50) S.1 S.2.1 dX4_addGroup_8 (by decide) (fun c2 => ?_) (fun c2 => ?_)
  · have E := cd_tE c2 E
    refine lv_bipush (v := (-2)) S.1 S.2.1 dX4_addGroup_50 (by decide) ?_
    exact hret _ _ _ _ _ _ (Option.some.inj E) hZ dX4_addGroup_52
  · have E := cd_fE c2 E
    refine lv_iload_n S.1 S.2.1 dX4_addGroup_11 rfl (lv_at hl 2 rfl) ?_
    refine lv_iconst (v := 1) S.1 S.2.1 dX4_addGroup_12 (by decide) ?_
    refine lv_iconst (v := 5) S.1 S.2.1 dX4_addGroup_13 (by decide) ?_
    refine cd_cNz (As := [.int a2, .int 1, .int 5]) S hK hZ hl.1 (c_X7_isWithin l G a2 1 5 h _ rfl) cd_v_X7_isWithin (cd_nX4_73 hK.2) ⟨Nat.le_of_ble_eq_true rfl, Nat.le_of_ble_eq_true rfl⟩ ⟨rfl, rfl⟩ rfl rfl (Nat.le_of_ble_eq_true rfl) ⟨Nat.zero_le _, Nat.zero_le _⟩ dX4_addGroup_14 (fun H locs hZ b3 => ?_)
    refine lv_if_eq (tgt := 50) S.1 S.2.1 dX4_addGroup_17 (by decide) (fun c4 => ?_) (fun c4 => ?_)
    · have E := cd_tE c4 E
      refine lv_bipush (v := (-2)) S.1 S.2.1 dX4_addGroup_50 (by decide) ?_
      exact hret _ _ _ _ _ _ (Option.some.inj E) hZ dX4_addGroup_52
    · have E := cd_fE c4 E
      refine lv_iload_n S.1 S.2.1 dX4_addGroup_20 rfl (lv_at hl 3 rfl) ?_
      refine lv_iconst (v := 0) S.1 S.2.1 dX4_addGroup_21 (by decide) ?_
      refine lv_iconst (v := 1) S.1 S.2.1 dX4_addGroup_22 (by decide) ?_
      refine cd_cNz (As := [.int a3, .int 0, .int 1]) S hK hZ hl.1 (c_X7_isWithin l G a3 0 1 h _ rfl) cd_v_X7_isWithin (cd_nX4_73 hK.2) ⟨Nat.le_of_ble_eq_true rfl, Nat.le_of_ble_eq_true rfl⟩ ⟨rfl, rfl⟩ rfl rfl (Nat.le_of_ble_eq_true rfl) ⟨Nat.zero_le _, Nat.zero_le _⟩ dX4_addGroup_23 (fun H locs hZ b5 => ?_)
      refine lv_if_eq (tgt := 50) S.1 S.2.1 dX4_addGroup_26 (by decide) (fun c6 => ?_) (fun c6 => ?_)
      · have E := cd_tE c6 E
        refine lv_bipush (v := (-2)) S.1 S.2.1 dX4_addGroup_50 (by decide) ?_
        exact hret _ _ _ _ _ _ (Option.some.inj E) hZ dX4_addGroup_52
      · have E := cd_fE c6 E
        refine lv_iload S.1 S.2.1 dX4_addGroup_29 (lv_at hl 4 rfl) ?_
        refine lv_iconst (v := 0) S.1 S.2.1 dX4_addGroup_31 (by decide) ?_
        refine lv_iconst (v := 1) S.1 S.2.1 dX4_addGroup_32 (by decide) ?_
        refine cd_cNz (As := [.int a4, .int 0, .int 1]) S hK hZ hl.1 (c_X7_isWithin l G a4 0 1 h _ rfl) cd_v_X7_isWithin (cd_nX4_73 hK.2) ⟨Nat.le_of_ble_eq_true rfl, Nat.le_of_ble_eq_true rfl⟩ ⟨rfl, rfl⟩ rfl rfl (Nat.le_of_ble_eq_true rfl) ⟨Nat.zero_le _, Nat.zero_le _⟩ dX4_addGroup_33 (fun H locs hZ b7 => ?_)
        refine lv_if_eq (tgt := 50) S.1 S.2.1 dX4_addGroup_36 (by decide) (fun c8 => ?_) (fun c8 => ?_)
        · have E := cd_tE c8 E
          refine lv_bipush (v := (-2)) S.1 S.2.1 dX4_addGroup_50 (by decide) ?_
          exact hret _ _ _ _ _ _ (Option.some.inj E) hZ dX4_addGroup_52
        · have E := cd_fE c8 E
          refine lv_iload S.1 S.2.1 dX4_addGroup_39 (lv_at hl 5 rfl) ?_
          refine lv_iconst (v := 0) S.1 S.2.1 dX4_addGroup_41 (by decide) ?_
          refine lv_bipush (v := 7) S.1 S.2.1 dX4_addGroup_42 (by decide) ?_
          refine cd_cNz (As := [.int a5, .int 0, .int 7]) S hK hZ hl.1 (c_X7_isWithin l G a5 0 7 h _ rfl) cd_v_X7_isWithin (cd_nX4_73 hK.2) ⟨Nat.le_of_ble_eq_true rfl, Nat.le_of_ble_eq_true rfl⟩ ⟨rfl, rfl⟩ rfl rfl (Nat.le_of_ble_eq_true rfl) ⟨Nat.zero_le _, Nat.zero_le _⟩ dX4_addGroup_44 (fun H locs hZ b9 => ?_)
          refine lv_if_ne (tgt := 53) S.1 S.2.1 dX4_addGroup_47 (by decide) (fun c10 => ?_) (fun c10 => ?_)
          · have E := cd_fE c10 E
            refine lv_aload_n S.1 S.2.1 dX4_addGroup_53 rfl (lv_at hl 0 rfl) ?_
            refine cd_get4 (v := .int (cd_g h q 3)) S hK hZ hq 3 cd_f_X4_53 rfl dX4_addGroup_54 ?_
            refine lv_bipush (v := 6) S.1 S.2.1 dX4_addGroup_57 (by decide) ?_
            refine lv_icmp_lt (tgt := 65) S.1 S.2.1 dX4_addGroup_59 (by decide) (fun c11 => ?_) (fun c11 => ?_)
            · have E := cd_tE c11 E
              refine lv_aload_n S.1 S.2.1 dX4_addGroup_65 rfl (lv_at hl 0 rfl) ?_
              refine cd_get4 (v := .int (cd_g h q 3)) S hK hZ hq 3 cd_f_X4_53 rfl dX4_addGroup_66 ?_
              obtain ⟨x12, ex12, E⟩ := cd_nmE E
              refine cd_topi ex12 ?_
              refine lv_istore (lv' := [(6, .int x12), (0, .ref (G.2.2.2.2 + q)), (1, .int a1), (2, .int a2), (3, .int a3), (4, .int a4), (5, .int a5)]) S.1 S.2.1 dX4_addGroup_69 hl (by decide) rfl (fun ls hl => ?_)
              refine lv_aload_n S.1 S.2.1 dX4_addGroup_71 rfl (lv_at hl 1 rfl) ?_
              refine lv_dup S.1 S.2.1 dX4_addGroup_72 rfl ?_
              refine cd_get4 (v := .int (cd_g h q 3)) S hK hZ hq 3 cd_f_X4_53 rfl dX4_addGroup_73 ?_
              refine lv_iconst (v := 1) S.1 S.2.1 dX4_addGroup_76 (by decide) ?_
              refine lv_iadd S.1 S.2.1 dX4_addGroup_77 ?_
              obtain ⟨h13, eh13, E⟩ := cd_nmE E
              refine cd_put4_3 S hK hZ hq cd_f_X4_53 eh13 dX4_addGroup_78 (fun H locs hZ => ?_)
              refine lv_aload_n S.1 S.2.1 dX4_addGroup_81 rfl (lv_at hl 1 rfl) ?_
              refine cd_get4 (v := .ref (G.2.2.2.2 + (q + 6))) S hK hZ hq 7 cd_f_X4_31 rfl dX4_addGroup_82 ?_
              refine lv_iload S.1 S.2.1 dX4_addGroup_85 (lv_at hl 0 rfl) ?_
              obtain ⟨z14, E⟩ := cd_ckE E
              refine cd_aald9 S hK hZ (cd_r4_7 hq) z14 dX4_addGroup_87 ?_
              refine lv_iload_n S.1 S.2.1 dX4_addGroup_88 rfl (lv_at hl 2 rfl) ?_
              refine lv_iload_n S.1 S.2.1 dX4_addGroup_89 rfl (lv_at hl 3 rfl) ?_
              refine lv_iload_n S.1 S.2.1 dX4_addGroup_90 rfl (lv_at hl 4 rfl) ?_
              refine lv_iconst (v := 1) S.1 S.2.1 dX4_addGroup_91 (by decide) ?_
              refine lv_icmp_ne (tgt := 99) S.1 S.2.1 dX4_addGroup_92 (by decide) (fun c15 => ?_) (fun c15 => ?_)
              · have E := cd_fE c15 E
                refine lv_iconst (v := 0) S.1 S.2.1 dX4_addGroup_99 (by decide) ?_
                refine lv_iload S.1 S.2.1 dX4_addGroup_100 (lv_at hl 5 rfl) ?_
                refine lv_iconst (v := 1) S.1 S.2.1 dX4_addGroup_102 (by decide) ?_
                refine lv_icmp_ne (tgt := 110) S.1 S.2.1 dX4_addGroup_103 (by decide) (fun c16 => ?_) (fun c16 => ?_)
                · have E := cd_fE c16 E
                  refine lv_iconst (v := 0) S.1 S.2.1 dX4_addGroup_110 (by decide) ?_
                  obtain ⟨o17, E1, E⟩ := cd_bE E
                  refine cd_cVv (As := [.int a1, .int a2, .int 0, .int 0]) S hK hZ hl.1 (c_X0_begin l G ((q + 6) + 8 + 7 * (x12.toNatClampNeg)) a1 a2 0 0 (cd_r9 (cd_r4_7 hq) z14) h13 o17 E1) cd_v_X0_begin cd_m_X4_103 ⟨Nat.le_of_ble_eq_true rfl, Nat.le_of_ble_eq_true rfl⟩ ⟨rfl, rfl⟩ (ci := 0) (by decide) rfl (cd_r9 (cd_r4_7 hq) z14) rfl rfl (Nat.le_of_ble_eq_true rfl) ⟨Nat.zero_le _, Nat.zero_le _⟩ dX4_addGroup_111 (fun H locs hZ => ?_)
                  refine lv_aload_n S.1 S.2.1 dX4_addGroup_114 rfl (lv_at hl 1 rfl) ?_
                  refine cd_get4 (v := .ref (G.2.2.2.2 + (q + 6))) S hK hZ hq 7 cd_f_X4_31 rfl dX4_addGroup_115 ?_
                  refine lv_iload S.1 S.2.1 dX4_addGroup_118 (lv_at hl 0 rfl) ?_
                  obtain ⟨z19, E⟩ := cd_ckE E
                  refine cd_aald9 S hK hZ (cd_r4_7 hq) z19 dX4_addGroup_120 ?_
                  refine lv_iload S.1 S.2.1 dX4_addGroup_121 (lv_at hl 6 rfl) ?_
                  obtain ⟨o20, E1, E⟩ := cd_bE E
                  refine cd_cVi (As := [.int a5]) S hK hZ hl.1 (c_X0_append l G ((q + 6) + 8 + 7 * (x12.toNatClampNeg)) a5 (cd_r9 (cd_r4_7 hq) z19) o17 o20 E1) cd_v_X0_append cd_m_X4_107 ⟨Nat.le_of_ble_eq_true rfl, Nat.le_of_ble_eq_true rfl⟩ ⟨rfl, rfl⟩ (ci := 0) (by decide) rfl (cd_r9 (cd_r4_7 hq) z19) rfl rfl (Nat.le_of_ble_eq_true rfl) ⟨Nat.zero_le _, Nat.zero_le _⟩ dX4_addGroup_123 (fun H locs hZ => ?_)
                  refine lv_pop S.1 S.2.1 dX4_addGroup_126 rfl ?_
                  refine lv_iload_n S.1 S.2.1 dX4_addGroup_127 rfl (lv_at hl 4 rfl) ?_
                  refine lv_if_ne (tgt := 161) S.1 S.2.1 dX4_addGroup_128 (by decide) (fun c22 => ?_) (fun c22 => ?_)
                  · have E := cd_fE c22 E
                    refine lv_iload S.1 S.2.1 dX4_addGroup_161 (lv_at hl 0 rfl) ?_
                    exact hret _ _ _ _ _ _ (Option.some.inj E) hZ dX4_addGroup_163
                  · have E := cd_tE c22 E
                    refine lv_aload_n S.1 S.2.1 dX4_addGroup_131 rfl (lv_at hl 1 rfl) ?_
                    refine cd_get4 (v := .int (cd_g o20.2 q 4)) S hK hZ hq 4 cd_f_X4_56 rfl dX4_addGroup_132 ?_
                    refine lv_bipush (v := 6) S.1 S.2.1 dX4_addGroup_135 (by decide) ?_
                    refine lv_icmp_ge (tgt := 161) S.1 S.2.1 dX4_addGroup_137 (by decide) (fun c23 => ?_) (fun c23 => ?_)
                    · have E := cd_tE c23 E
                      refine lv_iload S.1 S.2.1 dX4_addGroup_161 (lv_at hl 0 rfl) ?_
                      exact hret _ _ _ _ _ _ (Option.some.inj E) hZ dX4_addGroup_163
                    · have E := cd_fE c23 E
                      refine lv_aload_n S.1 S.2.1 dX4_addGroup_140 rfl (lv_at hl 1 rfl) ?_
                      refine cd_get4 (v := .ref (G.2.2.2.2 + (q + 7))) S hK hZ hq 8 cd_f_X4_35 rfl dX4_addGroup_141 ?_
                      refine lv_aload_n S.1 S.2.1 dX4_addGroup_144 rfl (lv_at hl 1 rfl) ?_
                      refine cd_get4 (v := .int (cd_g o20.2 q 4)) S hK hZ hq 4 cd_f_X4_56 rfl dX4_addGroup_145 ?_
                      refine lv_iload S.1 S.2.1 dX4_addGroup_148 (lv_at hl 0 rfl) ?_
                      obtain ⟨z24, E⟩ := cd_ckE E
                      obtain ⟨h25, eh25, E⟩ := cd_nmE E
                      refine cd_iast S hK hZ (cd_r4_8 hq) z24 eh25 dX4_addGroup_150 (fun H locs hZ => ?_)
                      refine lv_aload_n S.1 S.2.1 dX4_addGroup_151 rfl (lv_at hl 1 rfl) ?_
                      refine lv_dup S.1 S.2.1 dX4_addGroup_152 rfl ?_
                      refine cd_get4 (v := .int (cd_g h25 q 4)) S hK hZ hq 4 cd_f_X4_56 rfl dX4_addGroup_153 ?_
                      refine lv_iconst (v := 1) S.1 S.2.1 dX4_addGroup_156 (by decide) ?_
                      refine lv_iadd S.1 S.2.1 dX4_addGroup_157 ?_
                      obtain ⟨h26, eh26, E⟩ := cd_nmE E
                      refine cd_put4_4 S hK hZ hq cd_f_X4_56 eh26 dX4_addGroup_158 (fun H locs hZ => ?_)
                      refine lv_iload S.1 S.2.1 dX4_addGroup_161 (lv_at hl 0 rfl) ?_
                      exact hret _ _ _ _ _ _ (Option.some.inj E) hZ dX4_addGroup_163
                · have E := cd_tE c16 E
                  refine lv_iconst (v := 1) S.1 S.2.1 dX4_addGroup_106 (by decide) ?_
                  refine lv_goto (tgt := 111) S.1 S.2.1 dX4_addGroup_107 (by decide) ?_
                  obtain ⟨o27, E1, E⟩ := cd_bE E
                  refine cd_cVv (As := [.int a1, .int a2, .int 0, .int 1]) S hK hZ hl.1 (c_X0_begin l G ((q + 6) + 8 + 7 * (x12.toNatClampNeg)) a1 a2 0 1 (cd_r9 (cd_r4_7 hq) z14) h13 o27 E1) cd_v_X0_begin cd_m_X4_103 ⟨Nat.le_of_ble_eq_true rfl, Nat.le_of_ble_eq_true rfl⟩ ⟨rfl, rfl⟩ (ci := 0) (by decide) rfl (cd_r9 (cd_r4_7 hq) z14) rfl rfl (Nat.le_of_ble_eq_true rfl) ⟨Nat.zero_le _, Nat.zero_le _⟩ dX4_addGroup_111 (fun H locs hZ => ?_)
                  refine lv_aload_n S.1 S.2.1 dX4_addGroup_114 rfl (lv_at hl 1 rfl) ?_
                  refine cd_get4 (v := .ref (G.2.2.2.2 + (q + 6))) S hK hZ hq 7 cd_f_X4_31 rfl dX4_addGroup_115 ?_
                  refine lv_iload S.1 S.2.1 dX4_addGroup_118 (lv_at hl 0 rfl) ?_
                  obtain ⟨z29, E⟩ := cd_ckE E
                  refine cd_aald9 S hK hZ (cd_r4_7 hq) z29 dX4_addGroup_120 ?_
                  refine lv_iload S.1 S.2.1 dX4_addGroup_121 (lv_at hl 6 rfl) ?_
                  obtain ⟨o30, E1, E⟩ := cd_bE E
                  refine cd_cVi (As := [.int a5]) S hK hZ hl.1 (c_X0_append l G ((q + 6) + 8 + 7 * (x12.toNatClampNeg)) a5 (cd_r9 (cd_r4_7 hq) z29) o27 o30 E1) cd_v_X0_append cd_m_X4_107 ⟨Nat.le_of_ble_eq_true rfl, Nat.le_of_ble_eq_true rfl⟩ ⟨rfl, rfl⟩ (ci := 0) (by decide) rfl (cd_r9 (cd_r4_7 hq) z29) rfl rfl (Nat.le_of_ble_eq_true rfl) ⟨Nat.zero_le _, Nat.zero_le _⟩ dX4_addGroup_123 (fun H locs hZ => ?_)
                  refine lv_pop S.1 S.2.1 dX4_addGroup_126 rfl ?_
                  refine lv_iload_n S.1 S.2.1 dX4_addGroup_127 rfl (lv_at hl 4 rfl) ?_
                  refine lv_if_ne (tgt := 161) S.1 S.2.1 dX4_addGroup_128 (by decide) (fun c32 => ?_) (fun c32 => ?_)
                  · have E := cd_fE c32 E
                    refine lv_iload S.1 S.2.1 dX4_addGroup_161 (lv_at hl 0 rfl) ?_
                    exact hret _ _ _ _ _ _ (Option.some.inj E) hZ dX4_addGroup_163
                  · have E := cd_tE c32 E
                    refine lv_aload_n S.1 S.2.1 dX4_addGroup_131 rfl (lv_at hl 1 rfl) ?_
                    refine cd_get4 (v := .int (cd_g o30.2 q 4)) S hK hZ hq 4 cd_f_X4_56 rfl dX4_addGroup_132 ?_
                    refine lv_bipush (v := 6) S.1 S.2.1 dX4_addGroup_135 (by decide) ?_
                    refine lv_icmp_ge (tgt := 161) S.1 S.2.1 dX4_addGroup_137 (by decide) (fun c33 => ?_) (fun c33 => ?_)
                    · have E := cd_tE c33 E
                      refine lv_iload S.1 S.2.1 dX4_addGroup_161 (lv_at hl 0 rfl) ?_
                      exact hret _ _ _ _ _ _ (Option.some.inj E) hZ dX4_addGroup_163
                    · have E := cd_fE c33 E
                      refine lv_aload_n S.1 S.2.1 dX4_addGroup_140 rfl (lv_at hl 1 rfl) ?_
                      refine cd_get4 (v := .ref (G.2.2.2.2 + (q + 7))) S hK hZ hq 8 cd_f_X4_35 rfl dX4_addGroup_141 ?_
                      refine lv_aload_n S.1 S.2.1 dX4_addGroup_144 rfl (lv_at hl 1 rfl) ?_
                      refine cd_get4 (v := .int (cd_g o30.2 q 4)) S hK hZ hq 4 cd_f_X4_56 rfl dX4_addGroup_145 ?_
                      refine lv_iload S.1 S.2.1 dX4_addGroup_148 (lv_at hl 0 rfl) ?_
                      obtain ⟨z34, E⟩ := cd_ckE E
                      obtain ⟨h35, eh35, E⟩ := cd_nmE E
                      refine cd_iast S hK hZ (cd_r4_8 hq) z34 eh35 dX4_addGroup_150 (fun H locs hZ => ?_)
                      refine lv_aload_n S.1 S.2.1 dX4_addGroup_151 rfl (lv_at hl 1 rfl) ?_
                      refine lv_dup S.1 S.2.1 dX4_addGroup_152 rfl ?_
                      refine cd_get4 (v := .int (cd_g h35 q 4)) S hK hZ hq 4 cd_f_X4_56 rfl dX4_addGroup_153 ?_
                      refine lv_iconst (v := 1) S.1 S.2.1 dX4_addGroup_156 (by decide) ?_
                      refine lv_iadd S.1 S.2.1 dX4_addGroup_157 ?_
                      obtain ⟨h36, eh36, E⟩ := cd_nmE E
                      refine cd_put4_4 S hK hZ hq cd_f_X4_56 eh36 dX4_addGroup_158 (fun H locs hZ => ?_)
                      refine lv_iload S.1 S.2.1 dX4_addGroup_161 (lv_at hl 0 rfl) ?_
                      exact hret _ _ _ _ _ _ (Option.some.inj E) hZ dX4_addGroup_163
              · have E := cd_tE c15 E
                refine lv_iconst (v := 1) S.1 S.2.1 dX4_addGroup_95 (by decide) ?_
                refine lv_goto (tgt := 100) S.1 S.2.1 dX4_addGroup_96 (by decide) ?_
                refine lv_iload S.1 S.2.1 dX4_addGroup_100 (lv_at hl 5 rfl) ?_
                refine lv_iconst (v := 1) S.1 S.2.1 dX4_addGroup_102 (by decide) ?_
                refine lv_icmp_ne (tgt := 110) S.1 S.2.1 dX4_addGroup_103 (by decide) (fun c37 => ?_) (fun c37 => ?_)
                · have E := cd_fE c37 E
                  refine lv_iconst (v := 0) S.1 S.2.1 dX4_addGroup_110 (by decide) ?_
                  obtain ⟨o38, E1, E⟩ := cd_bE E
                  refine cd_cVv (As := [.int a1, .int a2, .int 1, .int 0]) S hK hZ hl.1 (c_X0_begin l G ((q + 6) + 8 + 7 * (x12.toNatClampNeg)) a1 a2 1 0 (cd_r9 (cd_r4_7 hq) z14) h13 o38 E1) cd_v_X0_begin cd_m_X4_103 ⟨Nat.le_of_ble_eq_true rfl, Nat.le_of_ble_eq_true rfl⟩ ⟨rfl, rfl⟩ (ci := 0) (by decide) rfl (cd_r9 (cd_r4_7 hq) z14) rfl rfl (Nat.le_of_ble_eq_true rfl) ⟨Nat.zero_le _, Nat.zero_le _⟩ dX4_addGroup_111 (fun H locs hZ => ?_)
                  refine lv_aload_n S.1 S.2.1 dX4_addGroup_114 rfl (lv_at hl 1 rfl) ?_
                  refine cd_get4 (v := .ref (G.2.2.2.2 + (q + 6))) S hK hZ hq 7 cd_f_X4_31 rfl dX4_addGroup_115 ?_
                  refine lv_iload S.1 S.2.1 dX4_addGroup_118 (lv_at hl 0 rfl) ?_
                  obtain ⟨z40, E⟩ := cd_ckE E
                  refine cd_aald9 S hK hZ (cd_r4_7 hq) z40 dX4_addGroup_120 ?_
                  refine lv_iload S.1 S.2.1 dX4_addGroup_121 (lv_at hl 6 rfl) ?_
                  obtain ⟨o41, E1, E⟩ := cd_bE E
                  refine cd_cVi (As := [.int a5]) S hK hZ hl.1 (c_X0_append l G ((q + 6) + 8 + 7 * (x12.toNatClampNeg)) a5 (cd_r9 (cd_r4_7 hq) z40) o38 o41 E1) cd_v_X0_append cd_m_X4_107 ⟨Nat.le_of_ble_eq_true rfl, Nat.le_of_ble_eq_true rfl⟩ ⟨rfl, rfl⟩ (ci := 0) (by decide) rfl (cd_r9 (cd_r4_7 hq) z40) rfl rfl (Nat.le_of_ble_eq_true rfl) ⟨Nat.zero_le _, Nat.zero_le _⟩ dX4_addGroup_123 (fun H locs hZ => ?_)
                  refine lv_pop S.1 S.2.1 dX4_addGroup_126 rfl ?_
                  refine lv_iload_n S.1 S.2.1 dX4_addGroup_127 rfl (lv_at hl 4 rfl) ?_
                  refine lv_if_ne (tgt := 161) S.1 S.2.1 dX4_addGroup_128 (by decide) (fun c43 => ?_) (fun c43 => ?_)
                  · have E := cd_fE c43 E
                    refine lv_iload S.1 S.2.1 dX4_addGroup_161 (lv_at hl 0 rfl) ?_
                    exact hret _ _ _ _ _ _ (Option.some.inj E) hZ dX4_addGroup_163
                  · have E := cd_tE c43 E
                    refine lv_aload_n S.1 S.2.1 dX4_addGroup_131 rfl (lv_at hl 1 rfl) ?_
                    refine cd_get4 (v := .int (cd_g o41.2 q 4)) S hK hZ hq 4 cd_f_X4_56 rfl dX4_addGroup_132 ?_
                    refine lv_bipush (v := 6) S.1 S.2.1 dX4_addGroup_135 (by decide) ?_
                    refine lv_icmp_ge (tgt := 161) S.1 S.2.1 dX4_addGroup_137 (by decide) (fun c44 => ?_) (fun c44 => ?_)
                    · have E := cd_tE c44 E
                      refine lv_iload S.1 S.2.1 dX4_addGroup_161 (lv_at hl 0 rfl) ?_
                      exact hret _ _ _ _ _ _ (Option.some.inj E) hZ dX4_addGroup_163
                    · have E := cd_fE c44 E
                      refine lv_aload_n S.1 S.2.1 dX4_addGroup_140 rfl (lv_at hl 1 rfl) ?_
                      refine cd_get4 (v := .ref (G.2.2.2.2 + (q + 7))) S hK hZ hq 8 cd_f_X4_35 rfl dX4_addGroup_141 ?_
                      refine lv_aload_n S.1 S.2.1 dX4_addGroup_144 rfl (lv_at hl 1 rfl) ?_
                      refine cd_get4 (v := .int (cd_g o41.2 q 4)) S hK hZ hq 4 cd_f_X4_56 rfl dX4_addGroup_145 ?_
                      refine lv_iload S.1 S.2.1 dX4_addGroup_148 (lv_at hl 0 rfl) ?_
                      obtain ⟨z45, E⟩ := cd_ckE E
                      obtain ⟨h46, eh46, E⟩ := cd_nmE E
                      refine cd_iast S hK hZ (cd_r4_8 hq) z45 eh46 dX4_addGroup_150 (fun H locs hZ => ?_)
                      refine lv_aload_n S.1 S.2.1 dX4_addGroup_151 rfl (lv_at hl 1 rfl) ?_
                      refine lv_dup S.1 S.2.1 dX4_addGroup_152 rfl ?_
                      refine cd_get4 (v := .int (cd_g h46 q 4)) S hK hZ hq 4 cd_f_X4_56 rfl dX4_addGroup_153 ?_
                      refine lv_iconst (v := 1) S.1 S.2.1 dX4_addGroup_156 (by decide) ?_
                      refine lv_iadd S.1 S.2.1 dX4_addGroup_157 ?_
                      obtain ⟨h47, eh47, E⟩ := cd_nmE E
                      refine cd_put4_4 S hK hZ hq cd_f_X4_56 eh47 dX4_addGroup_158 (fun H locs hZ => ?_)
                      refine lv_iload S.1 S.2.1 dX4_addGroup_161 (lv_at hl 0 rfl) ?_
                      exact hret _ _ _ _ _ _ (Option.some.inj E) hZ dX4_addGroup_163
                · have E := cd_tE c37 E
                  refine lv_iconst (v := 1) S.1 S.2.1 dX4_addGroup_106 (by decide) ?_
                  refine lv_goto (tgt := 111) S.1 S.2.1 dX4_addGroup_107 (by decide) ?_
                  obtain ⟨o48, E1, E⟩ := cd_bE E
                  refine cd_cVv (As := [.int a1, .int a2, .int 1, .int 1]) S hK hZ hl.1 (c_X0_begin l G ((q + 6) + 8 + 7 * (x12.toNatClampNeg)) a1 a2 1 1 (cd_r9 (cd_r4_7 hq) z14) h13 o48 E1) cd_v_X0_begin cd_m_X4_103 ⟨Nat.le_of_ble_eq_true rfl, Nat.le_of_ble_eq_true rfl⟩ ⟨rfl, rfl⟩ (ci := 0) (by decide) rfl (cd_r9 (cd_r4_7 hq) z14) rfl rfl (Nat.le_of_ble_eq_true rfl) ⟨Nat.zero_le _, Nat.zero_le _⟩ dX4_addGroup_111 (fun H locs hZ => ?_)
                  refine lv_aload_n S.1 S.2.1 dX4_addGroup_114 rfl (lv_at hl 1 rfl) ?_
                  refine cd_get4 (v := .ref (G.2.2.2.2 + (q + 6))) S hK hZ hq 7 cd_f_X4_31 rfl dX4_addGroup_115 ?_
                  refine lv_iload S.1 S.2.1 dX4_addGroup_118 (lv_at hl 0 rfl) ?_
                  obtain ⟨z50, E⟩ := cd_ckE E
                  refine cd_aald9 S hK hZ (cd_r4_7 hq) z50 dX4_addGroup_120 ?_
                  refine lv_iload S.1 S.2.1 dX4_addGroup_121 (lv_at hl 6 rfl) ?_
                  obtain ⟨o51, E1, E⟩ := cd_bE E
                  refine cd_cVi (As := [.int a5]) S hK hZ hl.1 (c_X0_append l G ((q + 6) + 8 + 7 * (x12.toNatClampNeg)) a5 (cd_r9 (cd_r4_7 hq) z50) o48 o51 E1) cd_v_X0_append cd_m_X4_107 ⟨Nat.le_of_ble_eq_true rfl, Nat.le_of_ble_eq_true rfl⟩ ⟨rfl, rfl⟩ (ci := 0) (by decide) rfl (cd_r9 (cd_r4_7 hq) z50) rfl rfl (Nat.le_of_ble_eq_true rfl) ⟨Nat.zero_le _, Nat.zero_le _⟩ dX4_addGroup_123 (fun H locs hZ => ?_)
                  refine lv_pop S.1 S.2.1 dX4_addGroup_126 rfl ?_
                  refine lv_iload_n S.1 S.2.1 dX4_addGroup_127 rfl (lv_at hl 4 rfl) ?_
                  refine lv_if_ne (tgt := 161) S.1 S.2.1 dX4_addGroup_128 (by decide) (fun c53 => ?_) (fun c53 => ?_)
                  · have E := cd_fE c53 E
                    refine lv_iload S.1 S.2.1 dX4_addGroup_161 (lv_at hl 0 rfl) ?_
                    exact hret _ _ _ _ _ _ (Option.some.inj E) hZ dX4_addGroup_163
                  · have E := cd_tE c53 E
                    refine lv_aload_n S.1 S.2.1 dX4_addGroup_131 rfl (lv_at hl 1 rfl) ?_
                    refine cd_get4 (v := .int (cd_g o51.2 q 4)) S hK hZ hq 4 cd_f_X4_56 rfl dX4_addGroup_132 ?_
                    refine lv_bipush (v := 6) S.1 S.2.1 dX4_addGroup_135 (by decide) ?_
                    refine lv_icmp_ge (tgt := 161) S.1 S.2.1 dX4_addGroup_137 (by decide) (fun c54 => ?_) (fun c54 => ?_)
                    · have E := cd_tE c54 E
                      refine lv_iload S.1 S.2.1 dX4_addGroup_161 (lv_at hl 0 rfl) ?_
                      exact hret _ _ _ _ _ _ (Option.some.inj E) hZ dX4_addGroup_163
                    · have E := cd_fE c54 E
                      refine lv_aload_n S.1 S.2.1 dX4_addGroup_140 rfl (lv_at hl 1 rfl) ?_
                      refine cd_get4 (v := .ref (G.2.2.2.2 + (q + 7))) S hK hZ hq 8 cd_f_X4_35 rfl dX4_addGroup_141 ?_
                      refine lv_aload_n S.1 S.2.1 dX4_addGroup_144 rfl (lv_at hl 1 rfl) ?_
                      refine cd_get4 (v := .int (cd_g o51.2 q 4)) S hK hZ hq 4 cd_f_X4_56 rfl dX4_addGroup_145 ?_
                      refine lv_iload S.1 S.2.1 dX4_addGroup_148 (lv_at hl 0 rfl) ?_
                      obtain ⟨z55, E⟩ := cd_ckE E
                      obtain ⟨h56, eh56, E⟩ := cd_nmE E
                      refine cd_iast S hK hZ (cd_r4_8 hq) z55 eh56 dX4_addGroup_150 (fun H locs hZ => ?_)
                      refine lv_aload_n S.1 S.2.1 dX4_addGroup_151 rfl (lv_at hl 1 rfl) ?_
                      refine lv_dup S.1 S.2.1 dX4_addGroup_152 rfl ?_
                      refine cd_get4 (v := .int (cd_g h56 q 4)) S hK hZ hq 4 cd_f_X4_56 rfl dX4_addGroup_153 ?_
                      refine lv_iconst (v := 1) S.1 S.2.1 dX4_addGroup_156 (by decide) ?_
                      refine lv_iadd S.1 S.2.1 dX4_addGroup_157 ?_
                      obtain ⟨h57, eh57, E⟩ := cd_nmE E
                      refine cd_put4_4 S hK hZ hq cd_f_X4_56 eh57 dX4_addGroup_158 (fun H locs hZ => ?_)
                      refine lv_iload S.1 S.2.1 dX4_addGroup_161 (lv_at hl 0 rfl) ?_
                      exact hret _ _ _ _ _ _ (Option.some.inj E) hZ dX4_addGroup_163
            · have E := cd_fE c11 E
              refine lv_bipush (v := (-4)) S.1 S.2.1 dX4_addGroup_62 (by decide) ?_
              exact hret _ _ _ _ _ _ (Option.some.inj E) hZ dX4_addGroup_64
          · have E := cd_tE c10 E
            refine lv_bipush (v := (-2)) S.1 S.2.1 dX4_addGroup_50 (by decide) ?_
            exact hret _ _ _ _ _ _ (Option.some.inj E) hZ dX4_addGroup_52
abbrev rm_X4_addEvent : Room := { frames := 2, cells := 0, slots := 0, locals := 43 }
theorem cd_v_X4_addEvent : cd_V yX4_addEvent cX4_addEvent 3 (some .int) 2 := ⟨cd_i_X4_addEvent, cd_e_X4_X4_addEvent, cd_n_X4, cd_c_X4_addEvent, by decide +kernel⟩
set_option maxHeartbeats 4000000 in
set_option maxRecDepth 100000 in
theorem c_X4_addEvent (l : Launch) (G : cd_G) (q : Nat) (a1 : Int32) (a2 : Int32) (hq : cd_is 4 q) (h : cd_Hp) (out : (Int32 × cd_Hp)) (E : f_X4_addEvent q a1 a2 h = some out) : cd_Mi l G yX4_addEvent (Cond.code yX4_addEvent cX4_addEvent 3 (some .int) :: cd_T) rm_X4_addEvent [.ref (G.2.2.2.2 + q), .int a1, .int a2] h out := by
  refine cd_ini (by decide) (Nat.le_of_ble_eq_true rfl) ?_
  intro p e s m args below meth c Q ls H locs S hK hZ hl hret
  have hl : lv_has ls 3 [(0, .ref (G.2.2.2.2 + q)), (1, .int a1), (2, .int a2)] := hl
  unfold f_X4_addEvent at E
  refine lv_aload_n S.1 S.2.1 dX4_addEvent_0 rfl (lv_at hl 0 rfl) ?_
  refine lv_iload_n S.1 S.2.1 dX4_addEvent_1 rfl (lv_at hl 1 rfl) ?_
  refine cd_cVz (As := [.int a1]) S hK hZ hl.1 (c_X4_hasGroup l G q a1 hq h _ rfl) cd_v_X4_hasGroup cd_m_X4_77 ⟨Nat.le_of_ble_eq_true rfl, Nat.le_of_ble_eq_true rfl⟩ ⟨rfl, rfl⟩ (ci := 4) (by decide) rfl hq rfl rfl (Nat.le_of_ble_eq_true rfl) ⟨Nat.zero_le _, Nat.zero_le _⟩ dX4_addEvent_2 (fun H locs hZ b1 => ?_)
  refine lv_if_eq (tgt := 18) S.1 S.2.1 dX4_addEvent_5 (by decide) (fun c2 => ?_) (fun c2 => ?_)
  · have E := cd_tE c2 E
    refine lv_bipush (v := (-2)) S.1 S.2.1 dX4_addEvent_18 (by decide) ?_
    exact hret _ _ _ _ _ _ (Option.some.inj E) hZ dX4_addEvent_20
  · have E := cd_fE c2 E
    refine lv_iload_n S.1 S.2.1 dX4_addEvent_8 rfl (lv_at hl 2 rfl) ?_
    refine lv_iconst (v := 0) S.1 S.2.1 dX4_addEvent_9 (by decide) ?_
    refine lv_bipush (v := 7) S.1 S.2.1 dX4_addEvent_10 (by decide) ?_
    refine cd_cNz (As := [.int a2, .int 0, .int 7]) S hK hZ hl.1 (c_X7_isWithin l G a2 0 7 h _ rfl) cd_v_X7_isWithin (cd_nX4_73 hK.2) ⟨Nat.le_of_ble_eq_true rfl, Nat.le_of_ble_eq_true rfl⟩ ⟨rfl, rfl⟩ rfl rfl (Nat.le_of_ble_eq_true rfl) ⟨Nat.zero_le _, Nat.zero_le _⟩ dX4_addEvent_12 (fun H locs hZ b3 => ?_)
    refine lv_if_ne (tgt := 21) S.1 S.2.1 dX4_addEvent_15 (by decide) (fun c4 => ?_) (fun c4 => ?_)
    · have E := cd_fE c4 E
      refine lv_aload_n S.1 S.2.1 dX4_addEvent_21 rfl (lv_at hl 0 rfl) ?_
      refine cd_get4 (v := .ref (G.2.2.2.2 + (q + 6))) S hK hZ hq 7 cd_f_X4_31 rfl dX4_addEvent_22 ?_
      refine lv_iload_n S.1 S.2.1 dX4_addEvent_25 rfl (lv_at hl 1 rfl) ?_
      obtain ⟨z5, E⟩ := cd_ckE E
      refine cd_aald9 S hK hZ (cd_r4_7 hq) z5 dX4_addEvent_26 ?_
      refine lv_iload_n S.1 S.2.1 dX4_addEvent_27 rfl (lv_at hl 2 rfl) ?_
      obtain ⟨o6, E1, E⟩ := cd_bE E
      refine cd_cVi (As := [.int a2]) S hK hZ hl.1 (c_X0_append l G ((q + 6) + 8 + 7 * (a1.toNatClampNeg)) a2 (cd_r9 (cd_r4_7 hq) z5) h o6 E1) cd_v_X0_append cd_m_X4_107 ⟨Nat.le_of_ble_eq_true rfl, Nat.le_of_ble_eq_true rfl⟩ ⟨rfl, rfl⟩ (ci := 0) (by decide) rfl (cd_r9 (cd_r4_7 hq) z5) rfl rfl (Nat.le_of_ble_eq_true rfl) ⟨Nat.zero_le _, Nat.zero_le _⟩ dX4_addEvent_28 (fun H locs hZ => ?_)
      exact hret _ _ _ _ _ _ (Option.some.inj E) hZ dX4_addEvent_31
    · have E := cd_tE c4 E
      refine lv_bipush (v := (-2)) S.1 S.2.1 dX4_addEvent_18 (by decide) ?_
      exact hret _ _ _ _ _ _ (Option.some.inj E) hZ dX4_addEvent_20
abbrev rm_X4_putPeriod : Room := { frames := 2, cells := 0, slots := 0, locals := 43 }
theorem cd_v_X4_putPeriod : cd_V yX4_putPeriod cX4_putPeriod 4 (some .int) 2 := ⟨cd_i_X4_putPeriod, cd_e_X4_X4_putPeriod, cd_n_X4, cd_c_X4_putPeriod, by decide +kernel⟩
set_option maxHeartbeats 4000000 in
set_option maxRecDepth 100000 in
theorem c_X4_putPeriod (l : Launch) (G : cd_G) (q : Nat) (a1 : Int32) (a2 : Int32) (hq : cd_is 4 q) (h : cd_Hp) (out : (Int32 × cd_Hp)) (E : f_X4_putPeriod q a1 a2 h = some out) : cd_Mi l G yX4_putPeriod (Cond.code yX4_putPeriod cX4_putPeriod 4 (some .int) :: cd_T) rm_X4_putPeriod [.ref (G.2.2.2.2 + q), .int a1, .int a2] h out := by
  refine cd_ini (by decide) (Nat.le_of_ble_eq_true rfl) ?_
  intro p e s m args below meth c Q ls H locs S hK hZ hl hret
  have hl : lv_has ls 4 [(0, .ref (G.2.2.2.2 + q)), (1, .int a1), (2, .int a2)] := hl
  unfold f_X4_putPeriod at E
  refine lv_aload_n S.1 S.2.1 dX4_putPeriod_0 rfl (lv_at hl 0 rfl) ?_
  refine lv_iload_n S.1 S.2.1 dX4_putPeriod_1 rfl (lv_at hl 1 rfl) ?_
  refine cd_cVz (As := [.int a1]) S hK hZ hl.1 (c_X4_hasGroup l G q a1 hq h _ rfl) cd_v_X4_hasGroup cd_m_X4_77 ⟨Nat.le_of_ble_eq_true rfl, Nat.le_of_ble_eq_true rfl⟩ ⟨rfl, rfl⟩ (ci := 4) (by decide) rfl hq rfl rfl (Nat.le_of_ble_eq_true rfl) ⟨Nat.zero_le _, Nat.zero_le _⟩ dX4_putPeriod_2 (fun H locs hZ b1 => ?_)
  refine lv_if_eq (tgt := 24) S.1 S.2.1 dX4_putPeriod_5 (by decide) (fun c2 => ?_) (fun c2 => ?_)
  · have E := cd_tE c2 E
    refine lv_bipush (v := (-2)) S.1 S.2.1 dX4_putPeriod_24 (by decide) ?_
    exact hret _ _ _ _ _ _ (Option.some.inj E) hZ dX4_putPeriod_26
  · have E := cd_fE c2 E
    refine lv_iload_n S.1 S.2.1 dX4_putPeriod_8 rfl (lv_at hl 2 rfl) ?_
    refine lv_if_eq (tgt := 27) S.1 S.2.1 dX4_putPeriod_9 (by decide) (fun c3 => ?_) (fun c3 => ?_)
    · have E := cd_tE c3 E
      refine lv_aload_n S.1 S.2.1 dX4_putPeriod_27 rfl (lv_at hl 0 rfl) ?_
      refine cd_get4 (v := .ref (G.2.2.2.2 + (q + 6))) S hK hZ hq 7 cd_f_X4_31 rfl dX4_putPeriod_28 ?_
      refine lv_iload_n S.1 S.2.1 dX4_putPeriod_31 rfl (lv_at hl 1 rfl) ?_
      obtain ⟨z4, E⟩ := cd_ckE E
      refine cd_aald9 S hK hZ (cd_r4_7 hq) z4 dX4_putPeriod_32 ?_
      refine cd_get0 (v := .int (cd_g h ((q + 6) + 8 + 7 * (a1.toNatClampNeg)) 8)) S hK hZ (cd_r9 (cd_r4_7 hq) z4) 8 cd_f_X4_111 rfl dX4_putPeriod_33 ?_
      obtain ⟨x5, ex5, E⟩ := cd_nmE E
      refine cd_topi ex5 ?_
      refine lv_istore_n (lv' := [(3, .int x5), (0, .ref (G.2.2.2.2 + q)), (1, .int a1), (2, .int a2)]) S.1 S.2.1 dX4_putPeriod_36 rfl hl (by decide) rfl (fun ls hl => ?_)
      refine lv_aload_n S.1 S.2.1 dX4_putPeriod_37 rfl (lv_at hl 1 rfl) ?_
      refine cd_get4 (v := .ref (G.2.2.2.2 + (q + 6))) S hK hZ hq 7 cd_f_X4_31 rfl dX4_putPeriod_38 ?_
      refine lv_iload_n S.1 S.2.1 dX4_putPeriod_41 rfl (lv_at hl 2 rfl) ?_
      obtain ⟨z6, E⟩ := cd_ckE E
      refine cd_aald9 S hK hZ (cd_r4_7 hq) z6 dX4_putPeriod_42 ?_
      refine lv_iload_n S.1 S.2.1 dX4_putPeriod_43 rfl (lv_at hl 3 rfl) ?_
      obtain ⟨h7, eh7, E⟩ := cd_nmE E
      refine cd_put0_8 S hK hZ (cd_r9 (cd_r4_7 hq) z6) cd_f_X4_111 eh7 dX4_putPeriod_44 (fun H locs hZ => ?_)
      refine lv_aload_n S.1 S.2.1 dX4_putPeriod_47 rfl (lv_at hl 1 rfl) ?_
      refine cd_get4 (v := .ref (G.2.2.2.2 + (q + 6))) S hK hZ hq 7 cd_f_X4_31 rfl dX4_putPeriod_48 ?_
      refine lv_iload_n S.1 S.2.1 dX4_putPeriod_51 rfl (lv_at hl 2 rfl) ?_
      obtain ⟨z8, E⟩ := cd_ckE E
      refine cd_aald9 S hK hZ (cd_r4_7 hq) z8 dX4_putPeriod_52 ?_
      refine lv_iconst (v := 0) S.1 S.2.1 dX4_putPeriod_53 (by decide) ?_
      obtain ⟨h9, eh9, E⟩ := cd_nmE E
      refine cd_put0_9 S hK hZ (cd_r9 (cd_r4_7 hq) z8) cd_f_X4_114 eh9 dX4_putPeriod_54 (fun H locs hZ => ?_)
      refine lv_iload_n S.1 S.2.1 dX4_putPeriod_57 rfl (lv_at hl 0 rfl) ?_
      exact hret _ _ _ _ _ _ (Option.some.inj E) hZ dX4_putPeriod_58
    · have E := cd_fE c3 E
      refine lv_iload_n S.1 S.2.1 dX4_putPeriod_12 rfl (lv_at hl 2 rfl) ?_
      refine lv_bipush (v := 30) S.1 S.2.1 dX4_putPeriod_13 (by decide) ?_
      refine lv_sipush (v := 200) S.1 S.2.1 dX4_putPeriod_15 (by decide) ?_
      refine cd_cNz (As := [.int a2, .int 30, .int 200]) S hK hZ hl.1 (c_X7_isWithin l G a2 30 200 h _ rfl) cd_v_X7_isWithin (cd_nX4_73 hK.2) ⟨Nat.le_of_ble_eq_true rfl, Nat.le_of_ble_eq_true rfl⟩ ⟨rfl, rfl⟩ rfl rfl (Nat.le_of_ble_eq_true rfl) ⟨Nat.zero_le _, Nat.zero_le _⟩ dX4_putPeriod_18 (fun H locs hZ b10 => ?_)
      refine lv_if_ne (tgt := 27) S.1 S.2.1 dX4_putPeriod_21 (by decide) (fun c11 => ?_) (fun c11 => ?_)
      · have E := cd_fE c11 E
        refine lv_aload_n S.1 S.2.1 dX4_putPeriod_27 rfl (lv_at hl 0 rfl) ?_
        refine cd_get4 (v := .ref (G.2.2.2.2 + (q + 6))) S hK hZ hq 7 cd_f_X4_31 rfl dX4_putPeriod_28 ?_
        refine lv_iload_n S.1 S.2.1 dX4_putPeriod_31 rfl (lv_at hl 1 rfl) ?_
        obtain ⟨z12, E⟩ := cd_ckE E
        refine cd_aald9 S hK hZ (cd_r4_7 hq) z12 dX4_putPeriod_32 ?_
        refine cd_get0 (v := .int (cd_g h ((q + 6) + 8 + 7 * (a1.toNatClampNeg)) 8)) S hK hZ (cd_r9 (cd_r4_7 hq) z12) 8 cd_f_X4_111 rfl dX4_putPeriod_33 ?_
        obtain ⟨x13, ex13, E⟩ := cd_nmE E
        refine cd_topi ex13 ?_
        refine lv_istore_n (lv' := [(3, .int x13), (0, .ref (G.2.2.2.2 + q)), (1, .int a1), (2, .int a2)]) S.1 S.2.1 dX4_putPeriod_36 rfl hl (by decide) rfl (fun ls hl => ?_)
        refine lv_aload_n S.1 S.2.1 dX4_putPeriod_37 rfl (lv_at hl 1 rfl) ?_
        refine cd_get4 (v := .ref (G.2.2.2.2 + (q + 6))) S hK hZ hq 7 cd_f_X4_31 rfl dX4_putPeriod_38 ?_
        refine lv_iload_n S.1 S.2.1 dX4_putPeriod_41 rfl (lv_at hl 2 rfl) ?_
        obtain ⟨z14, E⟩ := cd_ckE E
        refine cd_aald9 S hK hZ (cd_r4_7 hq) z14 dX4_putPeriod_42 ?_
        refine lv_iload_n S.1 S.2.1 dX4_putPeriod_43 rfl (lv_at hl 3 rfl) ?_
        obtain ⟨h15, eh15, E⟩ := cd_nmE E
        refine cd_put0_8 S hK hZ (cd_r9 (cd_r4_7 hq) z14) cd_f_X4_111 eh15 dX4_putPeriod_44 (fun H locs hZ => ?_)
        refine lv_aload_n S.1 S.2.1 dX4_putPeriod_47 rfl (lv_at hl 1 rfl) ?_
        refine cd_get4 (v := .ref (G.2.2.2.2 + (q + 6))) S hK hZ hq 7 cd_f_X4_31 rfl dX4_putPeriod_48 ?_
        refine lv_iload_n S.1 S.2.1 dX4_putPeriod_51 rfl (lv_at hl 2 rfl) ?_
        obtain ⟨z16, E⟩ := cd_ckE E
        refine cd_aald9 S hK hZ (cd_r4_7 hq) z16 dX4_putPeriod_52 ?_
        refine lv_iconst (v := 0) S.1 S.2.1 dX4_putPeriod_53 (by decide) ?_
        obtain ⟨h17, eh17, E⟩ := cd_nmE E
        refine cd_put0_9 S hK hZ (cd_r9 (cd_r4_7 hq) z16) cd_f_X4_114 eh17 dX4_putPeriod_54 (fun H locs hZ => ?_)
        refine lv_iload_n S.1 S.2.1 dX4_putPeriod_57 rfl (lv_at hl 0 rfl) ?_
        exact hret _ _ _ _ _ _ (Option.some.inj E) hZ dX4_putPeriod_58
      · have E := cd_tE c11 E
        refine lv_bipush (v := (-2)) S.1 S.2.1 dX4_putPeriod_24 (by decide) ?_
        exact hret _ _ _ _ _ _ (Option.some.inj E) hZ dX4_putPeriod_26
abbrev rm_X4_putSkid : Room := { frames := 1, cells := 0, slots := 0, locals := 22 }
theorem cd_v_X4_putSkid : cd_V yX4_putSkid cX4_putSkid 3 (some .int) 1 := ⟨cd_i_X4_putSkid, cd_e_X4_X4_putSkid, cd_n_X4, cd_c_X4_putSkid, by decide +kernel⟩
set_option maxHeartbeats 4000000 in
set_option maxRecDepth 100000 in
theorem c_X4_putSkid (l : Launch) (G : cd_G) (q : Nat) (a1 : Int32) (hq : cd_is 4 q) (h : cd_Hp) (out : (Int32 × cd_Hp)) (E : f_X4_putSkid q a1 h = out) : cd_Mi l G yX4_putSkid (Cond.code yX4_putSkid cX4_putSkid 3 (some .int) :: cd_T) rm_X4_putSkid [.ref (G.2.2.2.2 + q), .int a1] h out := by
  refine cd_ini (by decide) (Nat.le_of_ble_eq_true rfl) ?_
  intro p e s m args below meth c Q ls H locs S hK hZ hl hret
  have hl : lv_has ls 3 [(0, .ref (G.2.2.2.2 + q)), (1, .int a1)] := hl
  unfold f_X4_putSkid at E
  refine lv_iload_n S.1 S.2.1 dX4_putSkid_0 rfl (lv_at hl 1 rfl) ?_
  refine lv_iconst (v := 0) S.1 S.2.1 dX4_putSkid_1 (by decide) ?_
  refine lv_iconst (v := 3) S.1 S.2.1 dX4_putSkid_2 (by decide) ?_
  refine cd_cNz (As := [.int a1, .int 0, .int 3]) S hK hZ hl.1 (c_X7_isWithin l G a1 0 3 h _ rfl) cd_v_X7_isWithin (cd_nX4_73 hK.2) ⟨Nat.le_of_ble_eq_true rfl, Nat.le_of_ble_eq_true rfl⟩ ⟨rfl, rfl⟩ rfl rfl (Nat.le_of_ble_eq_true rfl) ⟨Nat.zero_le _, Nat.zero_le _⟩ dX4_putSkid_3 (fun H locs hZ b1 => ?_)
  refine lv_if_ne (tgt := 12) S.1 S.2.1 dX4_putSkid_6 (by decide) (fun c2 => ?_) (fun c2 => ?_)
  · have E := cd_fE c2 E
    refine lv_aload_n S.1 S.2.1 dX4_putSkid_12 rfl (lv_at hl 0 rfl) ?_
    refine cd_get4 (v := .int (cd_g h q 1)) S hK hZ hq 1 cd_f_X4_15 rfl dX4_putSkid_13 ?_
    obtain ⟨x3, ex3, E⟩ := cd_nmE E
    refine cd_topi ex3 ?_
    refine lv_istore_n (lv' := [(2, .int x3), (0, .ref (G.2.2.2.2 + q)), (1, .int a1)]) S.1 S.2.1 dX4_putSkid_16 rfl hl (by decide) rfl (fun ls hl => ?_)
    refine lv_aload_n S.1 S.2.1 dX4_putSkid_17 rfl (lv_at hl 1 rfl) ?_
    refine lv_iload_n S.1 S.2.1 dX4_putSkid_18 rfl (lv_at hl 2 rfl) ?_
    obtain ⟨h4, eh4, E⟩ := cd_nmE E
    refine cd_put4_1 S hK hZ hq cd_f_X4_15 eh4 dX4_putSkid_19 (fun H locs hZ => ?_)
    refine lv_iload_n S.1 S.2.1 dX4_putSkid_22 rfl (lv_at hl 0 rfl) ?_
    exact hret _ _ _ _ _ _ (E) hZ dX4_putSkid_23
  · have E := cd_tE c2 E
    refine lv_bipush (v := (-2)) S.1 S.2.1 dX4_putSkid_9 (by decide) ?_
    exact hret _ _ _ _ _ _ (E) hZ dX4_putSkid_11
abbrev rm_X7_bit : Room := { frames := 0, cells := 0, slots := 0, locals := 0 }
theorem cd_v_X7_bit : cd_Vs yX7_bit cX7_bit 1 (some .int) 1 := ⟨cd_s_X7_bit, cd_n_X7, cd_c_X7_bit, by decide +kernel⟩
set_option maxHeartbeats 4000000 in
set_option maxRecDepth 100000 in
theorem c_X7_bit (l : Launch) (G : cd_G) (a0 : Int32) (h : cd_Hp) (out : Int32) (E : f_X7_bit a0 = out) : cd_Mi l G yX7_bit (Cond.code yX7_bit cX7_bit 1 (some .int) :: cd_T) rm_X7_bit [.int a0] h (out, h) := by
  refine cd_ini (by decide) (Nat.le_of_ble_eq_true rfl) ?_
  intro p e s m args below meth c Q ls H locs S hK hZ hl hret
  have hl : lv_has ls 1 [(0, .int a0)] := hl
  unfold f_X7_bit at E
  refine lv_iload_n S.1 S.2.1 dX7_bit_0 rfl (lv_at hl 0 rfl) ?_
  refine lv_if_eq (tgt := 8) S.1 S.2.1 dX7_bit_1 (by decide) (fun c1 => ?_) (fun c1 => ?_)
  · have E := cd_tE c1 E
    refine lv_iconst (v := 0) S.1 S.2.1 dX7_bit_8 (by decide) ?_
    exact hret _ _ _ _ _ _ (congrArg (fun z => (z, h)) (E)) hZ dX7_bit_9
  · have E := cd_fE c1 E
    refine lv_iconst (v := 1) S.1 S.2.1 dX7_bit_4 (by decide) ?_
    refine lv_goto (tgt := 9) S.1 S.2.1 dX7_bit_5 (by decide) ?_
    exact hret _ _ _ _ _ _ (congrArg (fun z => (z, h)) (E)) hZ dX7_bit_9
abbrev rm_X4_putLive : Room := { frames := 2, cells := 0, slots := 0, locals := 43 }
theorem cd_v_X4_putLive : cd_V yX4_putLive cX4_putLive 4 (some .int) 2 := ⟨cd_i_X4_putLive, cd_e_X4_X4_putLive, cd_n_X4, cd_c_X4_putLive, by decide +kernel⟩
set_option maxHeartbeats 4000000 in
set_option maxRecDepth 100000 in
theorem c_X4_putLive (l : Launch) (G : cd_G) (q : Nat) (a1 : Int32) (a2 : Int32) (hq : cd_is 4 q) (h : cd_Hp) (out : (Int32 × cd_Hp)) (E : f_X4_putLive q a1 a2 h = some out) : cd_Mi l G yX4_putLive (Cond.code yX4_putLive cX4_putLive 4 (some .int) :: cd_T) rm_X4_putLive [.ref (G.2.2.2.2 + q), .int a1, .int a2] h out := by
  refine cd_ini (by decide) (Nat.le_of_ble_eq_true rfl) ?_
  intro p e s m args below meth c Q ls H locs S hK hZ hl hret
  have hl : lv_has ls 4 [(0, .ref (G.2.2.2.2 + q)), (1, .int a1), (2, .int a2)] := hl
  unfold f_X4_putLive at E
  refine lv_aload_n S.1 S.2.1 dX4_putLive_0 rfl (lv_at hl 0 rfl) ?_
  refine lv_iload_n S.1 S.2.1 dX4_putLive_1 rfl (lv_at hl 1 rfl) ?_
  refine cd_cVz (As := [.int a1]) S hK hZ hl.1 (c_X4_hasGroup l G q a1 hq h _ rfl) cd_v_X4_hasGroup cd_m_X4_77 ⟨Nat.le_of_ble_eq_true rfl, Nat.le_of_ble_eq_true rfl⟩ ⟨rfl, rfl⟩ (ci := 4) (by decide) rfl hq rfl rfl (Nat.le_of_ble_eq_true rfl) ⟨Nat.zero_le _, Nat.zero_le _⟩ dX4_putLive_2 (fun H locs hZ b1 => ?_)
  refine lv_if_eq (tgt := 17) S.1 S.2.1 dX4_putLive_5 (by decide) (fun c2 => ?_) (fun c2 => ?_)
  · have E := cd_tE c2 E
    refine lv_bipush (v := (-2)) S.1 S.2.1 dX4_putLive_17 (by decide) ?_
    exact hret _ _ _ _ _ _ (Option.some.inj E) hZ dX4_putLive_19
  · have E := cd_fE c2 E
    refine lv_iload_n S.1 S.2.1 dX4_putLive_8 rfl (lv_at hl 2 rfl) ?_
    refine lv_iconst (v := 0) S.1 S.2.1 dX4_putLive_9 (by decide) ?_
    refine lv_iconst (v := 1) S.1 S.2.1 dX4_putLive_10 (by decide) ?_
    refine cd_cNz (As := [.int a2, .int 0, .int 1]) S hK hZ hl.1 (c_X7_isWithin l G a2 0 1 h _ rfl) cd_v_X7_isWithin (cd_nX4_73 hK.2) ⟨Nat.le_of_ble_eq_true rfl, Nat.le_of_ble_eq_true rfl⟩ ⟨rfl, rfl⟩ rfl rfl (Nat.le_of_ble_eq_true rfl) ⟨Nat.zero_le _, Nat.zero_le _⟩ dX4_putLive_11 (fun H locs hZ b3 => ?_)
    refine lv_if_ne (tgt := 20) S.1 S.2.1 dX4_putLive_14 (by decide) (fun c4 => ?_) (fun c4 => ?_)
    · have E := cd_fE c4 E
      refine lv_aload_n S.1 S.2.1 dX4_putLive_20 rfl (lv_at hl 0 rfl) ?_
      refine cd_get4 (v := .ref (G.2.2.2.2 + (q + 6))) S hK hZ hq 7 cd_f_X4_31 rfl dX4_putLive_21 ?_
      refine lv_iload_n S.1 S.2.1 dX4_putLive_24 rfl (lv_at hl 1 rfl) ?_
      obtain ⟨z5, E⟩ := cd_ckE E
      refine cd_aald9 S hK hZ (cd_r4_7 hq) z5 dX4_putLive_25 ?_
      refine cd_get0 (v := .int (cd_g h ((q + 6) + 8 + 7 * (a1.toNatClampNeg)) 4)) S hK hZ (cd_r9 (cd_r4_7 hq) z5) 4 cd_f_X4_117 rfl dX4_putLive_26 ?_
      refine cd_cNi (As := [.int (cd_g h ((q + 6) + 8 + 7 * (a1.toNatClampNeg)) 4)]) S hK hZ hl.1 (c_X7_bit l G (cd_g h ((q + 6) + 8 + 7 * (a1.toNatClampNeg)) 4) h _ rfl) cd_v_X7_bit (cd_nX4_121 hK.2) ⟨Nat.le_of_ble_eq_true rfl, Nat.le_of_ble_eq_true rfl⟩ ⟨rfl, rfl⟩ rfl rfl (Nat.le_of_ble_eq_true rfl) ⟨Nat.zero_le _, Nat.zero_le _⟩ dX4_putLive_29 (fun H locs hZ => ?_)
      obtain ⟨x7, ex7, E⟩ := cd_nmE E
      refine cd_topi ex7 ?_
      refine lv_istore_n (lv' := [(3, .int x7), (0, .ref (G.2.2.2.2 + q)), (1, .int a1), (2, .int a2)]) S.1 S.2.1 dX4_putLive_32 rfl hl (by decide) rfl (fun ls hl => ?_)
      refine lv_aload_n S.1 S.2.1 dX4_putLive_33 rfl (lv_at hl 1 rfl) ?_
      refine cd_get4 (v := .ref (G.2.2.2.2 + (q + 6))) S hK hZ hq 7 cd_f_X4_31 rfl dX4_putLive_34 ?_
      refine lv_iload_n S.1 S.2.1 dX4_putLive_37 rfl (lv_at hl 2 rfl) ?_
      obtain ⟨z8, E⟩ := cd_ckE E
      refine cd_aald9 S hK hZ (cd_r4_7 hq) z8 dX4_putLive_38 ?_
      refine lv_iload_n S.1 S.2.1 dX4_putLive_39 rfl (lv_at hl 3 rfl) ?_
      refine lv_iconst (v := 1) S.1 S.2.1 dX4_putLive_40 (by decide) ?_
      refine lv_icmp_ne (tgt := 48) S.1 S.2.1 dX4_putLive_41 (by decide) (fun c9 => ?_) (fun c9 => ?_)
      · have E := cd_fE c9 E
        refine lv_iconst (v := 0) S.1 S.2.1 dX4_putLive_48 (by decide) ?_
        obtain ⟨h10, eh10, E⟩ := cd_nmE E
        refine cd_put0_4 S hK hZ (cd_r9 (cd_r4_7 hq) z8) cd_f_X4_117 (by decide) eh10 dX4_putLive_49 (fun H locs hZ => ?_)
        refine lv_iload_n S.1 S.2.1 dX4_putLive_52 rfl (lv_at hl 0 rfl) ?_
        exact hret _ _ _ _ _ _ (Option.some.inj E) hZ dX4_putLive_53
      · have E := cd_tE c9 E
        refine lv_iconst (v := 1) S.1 S.2.1 dX4_putLive_44 (by decide) ?_
        refine lv_goto (tgt := 49) S.1 S.2.1 dX4_putLive_45 (by decide) ?_
        obtain ⟨h11, eh11, E⟩ := cd_nmE E
        refine cd_put0_4 S hK hZ (cd_r9 (cd_r4_7 hq) z8) cd_f_X4_117 (by decide) eh11 dX4_putLive_49 (fun H locs hZ => ?_)
        refine lv_iload_n S.1 S.2.1 dX4_putLive_52 rfl (lv_at hl 0 rfl) ?_
        exact hret _ _ _ _ _ _ (Option.some.inj E) hZ dX4_putLive_53
    · have E := cd_tE c4 E
      refine lv_bipush (v := (-2)) S.1 S.2.1 dX4_putLive_17 (by decide) ?_
      exact hret _ _ _ _ _ _ (Option.some.inj E) hZ dX4_putLive_19
abbrev rm_X5_reachesByParents : Room := { frames := 1, cells := 0, slots := 0, locals := 22 }
theorem cd_v_X5_reachesByParents : cd_V yX5_reachesByParents cX5_reachesByParents 5 (some .boolean) 2 := ⟨cd_i_X5_reachesByParents, cd_e_X5_X5_reachesByParents, cd_n_X5, cd_c_X5_reachesByParents, by decide +kernel⟩
set_option maxHeartbeats 4000000 in
set_option maxRecDepth 100000 in
theorem c_X5_reachesByParents (l : Launch) (G : cd_G) (q : Nat) (a1 : Int32) (a2 : Int32) (hq : cd_is 5 q) (h : cd_Hp) (out : Int32) (E : f_X5_reachesByParents q a1 a2 h = some out) : cd_Mz l G yX5_reachesByParents (Cond.code yX5_reachesByParents cX5_reachesByParents 5 (some .boolean) :: cd_T) rm_X5_reachesByParents [.ref (G.2.2.2.2 + q), .int a1, .int a2] h (out, h) := by
  refine cd_inz (by decide) (Nat.le_of_ble_eq_true rfl) ?_
  intro p e s m args below meth c Q ls H locs S hK hZ hl hret
  have hl : lv_has ls 5 [(0, .ref (G.2.2.2.2 + q)), (1, .int a1), (2, .int a2)] := hl
  have L5 : ∀ (n : Nat) (v5_3 : Int32) (v5_4 : Int32) (o : (Int32 ⊕ (Int32 × Int32))) (H : Heap) (locs : List Loc) (ls : Array Slot), cd_lp (f_X5_reachesByParents_B5 q a1 a2 h) n (v5_3, v5_4) = some o → cd_Z G h s.heap H locs → lv_has ls 5 [(4, .int v5_4), (3, .int v5_3), (0, .ref (G.2.2.2.2 + q)), (1, .int a1), (2, .int a2)] → (∀ x, o = .inl x → x = out) → (∀ st, o = .inr st → ∀ (H : Heap) (locs : List Loc) (ls : Array Slot), cd_Z G h s.heap H locs → lv_has ls 5 [(4, .int st.2), (3, .int st.1), (0, .ref (G.2.2.2.2 + q)), (1, .int a1), (2, .int a2)] → W p l e rm_X5_reachesByParents s m args below meth c H locs 0 0 Q (F0 m 41 ls [])) → W p l e rm_X5_reachesByParents s m args below meth c H locs 0 0 Q (F0 m 5 ls []) := by
    intro n
    induction n with
    | zero => intro v5_3 v5_4 o H locs ls E; exact nomatch (show (none : Option (Int32 ⊕ (Int32 × Int32))) = some o from E)
    | succ n ih =>
      intro v5_3 v5_4 o H locs ls E hZ hl hin hex
      have E : f_X5_reachesByParents_B5 q a1 a2 h (cd_lp (f_X5_reachesByParents_B5 q a1 a2 h) n) (v5_3, v5_4) = some o := E
      unfold f_X5_reachesByParents_B5 at E
      dsimp only at E
      refine lv_iload S.1 S.2.1 dX5_reachesByParents_5 (lv_at hl 0 rfl) ?_
      refine lv_bipush (v := 6) S.1 S.2.1 dX5_reachesByParents_7 (by decide) ?_
      refine lv_icmp_ge (tgt := 41) S.1 S.2.1 dX5_reachesByParents_9 (by decide) (fun c1 => ?_) (fun c1 => ?_)
      · have E := cd_tE c1 E
        cases E
        exact hex _ rfl H locs ls hZ (lv_sub hl [0, 1, 2, 3, 4] rfl)
      · have E := cd_fE c1 E
        refine lv_iload_n S.1 S.2.1 dX5_reachesByParents_12 rfl (lv_at hl 1 rfl) ?_
        refine lv_iconst (v := 1) S.1 S.2.1 dX5_reachesByParents_13 (by decide) ?_
        refine lv_iconst (v := 5) S.1 S.2.1 dX5_reachesByParents_14 (by decide) ?_
        refine cd_cNz (As := [.int v5_3, .int 1, .int 5]) S hK hZ hl.1 (c_X7_isWithin l G v5_3 1 5 h _ rfl) cd_v_X7_isWithin (cd_nX5_29 hK.2) ⟨Nat.le_of_ble_eq_true rfl, Nat.le_of_ble_eq_true rfl⟩ ⟨rfl, rfl⟩ rfl rfl (Nat.le_of_ble_eq_true rfl) ⟨Nat.zero_le _, Nat.zero_le _⟩ dX5_reachesByParents_15 (fun H locs hZ b2 => ?_)
        refine lv_if_eq (tgt := 41) S.1 S.2.1 dX5_reachesByParents_18 (by decide) (fun c3 => ?_) (fun c3 => ?_)
        · have E := cd_tE c3 E
          cases E
          exact hex _ rfl H locs ls hZ (lv_sub hl [0, 1, 2, 3, 4] rfl)
        · have E := cd_fE c3 E
          refine lv_aload_n S.1 S.2.1 dX5_reachesByParents_21 rfl (lv_at hl 2 rfl) ?_
          refine cd_get5 (v := .ref (G.2.2.2.2 + (q + 1))) S hK hZ hq 1 cd_f_X5_15 rfl dX5_reachesByParents_22 ?_
          refine lv_iload_n S.1 S.2.1 dX5_reachesByParents_25 rfl (lv_at hl 1 rfl) ?_
          obtain ⟨z4, E⟩ := cd_ckE E
          refine cd_iald S hK hZ (cd_r5_1 hq) z4 dX5_reachesByParents_26 ?_
          obtain ⟨x5, ex5, E⟩ := cd_nmE E
          refine cd_topi ex5 ?_
          refine lv_istore_n (lv' := [(3, .int x5), (4, .int v5_4), (0, .ref (G.2.2.2.2 + q)), (1, .int a1), (2, .int a2)]) S.1 S.2.1 dX5_reachesByParents_27 rfl hl (by decide) rfl (fun ls hl => ?_)
          refine lv_iload_n S.1 S.2.1 dX5_reachesByParents_28 rfl (lv_at hl 0 rfl) ?_
          refine lv_iload_n S.1 S.2.1 dX5_reachesByParents_29 rfl (lv_at hl 4 rfl) ?_
          refine lv_icmp_ne (tgt := 35) S.1 S.2.1 dX5_reachesByParents_30 (by decide) (fun c6 => ?_) (fun c6 => ?_)
          · have E := cd_fE c6 E
            obtain ⟨x7, ex7, E⟩ := cd_nmE E
            refine lv_iinc (v := x7) (lv' := [(4, .int x7), (3, .int x5), (0, .ref (G.2.2.2.2 + q)), (1, .int a1), (2, .int a2)]) S.1 S.2.1 dX5_reachesByParents_35 hl (k := 1) rfl (by rw [ex7]; rfl) (by decide) rfl (fun ls hl => ?_)
            refine lv_goto (tgt := 5) S.1 S.2.1 dX5_reachesByParents_38 (by decide) ?_
            exact ih x5 x7 o H locs ls E hZ (lv_sub hl [0, 1, 2, 3, 4] rfl) hin hex
          · have E := cd_tE c6 E
            refine lv_iconst (v := 1) S.1 S.2.1 dX5_reachesByParents_33 (by decide) ?_
            cases E
            exact hret _ _ _ _ _ _ (by decide) (congrArg (fun z => (z, h)) (hin _ rfl)) hZ dX5_reachesByParents_34
  unfold f_X5_reachesByParents at E
  refine lv_iload_n S.1 S.2.1 dX5_reachesByParents_0 rfl (lv_at hl 1 rfl) ?_
  refine lv_istore_n (lv' := [(3, .int a1), (0, .ref (G.2.2.2.2 + q)), (1, .int a1), (2, .int a2)]) S.1 S.2.1 dX5_reachesByParents_1 rfl hl (by decide) rfl (fun ls hl => ?_)
  refine lv_iconst (v := 0) S.1 S.2.1 dX5_reachesByParents_2 (by decide) ?_
  refine lv_istore (lv' := [(4, .int 0), (3, .int a1), (0, .ref (G.2.2.2.2 + q)), (1, .int a1), (2, .int a2)]) S.1 S.2.1 dX5_reachesByParents_3 hl (by decide) rfl (fun ls hl => ?_)
  obtain ⟨o8, E1, EL, ER⟩ := cd_b2E E
  refine L5 cd_fu a1 0 o8 H locs ls E1 hZ (lv_sub hl [0, 1, 2, 3, 4] rfl) EL (fun st9 hst H locs ls hZ hl => ?_)
  have E := ER st9 hst
  refine lv_iconst (v := 0) S.1 S.2.1 dX5_reachesByParents_41 (by decide) ?_
  exact hret _ _ _ _ _ _ (by decide) (congrArg (fun z => (z, h)) (Option.some.inj E)) hZ dX5_reachesByParents_42
abbrev rm_X4_watchersOf : Room := { frames := 2, cells := 0, slots := 0, locals := 46 }
theorem cd_v_X4_watchersOf : cd_V yX4_watchersOf cX4_watchersOf 7 (some .int) 1 := ⟨cd_i_X4_watchersOf, cd_e_X4_X4_watchersOf, cd_n_X4, cd_c_X4_watchersOf, by decide +kernel⟩
set_option maxHeartbeats 4000000 in
set_option maxRecDepth 100000 in
theorem c_X4_watchersOf (l : Launch) (G : cd_G) (q : Nat) (a1 : Int32) (hq : cd_is 4 q) (h : cd_Hp) (out : Int32) (E : f_X4_watchersOf q a1 h = some out) : cd_Mi l G yX4_watchersOf (Cond.code yX4_watchersOf cX4_watchersOf 7 (some .int) :: cd_T) rm_X4_watchersOf [.ref (G.2.2.2.2 + q), .int a1] h (out, h) := by
  refine cd_ini (by decide) (Nat.le_of_ble_eq_true rfl) ?_
  intro p e s m args below meth c Q ls H locs S hK hZ hl hret
  have hl : lv_has ls 7 [(0, .ref (G.2.2.2.2 + q)), (1, .int a1)] := hl
  have L4 : ∀ (n : Nat) (v4_2 : Int32) (v4_3 : Int32) (o : (Int32 × Int32)) (H : Heap) (locs : List Loc) (ls : Array Slot), cd_lp (f_X4_watchersOf_B4 q a1 h) n (v4_2, v4_3) = some o → cd_Z G h s.heap H locs → lv_has ls 7 [(3, .int v4_3), (2, .int v4_2), (0, .ref (G.2.2.2.2 + q)), (1, .int a1)] → (∀ (H : Heap) (locs : List Loc) (ls : Array Slot), cd_Z G h s.heap H locs → lv_has ls 7 [(3, .int o.2), (2, .int o.1), (0, .ref (G.2.2.2.2 + q)), (1, .int a1)] → W p l e rm_X4_watchersOf s m args below meth c H locs 0 0 Q (F0 m 97 ls [])) → W p l e rm_X4_watchersOf s m args below meth c H locs 0 0 Q (F0 m 4 ls []) := by
    intro n
    induction n with
    | zero => intro v4_2 v4_3 o H locs ls E; exact nomatch (show (none : Option (Int32 × Int32)) = some o from E)
    | succ n ih =>
      intro v4_2 v4_3 o H locs ls E hZ hl hex
      have E : f_X4_watchersOf_B4 q a1 h (cd_lp (f_X4_watchersOf_B4 q a1 h) n) (v4_2, v4_3) = some o := E
      unfold f_X4_watchersOf_B4 at E
      dsimp only at E
      refine lv_iload_n S.1 S.2.1 dX4_watchersOf_4 rfl (lv_at hl 0 rfl) ?_
      refine lv_aload_n S.1 S.2.1 dX4_watchersOf_5 rfl (lv_at hl 2 rfl) ?_
      refine cd_get4 (v := .int (cd_g h q 3)) S hK hZ hq 3 cd_f_X4_53 rfl dX4_watchersOf_6 ?_
      refine lv_icmp_ge (tgt := 97) S.1 S.2.1 dX4_watchersOf_9 (by decide) (fun c1 => ?_) (fun c1 => ?_)
      · have E := cd_tE c1 E
        cases E
        exact hex H locs ls hZ (lv_sub hl [0, 1, 2, 3] rfl)
      · have E := cd_fE c1 E
        refine lv_aload_n S.1 S.2.1 dX4_watchersOf_12 rfl (lv_at hl 2 rfl) ?_
        refine cd_get4 (v := .ref (G.2.2.2.2 + (q + 6))) S hK hZ hq 7 cd_f_X4_31 rfl dX4_watchersOf_13 ?_
        refine lv_iload_n S.1 S.2.1 dX4_watchersOf_16 rfl (lv_at hl 0 rfl) ?_
        obtain ⟨z2, E⟩ := cd_ckE E
        refine cd_aald9 S hK hZ (cd_r4_7 hq) z2 dX4_watchersOf_17 ?_
        refine lv_astore (lv' := [(4, .ref (G.2.2.2.2 + ((q + 6) + 8 + 7 * (v4_3.toNatClampNeg)))), (3, .int v4_3), (2, .int v4_2), (0, .ref (G.2.2.2.2 + q)), (1, .int a1)]) S.1 S.2.1 dX4_watchersOf_18 hl (by decide) rfl (fun ls hl => ?_)
        refine lv_aload S.1 S.2.1 dX4_watchersOf_20 (lv_at hl 0 rfl) ?_
        refine cd_get0 (v := .int (cd_g h ((q + 6) + 8 + 7 * (v4_3.toNatClampNeg)) 0)) S hK hZ (cd_r9 (cd_r4_7 hq) z2) 0 cd_f_X4_147 rfl dX4_watchersOf_22 ?_
        refine lv_iload_n S.1 S.2.1 dX4_watchersOf_25 rfl (lv_at hl 4 rfl) ?_
        refine lv_icmp_ne (tgt := 33) S.1 S.2.1 dX4_watchersOf_26 (by decide) (fun c3 => ?_) (fun c3 => ?_)
        · have E := cd_fE c3 E
          refine lv_iconst (v := 0) S.1 S.2.1 dX4_watchersOf_33 (by decide) ?_
          refine lv_istore (lv' := [(5, .int 0), (4, .ref (G.2.2.2.2 + ((q + 6) + 8 + 7 * (v4_3.toNatClampNeg)))), (3, .int v4_3), (2, .int v4_2), (0, .ref (G.2.2.2.2 + q)), (1, .int a1)]) S.1 S.2.1 dX4_watchersOf_34 hl (by decide) rfl (fun ls hl => ?_)
          refine lv_aload S.1 S.2.1 dX4_watchersOf_36 (lv_at hl 1 rfl) ?_
          refine cd_get0 (v := .int (cd_g h ((q + 6) + 8 + 7 * (v4_3.toNatClampNeg)) 3)) S hK hZ (cd_r9 (cd_r4_7 hq) z2) 3 cd_f_X4_150 rfl dX4_watchersOf_38 ?_
          refine lv_if_eq (tgt := 64) S.1 S.2.1 dX4_watchersOf_41 (by decide) (fun c4 => ?_) (fun c4 => ?_)
          · have E := cd_tE c4 E
            refine lv_iconst (v := 0) S.1 S.2.1 dX4_watchersOf_64 (by decide) ?_
            refine lv_istore (lv' := [(6, .int 0), (5, .int 0), (4, .ref (G.2.2.2.2 + ((q + 6) + 8 + 7 * (v4_3.toNatClampNeg)))), (3, .int v4_3), (2, .int v4_2), (0, .ref (G.2.2.2.2 + q)), (1, .int a1)]) S.1 S.2.1 dX4_watchersOf_65 hl (by decide) rfl (fun ls hl => ?_)
            refine lv_aload S.1 S.2.1 dX4_watchersOf_67 (lv_at hl 2 rfl) ?_
            refine cd_get0 (v := .int (cd_g h ((q + 6) + 8 + 7 * (v4_3.toNatClampNeg)) 4)) S hK hZ (cd_r9 (cd_r4_7 hq) z2) 4 cd_f_X4_117 rfl dX4_watchersOf_69 ?_
            refine lv_if_eq (tgt := 91) S.1 S.2.1 dX4_watchersOf_72 (by decide) (fun c5 => ?_) (fun c5 => ?_)
            · have E := cd_tE c5 E
              obtain ⟨x6, ex6, E⟩ := cd_nmE E
              refine lv_iinc (v := x6) (lv' := [(3, .int x6), (6, .int 0), (5, .int 0), (4, .ref (G.2.2.2.2 + ((q + 6) + 8 + 7 * (v4_3.toNatClampNeg)))), (2, .int v4_2), (0, .ref (G.2.2.2.2 + q)), (1, .int a1)]) S.1 S.2.1 dX4_watchersOf_91 hl (k := 3) rfl (by rw [ex6]; rfl) (by decide) rfl (fun ls hl => ?_)
              refine lv_goto (tgt := 4) S.1 S.2.1 dX4_watchersOf_94 (by decide) ?_
              exact ih v4_2 x6 o H locs ls E hZ (lv_sub hl [0, 4, 5, 6] rfl) hex
            · have E := cd_fE c5 E
              refine lv_iload S.1 S.2.1 dX4_watchersOf_75 (lv_at hl 1 rfl) ?_
              refine lv_if_ne (tgt := 85) S.1 S.2.1 dX4_watchersOf_77 (by decide) (fun c7 => ?_) (fun c7 => ?_)
              · exact absurd c7 (by decide)
              · have _ := c7
                refine lv_iload S.1 S.2.1 dX4_watchersOf_80 (lv_at hl 0 rfl) ?_
                refine lv_if_eq (tgt := 91) S.1 S.2.1 dX4_watchersOf_82 (by decide) (fun c8 => ?_) (fun c8 => ?_)
                · have _ := c8
                  obtain ⟨x9, ex9, E⟩ := cd_nmE E
                  refine lv_iinc (v := x9) (lv' := [(3, .int x9), (6, .int 0), (5, .int 0), (4, .ref (G.2.2.2.2 + ((q + 6) + 8 + 7 * (v4_3.toNatClampNeg)))), (2, .int v4_2), (0, .ref (G.2.2.2.2 + q)), (1, .int a1)]) S.1 S.2.1 dX4_watchersOf_91 hl (k := 3) rfl (by rw [ex9]; rfl) (by decide) rfl (fun ls hl => ?_)
                  refine lv_goto (tgt := 4) S.1 S.2.1 dX4_watchersOf_94 (by decide) ?_
                  exact ih v4_2 x9 o H locs ls E hZ (lv_sub hl [0, 4, 5, 6] rfl) hex
                · exact absurd c8 (by decide)
          · have E := cd_fE c4 E
            refine lv_aload_n S.1 S.2.1 dX4_watchersOf_44 rfl (lv_at hl 4 rfl) ?_
            refine cd_get4 (v := .ref (G.2.2.2.2 + (q + 2))) S hK hZ hq 6 cd_f_X4_25 rfl dX4_watchersOf_45 ?_
            refine lv_iload_n S.1 S.2.1 dX4_watchersOf_48 rfl (lv_at hl 5 rfl) ?_
            refine lv_aload S.1 S.2.1 dX4_watchersOf_49 (lv_at hl 1 rfl) ?_
            refine cd_get0 (v := .int (cd_g h ((q + 6) + 8 + 7 * (v4_3.toNatClampNeg)) 0)) S hK hZ (cd_r9 (cd_r4_7 hq) z2) 0 cd_f_X4_147 rfl dX4_watchersOf_51 ?_
            obtain ⟨o10, E1, E⟩ := cd_bE E
            refine cd_cVz (As := [.int a1, .int (cd_g h ((q + 6) + 8 + 7 * (v4_3.toNatClampNeg)) 0)]) S hK hZ hl.1 (c_X5_reachesByParents l G (q + 2) a1 (cd_g h ((q + 6) + 8 + 7 * (v4_3.toNatClampNeg)) 0) (cd_r4_6 hq) h o10 E1) cd_v_X5_reachesByParents cd_m_X4_153 ⟨Nat.le_of_ble_eq_true rfl, Nat.le_of_ble_eq_true rfl⟩ ⟨rfl, rfl⟩ (ci := 5) (by decide) rfl (cd_r4_6 hq) rfl rfl (Nat.le_of_ble_eq_true rfl) ⟨Nat.zero_le _, Nat.zero_le _⟩ dX4_watchersOf_54 (fun H locs hZ b11 => ?_)
            refine lv_if_eq (tgt := 64) S.1 S.2.1 dX4_watchersOf_57 (by decide) (fun c12 => ?_) (fun c12 => ?_)
            · have E := cd_tE c12 E
              refine lv_iconst (v := 0) S.1 S.2.1 dX4_watchersOf_64 (by decide) ?_
              refine lv_istore (lv' := [(6, .int 0), (5, .int 0), (4, .ref (G.2.2.2.2 + ((q + 6) + 8 + 7 * (v4_3.toNatClampNeg)))), (3, .int v4_3), (2, .int v4_2), (0, .ref (G.2.2.2.2 + q)), (1, .int a1)]) S.1 S.2.1 dX4_watchersOf_65 hl (by decide) rfl (fun ls hl => ?_)
              refine lv_aload S.1 S.2.1 dX4_watchersOf_67 (lv_at hl 2 rfl) ?_
              refine cd_get0 (v := .int (cd_g h ((q + 6) + 8 + 7 * (v4_3.toNatClampNeg)) 4)) S hK hZ (cd_r9 (cd_r4_7 hq) z2) 4 cd_f_X4_117 rfl dX4_watchersOf_69 ?_
              refine lv_if_eq (tgt := 91) S.1 S.2.1 dX4_watchersOf_72 (by decide) (fun c13 => ?_) (fun c13 => ?_)
              · have E := cd_tE c13 E
                obtain ⟨x14, ex14, E⟩ := cd_nmE E
                refine lv_iinc (v := x14) (lv' := [(3, .int x14), (6, .int 0), (5, .int 0), (4, .ref (G.2.2.2.2 + ((q + 6) + 8 + 7 * (v4_3.toNatClampNeg)))), (2, .int v4_2), (0, .ref (G.2.2.2.2 + q)), (1, .int a1)]) S.1 S.2.1 dX4_watchersOf_91 hl (k := 3) rfl (by rw [ex14]; rfl) (by decide) rfl (fun ls hl => ?_)
                refine lv_goto (tgt := 4) S.1 S.2.1 dX4_watchersOf_94 (by decide) ?_
                exact ih v4_2 x14 o H locs ls E hZ (lv_sub hl [0, 4, 5, 6] rfl) hex
              · have E := cd_fE c13 E
                refine lv_iload S.1 S.2.1 dX4_watchersOf_75 (lv_at hl 1 rfl) ?_
                refine lv_if_ne (tgt := 85) S.1 S.2.1 dX4_watchersOf_77 (by decide) (fun c15 => ?_) (fun c15 => ?_)
                · exact absurd c15 (by decide)
                · have _ := c15
                  refine lv_iload S.1 S.2.1 dX4_watchersOf_80 (lv_at hl 0 rfl) ?_
                  refine lv_if_eq (tgt := 91) S.1 S.2.1 dX4_watchersOf_82 (by decide) (fun c16 => ?_) (fun c16 => ?_)
                  · have _ := c16
                    obtain ⟨x17, ex17, E⟩ := cd_nmE E
                    refine lv_iinc (v := x17) (lv' := [(3, .int x17), (6, .int 0), (5, .int 0), (4, .ref (G.2.2.2.2 + ((q + 6) + 8 + 7 * (v4_3.toNatClampNeg)))), (2, .int v4_2), (0, .ref (G.2.2.2.2 + q)), (1, .int a1)]) S.1 S.2.1 dX4_watchersOf_91 hl (k := 3) rfl (by rw [ex17]; rfl) (by decide) rfl (fun ls hl => ?_)
                    refine lv_goto (tgt := 4) S.1 S.2.1 dX4_watchersOf_94 (by decide) ?_
                    exact ih v4_2 x17 o H locs ls E hZ (lv_sub hl [0, 4, 5, 6] rfl) hex
                  · exact absurd c16 (by decide)
            · have E := cd_fE c12 E
              refine lv_iconst (v := 1) S.1 S.2.1 dX4_watchersOf_60 (by decide) ?_
              refine lv_goto (tgt := 65) S.1 S.2.1 dX4_watchersOf_61 (by decide) ?_
              refine lv_istore (lv' := [(6, .int 1), (5, .int 0), (4, .ref (G.2.2.2.2 + ((q + 6) + 8 + 7 * (v4_3.toNatClampNeg)))), (3, .int v4_3), (2, .int v4_2), (0, .ref (G.2.2.2.2 + q)), (1, .int a1)]) S.1 S.2.1 dX4_watchersOf_65 hl (by decide) rfl (fun ls hl => ?_)
              refine lv_aload S.1 S.2.1 dX4_watchersOf_67 (lv_at hl 2 rfl) ?_
              refine cd_get0 (v := .int (cd_g h ((q + 6) + 8 + 7 * (v4_3.toNatClampNeg)) 4)) S hK hZ (cd_r9 (cd_r4_7 hq) z2) 4 cd_f_X4_117 rfl dX4_watchersOf_69 ?_
              refine lv_if_eq (tgt := 91) S.1 S.2.1 dX4_watchersOf_72 (by decide) (fun c18 => ?_) (fun c18 => ?_)
              · have E := cd_tE c18 E
                obtain ⟨x19, ex19, E⟩ := cd_nmE E
                refine lv_iinc (v := x19) (lv' := [(3, .int x19), (6, .int 1), (5, .int 0), (4, .ref (G.2.2.2.2 + ((q + 6) + 8 + 7 * (v4_3.toNatClampNeg)))), (2, .int v4_2), (0, .ref (G.2.2.2.2 + q)), (1, .int a1)]) S.1 S.2.1 dX4_watchersOf_91 hl (k := 3) rfl (by rw [ex19]; rfl) (by decide) rfl (fun ls hl => ?_)
                refine lv_goto (tgt := 4) S.1 S.2.1 dX4_watchersOf_94 (by decide) ?_
                exact ih v4_2 x19 o H locs ls E hZ (lv_sub hl [0, 4, 5, 6] rfl) hex
              · have E := cd_fE c18 E
                refine lv_iload S.1 S.2.1 dX4_watchersOf_75 (lv_at hl 1 rfl) ?_
                refine lv_if_ne (tgt := 85) S.1 S.2.1 dX4_watchersOf_77 (by decide) (fun c20 => ?_) (fun c20 => ?_)
                · exact absurd c20 (by decide)
                · have _ := c20
                  refine lv_iload S.1 S.2.1 dX4_watchersOf_80 (lv_at hl 0 rfl) ?_
                  refine lv_if_eq (tgt := 91) S.1 S.2.1 dX4_watchersOf_82 (by decide) (fun c21 => ?_) (fun c21 => ?_)
                  · exact absurd c21 (by decide)
                  · have _ := c21
                    refine lv_iload_n S.1 S.2.1 dX4_watchersOf_85 rfl (lv_at hl 4 rfl) ?_
                    refine lv_iconst (v := 1) S.1 S.2.1 dX4_watchersOf_86 (by decide) ?_
                    refine lv_iload_n S.1 S.2.1 dX4_watchersOf_87 rfl (lv_at hl 3 rfl) ?_
                    refine lv_ishl S.1 S.2.1 dX4_watchersOf_88 ?_
                    refine lv_ior S.1 S.2.1 dX4_watchersOf_89 ?_
                    obtain ⟨x22, ex22, E⟩ := cd_nmE E
                    refine cd_topi ex22 ?_
                    refine lv_istore_n (lv' := [(2, .int x22), (6, .int 1), (5, .int 0), (4, .ref (G.2.2.2.2 + ((q + 6) + 8 + 7 * (v4_3.toNatClampNeg)))), (3, .int v4_3), (0, .ref (G.2.2.2.2 + q)), (1, .int a1)]) S.1 S.2.1 dX4_watchersOf_90 rfl hl (by decide) rfl (fun ls hl => ?_)
                    obtain ⟨x23, ex23, E⟩ := cd_nmE E
                    refine lv_iinc (v := x23) (lv' := [(3, .int x23), (2, .int x22), (6, .int 1), (5, .int 0), (4, .ref (G.2.2.2.2 + ((q + 6) + 8 + 7 * (v4_3.toNatClampNeg)))), (0, .ref (G.2.2.2.2 + q)), (1, .int a1)]) S.1 S.2.1 dX4_watchersOf_91 hl (k := 4) rfl (by rw [ex23]; rfl) (by decide) rfl (fun ls hl => ?_)
                    refine lv_goto (tgt := 4) S.1 S.2.1 dX4_watchersOf_94 (by decide) ?_
                    exact ih x22 x23 o H locs ls E hZ (lv_sub hl [0, 1, 5, 6] rfl) hex
        · have E := cd_tE c3 E
          refine lv_iconst (v := 1) S.1 S.2.1 dX4_watchersOf_29 (by decide) ?_
          refine lv_goto (tgt := 34) S.1 S.2.1 dX4_watchersOf_30 (by decide) ?_
          refine lv_istore (lv' := [(5, .int 1), (4, .ref (G.2.2.2.2 + ((q + 6) + 8 + 7 * (v4_3.toNatClampNeg)))), (3, .int v4_3), (2, .int v4_2), (0, .ref (G.2.2.2.2 + q)), (1, .int a1)]) S.1 S.2.1 dX4_watchersOf_34 hl (by decide) rfl (fun ls hl => ?_)
          refine lv_aload S.1 S.2.1 dX4_watchersOf_36 (lv_at hl 1 rfl) ?_
          refine cd_get0 (v := .int (cd_g h ((q + 6) + 8 + 7 * (v4_3.toNatClampNeg)) 3)) S hK hZ (cd_r9 (cd_r4_7 hq) z2) 3 cd_f_X4_150 rfl dX4_watchersOf_38 ?_
          refine lv_if_eq (tgt := 64) S.1 S.2.1 dX4_watchersOf_41 (by decide) (fun c24 => ?_) (fun c24 => ?_)
          · have E := cd_tE c24 E
            refine lv_iconst (v := 0) S.1 S.2.1 dX4_watchersOf_64 (by decide) ?_
            refine lv_istore (lv' := [(6, .int 0), (5, .int 1), (4, .ref (G.2.2.2.2 + ((q + 6) + 8 + 7 * (v4_3.toNatClampNeg)))), (3, .int v4_3), (2, .int v4_2), (0, .ref (G.2.2.2.2 + q)), (1, .int a1)]) S.1 S.2.1 dX4_watchersOf_65 hl (by decide) rfl (fun ls hl => ?_)
            refine lv_aload S.1 S.2.1 dX4_watchersOf_67 (lv_at hl 2 rfl) ?_
            refine cd_get0 (v := .int (cd_g h ((q + 6) + 8 + 7 * (v4_3.toNatClampNeg)) 4)) S hK hZ (cd_r9 (cd_r4_7 hq) z2) 4 cd_f_X4_117 rfl dX4_watchersOf_69 ?_
            refine lv_if_eq (tgt := 91) S.1 S.2.1 dX4_watchersOf_72 (by decide) (fun c25 => ?_) (fun c25 => ?_)
            · have E := cd_tE c25 E
              obtain ⟨x26, ex26, E⟩ := cd_nmE E
              refine lv_iinc (v := x26) (lv' := [(3, .int x26), (6, .int 0), (5, .int 1), (4, .ref (G.2.2.2.2 + ((q + 6) + 8 + 7 * (v4_3.toNatClampNeg)))), (2, .int v4_2), (0, .ref (G.2.2.2.2 + q)), (1, .int a1)]) S.1 S.2.1 dX4_watchersOf_91 hl (k := 3) rfl (by rw [ex26]; rfl) (by decide) rfl (fun ls hl => ?_)
              refine lv_goto (tgt := 4) S.1 S.2.1 dX4_watchersOf_94 (by decide) ?_
              exact ih v4_2 x26 o H locs ls E hZ (lv_sub hl [0, 4, 5, 6] rfl) hex
            · have E := cd_fE c25 E
              refine lv_iload S.1 S.2.1 dX4_watchersOf_75 (lv_at hl 1 rfl) ?_
              refine lv_if_ne (tgt := 85) S.1 S.2.1 dX4_watchersOf_77 (by decide) (fun c27 => ?_) (fun c27 => ?_)
              · have _ := c27
                refine lv_iload_n S.1 S.2.1 dX4_watchersOf_85 rfl (lv_at hl 4 rfl) ?_
                refine lv_iconst (v := 1) S.1 S.2.1 dX4_watchersOf_86 (by decide) ?_
                refine lv_iload_n S.1 S.2.1 dX4_watchersOf_87 rfl (lv_at hl 3 rfl) ?_
                refine lv_ishl S.1 S.2.1 dX4_watchersOf_88 ?_
                refine lv_ior S.1 S.2.1 dX4_watchersOf_89 ?_
                obtain ⟨x28, ex28, E⟩ := cd_nmE E
                refine cd_topi ex28 ?_
                refine lv_istore_n (lv' := [(2, .int x28), (6, .int 0), (5, .int 1), (4, .ref (G.2.2.2.2 + ((q + 6) + 8 + 7 * (v4_3.toNatClampNeg)))), (3, .int v4_3), (0, .ref (G.2.2.2.2 + q)), (1, .int a1)]) S.1 S.2.1 dX4_watchersOf_90 rfl hl (by decide) rfl (fun ls hl => ?_)
                obtain ⟨x29, ex29, E⟩ := cd_nmE E
                refine lv_iinc (v := x29) (lv' := [(3, .int x29), (2, .int x28), (6, .int 0), (5, .int 1), (4, .ref (G.2.2.2.2 + ((q + 6) + 8 + 7 * (v4_3.toNatClampNeg)))), (0, .ref (G.2.2.2.2 + q)), (1, .int a1)]) S.1 S.2.1 dX4_watchersOf_91 hl (k := 4) rfl (by rw [ex29]; rfl) (by decide) rfl (fun ls hl => ?_)
                refine lv_goto (tgt := 4) S.1 S.2.1 dX4_watchersOf_94 (by decide) ?_
                exact ih x28 x29 o H locs ls E hZ (lv_sub hl [0, 1, 5, 6] rfl) hex
              · exact absurd c27 (by decide)
          · have E := cd_fE c24 E
            refine lv_aload_n S.1 S.2.1 dX4_watchersOf_44 rfl (lv_at hl 4 rfl) ?_
            refine cd_get4 (v := .ref (G.2.2.2.2 + (q + 2))) S hK hZ hq 6 cd_f_X4_25 rfl dX4_watchersOf_45 ?_
            refine lv_iload_n S.1 S.2.1 dX4_watchersOf_48 rfl (lv_at hl 5 rfl) ?_
            refine lv_aload S.1 S.2.1 dX4_watchersOf_49 (lv_at hl 1 rfl) ?_
            refine cd_get0 (v := .int (cd_g h ((q + 6) + 8 + 7 * (v4_3.toNatClampNeg)) 0)) S hK hZ (cd_r9 (cd_r4_7 hq) z2) 0 cd_f_X4_147 rfl dX4_watchersOf_51 ?_
            obtain ⟨o30, E1, E⟩ := cd_bE E
            refine cd_cVz (As := [.int a1, .int (cd_g h ((q + 6) + 8 + 7 * (v4_3.toNatClampNeg)) 0)]) S hK hZ hl.1 (c_X5_reachesByParents l G (q + 2) a1 (cd_g h ((q + 6) + 8 + 7 * (v4_3.toNatClampNeg)) 0) (cd_r4_6 hq) h o30 E1) cd_v_X5_reachesByParents cd_m_X4_153 ⟨Nat.le_of_ble_eq_true rfl, Nat.le_of_ble_eq_true rfl⟩ ⟨rfl, rfl⟩ (ci := 5) (by decide) rfl (cd_r4_6 hq) rfl rfl (Nat.le_of_ble_eq_true rfl) ⟨Nat.zero_le _, Nat.zero_le _⟩ dX4_watchersOf_54 (fun H locs hZ b31 => ?_)
            refine lv_if_eq (tgt := 64) S.1 S.2.1 dX4_watchersOf_57 (by decide) (fun c32 => ?_) (fun c32 => ?_)
            · have E := cd_tE c32 E
              refine lv_iconst (v := 0) S.1 S.2.1 dX4_watchersOf_64 (by decide) ?_
              refine lv_istore (lv' := [(6, .int 0), (5, .int 1), (4, .ref (G.2.2.2.2 + ((q + 6) + 8 + 7 * (v4_3.toNatClampNeg)))), (3, .int v4_3), (2, .int v4_2), (0, .ref (G.2.2.2.2 + q)), (1, .int a1)]) S.1 S.2.1 dX4_watchersOf_65 hl (by decide) rfl (fun ls hl => ?_)
              refine lv_aload S.1 S.2.1 dX4_watchersOf_67 (lv_at hl 2 rfl) ?_
              refine cd_get0 (v := .int (cd_g h ((q + 6) + 8 + 7 * (v4_3.toNatClampNeg)) 4)) S hK hZ (cd_r9 (cd_r4_7 hq) z2) 4 cd_f_X4_117 rfl dX4_watchersOf_69 ?_
              refine lv_if_eq (tgt := 91) S.1 S.2.1 dX4_watchersOf_72 (by decide) (fun c33 => ?_) (fun c33 => ?_)
              · have E := cd_tE c33 E
                obtain ⟨x34, ex34, E⟩ := cd_nmE E
                refine lv_iinc (v := x34) (lv' := [(3, .int x34), (6, .int 0), (5, .int 1), (4, .ref (G.2.2.2.2 + ((q + 6) + 8 + 7 * (v4_3.toNatClampNeg)))), (2, .int v4_2), (0, .ref (G.2.2.2.2 + q)), (1, .int a1)]) S.1 S.2.1 dX4_watchersOf_91 hl (k := 3) rfl (by rw [ex34]; rfl) (by decide) rfl (fun ls hl => ?_)
                refine lv_goto (tgt := 4) S.1 S.2.1 dX4_watchersOf_94 (by decide) ?_
                exact ih v4_2 x34 o H locs ls E hZ (lv_sub hl [0, 4, 5, 6] rfl) hex
              · have E := cd_fE c33 E
                refine lv_iload S.1 S.2.1 dX4_watchersOf_75 (lv_at hl 1 rfl) ?_
                refine lv_if_ne (tgt := 85) S.1 S.2.1 dX4_watchersOf_77 (by decide) (fun c35 => ?_) (fun c35 => ?_)
                · have _ := c35
                  refine lv_iload_n S.1 S.2.1 dX4_watchersOf_85 rfl (lv_at hl 4 rfl) ?_
                  refine lv_iconst (v := 1) S.1 S.2.1 dX4_watchersOf_86 (by decide) ?_
                  refine lv_iload_n S.1 S.2.1 dX4_watchersOf_87 rfl (lv_at hl 3 rfl) ?_
                  refine lv_ishl S.1 S.2.1 dX4_watchersOf_88 ?_
                  refine lv_ior S.1 S.2.1 dX4_watchersOf_89 ?_
                  obtain ⟨x36, ex36, E⟩ := cd_nmE E
                  refine cd_topi ex36 ?_
                  refine lv_istore_n (lv' := [(2, .int x36), (6, .int 0), (5, .int 1), (4, .ref (G.2.2.2.2 + ((q + 6) + 8 + 7 * (v4_3.toNatClampNeg)))), (3, .int v4_3), (0, .ref (G.2.2.2.2 + q)), (1, .int a1)]) S.1 S.2.1 dX4_watchersOf_90 rfl hl (by decide) rfl (fun ls hl => ?_)
                  obtain ⟨x37, ex37, E⟩ := cd_nmE E
                  refine lv_iinc (v := x37) (lv' := [(3, .int x37), (2, .int x36), (6, .int 0), (5, .int 1), (4, .ref (G.2.2.2.2 + ((q + 6) + 8 + 7 * (v4_3.toNatClampNeg)))), (0, .ref (G.2.2.2.2 + q)), (1, .int a1)]) S.1 S.2.1 dX4_watchersOf_91 hl (k := 4) rfl (by rw [ex37]; rfl) (by decide) rfl (fun ls hl => ?_)
                  refine lv_goto (tgt := 4) S.1 S.2.1 dX4_watchersOf_94 (by decide) ?_
                  exact ih x36 x37 o H locs ls E hZ (lv_sub hl [0, 1, 5, 6] rfl) hex
                · exact absurd c35 (by decide)
            · have E := cd_fE c32 E
              refine lv_iconst (v := 1) S.1 S.2.1 dX4_watchersOf_60 (by decide) ?_
              refine lv_goto (tgt := 65) S.1 S.2.1 dX4_watchersOf_61 (by decide) ?_
              refine lv_istore (lv' := [(6, .int 1), (5, .int 1), (4, .ref (G.2.2.2.2 + ((q + 6) + 8 + 7 * (v4_3.toNatClampNeg)))), (3, .int v4_3), (2, .int v4_2), (0, .ref (G.2.2.2.2 + q)), (1, .int a1)]) S.1 S.2.1 dX4_watchersOf_65 hl (by decide) rfl (fun ls hl => ?_)
              refine lv_aload S.1 S.2.1 dX4_watchersOf_67 (lv_at hl 2 rfl) ?_
              refine cd_get0 (v := .int (cd_g h ((q + 6) + 8 + 7 * (v4_3.toNatClampNeg)) 4)) S hK hZ (cd_r9 (cd_r4_7 hq) z2) 4 cd_f_X4_117 rfl dX4_watchersOf_69 ?_
              refine lv_if_eq (tgt := 91) S.1 S.2.1 dX4_watchersOf_72 (by decide) (fun c38 => ?_) (fun c38 => ?_)
              · have E := cd_tE c38 E
                obtain ⟨x39, ex39, E⟩ := cd_nmE E
                refine lv_iinc (v := x39) (lv' := [(3, .int x39), (6, .int 1), (5, .int 1), (4, .ref (G.2.2.2.2 + ((q + 6) + 8 + 7 * (v4_3.toNatClampNeg)))), (2, .int v4_2), (0, .ref (G.2.2.2.2 + q)), (1, .int a1)]) S.1 S.2.1 dX4_watchersOf_91 hl (k := 3) rfl (by rw [ex39]; rfl) (by decide) rfl (fun ls hl => ?_)
                refine lv_goto (tgt := 4) S.1 S.2.1 dX4_watchersOf_94 (by decide) ?_
                exact ih v4_2 x39 o H locs ls E hZ (lv_sub hl [0, 4, 5, 6] rfl) hex
              · have E := cd_fE c38 E
                refine lv_iload S.1 S.2.1 dX4_watchersOf_75 (lv_at hl 1 rfl) ?_
                refine lv_if_ne (tgt := 85) S.1 S.2.1 dX4_watchersOf_77 (by decide) (fun c40 => ?_) (fun c40 => ?_)
                · have _ := c40
                  refine lv_iload_n S.1 S.2.1 dX4_watchersOf_85 rfl (lv_at hl 4 rfl) ?_
                  refine lv_iconst (v := 1) S.1 S.2.1 dX4_watchersOf_86 (by decide) ?_
                  refine lv_iload_n S.1 S.2.1 dX4_watchersOf_87 rfl (lv_at hl 3 rfl) ?_
                  refine lv_ishl S.1 S.2.1 dX4_watchersOf_88 ?_
                  refine lv_ior S.1 S.2.1 dX4_watchersOf_89 ?_
                  obtain ⟨x41, ex41, E⟩ := cd_nmE E
                  refine cd_topi ex41 ?_
                  refine lv_istore_n (lv' := [(2, .int x41), (6, .int 1), (5, .int 1), (4, .ref (G.2.2.2.2 + ((q + 6) + 8 + 7 * (v4_3.toNatClampNeg)))), (3, .int v4_3), (0, .ref (G.2.2.2.2 + q)), (1, .int a1)]) S.1 S.2.1 dX4_watchersOf_90 rfl hl (by decide) rfl (fun ls hl => ?_)
                  obtain ⟨x42, ex42, E⟩ := cd_nmE E
                  refine lv_iinc (v := x42) (lv' := [(3, .int x42), (2, .int x41), (6, .int 1), (5, .int 1), (4, .ref (G.2.2.2.2 + ((q + 6) + 8 + 7 * (v4_3.toNatClampNeg)))), (0, .ref (G.2.2.2.2 + q)), (1, .int a1)]) S.1 S.2.1 dX4_watchersOf_91 hl (k := 4) rfl (by rw [ex42]; rfl) (by decide) rfl (fun ls hl => ?_)
                  refine lv_goto (tgt := 4) S.1 S.2.1 dX4_watchersOf_94 (by decide) ?_
                  exact ih x41 x42 o H locs ls E hZ (lv_sub hl [0, 1, 5, 6] rfl) hex
                · exact absurd c40 (by decide)
  unfold f_X4_watchersOf at E
  refine lv_iconst (v := 0) S.1 S.2.1 dX4_watchersOf_0 (by decide) ?_
  refine lv_istore_n (lv' := [(2, .int 0), (0, .ref (G.2.2.2.2 + q)), (1, .int a1)]) S.1 S.2.1 dX4_watchersOf_1 rfl hl (by decide) rfl (fun ls hl => ?_)
  refine lv_iconst (v := 0) S.1 S.2.1 dX4_watchersOf_2 (by decide) ?_
  refine lv_istore_n (lv' := [(3, .int 0), (2, .int 0), (0, .ref (G.2.2.2.2 + q)), (1, .int a1)]) S.1 S.2.1 dX4_watchersOf_3 rfl hl (by decide) rfl (fun ls hl => ?_)
  obtain ⟨o43, E1, E⟩ := cd_bE E
  refine L4 cd_fu 0 0 o43 H locs ls E1 hZ (lv_sub hl [0, 1, 2, 3] rfl) (fun H locs ls hZ hl => ?_)
  refine lv_iload_n S.1 S.2.1 dX4_watchersOf_97 rfl (lv_at hl 1 rfl) ?_
  exact hret _ _ _ _ _ _ (congrArg (fun z => (z, h)) (Option.some.inj E)) hZ dX4_watchersOf_98
abbrev rm_X4_isIn : Room := { frames := 0, cells := 0, slots := 0, locals := 0 }
theorem cd_v_X4_isIn : cd_Vs yX4_isIn cX4_isIn 2 (some .boolean) 2 := ⟨cd_s_X4_isIn, cd_n_X4, cd_c_X4_isIn, by decide +kernel⟩
set_option maxHeartbeats 4000000 in
set_option maxRecDepth 100000 in
theorem c_X4_isIn (l : Launch) (G : cd_G) (a0 : Int32) (a1 : Int32) (h : cd_Hp) (out : Int32) (E : f_X4_isIn a0 a1 = out) : cd_Mz l G yX4_isIn (Cond.code yX4_isIn cX4_isIn 2 (some .boolean) :: cd_T) rm_X4_isIn [.int a0, .int a1] h (out, h) := by
  refine cd_inz (by decide) (Nat.le_of_ble_eq_true rfl) ?_
  intro p e s m args below meth c Q ls H locs S hK hZ hl hret
  have hl : lv_has ls 2 [(0, .int a0), (1, .int a1)] := hl
  unfold f_X4_isIn at E
  refine lv_iload_n S.1 S.2.1 dX4_isIn_0 rfl (lv_at hl 0 rfl) ?_
  refine lv_iconst (v := 1) S.1 S.2.1 dX4_isIn_1 (by decide) ?_
  refine lv_iload_n S.1 S.2.1 dX4_isIn_2 rfl (lv_at hl 1 rfl) ?_
  refine lv_ishl S.1 S.2.1 dX4_isIn_3 ?_
  refine lv_iand S.1 S.2.1 dX4_isIn_4 ?_
  refine lv_if_eq (tgt := 12) S.1 S.2.1 dX4_isIn_5 (by decide) (fun c1 => ?_) (fun c1 => ?_)
  · have E := cd_tE c1 E
    refine lv_iconst (v := 0) S.1 S.2.1 dX4_isIn_12 (by decide) ?_
    exact hret _ _ _ _ _ _ (by decide) (congrArg (fun z => (z, h)) (E)) hZ dX4_isIn_13
  · have E := cd_fE c1 E
    refine lv_iconst (v := 1) S.1 S.2.1 dX4_isIn_8 (by decide) ?_
    refine lv_goto (tgt := 13) S.1 S.2.1 dX4_isIn_9 (by decide) ?_
    exact hret _ _ _ _ _ _ (by decide) (congrArg (fun z => (z, h)) (E)) hZ dX4_isIn_13
abbrev rm_X4_showSeatsOf : Room := { frames := 0, cells := 0, slots := 0, locals := 0 }
theorem cd_v_X4_showSeatsOf : cd_V yX4_showSeatsOf cX4_showSeatsOf 5 (some .int) 2 := ⟨cd_i_X4_showSeatsOf, cd_e_X4_X4_showSeatsOf, cd_n_X4, cd_c_X4_showSeatsOf, by decide +kernel⟩
set_option maxHeartbeats 4000000 in
set_option maxRecDepth 100000 in
theorem c_X4_showSeatsOf (l : Launch) (G : cd_G) (q : Nat) (r1 : Nat) (a2 : Int32) (hq : cd_is 4 q) (hr1 : cd_is 0 r1) (h : cd_Hp) (out : (Int32 × cd_Hp)) (E : f_X4_showSeatsOf q r1 a2 h = some out) : cd_Mi l G yX4_showSeatsOf (Cond.code yX4_showSeatsOf cX4_showSeatsOf 5 (some .int) :: cd_T) rm_X4_showSeatsOf [.ref (G.2.2.2.2 + q), .ref (G.2.2.2.2 + r1), .int a2] h out := by
  refine cd_ini (by decide) (Nat.le_of_ble_eq_true rfl) ?_
  intro p e s m args below meth c Q ls H locs S hK hZ hl hret
  have hl : lv_has ls 5 [(0, .ref (G.2.2.2.2 + q)), (1, .ref (G.2.2.2.2 + r1)), (2, .int a2)] := hl
  have L5 : ∀ (n : Nat) (v5_3 : Int32) (v5_4 : Int32) (h5_ : cd_Hp) (o : (Int32 × Int32 × cd_Hp)) (H : Heap) (locs : List Loc) (ls : Array Slot), cd_lp (f_X4_showSeatsOf_B5 q r1 a2) n (v5_3, v5_4, h5_) = some o → cd_Z G h5_ s.heap H locs → lv_has ls 5 [(4, .int v5_4), (3, .int v5_3), (0, .ref (G.2.2.2.2 + q)), (1, .ref (G.2.2.2.2 + r1)), (2, .int a2)] → (∀ (H : Heap) (locs : List Loc) (ls : Array Slot), cd_Z G o.2.2 s.heap H locs → lv_has ls 5 [(4, .int o.2.1), (3, .int o.1), (0, .ref (G.2.2.2.2 + q)), (1, .ref (G.2.2.2.2 + r1)), (2, .int a2)] → W p l e rm_X4_showSeatsOf s m args below meth c H locs 0 0 Q (F0 m 44 ls [])) → W p l e rm_X4_showSeatsOf s m args below meth c H locs 0 0 Q (F0 m 5 ls []) := by
    intro n
    induction n with
    | zero => intro v5_3 v5_4 h5_ o H locs ls E; exact nomatch (show (none : Option (Int32 × Int32 × cd_Hp)) = some o from E)
    | succ n ih =>
      intro v5_3 v5_4 h5_ o H locs ls E hZ hl hex
      have E : f_X4_showSeatsOf_B5 q r1 a2 (cd_lp (f_X4_showSeatsOf_B5 q r1 a2) n) (v5_3, v5_4, h5_) = some o := E
      unfold f_X4_showSeatsOf_B5 at E
      dsimp only at E
      refine lv_iload S.1 S.2.1 dX4_showSeatsOf_5 (lv_at hl 0 rfl) ?_
      refine lv_aload_n S.1 S.2.1 dX4_showSeatsOf_7 rfl (lv_at hl 3 rfl) ?_
      refine cd_get0 (v := .int (cd_g h5_ r1 6)) S hK hZ hr1 6 cd_f_X4_188 rfl dX4_showSeatsOf_8 ?_
      refine lv_icmp_ge (tgt := 44) S.1 S.2.1 dX4_showSeatsOf_11 (by decide) (fun c1 => ?_) (fun c1 => ?_)
      · have E := cd_tE c1 E
        cases E
        exact hex H locs ls hZ (lv_sub hl [0, 1, 2, 3, 4] rfl)
      · have E := cd_fE c1 E
        refine lv_iload_n S.1 S.2.1 dX4_showSeatsOf_14 rfl (lv_at hl 1 rfl) ?_
        refine lv_iconst (v := 4) S.1 S.2.1 dX4_showSeatsOf_15 (by decide) ?_
        refine lv_icmp_ge (tgt := 44) S.1 S.2.1 dX4_showSeatsOf_16 (by decide) (fun c2 => ?_) (fun c2 => ?_)
        · have E := cd_tE c2 E
          cases E
          exact hex H locs ls hZ (lv_sub hl [0, 1, 2, 3, 4] rfl)
        · have E := cd_fE c2 E
          refine lv_aload_n S.1 S.2.1 dX4_showSeatsOf_19 rfl (lv_at hl 3 rfl) ?_
          refine cd_get0 (v := .ref (G.2.2.2.2 + (r1 + 3))) S hK hZ hr1 12 cd_f_X4_191 rfl dX4_showSeatsOf_20 ?_
          refine lv_iload S.1 S.2.1 dX4_showSeatsOf_23 (lv_at hl 0 rfl) ?_
          refine lv_aload_n S.1 S.2.1 dX4_showSeatsOf_25 rfl (lv_at hl 2 rfl) ?_
          refine cd_get4 (v := .ref (G.2.2.2.2 + 1)) S hK hZ hq 10 cd_f_X4_45 rfl dX4_showSeatsOf_26 ?_
          refine cd_get3 (v := .ref (G.2.2.2.2 + (1 + 2))) S hK hZ (cd_r4_10 hq) 3 cd_f_X4_194 rfl dX4_showSeatsOf_29 ?_
          refine lv_iload_n S.1 S.2.1 dX4_showSeatsOf_32 rfl (lv_at hl 1 rfl) ?_
          obtain ⟨z3, E⟩ := cd_ckE E
          refine cd_iald S hK hZ (cd_r3_3 (cd_r4_10 hq)) z3 dX4_showSeatsOf_33 ?_
          obtain ⟨z4, E⟩ := cd_ckE E
          obtain ⟨h5, eh5, E⟩ := cd_nmE E
          refine cd_iast S hK hZ (cd_r0_12 hr1) z4 eh5 dX4_showSeatsOf_34 (fun H locs hZ => ?_)
          obtain ⟨x6, ex6, E⟩ := cd_nmE E
          refine lv_iinc (v := x6) (lv' := [(3, .int x6), (4, .int v5_4), (0, .ref (G.2.2.2.2 + q)), (1, .ref (G.2.2.2.2 + r1)), (2, .int a2)]) S.1 S.2.1 dX4_showSeatsOf_35 hl (k := 1) rfl (by rw [ex6]; rfl) (by decide) rfl (fun ls hl => ?_)
          obtain ⟨x7, ex7, E⟩ := cd_nmE E
          refine lv_iinc (v := x7) (lv' := [(4, .int x7), (3, .int x6), (0, .ref (G.2.2.2.2 + q)), (1, .ref (G.2.2.2.2 + r1)), (2, .int a2)]) S.1 S.2.1 dX4_showSeatsOf_38 hl (k := 1) rfl (by rw [ex7]; rfl) (by decide) rfl (fun ls hl => ?_)
          refine lv_goto (tgt := 5) S.1 S.2.1 dX4_showSeatsOf_41 (by decide) ?_
          exact ih x6 x7 h5 o H locs ls E hZ (lv_sub hl [0, 1, 2, 3, 4] rfl) hex
  unfold f_X4_showSeatsOf at E
  refine lv_iload_n S.1 S.2.1 dX4_showSeatsOf_0 rfl (lv_at hl 2 rfl) ?_
  refine lv_istore_n (lv' := [(3, .int a2), (0, .ref (G.2.2.2.2 + q)), (1, .ref (G.2.2.2.2 + r1)), (2, .int a2)]) S.1 S.2.1 dX4_showSeatsOf_1 rfl hl (by decide) rfl (fun ls hl => ?_)
  refine lv_iconst (v := 0) S.1 S.2.1 dX4_showSeatsOf_2 (by decide) ?_
  refine lv_istore (lv' := [(4, .int 0), (3, .int a2), (0, .ref (G.2.2.2.2 + q)), (1, .ref (G.2.2.2.2 + r1)), (2, .int a2)]) S.1 S.2.1 dX4_showSeatsOf_3 hl (by decide) rfl (fun ls hl => ?_)
  obtain ⟨o8, E1, E⟩ := cd_bE E
  refine L5 cd_fu a2 0 h o8 H locs ls E1 hZ (lv_sub hl [0, 1, 2, 3, 4] rfl) (fun H locs ls hZ hl => ?_)
  refine lv_iload_n S.1 S.2.1 dX4_showSeatsOf_44 rfl (lv_at hl 1 rfl) ?_
  exact hret _ _ _ _ _ _ (Option.some.inj E) hZ dX4_showSeatsOf_45
abbrev rm_X4_showSeats : Room := { frames := 1, cells := 0, slots := 0, locals := 24 }
theorem cd_v_X4_showSeats : cd_V yX4_showSeats cX4_showSeats 3 none 0 := ⟨cd_i_X4_showSeats, cd_e_X4_X4_showSeats, cd_n_X4, cd_c_X4_showSeats, by decide +kernel⟩
set_option maxHeartbeats 4000000 in
set_option maxRecDepth 100000 in
theorem c_X4_showSeats (l : Launch) (G : cd_G) (q : Nat) (hq : cd_is 4 q) (h : cd_Hp) (out : cd_Hp) (E : f_X4_showSeats q h = some out) : cd_Mv l G yX4_showSeats (Cond.code yX4_showSeats cX4_showSeats 3 none :: cd_T) rm_X4_showSeats [.ref (G.2.2.2.2 + q)] h out := by
  refine cd_inv (by decide) (Nat.le_of_ble_eq_true rfl) ?_
  intro p e s m args below meth c Q ls H locs S hK hZ hl hret
  have hl : lv_has ls 3 [(0, .ref (G.2.2.2.2 + q))] := hl
  have L4 : ∀ (n : Nat) (v4_1 : Int32) (v4_2 : Int32) (h4_ : cd_Hp) (o : (Int32 × Int32 × cd_Hp)) (H : Heap) (locs : List Loc) (ls : Array Slot), cd_lp (f_X4_showSeats_B4 q) n (v4_1, v4_2, h4_) = some o → cd_Z G h4_ s.heap H locs → lv_has ls 3 [(2, .int v4_2), (1, .int v4_1), (0, .ref (G.2.2.2.2 + q))] → (∀ (H : Heap) (locs : List Loc) (ls : Array Slot), cd_Z G o.2.2 s.heap H locs → lv_has ls 3 [(2, .int o.2.1), (1, .int o.1), (0, .ref (G.2.2.2.2 + q))] → W p l e rm_X4_showSeats s m args below meth c H locs 0 0 Q (F0 m 54 ls [])) → W p l e rm_X4_showSeats s m args below meth c H locs 0 0 Q (F0 m 4 ls []) := by
    intro n
    induction n with
    | zero => intro v4_1 v4_2 h4_ o H locs ls E; exact nomatch (show (none : Option (Int32 × Int32 × cd_Hp)) = some o from E)
    | succ n ih =>
      intro v4_1 v4_2 h4_ o H locs ls E hZ hl hex
      have E : f_X4_showSeats_B4 q (cd_lp (f_X4_showSeats_B4 q) n) (v4_1, v4_2, h4_) = some o := E
      unfold f_X4_showSeats_B4 at E
      dsimp only at E
      refine lv_iload_n S.1 S.2.1 dX4_showSeats_4 rfl (lv_at hl 0 rfl) ?_
      refine lv_aload_n S.1 S.2.1 dX4_showSeats_5 rfl (lv_at hl 2 rfl) ?_
      refine cd_get4 (v := .int (cd_g h4_ q 3)) S hK hZ hq 3 cd_f_X4_53 rfl dX4_showSeats_6 ?_
      refine lv_icmp_ge (tgt := 54) S.1 S.2.1 dX4_showSeats_9 (by decide) (fun c1 => ?_) (fun c1 => ?_)
      · have E := cd_tE c1 E
        cases E
        exact hex H locs ls hZ (lv_sub hl [0, 1, 2] rfl)
      · have E := cd_fE c1 E
        refine lv_aload_n S.1 S.2.1 dX4_showSeats_12 rfl (lv_at hl 2 rfl) ?_
        refine cd_get4 (v := .ref (G.2.2.2.2 + (q + 6))) S hK hZ hq 7 cd_f_X4_31 rfl dX4_showSeats_13 ?_
        refine lv_iload_n S.1 S.2.1 dX4_showSeats_16 rfl (lv_at hl 0 rfl) ?_
        obtain ⟨z2, E⟩ := cd_ckE E
        refine cd_aald9 S hK hZ (cd_r4_7 hq) z2 dX4_showSeats_17 ?_
        refine cd_get0 (v := .int (cd_g h4_ ((q + 6) + 8 + 7 * (v4_2.toNatClampNeg)) 2)) S hK hZ (cd_r9 (cd_r4_7 hq) z2) 2 cd_f_X4_165 rfl dX4_showSeats_18 ?_
        refine lv_if_eq (tgt := 48) S.1 S.2.1 dX4_showSeats_21 (by decide) (fun c3 => ?_) (fun c3 => ?_)
        · have E := cd_tE c3 E
          obtain ⟨x4, ex4, E⟩ := cd_nmE E
          refine lv_iinc (v := x4) (lv' := [(2, .int x4), (1, .int v4_1), (0, .ref (G.2.2.2.2 + q))]) S.1 S.2.1 dX4_showSeats_48 hl (k := 0) rfl (by rw [ex4]; rfl) (by decide) rfl (fun ls hl => ?_)
          refine lv_goto (tgt := 4) S.1 S.2.1 dX4_showSeats_51 (by decide) ?_
          exact ih v4_1 x4 h4_ o H locs ls E hZ (lv_sub hl [0, 1, 2] rfl) hex
        · have E := cd_fE c3 E
          refine lv_aload_n S.1 S.2.1 dX4_showSeats_24 rfl (lv_at hl 2 rfl) ?_
          refine cd_get4 (v := .ref (G.2.2.2.2 + (q + 6))) S hK hZ hq 7 cd_f_X4_31 rfl dX4_showSeats_25 ?_
          refine lv_iload_n S.1 S.2.1 dX4_showSeats_28 rfl (lv_at hl 0 rfl) ?_
          obtain ⟨z5, E⟩ := cd_ckE E
          refine cd_aald9 S hK hZ (cd_r4_7 hq) z5 dX4_showSeats_29 ?_
          refine cd_get0 (v := .int (cd_g h4_ ((q + 6) + 8 + 7 * (v4_2.toNatClampNeg)) 5)) S hK hZ (cd_r9 (cd_r4_7 hq) z5) 5 cd_f_X4_175 rfl dX4_showSeats_30 ?_
          refine lv_if_eq (tgt := 48) S.1 S.2.1 dX4_showSeats_33 (by decide) (fun c6 => ?_) (fun c6 => ?_)
          · have E := cd_tE c6 E
            obtain ⟨x7, ex7, E⟩ := cd_nmE E
            refine lv_iinc (v := x7) (lv' := [(2, .int x7), (1, .int v4_1), (0, .ref (G.2.2.2.2 + q))]) S.1 S.2.1 dX4_showSeats_48 hl (k := 0) rfl (by rw [ex7]; rfl) (by decide) rfl (fun ls hl => ?_)
            refine lv_goto (tgt := 4) S.1 S.2.1 dX4_showSeats_51 (by decide) ?_
            exact ih v4_1 x7 h4_ o H locs ls E hZ (lv_sub hl [0, 1, 2] rfl) hex
          · have E := cd_fE c6 E
            refine lv_aload_n S.1 S.2.1 dX4_showSeats_36 rfl (lv_at hl 2 rfl) ?_
            refine lv_aload_n S.1 S.2.1 dX4_showSeats_37 rfl (lv_at hl 2 rfl) ?_
            refine cd_get4 (v := .ref (G.2.2.2.2 + (q + 6))) S hK hZ hq 7 cd_f_X4_31 rfl dX4_showSeats_38 ?_
            refine lv_iload_n S.1 S.2.1 dX4_showSeats_41 rfl (lv_at hl 0 rfl) ?_
            obtain ⟨z8, E⟩ := cd_ckE E
            refine cd_aald9 S hK hZ (cd_r4_7 hq) z8 dX4_showSeats_42 ?_
            refine lv_iload_n S.1 S.2.1 dX4_showSeats_43 rfl (lv_at hl 1 rfl) ?_
            obtain ⟨o9, E1, E⟩ := cd_bE E
            refine cd_cVi (As := [.ref (G.2.2.2.2 + ((q + 6) + 8 + 7 * (v4_2.toNatClampNeg))), .int v4_1]) S hK hZ hl.1 (c_X4_showSeatsOf l G q ((q + 6) + 8 + 7 * (v4_2.toNatClampNeg)) v4_1 hq (cd_r9 (cd_r4_7 hq) z8) h4_ o9 E1) cd_v_X4_showSeatsOf cd_m_X4_184 ⟨Nat.le_of_ble_eq_true rfl, Nat.le_of_ble_eq_true rfl⟩ ⟨rfl, rfl⟩ (ci := 4) (by decide) rfl hq rfl rfl (Nat.le_of_ble_eq_true rfl) ⟨Nat.zero_le _, Nat.zero_le _⟩ dX4_showSeats_44 (fun H locs hZ => ?_)
            refine lv_istore_n (lv' := [(1, .int o9.1), (2, .int v4_2), (0, .ref (G.2.2.2.2 + q))]) S.1 S.2.1 dX4_showSeats_47 rfl hl (by decide) rfl (fun ls hl => ?_)
            obtain ⟨x11, ex11, E⟩ := cd_nmE E
            refine lv_iinc (v := x11) (lv' := [(2, .int x11), (1, .int o9.1), (0, .ref (G.2.2.2.2 + q))]) S.1 S.2.1 dX4_showSeats_48 hl (k := 1) rfl (by rw [ex11]; rfl) (by decide) rfl (fun ls hl => ?_)
            refine lv_goto (tgt := 4) S.1 S.2.1 dX4_showSeats_51 (by decide) ?_
            exact ih o9.1 x11 o9.2 o H locs ls E hZ (lv_sub hl [0, 1, 2] rfl) hex
  have L56 : ∀ (n : Nat) (v56_1 : Int32) (v56_2 : Int32) (h56_ : cd_Hp) (o : (Int32 × Int32 × cd_Hp)) (H : Heap) (locs : List Loc) (ls : Array Slot), cd_lp (f_X4_showSeats_B56 q) n (v56_1, v56_2, h56_) = some o → cd_Z G h56_ s.heap H locs → lv_has ls 3 [(2, .int v56_2), (1, .int v56_1), (0, .ref (G.2.2.2.2 + q))] → (∀ (H : Heap) (locs : List Loc) (ls : Array Slot), cd_Z G o.2.2 s.heap H locs → lv_has ls 3 [(2, .int o.2.1), (1, .int o.1), (0, .ref (G.2.2.2.2 + q))] → W p l e rm_X4_showSeats s m args below meth c H locs 0 0 Q (F0 m 104 ls [])) → W p l e rm_X4_showSeats s m args below meth c H locs 0 0 Q (F0 m 56 ls []) := by
    intro n
    induction n with
    | zero => intro v56_1 v56_2 h56_ o H locs ls E; exact nomatch (show (none : Option (Int32 × Int32 × cd_Hp)) = some o from E)
    | succ n ih =>
      intro v56_1 v56_2 h56_ o H locs ls E hZ hl hex
      have E : f_X4_showSeats_B56 q (cd_lp (f_X4_showSeats_B56 q) n) (v56_1, v56_2, h56_) = some o := E
      unfold f_X4_showSeats_B56 at E
      dsimp only at E
      refine lv_iload_n S.1 S.2.1 dX4_showSeats_56 rfl (lv_at hl 0 rfl) ?_
      refine lv_aload_n S.1 S.2.1 dX4_showSeats_57 rfl (lv_at hl 2 rfl) ?_
      refine cd_get4 (v := .int (cd_g h56_ q 4)) S hK hZ hq 4 cd_f_X4_56 rfl dX4_showSeats_58 ?_
      refine lv_icmp_ge (tgt := 104) S.1 S.2.1 dX4_showSeats_61 (by decide) (fun c13 => ?_) (fun c13 => ?_)
      · have E := cd_tE c13 E
        cases E
        exact hex H locs ls hZ (lv_sub hl [0, 1, 2] rfl)
      · have E := cd_fE c13 E
        refine lv_aload_n S.1 S.2.1 dX4_showSeats_64 rfl (lv_at hl 2 rfl) ?_
        refine cd_get4 (v := .ref (G.2.2.2.2 + (q + 6))) S hK hZ hq 7 cd_f_X4_31 rfl dX4_showSeats_65 ?_
        refine lv_aload_n S.1 S.2.1 dX4_showSeats_68 rfl (lv_at hl 2 rfl) ?_
        refine cd_get4 (v := .ref (G.2.2.2.2 + (q + 7))) S hK hZ hq 8 cd_f_X4_35 rfl dX4_showSeats_69 ?_
        refine lv_iload_n S.1 S.2.1 dX4_showSeats_72 rfl (lv_at hl 0 rfl) ?_
        obtain ⟨z14, E⟩ := cd_ckE E
        refine cd_iald S hK hZ (cd_r4_8 hq) z14 dX4_showSeats_73 ?_
        obtain ⟨z15, E⟩ := cd_ckE E
        refine cd_aald9 S hK hZ (cd_r4_7 hq) z15 dX4_showSeats_74 ?_
        refine cd_get0 (v := .int (cd_g h56_ ((q + 6) + 8 + 7 * ((cd_g h56_ (q + 7) (v56_2.toNatClampNeg)).toNatClampNeg)) 5)) S hK hZ (cd_r9 (cd_r4_7 hq) z15) 5 cd_f_X4_175 rfl dX4_showSeats_75 ?_
        refine lv_if_eq (tgt := 98) S.1 S.2.1 dX4_showSeats_78 (by decide) (fun c16 => ?_) (fun c16 => ?_)
        · have E := cd_tE c16 E
          obtain ⟨x17, ex17, E⟩ := cd_nmE E
          refine lv_iinc (v := x17) (lv' := [(2, .int x17), (1, .int v56_1), (0, .ref (G.2.2.2.2 + q))]) S.1 S.2.1 dX4_showSeats_98 hl (k := 0) rfl (by rw [ex17]; rfl) (by decide) rfl (fun ls hl => ?_)
          refine lv_goto (tgt := 56) S.1 S.2.1 dX4_showSeats_101 (by decide) ?_
          exact ih v56_1 x17 h56_ o H locs ls E hZ (lv_sub hl [0, 1, 2] rfl) hex
        · have E := cd_fE c16 E
          refine lv_aload_n S.1 S.2.1 dX4_showSeats_81 rfl (lv_at hl 2 rfl) ?_
          refine lv_aload_n S.1 S.2.1 dX4_showSeats_82 rfl (lv_at hl 2 rfl) ?_
          refine cd_get4 (v := .ref (G.2.2.2.2 + (q + 6))) S hK hZ hq 7 cd_f_X4_31 rfl dX4_showSeats_83 ?_
          refine lv_aload_n S.1 S.2.1 dX4_showSeats_86 rfl (lv_at hl 2 rfl) ?_
          refine cd_get4 (v := .ref (G.2.2.2.2 + (q + 7))) S hK hZ hq 8 cd_f_X4_35 rfl dX4_showSeats_87 ?_
          refine lv_iload_n S.1 S.2.1 dX4_showSeats_90 rfl (lv_at hl 0 rfl) ?_
          obtain ⟨z18, E⟩ := cd_ckE E
          refine cd_iald S hK hZ (cd_r4_8 hq) z18 dX4_showSeats_91 ?_
          obtain ⟨z19, E⟩ := cd_ckE E
          refine cd_aald9 S hK hZ (cd_r4_7 hq) z19 dX4_showSeats_92 ?_
          refine lv_iload_n S.1 S.2.1 dX4_showSeats_93 rfl (lv_at hl 1 rfl) ?_
          obtain ⟨o20, E1, E⟩ := cd_bE E
          refine cd_cVi (As := [.ref (G.2.2.2.2 + ((q + 6) + 8 + 7 * ((cd_g h56_ (q + 7) (v56_2.toNatClampNeg)).toNatClampNeg))), .int v56_1]) S hK hZ hl.1 (c_X4_showSeatsOf l G q ((q + 6) + 8 + 7 * ((cd_g h56_ (q + 7) (v56_2.toNatClampNeg)).toNatClampNeg)) v56_1 hq (cd_r9 (cd_r4_7 hq) z19) h56_ o20 E1) cd_v_X4_showSeatsOf cd_m_X4_184 ⟨Nat.le_of_ble_eq_true rfl, Nat.le_of_ble_eq_true rfl⟩ ⟨rfl, rfl⟩ (ci := 4) (by decide) rfl hq rfl rfl (Nat.le_of_ble_eq_true rfl) ⟨Nat.zero_le _, Nat.zero_le _⟩ dX4_showSeats_94 (fun H locs hZ => ?_)
          refine lv_istore_n (lv' := [(1, .int o20.1), (2, .int v56_2), (0, .ref (G.2.2.2.2 + q))]) S.1 S.2.1 dX4_showSeats_97 rfl hl (by decide) rfl (fun ls hl => ?_)
          obtain ⟨x22, ex22, E⟩ := cd_nmE E
          refine lv_iinc (v := x22) (lv' := [(2, .int x22), (1, .int o20.1), (0, .ref (G.2.2.2.2 + q))]) S.1 S.2.1 dX4_showSeats_98 hl (k := 1) rfl (by rw [ex22]; rfl) (by decide) rfl (fun ls hl => ?_)
          refine lv_goto (tgt := 56) S.1 S.2.1 dX4_showSeats_101 (by decide) ?_
          exact ih o20.1 x22 o20.2 o H locs ls E hZ (lv_sub hl [0, 1, 2] rfl) hex
  unfold f_X4_showSeats at E
  refine lv_iconst (v := 0) S.1 S.2.1 dX4_showSeats_0 (by decide) ?_
  refine lv_istore_n (lv' := [(1, .int 0), (0, .ref (G.2.2.2.2 + q))]) S.1 S.2.1 dX4_showSeats_1 rfl hl (by decide) rfl (fun ls hl => ?_)
  refine lv_iconst (v := 0) S.1 S.2.1 dX4_showSeats_2 (by decide) ?_
  refine lv_istore_n (lv' := [(2, .int 0), (1, .int 0), (0, .ref (G.2.2.2.2 + q))]) S.1 S.2.1 dX4_showSeats_3 rfl hl (by decide) rfl (fun ls hl => ?_)
  obtain ⟨o12, E1, E⟩ := cd_bE E
  refine L4 cd_fu 0 0 h o12 H locs ls E1 hZ (lv_sub hl [0, 1, 2] rfl) (fun H locs ls hZ hl => ?_)
  refine lv_iconst (v := 0) S.1 S.2.1 dX4_showSeats_54 (by decide) ?_
  refine lv_istore_n (lv' := [(2, .int 0), (1, .int o12.1), (0, .ref (G.2.2.2.2 + q))]) S.1 S.2.1 dX4_showSeats_55 rfl hl (by decide) rfl (fun ls hl => ?_)
  obtain ⟨o23, E1, E⟩ := cd_bE E
  refine L56 cd_fu o12.1 0 o12.2.2 o23 H locs ls E1 hZ (lv_sub hl [0, 1, 2] rfl) (fun H locs ls hZ hl => ?_)
  exact hret _ _ _ _ _ (Option.some.inj E) hZ dX4_showSeats_104
