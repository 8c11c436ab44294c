-- CONTRACTS (written by wip/whole/gen.py): X0_begin X7_copyRow X0_become X7_isWithin X0_hasEvent X0_append X0_leaveSeats X5_rateOf X0_countSlice X0_moveCell X0_moveTo X0_cellOrSum X0_countIn X0_enabledIn X0_runningIn X0_scaledCount X0_mostCount X5_become X2_become X4_become X1_hold X1_undo X1_keep X1_stepBack X2_await X2_keep X2_tellDue X2_keptFact X3_open X3_sit
abbrev rm_X0_begin : Room := { frames := 0, cells := 0, slots := 0, locals := 0 }
theorem cd_v_X0_begin : cd_V yX0_begin cX0_begin 6 none 4 := ⟨cd_i_X0_begin, cd_e_X0_X0_begin, cd_n_X0, cd_c_X0_begin, by decide +kernel⟩
set_option maxHeartbeats 4000000 in
set_option maxRecDepth 100000 in
theorem c_X0_begin (l : Launch) (G : cd_G) (q : Nat) (a1 : Int32) (a2 : Int32) (a3 : Int32) (a4 : Int32) (hq : cd_is 0 q) (h : cd_Hp) (out : cd_Hp) (E : f_X0_begin q a1 a2 a3 a4 h = some out) : cd_Mv l G yX0_begin (Cond.code yX0_begin cX0_begin 6 none :: cd_T) rm_X0_begin [.ref (G.2.2.2.2 + q), .int a1, .int a2, .int a3, .int a4] h out := by
  refine cd_inv (by decide) (Nat.le_of_ble_eq_true rfl) ?_
  intro p e s m args below meth c Q ls H locs S hK hZ hl hret
  have hl : lv_has ls 6 [(0, .ref (G.2.2.2.2 + q)), (1, .int a1), (2, .int a2), (3, .int a3), (4, .int a4)] := hl
  have L54 : ∀ (n : Nat) (v54_5 : Int32) (h54_ : cd_Hp) (o : (Int32 × cd_Hp)) (H : Heap) (locs : List Loc) (ls : Array Slot), cd_lp (f_X0_begin_B54 q a1 a2 a3 a4) n (v54_5, h54_) = some o → cd_Z G h54_ s.heap H locs → lv_has ls 6 [(5, .int v54_5), (0, .ref (G.2.2.2.2 + q)), (1, .int a1), (2, .int a2), (3, .int a3), (4, .int a4)] → (∀ (H : Heap) (locs : List Loc) (ls : Array Slot), cd_Z G o.2 s.heap H locs → lv_has ls 6 [(5, .int o.1), (0, .ref (G.2.2.2.2 + q)), (1, .int a1), (2, .int a2), (3, .int a3), (4, .int a4)] → W p l e rm_X0_begin s m args below meth c H locs 0 0 Q (F0 m 78 ls [])) → W p l e rm_X0_begin s m args below meth c H locs 0 0 Q (F0 m 54 ls []) := by
    intro n
    induction n with
    | zero => intro v54_5 h54_ o H locs ls E; exact nomatch (show (none : Option (Int32 × cd_Hp)) = some o from E)
    | succ n ih =>
      intro v54_5 h54_ o H locs ls E hZ hl hex
      have E : f_X0_begin_B54 q a1 a2 a3 a4 (cd_lp (f_X0_begin_B54 q a1 a2 a3 a4) n) (v54_5, h54_) = some o := E
      unfold f_X0_begin_B54 at E
      dsimp only at E
      refine lv_iload S.1 S.2.1 dX0_begin_54 (lv_at hl 0 rfl) ?_
      refine lv_aload_n S.1 S.2.1 dX0_begin_56 rfl (lv_at hl 1 rfl) ?_
      refine cd_get0 (v := .ref (G.2.2.2.2 + (q + 4))) S hK hZ hq 13 cd_f_X0_21 rfl dX0_begin_57 ?_
      refine cd_alen S hK hZ (cd_r0_13 hq) dX0_begin_60 ?_
      refine lv_icmp_ge (tgt := 78) S.1 S.2.1 dX0_begin_61 (by decide) (fun c13 => ?_) (fun c13 => ?_)
      · have E := cd_tE c13 E
        cases E
        exact hex H locs ls hZ (lv_sub hl [0, 1, 2, 3, 4, 5] rfl)
      · have E := cd_fE c13 E
        refine lv_aload_n S.1 S.2.1 dX0_begin_64 rfl (lv_at hl 1 rfl) ?_
        refine cd_get0 (v := .ref (G.2.2.2.2 + (q + 4))) S hK hZ hq 13 cd_f_X0_21 rfl dX0_begin_65 ?_
        refine lv_iload S.1 S.2.1 dX0_begin_68 (lv_at hl 0 rfl) ?_
        refine lv_iconst (v := 0) S.1 S.2.1 dX0_begin_70 (by decide) ?_
        obtain ⟨z14, E⟩ := cd_ckE E
        obtain ⟨h15, eh15, E⟩ := cd_nmE E
        refine cd_iast S hK hZ (cd_r0_13 hq) z14 eh15 dX0_begin_71 (fun H locs hZ => ?_)
        obtain ⟨x16, ex16, E⟩ := cd_nmE E
        refine lv_iinc (v := x16) (lv' := [(5, .int x16), (0, .ref (G.2.2.2.2 + q)), (1, .int a1), (2, .int a2), (3, .int a3), (4, .int a4)]) S.1 S.2.1 dX0_begin_72 hl (k := 0) rfl (by rw [ex16]; rfl) (by decide) rfl (fun ls hl => ?_)
        refine lv_goto (tgt := 54) S.1 S.2.1 dX0_begin_75 (by decide) ?_
        exact ih x16 h15 o H locs ls E hZ (lv_sub hl [0, 1, 2, 3, 4, 5] rfl) hex
  have L81 : ∀ (n : Nat) (v81_5 : Int32) (h81_ : cd_Hp) (o : (Int32 × cd_Hp)) (H : Heap) (locs : List Loc) (ls : Array Slot), cd_lp (f_X0_begin_B81 q a1 a2 a3 a4) n (v81_5, h81_) = some o → cd_Z G h81_ s.heap H locs → lv_has ls 6 [(5, .int v81_5), (0, .ref (G.2.2.2.2 + q)), (1, .int a1), (2, .int a2), (3, .int a3), (4, .int a4)] → (∀ (H : Heap) (locs : List Loc) (ls : Array Slot), cd_Z G o.2 s.heap H locs → lv_has ls 6 [(5, .int o.1), (0, .ref (G.2.2.2.2 + q)), (1, .int a1), (2, .int a2), (3, .int a3), (4, .int a4)] → W p l e rm_X0_begin s m args below meth c H locs 0 0 Q (F0 m 110 ls [])) → W p l e rm_X0_begin s m args below meth c H locs 0 0 Q (F0 m 81 ls []) := by
    intro n
    induction n with
    | zero => intro v81_5 h81_ o H locs ls E; exact nomatch (show (none : Option (Int32 × cd_Hp)) = some o from E)
    | succ n ih =>
      intro v81_5 h81_ o H locs ls E hZ hl hex
      have E : f_X0_begin_B81 q a1 a2 a3 a4 (cd_lp (f_X0_begin_B81 q a1 a2 a3 a4) n) (v81_5, h81_) = some o := E
      unfold f_X0_begin_B81 at E
      dsimp only at E
      refine lv_iload S.1 S.2.1 dX0_begin_81 (lv_at hl 0 rfl) ?_
      refine lv_bipush (v := 6) S.1 S.2.1 dX0_begin_83 (by decide) ?_
      refine lv_icmp_ge (tgt := 110) S.1 S.2.1 dX0_begin_85 (by decide) (fun c18 => ?_) (fun c18 => ?_)
      · have E := cd_tE c18 E
        cases E
        exact hex H locs ls hZ (lv_sub hl [0, 1, 2, 3, 4, 5] rfl)
      · have E := cd_fE c18 E
        refine lv_aload_n S.1 S.2.1 dX0_begin_88 rfl (lv_at hl 1 rfl) ?_
        refine cd_get0 (v := .ref (G.2.2.2.2 + (q + 5))) S hK hZ hq 14 cd_f_X0_24 rfl dX0_begin_89 ?_
        refine lv_iload S.1 S.2.1 dX0_begin_92 (lv_at hl 0 rfl) ?_
        refine lv_iconst (v := 0) S.1 S.2.1 dX0_begin_94 (by decide) ?_
        obtain ⟨z19, E⟩ := cd_ckE E
        obtain ⟨h20, eh20, E⟩ := cd_nmE E
        refine cd_iast S hK hZ (cd_r0_14 hq) z19 eh20 dX0_begin_95 (fun H locs hZ => ?_)
        refine lv_aload_n S.1 S.2.1 dX0_begin_96 rfl (lv_at hl 1 rfl) ?_
        refine cd_get0 (v := .ref (G.2.2.2.2 + (q + 6))) S hK hZ hq 15 cd_f_X0_27 rfl dX0_begin_97 ?_
        refine lv_iload S.1 S.2.1 dX0_begin_100 (lv_at hl 0 rfl) ?_
        refine lv_iconst (v := 0) S.1 S.2.1 dX0_begin_102 (by decide) ?_
        obtain ⟨z21, E⟩ := cd_ckE E
        obtain ⟨h22, eh22, E⟩ := cd_nmE E
        refine cd_iast S hK hZ (cd_r0_15 hq) z21 eh22 dX0_begin_103 (fun H locs hZ => ?_)
        obtain ⟨x23, ex23, E⟩ := cd_nmE E
        refine lv_iinc (v := x23) (lv' := [(5, .int x23), (0, .ref (G.2.2.2.2 + q)), (1, .int a1), (2, .int a2), (3, .int a3), (4, .int a4)]) S.1 S.2.1 dX0_begin_104 hl (k := 0) rfl (by rw [ex23]; rfl) (by decide) rfl (fun ls hl => ?_)
        refine lv_goto (tgt := 81) S.1 S.2.1 dX0_begin_107 (by decide) ?_
        exact ih x23 h22 o H locs ls E hZ (lv_sub hl [0, 1, 2, 3, 4, 5] rfl) hex
  unfold f_X0_begin at E
  refine lv_aload_n S.1 S.2.1 dX0_begin_0 rfl (lv_at hl 0 rfl) ?_
  refine lv_iload_n S.1 S.2.1 dX0_begin_1 rfl (lv_at hl 1 rfl) ?_
  obtain ⟨h1, eh1, E⟩ := cd_nmE E
  refine cd_put0_0 S hK hZ hq cd_f_X0_30 eh1 dX0_begin_2 (fun H locs hZ => ?_)
  refine lv_aload_n S.1 S.2.1 dX0_begin_5 rfl (lv_at hl 0 rfl) ?_
  refine lv_iload_n S.1 S.2.1 dX0_begin_6 rfl (lv_at hl 2 rfl) ?_
  obtain ⟨h2, eh2, E⟩ := cd_nmE E
  refine cd_put0_1 S hK hZ hq cd_f_X0_34 eh2 dX0_begin_7 (fun H locs hZ => ?_)
  refine lv_aload_n S.1 S.2.1 dX0_begin_10 rfl (lv_at hl 0 rfl) ?_
  refine lv_iload_n S.1 S.2.1 dX0_begin_11 rfl (lv_at hl 3 rfl) ?_
  obtain ⟨z3, E⟩ := cd_ckE E
  obtain ⟨h4, eh4, E⟩ := cd_nmE E
  refine cd_put0_2 S hK hZ hq cd_f_X0_37 z3 eh4 dX0_begin_12 (fun H locs hZ => ?_)
  refine lv_aload_n S.1 S.2.1 dX0_begin_15 rfl (lv_at hl 0 rfl) ?_
  refine lv_iload S.1 S.2.1 dX0_begin_16 (lv_at hl 4 rfl) ?_
  obtain ⟨z5, E⟩ := cd_ckE E
  obtain ⟨h6, eh6, E⟩ := cd_nmE E
  refine cd_put0_3 S hK hZ hq cd_f_X0_41 z5 eh6 dX0_begin_18 (fun H locs hZ => ?_)
  refine lv_aload_n S.1 S.2.1 dX0_begin_21 rfl (lv_at hl 0 rfl) ?_
  refine lv_iconst (v := 1) S.1 S.2.1 dX0_begin_22 (by decide) ?_
  obtain ⟨h7, eh7, E⟩ := cd_nmE E
  refine cd_put0_4 S hK hZ hq cd_f_X0_44 (by decide) eh7 dX0_begin_23 (fun H locs hZ => ?_)
  refine lv_aload_n S.1 S.2.1 dX0_begin_26 rfl (lv_at hl 0 rfl) ?_
  refine lv_iconst (v := 0) S.1 S.2.1 dX0_begin_27 (by decide) ?_
  obtain ⟨h8, eh8, E⟩ := cd_nmE E
  refine cd_put0_5 S hK hZ hq cd_f_X0_47 (by decide) eh8 dX0_begin_28 (fun H locs hZ => ?_)
  refine lv_aload_n S.1 S.2.1 dX0_begin_31 rfl (lv_at hl 0 rfl) ?_
  refine lv_iconst (v := 0) S.1 S.2.1 dX0_begin_32 (by decide) ?_
  obtain ⟨h9, eh9, E⟩ := cd_nmE E
  refine cd_put0_6 S hK hZ hq cd_f_X0_50 eh9 dX0_begin_33 (fun H locs hZ => ?_)
  refine lv_aload_n S.1 S.2.1 dX0_begin_36 rfl (lv_at hl 0 rfl) ?_
  refine lv_iconst (v := 0) S.1 S.2.1 dX0_begin_37 (by decide) ?_
  obtain ⟨h10, eh10, E⟩ := cd_nmE E
  refine cd_put0_7 S hK hZ hq cd_f_X0_53 eh10 dX0_begin_38 (fun H locs hZ => ?_)
  refine lv_aload_n S.1 S.2.1 dX0_begin_41 rfl (lv_at hl 0 rfl) ?_
  refine lv_iconst (v := 0) S.1 S.2.1 dX0_begin_42 (by decide) ?_
  obtain ⟨h11, eh11, E⟩ := cd_nmE E
  refine cd_put0_8 S hK hZ hq cd_f_X0_56 eh11 dX0_begin_43 (fun H locs hZ => ?_)
  refine lv_aload_n S.1 S.2.1 dX0_begin_46 rfl (lv_at hl 0 rfl) ?_
  refine lv_iconst (v := 0) S.1 S.2.1 dX0_begin_47 (by decide) ?_
  obtain ⟨h12, eh12, E⟩ := cd_nmE E
  refine cd_put0_9 S hK hZ hq cd_f_X0_59 eh12 dX0_begin_48 (fun H locs hZ => ?_)
  refine lv_iconst (v := 0) S.1 S.2.1 dX0_begin_51 (by decide) ?_
  refine lv_istore (lv' := [(5, .int 0), (0, .ref (G.2.2.2.2 + q)), (1, .int a1), (2, .int a2), (3, .int a3), (4, .int a4)]) S.1 S.2.1 dX0_begin_52 hl (by decide) rfl (fun ls hl => ?_)
  obtain ⟨o17, E1, E⟩ := cd_bE E
  refine L54 cd_fu 0 h12 o17 H locs ls E1 hZ (lv_sub hl [0, 1, 2, 3, 4, 5] rfl) (fun H locs ls hZ hl => ?_)
  refine lv_iconst (v := 0) S.1 S.2.1 dX0_begin_78 (by decide) ?_
  refine lv_istore (lv' := [(5, .int 0), (0, .ref (G.2.2.2.2 + q)), (1, .int a1), (2, .int a2), (3, .int a3), (4, .int a4)]) S.1 S.2.1 dX0_begin_79 hl (by decide) rfl (fun ls hl => ?_)
  obtain ⟨o24, E1, E⟩ := cd_bE E
  refine L81 cd_fu 0 o17.2 o24 H locs ls E1 hZ (lv_sub hl [0, 1, 2, 3, 4, 5] rfl) (fun H locs ls hZ hl => ?_)
  exact hret _ _ _ _ _ (Option.some.inj E) hZ dX0_begin_110
abbrev rm_X7_copyRow : Room := { frames := 1, cells := 0, slots := 0, locals := 80 }
theorem cd_v_X7_copyRow : cd_Vs yX7_copyRow cX7_copyRow 2 none 2 := ⟨cd_s_X7_copyRow, cd_n_X7, cd_c_X7_copyRow, by decide +kernel⟩
set_option maxHeartbeats 4000000 in
set_option maxRecDepth 100000 in
theorem c_X7_copyRow (l : Launch) (G : cd_G) (r0 : Nat) (r1 : Nat) (hr0 : cd_ar (cd_ln r0) r0) (hr1 : cd_ar (cd_ln r1) r1) (h : cd_Hp) (out : cd_Hp) (E : f_X7_copyRow r0 r1 h = some out) : cd_Mv l G yX7_copyRow (Cond.code yX7_copyRow cX7_copyRow 2 none :: cd_T) rm_X7_copyRow [.ref (G.2.2.2.2 + r0), .ref (G.2.2.2.2 + r1)] h out := by
  refine cd_inv (by decide) (Nat.le_of_ble_eq_true rfl) ?_
  intro p e s m args below meth c Q ls H locs S hK hZ hl hret
  have hl : lv_has ls 2 [(0, .ref (G.2.2.2.2 + r0)), (1, .ref (G.2.2.2.2 + r1))] := hl
  unfold f_X7_copyRow at E
  refine lv_aload_n S.1 S.2.1 dX7_copyRow_0 rfl (lv_at hl 0 rfl) ?_
  refine lv_iconst (v := 0) S.1 S.2.1 dX7_copyRow_1 (by decide) ?_
  refine lv_aload_n S.1 S.2.1 dX7_copyRow_2 rfl (lv_at hl 1 rfl) ?_
  refine lv_iconst (v := 0) S.1 S.2.1 dX7_copyRow_3 (by decide) ?_
  refine lv_aload_n S.1 S.2.1 dX7_copyRow_4 rfl (lv_at hl 0 rfl) ?_
  refine cd_alen S hK hZ hr0 dX7_copyRow_5 ?_
  refine lv_aload_n S.1 S.2.1 dX7_copyRow_6 rfl (lv_at hl 1 rfl) ?_
  refine cd_alen S hK hZ hr1 dX7_copyRow_7 ?_
  refine cd_min S hl.1 cd_m_X7_215 cd_s_J9_min_7cf53 cd_n_J9 cd_c_J9_min_7cf53 (Nat.le_of_ble_eq_true rfl) (Nat.le_of_ble_eq_true rfl) (Nat.zero_le _) (Nat.zero_le _) dX7_copyRow_8 ?_
  obtain ⟨z1, E⟩ := cd_ckE E
  obtain ⟨h2, eh2, E⟩ := cd_nmE E
  refine cd_copy S hK hZ hl.1 hr0 hr1 z1 eh2 cd_m_X7_220 cd_v_java_lang_System_arraycopy cd_s_java_lang_System_arraycopy cd_n_J10 (Nat.le_of_ble_eq_true rfl) (by decide) dX7_copyRow_11 (fun H locs hZ => ?_)
  exact hret _ _ _ _ _ (Option.some.inj E) hZ dX7_copyRow_14
abbrev rm_X0_become : Room := { frames := 2, cells := 0, slots := 0, locals := 101 }
theorem cd_v_X0_become : cd_V yX0_become cX0_become 2 none 1 := ⟨cd_i_X0_become, cd_e_X0_X0_become, cd_n_X0, cd_c_X0_become, by decide +kernel⟩
set_option maxHeartbeats 4000000 in
set_option maxRecDepth 100000 in
theorem c_X0_become (l : Launch) (G : cd_G) (q : Nat) (r1 : Nat) (hq : cd_is 0 q) (hr1 : cd_is 0 r1) (h : cd_Hp) (out : cd_Hp) (E : f_X0_become q r1 h = some out) : cd_Mv l G yX0_become (Cond.code yX0_become cX0_become 2 none :: cd_T) rm_X0_become [.ref (G.2.2.2.2 + q), .ref (G.2.2.2.2 + r1)] h out := by
  refine cd_inv (by decide) (Nat.le_of_ble_eq_true rfl) ?_
  intro p e s m args below meth c Q ls H locs S hK hZ hl hret
  have hl : lv_has ls 2 [(0, .ref (G.2.2.2.2 + q)), (1, .ref (G.2.2.2.2 + r1))] := hl
  unfold f_X0_become at E
  refine lv_aload_n S.1 S.2.1 dX0_become_0 rfl (lv_at hl 0 rfl) ?_
  refine lv_aload_n S.1 S.2.1 dX0_become_1 rfl (lv_at hl 1 rfl) ?_
  refine cd_get0 (v := .int (cd_g h r1 0)) S hK hZ hr1 0 cd_f_X0_30 rfl dX0_become_2 ?_
  obtain ⟨h1, eh1, E⟩ := cd_nmE E
  refine cd_put0_0 S hK hZ hq cd_f_X0_30 eh1 dX0_become_5 (fun H locs hZ => ?_)
  refine lv_aload_n S.1 S.2.1 dX0_become_8 rfl (lv_at hl 0 rfl) ?_
  refine lv_aload_n S.1 S.2.1 dX0_become_9 rfl (lv_at hl 1 rfl) ?_
  refine cd_get0 (v := .int (cd_g h1 r1 1)) S hK hZ hr1 1 cd_f_X0_34 rfl dX0_become_10 ?_
  obtain ⟨h2, eh2, E⟩ := cd_nmE E
  refine cd_put0_1 S hK hZ hq cd_f_X0_34 eh2 dX0_become_13 (fun H locs hZ => ?_)
  refine lv_aload_n S.1 S.2.1 dX0_become_16 rfl (lv_at hl 0 rfl) ?_
  refine lv_aload_n S.1 S.2.1 dX0_become_17 rfl (lv_at hl 1 rfl) ?_
  refine cd_get0 (v := .int (cd_g h2 r1 2)) S hK hZ hr1 2 cd_f_X0_37 rfl dX0_become_18 ?_
  obtain ⟨z3, E⟩ := cd_ckE E
  obtain ⟨h4, eh4, E⟩ := cd_nmE E
  refine cd_put0_2 S hK hZ hq cd_f_X0_37 z3 eh4 dX0_become_21 (fun H locs hZ => ?_)
  refine lv_aload_n S.1 S.2.1 dX0_become_24 rfl (lv_at hl 0 rfl) ?_
  refine lv_aload_n S.1 S.2.1 dX0_become_25 rfl (lv_at hl 1 rfl) ?_
  refine cd_get0 (v := .int (cd_g h4 r1 3)) S hK hZ hr1 3 cd_f_X0_41 rfl dX0_become_26 ?_
  obtain ⟨z5, E⟩ := cd_ckE E
  obtain ⟨h6, eh6, E⟩ := cd_nmE E
  refine cd_put0_3 S hK hZ hq cd_f_X0_41 z5 eh6 dX0_become_29 (fun H locs hZ => ?_)
  refine lv_aload_n S.1 S.2.1 dX0_become_32 rfl (lv_at hl 0 rfl) ?_
  refine lv_aload_n S.1 S.2.1 dX0_become_33 rfl (lv_at hl 1 rfl) ?_
  refine cd_get0 (v := .int (cd_g h6 r1 4)) S hK hZ hr1 4 cd_f_X0_44 rfl dX0_become_34 ?_
  obtain ⟨z7, E⟩ := cd_ckE E
  obtain ⟨h8, eh8, E⟩ := cd_nmE E
  refine cd_put0_4 S hK hZ hq cd_f_X0_44 z7 eh8 dX0_become_37 (fun H locs hZ => ?_)
  refine lv_aload_n S.1 S.2.1 dX0_become_40 rfl (lv_at hl 0 rfl) ?_
  refine lv_aload_n S.1 S.2.1 dX0_become_41 rfl (lv_at hl 1 rfl) ?_
  refine cd_get0 (v := .int (cd_g h8 r1 5)) S hK hZ hr1 5 cd_f_X0_47 rfl dX0_become_42 ?_
  obtain ⟨z9, E⟩ := cd_ckE E
  obtain ⟨h10, eh10, E⟩ := cd_nmE E
  refine cd_put0_5 S hK hZ hq cd_f_X0_47 z9 eh10 dX0_become_45 (fun H locs hZ => ?_)
  refine lv_aload_n S.1 S.2.1 dX0_become_48 rfl (lv_at hl 0 rfl) ?_
  refine lv_aload_n S.1 S.2.1 dX0_become_49 rfl (lv_at hl 1 rfl) ?_
  refine cd_get0 (v := .int (cd_g h10 r1 6)) S hK hZ hr1 6 cd_f_X0_50 rfl dX0_become_50 ?_
  obtain ⟨h11, eh11, E⟩ := cd_nmE E
  refine cd_put0_6 S hK hZ hq cd_f_X0_50 eh11 dX0_become_53 (fun H locs hZ => ?_)
  refine lv_aload_n S.1 S.2.1 dX0_become_56 rfl (lv_at hl 0 rfl) ?_
  refine lv_aload_n S.1 S.2.1 dX0_become_57 rfl (lv_at hl 1 rfl) ?_
  refine cd_get0 (v := .int (cd_g h11 r1 7)) S hK hZ hr1 7 cd_f_X0_53 rfl dX0_become_58 ?_
  obtain ⟨h12, eh12, E⟩ := cd_nmE E
  refine cd_put0_7 S hK hZ hq cd_f_X0_53 eh12 dX0_become_61 (fun H locs hZ => ?_)
  refine lv_aload_n S.1 S.2.1 dX0_become_64 rfl (lv_at hl 0 rfl) ?_
  refine lv_aload_n S.1 S.2.1 dX0_become_65 rfl (lv_at hl 1 rfl) ?_
  refine cd_get0 (v := .int (cd_g h12 r1 8)) S hK hZ hr1 8 cd_f_X0_56 rfl dX0_become_66 ?_
  obtain ⟨h13, eh13, E⟩ := cd_nmE E
  refine cd_put0_8 S hK hZ hq cd_f_X0_56 eh13 dX0_become_69 (fun H locs hZ => ?_)
  refine lv_aload_n S.1 S.2.1 dX0_become_72 rfl (lv_at hl 0 rfl) ?_
  refine lv_aload_n S.1 S.2.1 dX0_become_73 rfl (lv_at hl 1 rfl) ?_
  refine cd_get0 (v := .int (cd_g h13 r1 9)) S hK hZ hr1 9 cd_f_X0_59 rfl dX0_become_74 ?_
  obtain ⟨h14, eh14, E⟩ := cd_nmE E
  refine cd_put0_9 S hK hZ hq cd_f_X0_59 eh14 dX0_become_77 (fun H locs hZ => ?_)
  refine lv_aload_n S.1 S.2.1 dX0_become_80 rfl (lv_at hl 1 rfl) ?_
  refine cd_get0 (v := .ref (G.2.2.2.2 + (r1 + 1))) S hK hZ hr1 10 cd_f_X0_9 rfl dX0_become_81 ?_
  refine lv_aload_n S.1 S.2.1 dX0_become_84 rfl (lv_at hl 0 rfl) ?_
  refine cd_get0 (v := .ref (G.2.2.2.2 + (q + 1))) S hK hZ hq 10 cd_f_X0_9 rfl dX0_become_85 ?_
  obtain ⟨o15, E1, E⟩ := cd_bE E
  refine cd_cNv (As := [.ref (G.2.2.2.2 + (r1 + 1)), .ref (G.2.2.2.2 + (q + 1))]) S hK hZ hl.1 (c_X7_copyRow l G (r1 + 1) (q + 1) ((cd_r0_10 hr1)).self ((cd_r0_10 hq)).self h14 o15 E1) cd_v_X7_copyRow (cd_nX0_62 hK.2) ⟨Nat.le_of_ble_eq_true rfl, Nat.le_of_ble_eq_true rfl⟩ ⟨rfl, rfl⟩ rfl rfl (Nat.le_of_ble_eq_true rfl) ⟨Nat.zero_le _, Nat.zero_le _⟩ dX0_become_88 (fun H locs hZ => ?_)
  refine lv_aload_n S.1 S.2.1 dX0_become_91 rfl (lv_at hl 1 rfl) ?_
  refine cd_get0 (v := .ref (G.2.2.2.2 + (r1 + 2))) S hK hZ hr1 11 cd_f_X0_15 rfl dX0_become_92 ?_
  refine lv_aload_n S.1 S.2.1 dX0_become_95 rfl (lv_at hl 0 rfl) ?_
  refine cd_get0 (v := .ref (G.2.2.2.2 + (q + 2))) S hK hZ hq 11 cd_f_X0_15 rfl dX0_become_96 ?_
  obtain ⟨o17, E1, E⟩ := cd_bE E
  refine cd_cNv (As := [.ref (G.2.2.2.2 + (r1 + 2)), .ref (G.2.2.2.2 + (q + 2))]) S hK hZ hl.1 (c_X7_copyRow l G (r1 + 2) (q + 2) ((cd_r0_11 hr1)).self ((cd_r0_11 hq)).self o15 o17 E1) cd_v_X7_copyRow (cd_nX0_62 hK.2) ⟨Nat.le_of_ble_eq_true rfl, Nat.le_of_ble_eq_true rfl⟩ ⟨rfl, rfl⟩ rfl rfl (Nat.le_of_ble_eq_true rfl) ⟨Nat.zero_le _, Nat.zero_le _⟩ dX0_become_99 (fun H locs hZ => ?_)
  refine lv_aload_n S.1 S.2.1 dX0_become_102 rfl (lv_at hl 1 rfl) ?_
  refine cd_get0 (v := .ref (G.2.2.2.2 + (r1 + 3))) S hK hZ hr1 12 cd_f_X0_18 rfl dX0_become_103 ?_
  refine lv_aload_n S.1 S.2.1 dX0_become_106 rfl (lv_at hl 0 rfl) ?_
  refine cd_get0 (v := .ref (G.2.2.2.2 + (q + 3))) S hK hZ hq 12 cd_f_X0_18 rfl dX0_become_107 ?_
  obtain ⟨o19, E1, E⟩ := cd_bE E
  refine cd_cNv (As := [.ref (G.2.2.2.2 + (r1 + 3)), .ref (G.2.2.2.2 + (q + 3))]) S hK hZ hl.1 (c_X7_copyRow l G (r1 + 3) (q + 3) ((cd_r0_12 hr1)).self ((cd_r0_12 hq)).self o17 o19 E1) cd_v_X7_copyRow (cd_nX0_62 hK.2) ⟨Nat.le_of_ble_eq_true rfl, Nat.le_of_ble_eq_true rfl⟩ ⟨rfl, rfl⟩ rfl rfl (Nat.le_of_ble_eq_true rfl) ⟨Nat.zero_le _, Nat.zero_le _⟩ dX0_become_110 (fun H locs hZ => ?_)
  refine lv_aload_n S.1 S.2.1 dX0_become_113 rfl (lv_at hl 1 rfl) ?_
  refine cd_get0 (v := .ref (G.2.2.2.2 + (r1 + 4))) S hK hZ hr1 13 cd_f_X0_21 rfl dX0_become_114 ?_
  refine lv_aload_n S.1 S.2.1 dX0_become_117 rfl (lv_at hl 0 rfl) ?_
  refine cd_get0 (v := .ref (G.2.2.2.2 + (q + 4))) S hK hZ hq 13 cd_f_X0_21 rfl dX0_become_118 ?_
  obtain ⟨o21, E1, E⟩ := cd_bE E
  refine cd_cNv (As := [.ref (G.2.2.2.2 + (r1 + 4)), .ref (G.2.2.2.2 + (q + 4))]) S hK hZ hl.1 (c_X7_copyRow l G (r1 + 4) (q + 4) ((cd_r0_13 hr1)).self ((cd_r0_13 hq)).self o19 o21 E1) cd_v_X7_copyRow (cd_nX0_62 hK.2) ⟨Nat.le_of_ble_eq_true rfl, Nat.le_of_ble_eq_true rfl⟩ ⟨rfl, rfl⟩ rfl rfl (Nat.le_of_ble_eq_true rfl) ⟨Nat.zero_le _, Nat.zero_le _⟩ dX0_become_121 (fun H locs hZ => ?_)
  refine lv_aload_n S.1 S.2.1 dX0_become_124 rfl (lv_at hl 1 rfl) ?_
  refine cd_get0 (v := .ref (G.2.2.2.2 + (r1 + 5))) S hK hZ hr1 14 cd_f_X0_24 rfl dX0_become_125 ?_
  refine lv_aload_n S.1 S.2.1 dX0_become_128 rfl (lv_at hl 0 rfl) ?_
  refine cd_get0 (v := .ref (G.2.2.2.2 + (q + 5))) S hK hZ hq 14 cd_f_X0_24 rfl dX0_become_129 ?_
  obtain ⟨o23, E1, E⟩ := cd_bE E
  refine cd_cNv (As := [.ref (G.2.2.2.2 + (r1 + 5)), .ref (G.2.2.2.2 + (q + 5))]) S hK hZ hl.1 (c_X7_copyRow l G (r1 + 5) (q + 5) ((cd_r0_14 hr1)).self ((cd_r0_14 hq)).self o21 o23 E1) cd_v_X7_copyRow (cd_nX0_62 hK.2) ⟨Nat.le_of_ble_eq_true rfl, Nat.le_of_ble_eq_true rfl⟩ ⟨rfl, rfl⟩ rfl rfl (Nat.le_of_ble_eq_true rfl) ⟨Nat.zero_le _, Nat.zero_le _⟩ dX0_become_132 (fun H locs hZ => ?_)
  refine lv_aload_n S.1 S.2.1 dX0_become_135 rfl (lv_at hl 1 rfl) ?_
  refine cd_get0 (v := .ref (G.2.2.2.2 + (r1 + 6))) S hK hZ hr1 15 cd_f_X0_27 rfl dX0_become_136 ?_
  refine lv_aload_n S.1 S.2.1 dX0_become_139 rfl (lv_at hl 0 rfl) ?_
  refine cd_get0 (v := .ref (G.2.2.2.2 + (q + 6))) S hK hZ hq 15 cd_f_X0_27 rfl dX0_become_140 ?_
  obtain ⟨o25, E1, E⟩ := cd_bE E
  refine cd_cNv (As := [.ref (G.2.2.2.2 + (r1 + 6)), .ref (G.2.2.2.2 + (q + 6))]) S hK hZ hl.1 (c_X7_copyRow l G (r1 + 6) (q + 6) ((cd_r0_15 hr1)).self ((cd_r0_15 hq)).self o23 o25 E1) cd_v_X7_copyRow (cd_nX0_62 hK.2) ⟨Nat.le_of_ble_eq_true rfl, Nat.le_of_ble_eq_true rfl⟩ ⟨rfl, rfl⟩ rfl rfl (Nat.le_of_ble_eq_true rfl) ⟨Nat.zero_le _, Nat.zero_le _⟩ dX0_become_143 (fun H locs hZ => ?_)
  exact hret _ _ _ _ _ (Option.some.inj E) hZ dX0_become_146
abbrev rm_X7_isWithin : Room := { frames := 0, cells := 0, slots := 0, locals := 0 }
theorem cd_v_X7_isWithin : cd_Vs yX7_isWithin cX7_isWithin 3 (some .boolean) 3 := ⟨cd_s_X7_isWithin, cd_n_X7, cd_c_X7_isWithin, by decide +kernel⟩
set_option maxHeartbeats 4000000 in
set_option maxRecDepth 100000 in
theorem c_X7_isWithin (l : Launch) (G : cd_G) (a0 : Int32) (a1 : Int32) (a2 : Int32) (h : cd_Hp) (out : Int32) (E : f_X7_isWithin a0 a1 a2 = out) : cd_Mz l G yX7_isWithin (Cond.code yX7_isWithin cX7_isWithin 3 (some .boolean) :: cd_T) rm_X7_isWithin [.int a0, .int a1, .int a2] h (out, h) := by
  refine cd_inz (by decide) (Nat.le_of_ble_eq_true rfl) ?_
  intro p e s m args below meth c Q ls H locs S hK hZ hl hret
  have hl : lv_has ls 3 [(0, .int a0), (1, .int a1), (2, .int a2)] := hl
  unfold f_X7_isWithin at E
  refine lv_iload_n S.1 S.2.1 dX7_isWithin_0 rfl (lv_at hl 0 rfl) ?_
  refine lv_iload_n S.1 S.2.1 dX7_isWithin_1 rfl (lv_at hl 1 rfl) ?_
  refine lv_icmp_lt (tgt := 14) S.1 S.2.1 dX7_isWithin_2 (by decide) (fun c1 => ?_) (fun c1 => ?_)
  · have E := cd_tE c1 E
    refine lv_iconst (v := 0) S.1 S.2.1 dX7_isWithin_14 (by decide) ?_
    exact hret _ _ _ _ _ _ (by decide) (congrArg (fun z => (z, h)) (E)) hZ dX7_isWithin_15
  · have E := cd_fE c1 E
    refine lv_iload_n S.1 S.2.1 dX7_isWithin_5 rfl (lv_at hl 0 rfl) ?_
    refine lv_iload_n S.1 S.2.1 dX7_isWithin_6 rfl (lv_at hl 2 rfl) ?_
    refine lv_icmp_gt (tgt := 14) S.1 S.2.1 dX7_isWithin_7 (by decide) (fun c2 => ?_) (fun c2 => ?_)
    · have E := cd_tE c2 E
      refine lv_iconst (v := 0) S.1 S.2.1 dX7_isWithin_14 (by decide) ?_
      exact hret _ _ _ _ _ _ (by decide) (congrArg (fun z => (z, h)) (E)) hZ dX7_isWithin_15
    · have E := cd_fE c2 E
      refine lv_iconst (v := 1) S.1 S.2.1 dX7_isWithin_10 (by decide) ?_
      refine lv_goto (tgt := 15) S.1 S.2.1 dX7_isWithin_11 (by decide) ?_
      exact hret _ _ _ _ _ _ (by decide) (congrArg (fun z => (z, h)) (E)) hZ dX7_isWithin_15
abbrev rm_X0_hasEvent : Room := { frames := 1, cells := 0, slots := 0, locals := 22 }
theorem cd_v_X0_hasEvent : cd_V yX0_hasEvent cX0_hasEvent 2 (some .boolean) 1 := ⟨cd_i_X0_hasEvent, cd_e_X0_X0_hasEvent, cd_n_X0, cd_c_X0_hasEvent, by decide +kernel⟩
set_option maxHeartbeats 4000000 in
set_option maxRecDepth 100000 in
theorem c_X0_hasEvent (l : Launch) (G : cd_G) (q : Nat) (a1 : Int32) (hq : cd_is 0 q) (h : cd_Hp) (out : Int32) (E : f_X0_hasEvent q a1 h = out) : cd_Mz l G yX0_hasEvent (Cond.code yX0_hasEvent cX0_hasEvent 2 (some .boolean) :: cd_T) rm_X0_hasEvent [.ref (G.2.2.2.2 + q), .int a1] h (out, h) := by
  refine cd_inz (by decide) (Nat.le_of_ble_eq_true rfl) ?_
  intro p e s m args below meth c Q ls H locs S hK hZ hl hret
  have hl : lv_has ls 2 [(0, .ref (G.2.2.2.2 + q)), (1, .int a1)] := hl
  unfold f_X0_hasEvent at E
  refine lv_iload_n S.1 S.2.1 dX0_hasEvent_0 rfl (lv_at hl 1 rfl) ?_
  refine lv_iconst (v := 0) S.1 S.2.1 dX0_hasEvent_1 (by decide) ?_
  refine lv_aload_n S.1 S.2.1 dX0_hasEvent_2 rfl (lv_at hl 0 rfl) ?_
  refine cd_get0 (v := .int (cd_g h q 6)) S hK hZ hq 6 cd_f_X0_50 rfl dX0_hasEvent_3 ?_
  refine lv_iconst (v := 1) S.1 S.2.1 dX0_hasEvent_6 (by decide) ?_
  refine lv_isub S.1 S.2.1 dX0_hasEvent_7 ?_
  refine cd_cNz (As := [.int a1, .int 0, .int ((cd_g h q 6) - 1)]) S hK hZ hl.1 (c_X7_isWithin l G a1 0 ((cd_g h q 6) - 1) h _ rfl) cd_v_X7_isWithin (cd_nX0_66 hK.2) ⟨Nat.le_of_ble_eq_true rfl, Nat.le_of_ble_eq_true rfl⟩ ⟨rfl, rfl⟩ rfl rfl (Nat.le_of_ble_eq_true rfl) ⟨Nat.zero_le _, Nat.zero_le _⟩ dX0_hasEvent_8 (fun H locs hZ b1 => ?_)
  exact hret _ _ _ _ _ _ b1 (congrArg (fun z => (z, h)) (E)) hZ dX0_hasEvent_11
abbrev rm_X0_append : Room := { frames := 0, cells := 0, slots := 0, locals := 0 }
theorem cd_v_X0_append : cd_V yX0_append cX0_append 3 (some .int) 1 := ⟨cd_i_X0_append, cd_e_X0_X0_append, cd_n_X0, cd_c_X0_append, by decide +kernel⟩
set_option maxHeartbeats 4000000 in
set_option maxRecDepth 100000 in
theorem c_X0_append (l : Launch) (G : cd_G) (q : Nat) (a1 : Int32) (hq : cd_is 0 q) (h : cd_Hp) (out : (Int32 × cd_Hp)) (E : f_X0_append q a1 h = some out) : cd_Mi l G yX0_append (Cond.code yX0_append cX0_append 3 (some .int) :: cd_T) rm_X0_append [.ref (G.2.2.2.2 + q), .int a1] h out := by
  refine cd_ini (by decide) (Nat.le_of_ble_eq_true rfl) ?_
  intro p e s m args below meth c Q ls H locs S hK hZ hl hret
  have hl : lv_has ls 3 [(0, .ref (G.2.2.2.2 + q)), (1, .int a1)] := hl
  unfold f_X0_append at E
  refine lv_aload_n S.1 S.2.1 dX0_append_0 rfl (lv_at hl 0 rfl) ?_
  refine cd_get0 (v := .int (cd_g h q 6)) S hK hZ hq 6 cd_f_X0_50 rfl dX0_append_1 ?_
  refine lv_iconst (v := 4) S.1 S.2.1 dX0_append_4 (by decide) ?_
  refine lv_icmp_lt (tgt := 11) S.1 S.2.1 dX0_append_5 (by decide) (fun c1 => ?_) (fun c1 => ?_)
  · have E := cd_tE c1 E
    refine lv_aload_n S.1 S.2.1 dX0_append_11 rfl (lv_at hl 0 rfl) ?_
    refine cd_get0 (v := .int (cd_g h q 6)) S hK hZ hq 6 cd_f_X0_50 rfl dX0_append_12 ?_
    obtain ⟨x2, ex2, E⟩ := cd_nmE E
    refine cd_topi ex2 ?_
    refine lv_istore_n (lv' := [(2, .int x2), (0, .ref (G.2.2.2.2 + q)), (1, .int a1)]) S.1 S.2.1 dX0_append_15 rfl hl (by decide) rfl (fun ls hl => ?_)
    refine lv_aload_n S.1 S.2.1 dX0_append_16 rfl (lv_at hl 1 rfl) ?_
    refine lv_dup S.1 S.2.1 dX0_append_17 rfl ?_
    refine cd_get0 (v := .int (cd_g h q 6)) S hK hZ hq 6 cd_f_X0_50 rfl dX0_append_18 ?_
    refine lv_iconst (v := 1) S.1 S.2.1 dX0_append_21 (by decide) ?_
    refine lv_iadd S.1 S.2.1 dX0_append_22 ?_
    obtain ⟨h3, eh3, E⟩ := cd_nmE E
    refine cd_put0_6 S hK hZ hq cd_f_X0_50 eh3 dX0_append_23 (fun H locs hZ => ?_)
    refine lv_aload_n S.1 S.2.1 dX0_append_26 rfl (lv_at hl 1 rfl) ?_
    refine cd_get0 (v := .ref (G.2.2.2.2 + (q + 1))) S hK hZ hq 10 cd_f_X0_9 rfl dX0_append_27 ?_
    refine lv_iload_n S.1 S.2.1 dX0_append_30 rfl (lv_at hl 0 rfl) ?_
    refine lv_iload_n S.1 S.2.1 dX0_append_31 rfl (lv_at hl 2 rfl) ?_
    obtain ⟨z4, E⟩ := cd_ckE E
    obtain ⟨h5, eh5, E⟩ := cd_nmE E
    refine cd_iast S hK hZ (cd_r0_10 hq) z4 eh5 dX0_append_32 (fun H locs hZ => ?_)
    refine lv_aload_n S.1 S.2.1 dX0_append_33 rfl (lv_at hl 1 rfl) ?_
    refine cd_get0 (v := .ref (G.2.2.2.2 + (q + 2))) S hK hZ hq 11 cd_f_X0_15 rfl dX0_append_34 ?_
    refine lv_iload_n S.1 S.2.1 dX0_append_37 rfl (lv_at hl 0 rfl) ?_
    refine lv_iconst (v := 0) S.1 S.2.1 dX0_append_38 (by decide) ?_
    obtain ⟨z6, E⟩ := cd_ckE E
    obtain ⟨h7, eh7, E⟩ := cd_nmE E
    refine cd_iast S hK hZ (cd_r0_11 hq) z6 eh7 dX0_append_39 (fun H locs hZ => ?_)
    refine lv_aload_n S.1 S.2.1 dX0_append_40 rfl (lv_at hl 1 rfl) ?_
    refine cd_get0 (v := .ref (G.2.2.2.2 + (q + 3))) S hK hZ hq 12 cd_f_X0_18 rfl dX0_append_41 ?_
    refine lv_iload_n S.1 S.2.1 dX0_append_44 rfl (lv_at hl 0 rfl) ?_
    refine lv_iconst (v := (-1)) S.1 S.2.1 dX0_append_45 (by decide) ?_
    obtain ⟨z8, E⟩ := cd_ckE E
    obtain ⟨h9, eh9, E⟩ := cd_nmE E
    refine cd_iast S hK hZ (cd_r0_12 hq) z8 eh9 dX0_append_46 (fun H locs hZ => ?_)
    refine lv_iload_n S.1 S.2.1 dX0_append_47 rfl (lv_at hl 0 rfl) ?_
    exact hret _ _ _ _ _ _ (Option.some.inj E) hZ dX0_append_48
  · have E := cd_fE c1 E
    refine lv_bipush (v := (-4)) S.1 S.2.1 dX0_append_8 (by decide) ?_
    exact hret _ _ _ _ _ _ (Option.some.inj E) hZ dX0_append_10
abbrev rm_X0_leaveSeats : Room := { frames := 0, cells := 0, slots := 0, locals := 0 }
theorem cd_v_X0_leaveSeats : cd_V yX0_leaveSeats cX0_leaveSeats 2 none 0 := ⟨cd_i_X0_leaveSeats, cd_e_X0_X0_leaveSeats, cd_n_X0, cd_c_X0_leaveSeats, by decide +kernel⟩
set_option maxHeartbeats 4000000 in
set_option maxRecDepth 100000 in
theorem c_X0_leaveSeats (l : Launch) (G : cd_G) (q : Nat) (hq : cd_is 0 q) (h : cd_Hp) (out : cd_Hp) (E : f_X0_leaveSeats q h = some out) : cd_Mv l G yX0_leaveSeats (Cond.code yX0_leaveSeats cX0_leaveSeats 2 none :: cd_T) rm_X0_leaveSeats [.ref (G.2.2.2.2 + q)] h out := by
  refine cd_inv (by decide) (Nat.le_of_ble_eq_true rfl) ?_
  intro p e s m args below meth c Q ls H locs S hK hZ hl hret
  have hl : lv_has ls 2 [(0, .ref (G.2.2.2.2 + q))] := hl
  have L7 : ∀ (n : Nat) (v7_1 : Int32) (h7_ : cd_Hp) (o : (Int32 × cd_Hp)) (H : Heap) (locs : List Loc) (ls : Array Slot), cd_lp (f_X0_leaveSeats_B7 q) n (v7_1, h7_) = some o → cd_Z G h7_ s.heap H locs → lv_has ls 2 [(1, .int v7_1), (0, .ref (G.2.2.2.2 + q))] → (∀ (H : Heap) (locs : List Loc) (ls : Array Slot), cd_Z G o.2 s.heap H locs → lv_has ls 2 [(1, .int o.1), (0, .ref (G.2.2.2.2 + q))] → W p l e rm_X0_leaveSeats s m args below meth c H locs 0 0 Q (F0 m 28 ls [])) → W p l e rm_X0_leaveSeats s m args below meth c H locs 0 0 Q (F0 m 7 ls []) := by
    intro n
    induction n with
    | zero => intro v7_1 h7_ o H locs ls E; exact nomatch (show (none : Option (Int32 × cd_Hp)) = some o from E)
    | succ n ih =>
      intro v7_1 h7_ o H locs ls E hZ hl hex
      have E : f_X0_leaveSeats_B7 q (cd_lp (f_X0_leaveSeats_B7 q) n) (v7_1, h7_) = some o := E
      unfold f_X0_leaveSeats_B7 at E
      dsimp only at E
      refine lv_iload_n S.1 S.2.1 dX0_leaveSeats_7 rfl (lv_at hl 0 rfl) ?_
      refine lv_aload_n S.1 S.2.1 dX0_leaveSeats_8 rfl (lv_at hl 1 rfl) ?_
      refine cd_get0 (v := .int (cd_g h7_ q 6)) S hK hZ hq 6 cd_f_X0_50 rfl dX0_leaveSeats_9 ?_
      refine lv_icmp_ge (tgt := 28) S.1 S.2.1 dX0_leaveSeats_12 (by decide) (fun c2 => ?_) (fun c2 => ?_)
      · have E := cd_tE c2 E
        cases E
        exact hex H locs ls hZ (lv_sub hl [0, 1] rfl)
      · have E := cd_fE c2 E
        refine lv_aload_n S.1 S.2.1 dX0_leaveSeats_15 rfl (lv_at hl 1 rfl) ?_
        refine cd_get0 (v := .ref (G.2.2.2.2 + (q + 3))) S hK hZ hq 12 cd_f_X0_18 rfl dX0_leaveSeats_16 ?_
        refine lv_iload_n S.1 S.2.1 dX0_leaveSeats_19 rfl (lv_at hl 0 rfl) ?_
        refine lv_iconst (v := (-1)) S.1 S.2.1 dX0_leaveSeats_20 (by decide) ?_
        obtain ⟨z3, E⟩ := cd_ckE E
        obtain ⟨h4, eh4, E⟩ := cd_nmE E
        refine cd_iast S hK hZ (cd_r0_12 hq) z3 eh4 dX0_leaveSeats_21 (fun H locs hZ => ?_)
        obtain ⟨x5, ex5, E⟩ := cd_nmE E
        refine lv_iinc (v := x5) (lv' := [(1, .int x5), (0, .ref (G.2.2.2.2 + q))]) S.1 S.2.1 dX0_leaveSeats_22 hl (k := 0) rfl (by rw [ex5]; rfl) (by decide) rfl (fun ls hl => ?_)
        refine lv_goto (tgt := 7) S.1 S.2.1 dX0_leaveSeats_25 (by decide) ?_
        exact ih x5 h4 o H locs ls E hZ (lv_sub hl [0, 1] rfl) hex
  unfold f_X0_leaveSeats at E
  refine lv_aload_n S.1 S.2.1 dX0_leaveSeats_0 rfl (lv_at hl 0 rfl) ?_
  refine lv_iconst (v := 0) S.1 S.2.1 dX0_leaveSeats_1 (by decide) ?_
  obtain ⟨h1, eh1, E⟩ := cd_nmE E
  refine cd_put0_5 S hK hZ hq cd_f_X0_47 (by decide) eh1 dX0_leaveSeats_2 (fun H locs hZ => ?_)
  refine lv_iconst (v := 0) S.1 S.2.1 dX0_leaveSeats_5 (by decide) ?_
  refine lv_istore_n (lv' := [(1, .int 0), (0, .ref (G.2.2.2.2 + q))]) S.1 S.2.1 dX0_leaveSeats_6 rfl hl (by decide) rfl (fun ls hl => ?_)
  obtain ⟨o6, E1, E⟩ := cd_bE E
  refine L7 cd_fu 0 h1 o6 H locs ls E1 hZ (lv_sub hl [0, 1] rfl) (fun H locs ls hZ hl => ?_)
  exact hret _ _ _ _ _ (Option.some.inj E) hZ dX0_leaveSeats_28
abbrev rm_X5_rateOf : Room := { frames := 0, cells := 0, slots := 0, locals := 0 }
theorem cd_v_X5_rateOf : cd_V yX5_rateOf cX5_rateOf 3 (some .int) 2 := ⟨cd_i_X5_rateOf, cd_e_X5_X5_rateOf, cd_n_X5, cd_c_X5_rateOf, by decide +kernel⟩
set_option maxHeartbeats 4000000 in
set_option maxRecDepth 100000 in
theorem c_X5_rateOf (l : Launch) (G : cd_G) (q : Nat) (a1 : Int32) (a2 : Int32) (hq : cd_is 5 q) (h : cd_Hp) (out : Int32) (E : f_X5_rateOf q a1 a2 h = some out) : cd_Mi l G yX5_rateOf (Cond.code yX5_rateOf cX5_rateOf 3 (some .int) :: cd_T) rm_X5_rateOf [.ref (G.2.2.2.2 + q), .int a1, .int a2] h (out, h) := by
  refine cd_ini (by decide) (Nat.le_of_ble_eq_true rfl) ?_
  intro p e s m args below meth c Q ls H locs S hK hZ hl hret
  have hl : lv_has ls 3 [(0, .ref (G.2.2.2.2 + q)), (1, .int a1), (2, .int a2)] := hl
  unfold f_X5_rateOf at E
  refine lv_aload_n S.1 S.2.1 dX5_rateOf_0 rfl (lv_at hl 0 rfl) ?_
  refine cd_get5 (v := .ref (G.2.2.2.2 + (q + 3))) S hK hZ hq 3 cd_f_X5_22 rfl dX5_rateOf_1 ?_
  refine lv_iload_n S.1 S.2.1 dX5_rateOf_4 rfl (lv_at hl 1 rfl) ?_
  refine lv_bipush (v := 8) S.1 S.2.1 dX5_rateOf_5 (by decide) ?_
  refine lv_imul S.1 S.2.1 dX5_rateOf_7 ?_
  refine lv_iload_n S.1 S.2.1 dX5_rateOf_8 rfl (lv_at hl 2 rfl) ?_
  refine lv_iadd S.1 S.2.1 dX5_rateOf_9 ?_
  obtain ⟨z1, E⟩ := cd_ckE E
  refine cd_iald S hK hZ (cd_r5_3 hq) z1 dX5_rateOf_10 ?_
  exact hret _ _ _ _ _ _ (congrArg (fun z => (z, h)) (Option.some.inj E)) hZ dX5_rateOf_11
abbrev rm_X0_countSlice : Room := { frames := 1, cells := 0, slots := 0, locals := 40 }
theorem cd_v_X0_countSlice : cd_V yX0_countSlice cX0_countSlice 5 none 2 := ⟨cd_i_X0_countSlice, cd_e_X0_X0_countSlice, cd_n_X0, cd_c_X0_countSlice, by decide +kernel⟩
set_option maxHeartbeats 4000000 in
set_option maxRecDepth 100000 in
theorem c_X0_countSlice (l : Launch) (G : cd_G) (q : Nat) (r1 : Nat) (a2 : Int32) (hq : cd_is 0 q) (hr1 : cd_is 5 r1) (h : cd_Hp) (out : cd_Hp) (E : f_X0_countSlice q r1 a2 h = some out) : cd_Mv l G yX0_countSlice (Cond.code yX0_countSlice cX0_countSlice 5 none :: cd_T) rm_X0_countSlice [.ref (G.2.2.2.2 + q), .ref (G.2.2.2.2 + r1), .int a2] h out := by
  refine cd_inv (by decide) (Nat.le_of_ble_eq_true rfl) ?_
  intro p e s m args below meth c Q ls H locs S hK hZ hl hret
  have hl : lv_has ls 5 [(0, .ref (G.2.2.2.2 + q)), (1, .ref (G.2.2.2.2 + r1)), (2, .int a2)] := hl
  have L12 : ∀ (n : Nat) (v12_3 : Int32) (h12_ : cd_Hp) (o : (Int32 × cd_Hp)) (H : Heap) (locs : List Loc) (ls : Array Slot), cd_lp (f_X0_countSlice_B12 q r1 a2) n (v12_3, h12_) = some o → cd_Z G h12_ s.heap H locs → lv_has ls 5 [(3, .int v12_3), (0, .ref (G.2.2.2.2 + q)), (1, .ref (G.2.2.2.2 + r1)), (2, .int a2)] → (∀ (H : Heap) (locs : List Loc) (ls : Array Slot), cd_Z G o.2 s.heap H locs → lv_has ls 5 [(3, .int o.1), (0, .ref (G.2.2.2.2 + q)), (1, .ref (G.2.2.2.2 + r1)), (2, .int a2)] → W p l e rm_X0_countSlice s m args below meth c H locs 0 0 Q (F0 m 72 ls [])) → W p l e rm_X0_countSlice s m args below meth c H locs 0 0 Q (F0 m 12 ls []) := by
    intro n
    induction n with
    | zero => intro v12_3 h12_ o H locs ls E; exact nomatch (show (none : Option (Int32 × cd_Hp)) = some o from E)
    | succ n ih =>
      intro v12_3 h12_ o H locs ls E hZ hl hex
      have E : f_X0_countSlice_B12 q r1 a2 (cd_lp (f_X0_countSlice_B12 q r1 a2) n) (v12_3, h12_) = some o := E
      unfold f_X0_countSlice_B12 at E
      dsimp only at E
      refine lv_iload_n S.1 S.2.1 dX0_countSlice_12 rfl (lv_at hl 0 rfl) ?_
      refine lv_aload_n S.1 S.2.1 dX0_countSlice_13 rfl (lv_at hl 1 rfl) ?_
      refine cd_get0 (v := .int (cd_g h12_ q 6)) S hK hZ hq 6 cd_f_X0_50 rfl dX0_countSlice_14 ?_
      refine lv_icmp_ge (tgt := 72) S.1 S.2.1 dX0_countSlice_17 (by decide) (fun c4 => ?_) (fun c4 => ?_)
      · have E := cd_tE c4 E
        cases E
        exact hex H locs ls hZ (lv_sub hl [0, 1, 2, 3] rfl)
      · have E := cd_fE c4 E
        refine lv_aload_n S.1 S.2.1 dX0_countSlice_20 rfl (lv_at hl 2 rfl) ?_
        refine lv_iload_n S.1 S.2.1 dX0_countSlice_21 rfl (lv_at hl 3 rfl) ?_
        refine lv_aload_n S.1 S.2.1 dX0_countSlice_22 rfl (lv_at hl 1 rfl) ?_
        refine cd_get0 (v := .ref (G.2.2.2.2 + (q + 1))) S hK hZ hq 10 cd_f_X0_9 rfl dX0_countSlice_23 ?_
        refine lv_iload_n S.1 S.2.1 dX0_countSlice_26 rfl (lv_at hl 0 rfl) ?_
        obtain ⟨z5, E⟩ := cd_ckE E
        refine cd_iald S hK hZ (cd_r0_10 hq) z5 dX0_countSlice_27 ?_
        obtain ⟨o6, E1, E⟩ := cd_bE E
        refine cd_cVi (As := [.int a2, .int (cd_g h12_ (q + 1) (v12_3.toNatClampNeg))]) S hK hZ hl.1 (c_X5_rateOf l G r1 a2 (cd_g h12_ (q + 1) (v12_3.toNatClampNeg)) hr1 h12_ o6 E1) cd_v_X5_rateOf cd_m_X0_70 ⟨Nat.le_of_ble_eq_true rfl, Nat.le_of_ble_eq_true rfl⟩ ⟨rfl, rfl⟩ (ci := 5) (by decide) rfl hr1 rfl rfl (Nat.le_of_ble_eq_true rfl) ⟨Nat.zero_le _, Nat.zero_le _⟩ dX0_countSlice_28 (fun H locs hZ => ?_)
        refine lv_istore (lv' := [(4, .int o6), (3, .int v12_3), (0, .ref (G.2.2.2.2 + q)), (1, .ref (G.2.2.2.2 + r1)), (2, .int a2)]) S.1 S.2.1 dX0_countSlice_31 hl (by decide) rfl (fun ls hl => ?_)
        refine lv_aload_n S.1 S.2.1 dX0_countSlice_33 rfl (lv_at hl 2 rfl) ?_
        refine cd_get0 (v := .ref (G.2.2.2.2 + (q + 4))) S hK hZ hq 13 cd_f_X0_21 rfl dX0_countSlice_34 ?_
        refine lv_iload_n S.1 S.2.1 dX0_countSlice_37 rfl (lv_at hl 1 rfl) ?_
        refine lv_bipush (v := 6) S.1 S.2.1 dX0_countSlice_38 (by decide) ?_
        refine lv_imul S.1 S.2.1 dX0_countSlice_40 ?_
        refine lv_iload_n S.1 S.2.1 dX0_countSlice_41 rfl (lv_at hl 4 rfl) ?_
        refine lv_iadd S.1 S.2.1 dX0_countSlice_42 ?_
        refine lv_dup2_11 S.1 S.2.1 dX0_countSlice_43 rfl rfl ?_
        obtain ⟨z8, E⟩ := cd_ckE E
        refine cd_iald S hK hZ (cd_r0_13 hq) z8 dX0_countSlice_44 ?_
        refine lv_iload S.1 S.2.1 dX0_countSlice_45 (lv_at hl 0 rfl) ?_
        refine lv_iadd S.1 S.2.1 dX0_countSlice_47 ?_
        obtain ⟨z9, E⟩ := cd_ckE E
        obtain ⟨h10, eh10, E⟩ := cd_nmE E
        refine cd_iast S hK hZ (cd_r0_13 hq) z9 eh10 dX0_countSlice_48 (fun H locs hZ => ?_)
        refine lv_aload_n S.1 S.2.1 dX0_countSlice_49 rfl (lv_at hl 2 rfl) ?_
        refine cd_get0 (v := .ref (G.2.2.2.2 + (q + 2))) S hK hZ hq 11 cd_f_X0_15 rfl dX0_countSlice_50 ?_
        refine lv_iload_n S.1 S.2.1 dX0_countSlice_53 rfl (lv_at hl 1 rfl) ?_
        refine lv_aload_n S.1 S.2.1 dX0_countSlice_54 rfl (lv_at hl 2 rfl) ?_
        refine cd_get0 (v := .ref (G.2.2.2.2 + (q + 2))) S hK hZ hq 11 cd_f_X0_15 rfl dX0_countSlice_55 ?_
        refine lv_iload_n S.1 S.2.1 dX0_countSlice_58 rfl (lv_at hl 1 rfl) ?_
        obtain ⟨z11, E⟩ := cd_ckE E
        refine cd_iald S hK hZ (cd_r0_11 hq) z11 dX0_countSlice_59 ?_
        refine lv_iload S.1 S.2.1 dX0_countSlice_60 (lv_at hl 0 rfl) ?_
        refine cd_max S hl.1 cd_m_X0_76 cd_s_J9_max_7cf53 cd_n_J9 cd_c_J9_max_7cf53 (Nat.le_of_ble_eq_true rfl) (Nat.le_of_ble_eq_true rfl) (Nat.zero_le _) (Nat.zero_le _) dX0_countSlice_62 ?_
        obtain ⟨z12, E⟩ := cd_ckE E
        obtain ⟨h13, eh13, E⟩ := cd_nmE E
        refine cd_iast S hK hZ (cd_r0_11 hq) z12 eh13 dX0_countSlice_65 (fun H locs hZ => ?_)
        obtain ⟨x14, ex14, E⟩ := cd_nmE E
        refine lv_iinc (v := x14) (lv' := [(3, .int x14), (4, .int o6), (0, .ref (G.2.2.2.2 + q)), (1, .ref (G.2.2.2.2 + r1)), (2, .int a2)]) S.1 S.2.1 dX0_countSlice_66 hl (k := 1) rfl (by rw [ex14]; rfl) (by decide) rfl (fun ls hl => ?_)
        refine lv_goto (tgt := 12) S.1 S.2.1 dX0_countSlice_69 (by decide) ?_
        exact ih x14 h13 o H locs ls E hZ (lv_sub hl [0, 2, 3, 4] rfl) hex
  unfold f_X0_countSlice at E
  refine lv_aload_n S.1 S.2.1 dX0_countSlice_0 rfl (lv_at hl 0 rfl) ?_
  refine cd_get0 (v := .ref (G.2.2.2.2 + (q + 6))) S hK hZ hq 15 cd_f_X0_27 rfl dX0_countSlice_1 ?_
  refine lv_iload_n S.1 S.2.1 dX0_countSlice_4 rfl (lv_at hl 2 rfl) ?_
  refine lv_dup2_11 S.1 S.2.1 dX0_countSlice_5 rfl rfl ?_
  obtain ⟨z1, E⟩ := cd_ckE E
  refine cd_iald S hK hZ (cd_r0_15 hq) z1 dX0_countSlice_6 ?_
  refine lv_iconst (v := 1) S.1 S.2.1 dX0_countSlice_7 (by decide) ?_
  refine lv_iadd S.1 S.2.1 dX0_countSlice_8 ?_
  obtain ⟨z2, E⟩ := cd_ckE E
  obtain ⟨h3, eh3, E⟩ := cd_nmE E
  refine cd_iast S hK hZ (cd_r0_15 hq) z2 eh3 dX0_countSlice_9 (fun H locs hZ => ?_)
  refine lv_iconst (v := 0) S.1 S.2.1 dX0_countSlice_10 (by decide) ?_
  refine lv_istore_n (lv' := [(3, .int 0), (0, .ref (G.2.2.2.2 + q)), (1, .ref (G.2.2.2.2 + r1)), (2, .int a2)]) S.1 S.2.1 dX0_countSlice_11 rfl hl (by decide) rfl (fun ls hl => ?_)
  obtain ⟨o15, E1, E⟩ := cd_bE E
  refine L12 cd_fu 0 h3 o15 H locs ls E1 hZ (lv_sub hl [0, 1, 2, 3] rfl) (fun H locs ls hZ hl => ?_)
  exact hret _ _ _ _ _ (Option.some.inj E) hZ dX0_countSlice_72
abbrev rm_X0_moveCell : Room := { frames := 0, cells := 0, slots := 0, locals := 0 }
theorem cd_v_X0_moveCell : cd_Vs yX0_moveCell cX0_moveCell 3 none 3 := ⟨cd_s_X0_moveCell, cd_n_X0, cd_c_X0_moveCell, by decide +kernel⟩
set_option maxHeartbeats 4000000 in
set_option maxRecDepth 100000 in
theorem c_X0_moveCell (l : Launch) (G : cd_G) (r0 : Nat) (a1 : Int32) (a2 : Int32) (hr0 : cd_ar (cd_ln r0) r0) (h : cd_Hp) (out : cd_Hp) (E : f_X0_moveCell r0 a1 a2 h = some out) : cd_Mv l G yX0_moveCell (Cond.code yX0_moveCell cX0_moveCell 3 none :: cd_T) rm_X0_moveCell [.ref (G.2.2.2.2 + r0), .int a1, .int a2] h out := by
  refine cd_inv (by decide) (Nat.le_of_ble_eq_true rfl) ?_
  intro p e s m args below meth c Q ls H locs S hK hZ hl hret
  have hl : lv_has ls 3 [(0, .ref (G.2.2.2.2 + r0)), (1, .int a1), (2, .int a2)] := hl
  unfold f_X0_moveCell at E
  refine lv_aload_n S.1 S.2.1 dX0_moveCell_0 rfl (lv_at hl 0 rfl) ?_
  refine lv_iload_n S.1 S.2.1 dX0_moveCell_1 rfl (lv_at hl 2 rfl) ?_
  refine lv_dup2_11 S.1 S.2.1 dX0_moveCell_2 rfl rfl ?_
  obtain ⟨z1, E⟩ := cd_ckE E
  refine cd_iald S hK hZ hr0 z1 dX0_moveCell_3 ?_
  refine lv_aload_n S.1 S.2.1 dX0_moveCell_4 rfl (lv_at hl 0 rfl) ?_
  refine lv_iload_n S.1 S.2.1 dX0_moveCell_5 rfl (lv_at hl 1 rfl) ?_
  obtain ⟨z2, E⟩ := cd_ckE E
  refine cd_iald S hK hZ hr0 z2 dX0_moveCell_6 ?_
  refine lv_iadd S.1 S.2.1 dX0_moveCell_7 ?_
  obtain ⟨z3, E⟩ := cd_ckE E
  obtain ⟨h4, eh4, E⟩ := cd_nmE E
  refine cd_iast S hK hZ hr0 z3 eh4 dX0_moveCell_8 (fun H locs hZ => ?_)
  refine lv_aload_n S.1 S.2.1 dX0_moveCell_9 rfl (lv_at hl 0 rfl) ?_
  refine lv_iload_n S.1 S.2.1 dX0_moveCell_10 rfl (lv_at hl 1 rfl) ?_
  refine lv_iconst (v := 0) S.1 S.2.1 dX0_moveCell_11 (by decide) ?_
  obtain ⟨z5, E⟩ := cd_ckE E
  obtain ⟨h6, eh6, E⟩ := cd_nmE E
  refine cd_iast S hK hZ hr0 z5 eh6 dX0_moveCell_12 (fun H locs hZ => ?_)
  exact hret _ _ _ _ _ (Option.some.inj E) hZ dX0_moveCell_13
abbrev rm_X0_moveTo : Room := { frames := 1, cells := 0, slots := 0, locals := 22 }
theorem cd_v_X0_moveTo : cd_V yX0_moveTo cX0_moveTo 4 none 2 := ⟨cd_i_X0_moveTo, cd_e_X0_X0_moveTo, cd_n_X0, cd_c_X0_moveTo, by decide +kernel⟩
set_option maxHeartbeats 4000000 in
set_option maxRecDepth 100000 in
theorem c_X0_moveTo (l : Launch) (G : cd_G) (q : Nat) (a1 : Int32) (a2 : Int32) (hq : cd_is 0 q) (h : cd_Hp) (out : cd_Hp) (E : f_X0_moveTo q a1 a2 h = some out) : cd_Mv l G yX0_moveTo (Cond.code yX0_moveTo cX0_moveTo 4 none :: cd_T) rm_X0_moveTo [.ref (G.2.2.2.2 + q), .int a1, .int a2] h out := by
  refine cd_inv (by decide) (Nat.le_of_ble_eq_true rfl) ?_
  intro p e s m args below meth c Q ls H locs S hK hZ hl hret
  have hl : lv_has ls 4 [(0, .ref (G.2.2.2.2 + q)), (1, .int a1), (2, .int a2)] := hl
  have L20 : ∀ (n : Nat) (v20_3 : Int32) (h20_ : cd_Hp) (o : (Int32 × cd_Hp)) (H : Heap) (locs : List Loc) (ls : Array Slot), cd_lp (f_X0_moveTo_B20 q a1 a2) n (v20_3, h20_) = some o → cd_Z G h20_ s.heap H locs → lv_has ls 4 [(3, .int v20_3), (0, .ref (G.2.2.2.2 + q)), (1, .int a1), (2, .int a2)] → (∀ (H : Heap) (locs : List Loc) (ls : Array Slot), cd_Z G o.2 s.heap H locs → lv_has ls 4 [(3, .int o.1), (0, .ref (G.2.2.2.2 + q)), (1, .int a1), (2, .int a2)] → W p l e rm_X0_moveTo s m args below meth c H locs 0 0 Q (F0 m 53 ls [])) → W p l e rm_X0_moveTo s m args below meth c H locs 0 0 Q (F0 m 20 ls []) := by
    intro n
    induction n with
    | zero => intro v20_3 h20_ o H locs ls E; exact nomatch (show (none : Option (Int32 × cd_Hp)) = some o from E)
    | succ n ih =>
      intro v20_3 h20_ o H locs ls E hZ hl hex
      have E : f_X0_moveTo_B20 q a1 a2 (cd_lp (f_X0_moveTo_B20 q a1 a2) n) (v20_3, h20_) = some o := E
      unfold f_X0_moveTo_B20 at E
      dsimp only at E
      refine lv_iload_n S.1 S.2.1 dX0_moveTo_20 rfl (lv_at hl 0 rfl) ?_
      refine lv_aload_n S.1 S.2.1 dX0_moveTo_21 rfl (lv_at hl 1 rfl) ?_
      refine cd_get0 (v := .int (cd_g h20_ q 6)) S hK hZ hq 6 cd_f_X0_50 rfl dX0_moveTo_22 ?_
      refine lv_icmp_ge (tgt := 53) S.1 S.2.1 dX0_moveTo_25 (by decide) (fun c5 => ?_) (fun c5 => ?_)
      · have E := cd_tE c5 E
        cases E
        exact hex H locs ls hZ (lv_sub hl [0, 1, 2, 3] rfl)
      · have E := cd_fE c5 E
        refine lv_aload_n S.1 S.2.1 dX0_moveTo_28 rfl (lv_at hl 1 rfl) ?_
        refine cd_get0 (v := .ref (G.2.2.2.2 + (q + 4))) S hK hZ hq 13 cd_f_X0_21 rfl dX0_moveTo_29 ?_
        refine lv_iload_n S.1 S.2.1 dX0_moveTo_32 rfl (lv_at hl 0 rfl) ?_
        refine lv_bipush (v := 6) S.1 S.2.1 dX0_moveTo_33 (by decide) ?_
        refine lv_imul S.1 S.2.1 dX0_moveTo_35 ?_
        refine lv_iload_n S.1 S.2.1 dX0_moveTo_36 rfl (lv_at hl 2 rfl) ?_
        refine lv_iadd S.1 S.2.1 dX0_moveTo_37 ?_
        refine lv_iload_n S.1 S.2.1 dX0_moveTo_38 rfl (lv_at hl 0 rfl) ?_
        refine lv_bipush (v := 6) S.1 S.2.1 dX0_moveTo_39 (by decide) ?_
        refine lv_imul S.1 S.2.1 dX0_moveTo_41 ?_
        refine lv_iload_n S.1 S.2.1 dX0_moveTo_42 rfl (lv_at hl 3 rfl) ?_
        refine lv_iadd S.1 S.2.1 dX0_moveTo_43 ?_
        obtain ⟨o6, E1, E⟩ := cd_bE E
        refine cd_cSv (As := [.ref (G.2.2.2.2 + (q + 4)), .int ((v20_3 * 6) + a1), .int ((v20_3 * 6) + a2)]) S hK hZ hl.1 (c_X0_moveCell l G (q + 4) ((v20_3 * 6) + a1) ((v20_3 * 6) + a2) ((cd_r0_13 hq)).self h20_ o6 E1) cd_v_X0_moveCell cd_m_X0_81 ⟨Nat.le_of_ble_eq_true rfl, Nat.le_of_ble_eq_true rfl⟩ ⟨rfl, rfl⟩ rfl rfl (Nat.le_of_ble_eq_true rfl) ⟨Nat.zero_le _, Nat.zero_le _⟩ dX0_moveTo_44 (fun H locs hZ => ?_)
        obtain ⟨x8, ex8, E⟩ := cd_nmE E
        refine lv_iinc (v := x8) (lv' := [(3, .int x8), (0, .ref (G.2.2.2.2 + q)), (1, .int a1), (2, .int a2)]) S.1 S.2.1 dX0_moveTo_47 hl (k := 0) rfl (by rw [ex8]; rfl) (by decide) rfl (fun ls hl => ?_)
        refine lv_goto (tgt := 20) S.1 S.2.1 dX0_moveTo_50 (by decide) ?_
        exact ih x8 o6 o H locs ls E hZ (lv_sub hl [0, 1, 2, 3] rfl) hex
  unfold f_X0_moveTo at E
  refine lv_aload_n S.1 S.2.1 dX0_moveTo_0 rfl (lv_at hl 0 rfl) ?_
  refine cd_get0 (v := .ref (G.2.2.2.2 + (q + 5))) S hK hZ hq 14 cd_f_X0_24 rfl dX0_moveTo_1 ?_
  refine lv_iload_n S.1 S.2.1 dX0_moveTo_4 rfl (lv_at hl 1 rfl) ?_
  refine lv_iload_n S.1 S.2.1 dX0_moveTo_5 rfl (lv_at hl 2 rfl) ?_
  obtain ⟨o1, E1, E⟩ := cd_bE E
  refine cd_cSv (As := [.ref (G.2.2.2.2 + (q + 5)), .int a1, .int a2]) S hK hZ hl.1 (c_X0_moveCell l G (q + 5) a1 a2 ((cd_r0_14 hq)).self h o1 E1) cd_v_X0_moveCell cd_m_X0_81 ⟨Nat.le_of_ble_eq_true rfl, Nat.le_of_ble_eq_true rfl⟩ ⟨rfl, rfl⟩ rfl rfl (Nat.le_of_ble_eq_true rfl) ⟨Nat.zero_le _, Nat.zero_le _⟩ dX0_moveTo_6 (fun H locs hZ => ?_)
  refine lv_aload_n S.1 S.2.1 dX0_moveTo_9 rfl (lv_at hl 0 rfl) ?_
  refine cd_get0 (v := .ref (G.2.2.2.2 + (q + 6))) S hK hZ hq 15 cd_f_X0_27 rfl dX0_moveTo_10 ?_
  refine lv_iload_n S.1 S.2.1 dX0_moveTo_13 rfl (lv_at hl 1 rfl) ?_
  refine lv_iload_n S.1 S.2.1 dX0_moveTo_14 rfl (lv_at hl 2 rfl) ?_
  obtain ⟨o3, E1, E⟩ := cd_bE E
  refine cd_cSv (As := [.ref (G.2.2.2.2 + (q + 6)), .int a1, .int a2]) S hK hZ hl.1 (c_X0_moveCell l G (q + 6) a1 a2 ((cd_r0_15 hq)).self o1 o3 E1) cd_v_X0_moveCell cd_m_X0_81 ⟨Nat.le_of_ble_eq_true rfl, Nat.le_of_ble_eq_true rfl⟩ ⟨rfl, rfl⟩ rfl rfl (Nat.le_of_ble_eq_true rfl) ⟨Nat.zero_le _, Nat.zero_le _⟩ dX0_moveTo_15 (fun H locs hZ => ?_)
  refine lv_iconst (v := 0) S.1 S.2.1 dX0_moveTo_18 (by decide) ?_
  refine lv_istore_n (lv' := [(3, .int 0), (0, .ref (G.2.2.2.2 + q)), (1, .int a1), (2, .int a2)]) S.1 S.2.1 dX0_moveTo_19 rfl hl (by decide) rfl (fun ls hl => ?_)
  obtain ⟨o9, E1, E⟩ := cd_bE E
  refine L20 cd_fu 0 o3 o9 H locs ls E1 hZ (lv_sub hl [0, 1, 2, 3] rfl) (fun H locs ls hZ hl => ?_)
  exact hret _ _ _ _ _ (Option.some.inj E) hZ dX0_moveTo_53
abbrev rm_X0_cellOrSum : Room := { frames := 0, cells := 0, slots := 0, locals := 0 }
theorem cd_v_X0_cellOrSum : cd_Vs yX0_cellOrSum cX0_cellOrSum 5 (some .int) 3 := ⟨cd_s_X0_cellOrSum, cd_n_X0, cd_c_X0_cellOrSum, by decide +kernel⟩
set_option maxHeartbeats 4000000 in
set_option maxRecDepth 100000 in
theorem c_X0_cellOrSum (l : Launch) (G : cd_G) (r0 : Nat) (a1 : Int32) (a2 : Int32) (hr0 : cd_ar (cd_ln r0) r0) (h : cd_Hp) (out : Int32) (E : f_X0_cellOrSum r0 a1 a2 h = some out) : cd_Mi l G yX0_cellOrSum (Cond.code yX0_cellOrSum cX0_cellOrSum 5 (some .int) :: cd_T) rm_X0_cellOrSum [.ref (G.2.2.2.2 + r0), .int a1, .int a2] h (out, h) := by
  refine cd_ini (by decide) (Nat.le_of_ble_eq_true rfl) ?_
  intro p e s m args below meth c Q ls H locs S hK hZ hl hret
  have hl : lv_has ls 5 [(0, .ref (G.2.2.2.2 + r0)), (1, .int a1), (2, .int a2)] := hl
  have L16 : ∀ (n : Nat) (v16_3 : Int32) (v16_4 : Int32) (o : (Int32 × Int32)) (H : Heap) (locs : List Loc) (ls : Array Slot), cd_lp (f_X0_cellOrSum_B16 r0 a1 a2 h) n (v16_3, v16_4) = some o → cd_Z G h s.heap H locs → lv_has ls 5 [(4, .int v16_4), (3, .int v16_3), (0, .ref (G.2.2.2.2 + r0)), (1, .int a1), (2, .int a2)] → (∀ (H : Heap) (locs : List Loc) (ls : Array Slot), cd_Z G h s.heap H locs → lv_has ls 5 [(4, .int o.2), (3, .int o.1), (0, .ref (G.2.2.2.2 + r0)), (1, .int a1), (2, .int a2)] → W p l e rm_X0_cellOrSum s m args below meth c H locs 0 0 Q (F0 m 38 ls [])) → W p l e rm_X0_cellOrSum s m args below meth c H locs 0 0 Q (F0 m 16 ls []) := by
    intro n
    induction n with
    | zero => intro v16_3 v16_4 o H locs ls E; exact nomatch (show (none : Option (Int32 × Int32)) = some o from E)
    | succ n ih =>
      intro v16_3 v16_4 o H locs ls E hZ hl hex
      have E : f_X0_cellOrSum_B16 r0 a1 a2 h (cd_lp (f_X0_cellOrSum_B16 r0 a1 a2 h) n) (v16_3, v16_4) = some o := E
      unfold f_X0_cellOrSum_B16 at E
      dsimp only at E
      refine lv_iload S.1 S.2.1 dX0_cellOrSum_16 (lv_at hl 0 rfl) ?_
      refine lv_bipush (v := 6) S.1 S.2.1 dX0_cellOrSum_18 (by decide) ?_
      refine lv_icmp_ge (tgt := 38) S.1 S.2.1 dX0_cellOrSum_20 (by decide) (fun c2 => ?_) (fun c2 => ?_)
      · have E := cd_tE c2 E
        cases E
        exact hex H locs ls hZ (lv_sub hl [0, 1, 2, 3, 4] rfl)
      · have E := cd_fE c2 E
        refine lv_iload_n S.1 S.2.1 dX0_cellOrSum_23 rfl (lv_at hl 1 rfl) ?_
        refine lv_aload_n S.1 S.2.1 dX0_cellOrSum_24 rfl (lv_at hl 2 rfl) ?_
        refine lv_iload_n S.1 S.2.1 dX0_cellOrSum_25 rfl (lv_at hl 3 rfl) ?_
        refine lv_iload S.1 S.2.1 dX0_cellOrSum_26 (lv_at hl 0 rfl) ?_
        refine lv_iadd S.1 S.2.1 dX0_cellOrSum_28 ?_
        obtain ⟨z3, E⟩ := cd_ckE E
        refine cd_iald S hK hZ hr0 z3 dX0_cellOrSum_29 ?_
        refine lv_iadd S.1 S.2.1 dX0_cellOrSum_30 ?_
        obtain ⟨x4, ex4, E⟩ := cd_nmE E
        refine cd_topi ex4 ?_
        refine lv_istore_n (lv' := [(3, .int x4), (4, .int v16_4), (0, .ref (G.2.2.2.2 + r0)), (1, .int a1), (2, .int a2)]) S.1 S.2.1 dX0_cellOrSum_31 rfl hl (by decide) rfl (fun ls hl => ?_)
        obtain ⟨x5, ex5, E⟩ := cd_nmE E
        refine lv_iinc (v := x5) (lv' := [(4, .int x5), (3, .int x4), (0, .ref (G.2.2.2.2 + r0)), (1, .int a1), (2, .int a2)]) S.1 S.2.1 dX0_cellOrSum_32 hl (k := 1) rfl (by rw [ex5]; rfl) (by decide) rfl (fun ls hl => ?_)
        refine lv_goto (tgt := 16) S.1 S.2.1 dX0_cellOrSum_35 (by decide) ?_
        exact ih x4 x5 o H locs ls E hZ (lv_sub hl [0, 1, 2, 3, 4] rfl) hex
  unfold f_X0_cellOrSum at E
  refine lv_iload_n S.1 S.2.1 dX0_cellOrSum_0 rfl (lv_at hl 2 rfl) ?_
  refine lv_iconst (v := (-1)) S.1 S.2.1 dX0_cellOrSum_1 (by decide) ?_
  refine lv_icmp_eq (tgt := 11) S.1 S.2.1 dX0_cellOrSum_2 (by decide) (fun c1 => ?_) (fun c1 => ?_)
  · have E := cd_tE c1 E
    refine lv_iconst (v := 0) S.1 S.2.1 dX0_cellOrSum_11 (by decide) ?_
    refine lv_istore_n (lv' := [(3, .int 0), (0, .ref (G.2.2.2.2 + r0)), (1, .int a1), (2, .int a2)]) S.1 S.2.1 dX0_cellOrSum_12 rfl hl (by decide) rfl (fun ls hl => ?_)
    refine lv_iconst (v := 0) S.1 S.2.1 dX0_cellOrSum_13 (by decide) ?_
    refine lv_istore (lv' := [(4, .int 0), (3, .int 0), (0, .ref (G.2.2.2.2 + r0)), (1, .int a1), (2, .int a2)]) S.1 S.2.1 dX0_cellOrSum_14 hl (by decide) rfl (fun ls hl => ?_)
    obtain ⟨o6, E1, E⟩ := cd_bE E
    refine L16 cd_fu 0 0 o6 H locs ls E1 hZ (lv_sub hl [0, 1, 2, 3, 4] rfl) (fun H locs ls hZ hl => ?_)
    refine lv_iload_n S.1 S.2.1 dX0_cellOrSum_38 rfl (lv_at hl 1 rfl) ?_
    exact hret _ _ _ _ _ _ (congrArg (fun z => (z, h)) (Option.some.inj E)) hZ dX0_cellOrSum_39
  · have E := cd_fE c1 E
    refine lv_aload_n S.1 S.2.1 dX0_cellOrSum_5 rfl (lv_at hl 0 rfl) ?_
    refine lv_iload_n S.1 S.2.1 dX0_cellOrSum_6 rfl (lv_at hl 1 rfl) ?_
    refine lv_iload_n S.1 S.2.1 dX0_cellOrSum_7 rfl (lv_at hl 2 rfl) ?_
    refine lv_iadd S.1 S.2.1 dX0_cellOrSum_8 ?_
    obtain ⟨z7, E⟩ := cd_ckE E
    refine cd_iald S hK hZ hr0 z7 dX0_cellOrSum_9 ?_
    exact hret _ _ _ _ _ _ (congrArg (fun z => (z, h)) (Option.some.inj E)) hZ dX0_cellOrSum_10
abbrev rm_X0_countIn : Room := { frames := 1, cells := 0, slots := 0, locals := 24 }
theorem cd_v_X0_countIn : cd_V yX0_countIn cX0_countIn 3 (some .int) 2 := ⟨cd_i_X0_countIn, cd_e_X0_X0_countIn, cd_n_X0, cd_c_X0_countIn, by decide +kernel⟩
set_option maxHeartbeats 4000000 in
set_option maxRecDepth 100000 in
theorem c_X0_countIn (l : Launch) (G : cd_G) (q : Nat) (a1 : Int32) (a2 : Int32) (hq : cd_is 0 q) (h : cd_Hp) (out : Int32) (E : f_X0_countIn q a1 a2 h = some out) : cd_Mi l G yX0_countIn (Cond.code yX0_countIn cX0_countIn 3 (some .int) :: cd_T) rm_X0_countIn [.ref (G.2.2.2.2 + q), .int a1, .int a2] h (out, h) := by
  refine cd_ini (by decide) (Nat.le_of_ble_eq_true rfl) ?_
  intro p e s m args below meth c Q ls H locs S hK hZ hl hret
  have hl : lv_has ls 3 [(0, .ref (G.2.2.2.2 + q)), (1, .int a1), (2, .int a2)] := hl
  unfold f_X0_countIn at E
  refine lv_aload_n S.1 S.2.1 dX0_countIn_0 rfl (lv_at hl 0 rfl) ?_
  refine cd_get0 (v := .ref (G.2.2.2.2 + (q + 4))) S hK hZ hq 13 cd_f_X0_21 rfl dX0_countIn_1 ?_
  refine lv_iload_n S.1 S.2.1 dX0_countIn_4 rfl (lv_at hl 1 rfl) ?_
  refine lv_bipush (v := 6) S.1 S.2.1 dX0_countIn_5 (by decide) ?_
  refine lv_imul S.1 S.2.1 dX0_countIn_7 ?_
  refine lv_iload_n S.1 S.2.1 dX0_countIn_8 rfl (lv_at hl 2 rfl) ?_
  obtain ⟨o1, E1, E⟩ := cd_bE E
  refine cd_cSi (As := [.ref (G.2.2.2.2 + (q + 4)), .int (a1 * 6), .int a2]) S hK hZ hl.1 (c_X0_cellOrSum l G (q + 4) (a1 * 6) a2 ((cd_r0_13 hq)).self h o1 E1) cd_v_X0_cellOrSum cd_m_X0_85 ⟨Nat.le_of_ble_eq_true rfl, Nat.le_of_ble_eq_true rfl⟩ ⟨rfl, rfl⟩ rfl rfl (Nat.le_of_ble_eq_true rfl) ⟨Nat.zero_le _, Nat.zero_le _⟩ dX0_countIn_9 (fun H locs hZ => ?_)
  exact hret _ _ _ _ _ _ (congrArg (fun z => (z, h)) (Option.some.inj E)) hZ dX0_countIn_12
abbrev rm_X0_enabledIn : Room := { frames := 1, cells := 0, slots := 0, locals := 24 }
theorem cd_v_X0_enabledIn : cd_V yX0_enabledIn cX0_enabledIn 2 (some .int) 1 := ⟨cd_i_X0_enabledIn, cd_e_X0_X0_enabledIn, cd_n_X0, cd_c_X0_enabledIn, by decide +kernel⟩
set_option maxHeartbeats 4000000 in
set_option maxRecDepth 100000 in
theorem c_X0_enabledIn (l : Launch) (G : cd_G) (q : Nat) (a1 : Int32) (hq : cd_is 0 q) (h : cd_Hp) (out : Int32) (E : f_X0_enabledIn q a1 h = some out) : cd_Mi l G yX0_enabledIn (Cond.code yX0_enabledIn cX0_enabledIn 2 (some .int) :: cd_T) rm_X0_enabledIn [.ref (G.2.2.2.2 + q), .int a1] h (out, h) := by
  refine cd_ini (by decide) (Nat.le_of_ble_eq_true rfl) ?_
  intro p e s m args below meth c Q ls H locs S hK hZ hl hret
  have hl : lv_has ls 2 [(0, .ref (G.2.2.2.2 + q)), (1, .int a1)] := hl
  unfold f_X0_enabledIn at E
  refine lv_aload_n S.1 S.2.1 dX0_enabledIn_0 rfl (lv_at hl 0 rfl) ?_
  refine cd_get0 (v := .ref (G.2.2.2.2 + (q + 5))) S hK hZ hq 14 cd_f_X0_24 rfl dX0_enabledIn_1 ?_
  refine lv_iconst (v := 0) S.1 S.2.1 dX0_enabledIn_4 (by decide) ?_
  refine lv_iload_n S.1 S.2.1 dX0_enabledIn_5 rfl (lv_at hl 1 rfl) ?_
  obtain ⟨o1, E1, E⟩ := cd_bE E
  refine cd_cSi (As := [.ref (G.2.2.2.2 + (q + 5)), .int 0, .int a1]) S hK hZ hl.1 (c_X0_cellOrSum l G (q + 5) 0 a1 ((cd_r0_14 hq)).self h o1 E1) cd_v_X0_cellOrSum cd_m_X0_85 ⟨Nat.le_of_ble_eq_true rfl, Nat.le_of_ble_eq_true rfl⟩ ⟨rfl, rfl⟩ rfl rfl (Nat.le_of_ble_eq_true rfl) ⟨Nat.zero_le _, Nat.zero_le _⟩ dX0_enabledIn_6 (fun H locs hZ => ?_)
  exact hret _ _ _ _ _ _ (congrArg (fun z => (z, h)) (Option.some.inj E)) hZ dX0_enabledIn_9
abbrev rm_X0_runningIn : Room := { frames := 1, cells := 0, slots := 0, locals := 24 }
theorem cd_v_X0_runningIn : cd_V yX0_runningIn cX0_runningIn 2 (some .int) 1 := ⟨cd_i_X0_runningIn, cd_e_X0_X0_runningIn, cd_n_X0, cd_c_X0_runningIn, by decide +kernel⟩
set_option maxHeartbeats 4000000 in
set_option maxRecDepth 100000 in
theorem c_X0_runningIn (l : Launch) (G : cd_G) (q : Nat) (a1 : Int32) (hq : cd_is 0 q) (h : cd_Hp) (out : Int32) (E : f_X0_runningIn q a1 h = some out) : cd_Mi l G yX0_runningIn (Cond.code yX0_runningIn cX0_runningIn 2 (some .int) :: cd_T) rm_X0_runningIn [.ref (G.2.2.2.2 + q), .int a1] h (out, h) := by
  refine cd_ini (by decide) (Nat.le_of_ble_eq_true rfl) ?_
  intro p e s m args below meth c Q ls H locs S hK hZ hl hret
  have hl : lv_has ls 2 [(0, .ref (G.2.2.2.2 + q)), (1, .int a1)] := hl
  unfold f_X0_runningIn at E
  refine lv_aload_n S.1 S.2.1 dX0_runningIn_0 rfl (lv_at hl 0 rfl) ?_
  refine cd_get0 (v := .ref (G.2.2.2.2 + (q + 6))) S hK hZ hq 15 cd_f_X0_27 rfl dX0_runningIn_1 ?_
  refine lv_iconst (v := 0) S.1 S.2.1 dX0_runningIn_4 (by decide) ?_
  refine lv_iload_n S.1 S.2.1 dX0_runningIn_5 rfl (lv_at hl 1 rfl) ?_
  obtain ⟨o1, E1, E⟩ := cd_bE E
  refine cd_cSi (As := [.ref (G.2.2.2.2 + (q + 6)), .int 0, .int a1]) S hK hZ hl.1 (c_X0_cellOrSum l G (q + 6) 0 a1 ((cd_r0_15 hq)).self h o1 E1) cd_v_X0_cellOrSum cd_m_X0_85 ⟨Nat.le_of_ble_eq_true rfl, Nat.le_of_ble_eq_true rfl⟩ ⟨rfl, rfl⟩ rfl rfl (Nat.le_of_ble_eq_true rfl) ⟨Nat.zero_le _, Nat.zero_le _⟩ dX0_runningIn_6 (fun H locs hZ => ?_)
  exact hret _ _ _ _ _ _ (congrArg (fun z => (z, h)) (Option.some.inj E)) hZ dX0_runningIn_9
abbrev rm_X0_scaledCount : Room := { frames := 2, cells := 0, slots := 0, locals := 46 }
theorem cd_v_X0_scaledCount : cd_V yX0_scaledCount cX0_scaledCount 3 (some .int) 1 := ⟨cd_i_X0_scaledCount, cd_e_X0_X0_scaledCount, cd_n_X0, cd_c_X0_scaledCount, by decide +kernel⟩
set_option maxHeartbeats 4000000 in
set_option maxRecDepth 100000 in
theorem c_X0_scaledCount (l : Launch) (G : cd_G) (q : Nat) (a1 : Int32) (hq : cd_is 0 q) (h : cd_Hp) (out : Int32) (E : f_X0_scaledCount q a1 h = some out) : cd_Mi l G yX0_scaledCount (Cond.code yX0_scaledCount cX0_scaledCount 3 (some .int) :: cd_T) rm_X0_scaledCount [.ref (G.2.2.2.2 + q), .int a1] h (out, h) := by
  refine cd_ini (by decide) (Nat.le_of_ble_eq_true rfl) ?_
  intro p e s m args below meth c Q ls H locs S hK hZ hl hret
  have hl : lv_has ls 3 [(0, .ref (G.2.2.2.2 + q)), (1, .int a1)] := hl
  unfold f_X0_scaledCount at E
  refine lv_aload_n S.1 S.2.1 dX0_scaledCount_0 rfl (lv_at hl 0 rfl) ?_
  refine lv_iconst (v := (-1)) S.1 S.2.1 dX0_scaledCount_1 (by decide) ?_
  obtain ⟨o1, E1, E⟩ := cd_bE E
  refine cd_cVi (As := [.int ((-1))]) S hK hZ hl.1 (c_X0_runningIn l G q ((-1)) hq h o1 E1) cd_v_X0_runningIn cd_m_X0_89 ⟨Nat.le_of_ble_eq_true rfl, Nat.le_of_ble_eq_true rfl⟩ ⟨rfl, rfl⟩ (ci := 0) (by decide) rfl hq rfl rfl (Nat.le_of_ble_eq_true rfl) ⟨Nat.zero_le _, Nat.zero_le _⟩ dX0_scaledCount_2 (fun H locs hZ => ?_)
  refine lv_istore_n (lv' := [(2, .int o1), (0, .ref (G.2.2.2.2 + q)), (1, .int a1)]) S.1 S.2.1 dX0_scaledCount_5 rfl hl (by decide) rfl (fun ls hl => ?_)
  refine lv_iload_n S.1 S.2.1 dX0_scaledCount_6 rfl (lv_at hl 0 rfl) ?_
  refine lv_if_ne (tgt := 12) S.1 S.2.1 dX0_scaledCount_7 (by decide) (fun c3 => ?_) (fun c3 => ?_)
  · have E := cd_fE c3 E
    refine lv_aload_n S.1 S.2.1 dX0_scaledCount_12 rfl (lv_at hl 1 rfl) ?_
    refine lv_iload_n S.1 S.2.1 dX0_scaledCount_13 rfl (lv_at hl 2 rfl) ?_
    refine lv_iconst (v := (-1)) S.1 S.2.1 dX0_scaledCount_14 (by decide) ?_
    obtain ⟨o4, E1, E⟩ := cd_bE E
    refine cd_cVi (As := [.int a1, .int ((-1))]) S hK hZ hl.1 (c_X0_countIn l G q a1 ((-1)) hq h o4 E1) cd_v_X0_countIn cd_m_X0_93 ⟨Nat.le_of_ble_eq_true rfl, Nat.le_of_ble_eq_true rfl⟩ ⟨rfl, rfl⟩ (ci := 0) (by decide) rfl hq rfl rfl (Nat.le_of_ble_eq_true rfl) ⟨Nat.zero_le _, Nat.zero_le _⟩ dX0_scaledCount_15 (fun H locs hZ => ?_)
    refine lv_i2l S.1 S.2.1 dX0_scaledCount_18 rfl ?_
    refine lv_aload_n S.1 S.2.1 dX0_scaledCount_19 rfl (lv_at hl 1 rfl) ?_
    refine lv_iconst (v := (-1)) S.1 S.2.1 dX0_scaledCount_20 (by decide) ?_
    obtain ⟨o6, E1, E⟩ := cd_bE E
    refine cd_cVi (As := [.int ((-1))]) S hK hZ hl.1 (c_X0_enabledIn l G q ((-1)) hq h o6 E1) cd_v_X0_enabledIn cd_m_X0_96 ⟨Nat.le_of_ble_eq_true rfl, Nat.le_of_ble_eq_true rfl⟩ ⟨rfl, rfl⟩ (ci := 0) (by decide) rfl hq rfl rfl (Nat.le_of_ble_eq_true rfl) ⟨Nat.zero_le _, Nat.zero_le _⟩ dX0_scaledCount_21 (fun H locs hZ => ?_)
    refine lv_i2l S.1 S.2.1 dX0_scaledCount_24 rfl ?_
    refine lv_lmul S.1 S.2.1 dX0_scaledCount_25 ?_
    refine lv_iload_n S.1 S.2.1 dX0_scaledCount_26 rfl (lv_at hl 0 rfl) ?_
    refine lv_i2l S.1 S.2.1 dX0_scaledCount_27 rfl ?_
    obtain ⟨z8, E⟩ := cd_ckE E
    refine lv_ldiv S.1 S.2.1 dX0_scaledCount_28 (cd_nz z8) ?_
    refine lv_l2i S.1 S.2.1 dX0_scaledCount_29 rfl ?_
    exact hret _ _ _ _ _ _ (congrArg (fun z => (z, h)) (Option.some.inj E)) hZ dX0_scaledCount_30
  · have E := cd_tE c3 E
    refine lv_iconst (v := (-1)) S.1 S.2.1 dX0_scaledCount_10 (by decide) ?_
    exact hret _ _ _ _ _ _ (congrArg (fun z => (z, h)) (Option.some.inj E)) hZ dX0_scaledCount_11
abbrev rm_X0_mostCount : Room := { frames := 2, cells := 0, slots := 0, locals := 46 }
theorem cd_v_X0_mostCount : cd_V yX0_mostCount cX0_mostCount 2 (some .int) 1 := ⟨cd_i_X0_mostCount, cd_e_X0_X0_mostCount, cd_n_X0, cd_c_X0_mostCount, by decide +kernel⟩
set_option maxHeartbeats 4000000 in
set_option maxRecDepth 100000 in
theorem c_X0_mostCount (l : Launch) (G : cd_G) (q : Nat) (a1 : Int32) (hq : cd_is 0 q) (h : cd_Hp) (out : Int32) (E : f_X0_mostCount q a1 h = some out) : cd_Mi l G yX0_mostCount (Cond.code yX0_mostCount cX0_mostCount 2 (some .int) :: cd_T) rm_X0_mostCount [.ref (G.2.2.2.2 + q), .int a1] h (out, h) := by
  refine cd_ini (by decide) (Nat.le_of_ble_eq_true rfl) ?_
  intro p e s m args below meth c Q ls H locs S hK hZ hl hret
  have hl : lv_has ls 2 [(0, .ref (G.2.2.2.2 + q)), (1, .int a1)] := hl
  unfold f_X0_mostCount at E
  refine lv_aload_n S.1 S.2.1 dX0_mostCount_0 rfl (lv_at hl 0 rfl) ?_
  refine lv_iload_n S.1 S.2.1 dX0_mostCount_1 rfl (lv_at hl 1 rfl) ?_
  refine lv_iconst (v := (-1)) S.1 S.2.1 dX0_mostCount_2 (by decide) ?_
  obtain ⟨o1, E1, E⟩ := cd_bE E
  refine cd_cVi (As := [.int a1, .int ((-1))]) S hK hZ hl.1 (c_X0_countIn l G q a1 ((-1)) hq h o1 E1) cd_v_X0_countIn cd_m_X0_93 ⟨Nat.le_of_ble_eq_true rfl, Nat.le_of_ble_eq_true rfl⟩ ⟨rfl, rfl⟩ (ci := 0) (by decide) rfl hq rfl rfl (Nat.le_of_ble_eq_true rfl) ⟨Nat.zero_le _, Nat.zero_le _⟩ dX0_mostCount_3 (fun H locs hZ => ?_)
  refine lv_aload_n S.1 S.2.1 dX0_mostCount_6 rfl (lv_at hl 0 rfl) ?_
  refine lv_iconst (v := (-1)) S.1 S.2.1 dX0_mostCount_7 (by decide) ?_
  obtain ⟨o3, E1, E⟩ := cd_bE E
  refine cd_cVi (As := [.int ((-1))]) S hK hZ hl.1 (c_X0_enabledIn l G q ((-1)) hq h o3 E1) cd_v_X0_enabledIn cd_m_X0_96 ⟨Nat.le_of_ble_eq_true rfl, Nat.le_of_ble_eq_true rfl⟩ ⟨rfl, rfl⟩ (ci := 0) (by decide) rfl hq rfl rfl (Nat.le_of_ble_eq_true rfl) ⟨Nat.zero_le _, Nat.zero_le _⟩ dX0_mostCount_8 (fun H locs hZ => ?_)
  refine lv_aload_n S.1 S.2.1 dX0_mostCount_11 rfl (lv_at hl 0 rfl) ?_
  refine lv_iconst (v := (-1)) S.1 S.2.1 dX0_mostCount_12 (by decide) ?_
  obtain ⟨o5, E1, E⟩ := cd_bE E
  refine cd_cVi (As := [.int ((-1))]) S hK hZ hl.1 (c_X0_runningIn l G q ((-1)) hq h o5 E1) cd_v_X0_runningIn cd_m_X0_89 ⟨Nat.le_of_ble_eq_true rfl, Nat.le_of_ble_eq_true rfl⟩ ⟨rfl, rfl⟩ (ci := 0) (by decide) rfl hq rfl rfl (Nat.le_of_ble_eq_true rfl) ⟨Nat.zero_le _, Nat.zero_le _⟩ dX0_mostCount_13 (fun H locs hZ => ?_)
  refine lv_isub S.1 S.2.1 dX0_mostCount_16 ?_
  refine lv_aload_n S.1 S.2.1 dX0_mostCount_17 rfl (lv_at hl 0 rfl) ?_
  refine cd_get0 (v := .ref (G.2.2.2.2 + (q + 2))) S hK hZ hq 11 cd_f_X0_15 rfl dX0_mostCount_18 ?_
  refine lv_iload_n S.1 S.2.1 dX0_mostCount_21 rfl (lv_at hl 1 rfl) ?_
  obtain ⟨z7, E⟩ := cd_ckE E
  refine cd_iald S hK hZ (cd_r0_11 hq) z7 dX0_mostCount_22 ?_
  refine lv_imul S.1 S.2.1 dX0_mostCount_23 ?_
  refine lv_iadd S.1 S.2.1 dX0_mostCount_24 ?_
  exact hret _ _ _ _ _ _ (congrArg (fun z => (z, h)) (Option.some.inj E)) hZ dX0_mostCount_25
abbrev rm_X5_become : Room := { frames := 2, cells := 0, slots := 0, locals := 101 }
theorem cd_v_X5_become : cd_V yX5_become cX5_become 2 none 1 := ⟨cd_i_X5_become, cd_e_X5_X5_become, cd_n_X5, cd_c_X5_become, by decide +kernel⟩
set_option maxHeartbeats 4000000 in
set_option maxRecDepth 100000 in
theorem c_X5_become (l : Launch) (G : cd_G) (q : Nat) (r1 : Nat) (hq : cd_is 5 q) (hr1 : cd_is 5 r1) (h : cd_Hp) (out : cd_Hp) (E : f_X5_become q r1 h = some out) : cd_Mv l G yX5_become (Cond.code yX5_become cX5_become 2 none :: cd_T) rm_X5_become [.ref (G.2.2.2.2 + q), .ref (G.2.2.2.2 + r1)] h out := by
  refine cd_inv (by decide) (Nat.le_of_ble_eq_true rfl) ?_
  intro p e s m args below meth c Q ls H locs S hK hZ hl hret
  have hl : lv_has ls 2 [(0, .ref (G.2.2.2.2 + q)), (1, .ref (G.2.2.2.2 + r1))] := hl
  unfold f_X5_become at E
  refine lv_aload_n S.1 S.2.1 dX5_become_0 rfl (lv_at hl 0 rfl) ?_
  refine lv_aload_n S.1 S.2.1 dX5_become_1 rfl (lv_at hl 1 rfl) ?_
  refine cd_get5 (v := .int (cd_g h r1 0)) S hK hZ hr1 0 cd_f_X5_9 rfl dX5_become_2 ?_
  obtain ⟨h1, eh1, E⟩ := cd_nmE E
  refine cd_put5_0 S hK hZ hq cd_f_X5_9 eh1 dX5_become_5 (fun H locs hZ => ?_)
  refine lv_aload_n S.1 S.2.1 dX5_become_8 rfl (lv_at hl 1 rfl) ?_
  refine cd_get5 (v := .ref (G.2.2.2.2 + (r1 + 1))) S hK hZ hr1 1 cd_f_X5_15 rfl dX5_become_9 ?_
  refine lv_aload_n S.1 S.2.1 dX5_become_12 rfl (lv_at hl 0 rfl) ?_
  refine cd_get5 (v := .ref (G.2.2.2.2 + (q + 1))) S hK hZ hq 1 cd_f_X5_15 rfl dX5_become_13 ?_
  obtain ⟨o2, E1, E⟩ := cd_bE E
  refine cd_cNv (As := [.ref (G.2.2.2.2 + (r1 + 1)), .ref (G.2.2.2.2 + (q + 1))]) S hK hZ hl.1 (c_X7_copyRow l G (r1 + 1) (q + 1) ((cd_r5_1 hr1)).self ((cd_r5_1 hq)).self h1 o2 E1) cd_v_X7_copyRow (cd_nX5_25 hK.2) ⟨Nat.le_of_ble_eq_true rfl, Nat.le_of_ble_eq_true rfl⟩ ⟨rfl, rfl⟩ rfl rfl (Nat.le_of_ble_eq_true rfl) ⟨Nat.zero_le _, Nat.zero_le _⟩ dX5_become_16 (fun H locs hZ => ?_)
  refine lv_aload_n S.1 S.2.1 dX5_become_19 rfl (lv_at hl 1 rfl) ?_
  refine cd_get5 (v := .ref (G.2.2.2.2 + (r1 + 2))) S hK hZ hr1 2 cd_f_X5_19 rfl dX5_become_20 ?_
  refine lv_aload_n S.1 S.2.1 dX5_become_23 rfl (lv_at hl 0 rfl) ?_
  refine cd_get5 (v := .ref (G.2.2.2.2 + (q + 2))) S hK hZ hq 2 cd_f_X5_19 rfl dX5_become_24 ?_
  obtain ⟨o4, E1, E⟩ := cd_bE E
  refine cd_cNv (As := [.ref (G.2.2.2.2 + (r1 + 2)), .ref (G.2.2.2.2 + (q + 2))]) S hK hZ hl.1 (c_X7_copyRow l G (r1 + 2) (q + 2) ((cd_r5_2 hr1)).self ((cd_r5_2 hq)).self o2 o4 E1) cd_v_X7_copyRow (cd_nX5_25 hK.2) ⟨Nat.le_of_ble_eq_true rfl, Nat.le_of_ble_eq_true rfl⟩ ⟨rfl, rfl⟩ rfl rfl (Nat.le_of_ble_eq_true rfl) ⟨Nat.zero_le _, Nat.zero_le _⟩ dX5_become_27 (fun H locs hZ => ?_)
  refine lv_aload_n S.1 S.2.1 dX5_become_30 rfl (lv_at hl 1 rfl) ?_
  refine cd_get5 (v := .ref (G.2.2.2.2 + (r1 + 3))) S hK hZ hr1 3 cd_f_X5_22 rfl dX5_become_31 ?_
  refine lv_aload_n S.1 S.2.1 dX5_become_34 rfl (lv_at hl 0 rfl) ?_
  refine cd_get5 (v := .ref (G.2.2.2.2 + (q + 3))) S hK hZ hq 3 cd_f_X5_22 rfl dX5_become_35 ?_
  obtain ⟨o6, E1, E⟩ := cd_bE E
  refine cd_cNv (As := [.ref (G.2.2.2.2 + (r1 + 3)), .ref (G.2.2.2.2 + (q + 3))]) S hK hZ hl.1 (c_X7_copyRow l G (r1 + 3) (q + 3) ((cd_r5_3 hr1)).self ((cd_r5_3 hq)).self o4 o6 E1) cd_v_X7_copyRow (cd_nX5_25 hK.2) ⟨Nat.le_of_ble_eq_true rfl, Nat.le_of_ble_eq_true rfl⟩ ⟨rfl, rfl⟩ rfl rfl (Nat.le_of_ble_eq_true rfl) ⟨Nat.zero_le _, Nat.zero_le _⟩ dX5_become_38 (fun H locs hZ => ?_)
  exact hret _ _ _ _ _ (Option.some.inj E) hZ dX5_become_41
abbrev rm_X2_become : Room := { frames := 1, cells := 0, slots := 0, locals := 80 }
theorem cd_v_X2_become : cd_V yX2_become cX2_become 2 none 1 := ⟨cd_i_X2_become, cd_e_X2_X2_become, cd_n_X2, cd_c_X2_become, by decide +kernel⟩
set_option maxHeartbeats 4000000 in
set_option maxRecDepth 100000 in
theorem c_X2_become (l : Launch) (G : cd_G) (q : Nat) (r1 : Nat) (hq : cd_is 2 q) (hr1 : cd_is 2 r1) (h : cd_Hp) (out : cd_Hp) (E : f_X2_become q r1 h = some out) : cd_Mv l G yX2_become (Cond.code yX2_become cX2_become 2 none :: cd_T) rm_X2_become [.ref (G.2.2.2.2 + q), .ref (G.2.2.2.2 + r1)] h out := by
  refine cd_inv (by decide) (Nat.le_of_ble_eq_true rfl) ?_
  intro p e s m args below meth c Q ls H locs S hK hZ hl hret
  have hl : lv_has ls 2 [(0, .ref (G.2.2.2.2 + q)), (1, .ref (G.2.2.2.2 + r1))] := hl
  unfold f_X2_become at E
  refine lv_aload_n S.1 S.2.1 dX2_become_0 rfl (lv_at hl 0 rfl) ?_
  refine lv_aload_n S.1 S.2.1 dX2_become_1 rfl (lv_at hl 1 rfl) ?_
  refine cd_get2 (v := .int (cd_g h r1 0)) S hK hZ hr1 0 cd_f_X2_27 rfl dX2_become_2 ?_
  obtain ⟨h1, eh1, E⟩ := cd_nmE E
  refine cd_put2_0 S hK hZ hq cd_f_X2_27 eh1 dX2_become_5 (fun H locs hZ => ?_)
  refine lv_aload_n S.1 S.2.1 dX2_become_8 rfl (lv_at hl 0 rfl) ?_
  refine lv_aload_n S.1 S.2.1 dX2_become_9 rfl (lv_at hl 1 rfl) ?_
  refine cd_get2 (v := .int (cd_g h1 r1 1)) S hK hZ hr1 1 cd_f_X2_31 rfl dX2_become_10 ?_
  obtain ⟨h2, eh2, E⟩ := cd_nmE E
  refine cd_put2_1 S hK hZ hq cd_f_X2_31 eh2 dX2_become_13 (fun H locs hZ => ?_)
  refine lv_aload_n S.1 S.2.1 dX2_become_16 rfl (lv_at hl 0 rfl) ?_
  refine lv_aload_n S.1 S.2.1 dX2_become_17 rfl (lv_at hl 1 rfl) ?_
  refine cd_get2 (v := .int (cd_g h2 r1 2)) S hK hZ hr1 2 cd_f_X2_34 rfl dX2_become_18 ?_
  obtain ⟨h3, eh3, E⟩ := cd_nmE E
  refine cd_put2_2 S hK hZ hq cd_f_X2_34 eh3 dX2_become_21 (fun H locs hZ => ?_)
  refine lv_aload_n S.1 S.2.1 dX2_become_24 rfl (lv_at hl 1 rfl) ?_
  refine cd_get2 (v := .ref (G.2.2.2.2 + (r1 + 1))) S hK hZ hr1 3 cd_f_X2_9 rfl dX2_become_25 ?_
  refine lv_iconst (v := 0) S.1 S.2.1 dX2_become_28 (by decide) ?_
  refine lv_aload_n S.1 S.2.1 dX2_become_29 rfl (lv_at hl 0 rfl) ?_
  refine cd_get2 (v := .ref (G.2.2.2.2 + (q + 1))) S hK hZ hq 3 cd_f_X2_9 rfl dX2_become_30 ?_
  refine lv_iconst (v := 0) S.1 S.2.1 dX2_become_33 (by decide) ?_
  refine lv_aload_n S.1 S.2.1 dX2_become_34 rfl (lv_at hl 0 rfl) ?_
  refine cd_get2 (v := .int (cd_g h3 q 0)) S hK hZ hq 0 cd_f_X2_27 rfl dX2_become_35 ?_
  obtain ⟨z4, E⟩ := cd_ckE E
  obtain ⟨h5, eh5, E⟩ := cd_nmE E
  refine cd_copy S hK hZ hl.1 (cd_r2_3 hr1) (cd_r2_3 hq) z4 eh5 cd_m_X2_37 cd_v_java_lang_System_arraycopy cd_s_java_lang_System_arraycopy cd_n_J10 (Nat.le_of_ble_eq_true rfl) (by decide) dX2_become_38 (fun H locs hZ => ?_)
  refine lv_aload_n S.1 S.2.1 dX2_become_41 rfl (lv_at hl 1 rfl) ?_
  refine cd_get2 (v := .ref (G.2.2.2.2 + (r1 + 2))) S hK hZ hr1 4 cd_f_X2_15 rfl dX2_become_42 ?_
  refine lv_iconst (v := 0) S.1 S.2.1 dX2_become_45 (by decide) ?_
  refine lv_aload_n S.1 S.2.1 dX2_become_46 rfl (lv_at hl 0 rfl) ?_
  refine cd_get2 (v := .ref (G.2.2.2.2 + (q + 2))) S hK hZ hq 4 cd_f_X2_15 rfl dX2_become_47 ?_
  refine lv_iconst (v := 0) S.1 S.2.1 dX2_become_50 (by decide) ?_
  refine lv_aload_n S.1 S.2.1 dX2_become_51 rfl (lv_at hl 0 rfl) ?_
  refine cd_get2 (v := .int (cd_g h5 q 0)) S hK hZ hq 0 cd_f_X2_27 rfl dX2_become_52 ?_
  obtain ⟨z6, E⟩ := cd_ckE E
  obtain ⟨h7, eh7, E⟩ := cd_nmE E
  refine cd_copy S hK hZ hl.1 (cd_r2_4 hr1) (cd_r2_4 hq) z6 eh7 cd_m_X2_37 cd_v_java_lang_System_arraycopy cd_s_java_lang_System_arraycopy cd_n_J10 (Nat.le_of_ble_eq_true rfl) (by decide) dX2_become_55 (fun H locs hZ => ?_)
  refine lv_aload_n S.1 S.2.1 dX2_become_58 rfl (lv_at hl 1 rfl) ?_
  refine cd_get2 (v := .ref (G.2.2.2.2 + (r1 + 3))) S hK hZ hr1 5 cd_f_X2_18 rfl dX2_become_59 ?_
  refine lv_iconst (v := 0) S.1 S.2.1 dX2_become_62 (by decide) ?_
  refine lv_aload_n S.1 S.2.1 dX2_become_63 rfl (lv_at hl 0 rfl) ?_
  refine cd_get2 (v := .ref (G.2.2.2.2 + (q + 3))) S hK hZ hq 5 cd_f_X2_18 rfl dX2_become_64 ?_
  refine lv_iconst (v := 0) S.1 S.2.1 dX2_become_67 (by decide) ?_
  refine lv_aload_n S.1 S.2.1 dX2_become_68 rfl (lv_at hl 0 rfl) ?_
  refine cd_get2 (v := .int (cd_g h7 q 1)) S hK hZ hq 1 cd_f_X2_31 rfl dX2_become_69 ?_
  obtain ⟨z8, E⟩ := cd_ckE E
  obtain ⟨h9, eh9, E⟩ := cd_nmE E
  refine cd_copy S hK hZ hl.1 (cd_r2_5 hr1) (cd_r2_5 hq) z8 eh9 cd_m_X2_37 cd_v_java_lang_System_arraycopy cd_s_java_lang_System_arraycopy cd_n_J10 (Nat.le_of_ble_eq_true rfl) (by decide) dX2_become_72 (fun H locs hZ => ?_)
  refine lv_aload_n S.1 S.2.1 dX2_become_75 rfl (lv_at hl 1 rfl) ?_
  refine cd_get2 (v := .ref (G.2.2.2.2 + (r1 + 4))) S hK hZ hr1 6 cd_f_X2_21 rfl dX2_become_76 ?_
  refine lv_iconst (v := 0) S.1 S.2.1 dX2_become_79 (by decide) ?_
  refine lv_aload_n S.1 S.2.1 dX2_become_80 rfl (lv_at hl 0 rfl) ?_
  refine cd_get2 (v := .ref (G.2.2.2.2 + (q + 4))) S hK hZ hq 6 cd_f_X2_21 rfl dX2_become_81 ?_
  refine lv_iconst (v := 0) S.1 S.2.1 dX2_become_84 (by decide) ?_
  refine lv_aload_n S.1 S.2.1 dX2_become_85 rfl (lv_at hl 0 rfl) ?_
  refine cd_get2 (v := .int (cd_g h9 q 1)) S hK hZ hq 1 cd_f_X2_31 rfl dX2_become_86 ?_
  obtain ⟨z10, E⟩ := cd_ckE E
  obtain ⟨h11, eh11, E⟩ := cd_nmE E
  refine cd_copy S hK hZ hl.1 (cd_r2_6 hr1) (cd_r2_6 hq) z10 eh11 cd_m_X2_37 cd_v_java_lang_System_arraycopy cd_s_java_lang_System_arraycopy cd_n_J10 (Nat.le_of_ble_eq_true rfl) (by decide) dX2_become_89 (fun H locs hZ => ?_)
  refine lv_aload_n S.1 S.2.1 dX2_become_92 rfl (lv_at hl 1 rfl) ?_
  refine cd_get2 (v := .ref (G.2.2.2.2 + (r1 + 5))) S hK hZ hr1 7 cd_f_X2_24 rfl dX2_become_93 ?_
  refine lv_iconst (v := 0) S.1 S.2.1 dX2_become_96 (by decide) ?_
  refine lv_aload_n S.1 S.2.1 dX2_become_97 rfl (lv_at hl 0 rfl) ?_
  refine cd_get2 (v := .ref (G.2.2.2.2 + (q + 5))) S hK hZ hq 7 cd_f_X2_24 rfl dX2_become_98 ?_
  refine lv_iconst (v := 0) S.1 S.2.1 dX2_become_101 (by decide) ?_
  refine lv_aload_n S.1 S.2.1 dX2_become_102 rfl (lv_at hl 0 rfl) ?_
  refine cd_get2 (v := .int (cd_g h11 q 1)) S hK hZ hq 1 cd_f_X2_31 rfl dX2_become_103 ?_
  obtain ⟨z12, E⟩ := cd_ckE E
  obtain ⟨h13, eh13, E⟩ := cd_nmE E
  refine cd_copy S hK hZ hl.1 (cd_r2_7 hr1) (cd_r2_7 hq) z12 eh13 cd_m_X2_37 cd_v_java_lang_System_arraycopy cd_s_java_lang_System_arraycopy cd_n_J10 (Nat.le_of_ble_eq_true rfl) (by decide) dX2_become_106 (fun H locs hZ => ?_)
  exact hret _ _ _ _ _ (Option.some.inj E) hZ dX2_become_109
abbrev rm_X4_become : Room := { frames := 3, cells := 0, slots := 0, locals := 122 }
theorem cd_v_X4_become : cd_V yX4_become cX4_become 3 none 1 := ⟨cd_i_X4_become, cd_e_X4_X4_become, cd_n_X4, cd_c_X4_become, by decide +kernel⟩
set_option maxHeartbeats 4000000 in
set_option maxRecDepth 100000 in
theorem c_X4_become (l : Launch) (G : cd_G) (q : Nat) (r1 : Nat) (hq : cd_is 4 q) (hr1 : cd_is 4 r1) (h : cd_Hp) (out : cd_Hp) (E : f_X4_become q r1 h = some out) : cd_Mv l G yX4_become (Cond.code yX4_become cX4_become 3 none :: cd_T) rm_X4_become [.ref (G.2.2.2.2 + q), .ref (G.2.2.2.2 + r1)] h out := by
  refine cd_inv (by decide) (Nat.le_of_ble_eq_true rfl) ?_
  intro p e s m args below meth c Q ls H locs S hK hZ hl hret
  have hl : lv_has ls 3 [(0, .ref (G.2.2.2.2 + q)), (1, .ref (G.2.2.2.2 + r1))] := hl
  have L64 : ∀ (n : Nat) (v64_2 : Int32) (h64_ : cd_Hp) (o : (Int32 × cd_Hp)) (H : Heap) (locs : List Loc) (ls : Array Slot), cd_lp (f_X4_become_B64 q r1) n (v64_2, h64_) = some o → cd_Z G h64_ s.heap H locs → lv_has ls 3 [(2, .int v64_2), (0, .ref (G.2.2.2.2 + q)), (1, .ref (G.2.2.2.2 + r1))] → (∀ (H : Heap) (locs : List Loc) (ls : Array Slot), cd_Z G o.2 s.heap H locs → lv_has ls 3 [(2, .int o.1), (0, .ref (G.2.2.2.2 + q)), (1, .ref (G.2.2.2.2 + r1))] → W p l e rm_X4_become s m args below meth c H locs 0 0 Q (F0 m 93 ls [])) → W p l e rm_X4_become s m args below meth c H locs 0 0 Q (F0 m 64 ls []) := by
    intro n
    induction n with
    | zero => intro v64_2 h64_ o H locs ls E; exact nomatch (show (none : Option (Int32 × cd_Hp)) = some o from E)
    | succ n ih =>
      intro v64_2 h64_ o H locs ls E hZ hl hex
      have E : f_X4_become_B64 q r1 (cd_lp (f_X4_become_B64 q r1) n) (v64_2, h64_) = some o := E
      unfold f_X4_become_B64 at E
      dsimp only at E
      refine lv_iload_n S.1 S.2.1 dX4_become_64 rfl (lv_at hl 0 rfl) ?_
      refine lv_aload_n S.1 S.2.1 dX4_become_65 rfl (lv_at hl 1 rfl) ?_
      refine cd_get4 (v := .int (cd_g h64_ q 3)) S hK hZ hq 3 cd_f_X4_53 rfl dX4_become_66 ?_
      refine lv_icmp_ge (tgt := 93) S.1 S.2.1 dX4_become_69 (by decide) (fun c10 => ?_) (fun c10 => ?_)
      · have E := cd_tE c10 E
        cases E
        exact hex H locs ls hZ (lv_sub hl [0, 1, 2] rfl)
      · have E := cd_fE c10 E
        refine lv_aload_n S.1 S.2.1 dX4_become_72 rfl (lv_at hl 1 rfl) ?_
        refine cd_get4 (v := .ref (G.2.2.2.2 + (q + 6))) S hK hZ hq 7 cd_f_X4_31 rfl dX4_become_73 ?_
        refine lv_iload_n S.1 S.2.1 dX4_become_76 rfl (lv_at hl 0 rfl) ?_
        obtain ⟨z11, E⟩ := cd_ckE E
        refine cd_aald9 S hK hZ (cd_r4_7 hq) z11 dX4_become_77 ?_
        refine lv_aload_n S.1 S.2.1 dX4_become_78 rfl (lv_at hl 2 rfl) ?_
        refine cd_get4 (v := .ref (G.2.2.2.2 + (r1 + 6))) S hK hZ hr1 7 cd_f_X4_31 rfl dX4_become_79 ?_
        refine lv_iload_n S.1 S.2.1 dX4_become_82 rfl (lv_at hl 0 rfl) ?_
        obtain ⟨z12, E⟩ := cd_ckE E
        refine cd_aald9 S hK hZ (cd_r4_7 hr1) z12 dX4_become_83 ?_
        obtain ⟨o13, E1, E⟩ := cd_bE E
        refine cd_cVv (As := [.ref (G.2.2.2.2 + ((r1 + 6) + 8 + 7 * (v64_2.toNatClampNeg)))]) S hK hZ hl.1 (c_X0_become l G ((q + 6) + 8 + 7 * (v64_2.toNatClampNeg)) ((r1 + 6) + 8 + 7 * (v64_2.toNatClampNeg)) (cd_r9 (cd_r4_7 hq) z11) (cd_r9 (cd_r4_7 hr1) z12) h64_ o13 E1) cd_v_X0_become cd_m_X4_67 ⟨Nat.le_of_ble_eq_true rfl, Nat.le_of_ble_eq_true rfl⟩ ⟨rfl, rfl⟩ (ci := 0) (by decide) rfl (cd_r9 (cd_r4_7 hq) z11) rfl rfl (Nat.le_of_ble_eq_true rfl) ⟨Nat.zero_le _, Nat.zero_le _⟩ dX4_become_84 (fun H locs hZ => ?_)
        obtain ⟨x15, ex15, E⟩ := cd_nmE E
        refine lv_iinc (v := x15) (lv' := [(2, .int x15), (0, .ref (G.2.2.2.2 + q)), (1, .ref (G.2.2.2.2 + r1))]) S.1 S.2.1 dX4_become_87 hl (k := 0) rfl (by rw [ex15]; rfl) (by decide) rfl (fun ls hl => ?_)
        refine lv_goto (tgt := 64) S.1 S.2.1 dX4_become_90 (by decide) ?_
        exact ih x15 o13 o H locs ls E hZ (lv_sub hl [0, 1, 2] rfl) hex
  unfold f_X4_become at E
  refine lv_aload_n S.1 S.2.1 dX4_become_0 rfl (lv_at hl 0 rfl) ?_
  refine lv_aload_n S.1 S.2.1 dX4_become_1 rfl (lv_at hl 1 rfl) ?_
  refine cd_get4 (v := .int (cd_g h r1 0)) S hK hZ hr1 0 cd_f_X4_9 rfl dX4_become_2 ?_
  obtain ⟨h1, eh1, E⟩ := cd_nmE E
  refine cd_put4_0 S hK hZ hq cd_f_X4_9 eh1 dX4_become_5 (fun H locs hZ => ?_)
  refine lv_aload_n S.1 S.2.1 dX4_become_8 rfl (lv_at hl 0 rfl) ?_
  refine lv_aload_n S.1 S.2.1 dX4_become_9 rfl (lv_at hl 1 rfl) ?_
  refine cd_get4 (v := .int (cd_g h1 r1 1)) S hK hZ hr1 1 cd_f_X4_15 rfl dX4_become_10 ?_
  obtain ⟨h2, eh2, E⟩ := cd_nmE E
  refine cd_put4_1 S hK hZ hq cd_f_X4_15 eh2 dX4_become_13 (fun H locs hZ => ?_)
  refine lv_aload_n S.1 S.2.1 dX4_become_16 rfl (lv_at hl 0 rfl) ?_
  refine lv_aload_n S.1 S.2.1 dX4_become_17 rfl (lv_at hl 1 rfl) ?_
  refine cd_get4 (v := .int (cd_g h2 r1 2)) S hK hZ hr1 2 cd_f_X4_50 rfl dX4_become_18 ?_
  obtain ⟨h3, eh3, E⟩ := cd_nmE E
  refine cd_put4_2 S hK hZ hq cd_f_X4_50 eh3 dX4_become_21 (fun H locs hZ => ?_)
  refine lv_aload_n S.1 S.2.1 dX4_become_24 rfl (lv_at hl 0 rfl) ?_
  refine lv_aload_n S.1 S.2.1 dX4_become_25 rfl (lv_at hl 1 rfl) ?_
  refine cd_get4 (v := .int (cd_g h3 r1 3)) S hK hZ hr1 3 cd_f_X4_53 rfl dX4_become_26 ?_
  obtain ⟨h4, eh4, E⟩ := cd_nmE E
  refine cd_put4_3 S hK hZ hq cd_f_X4_53 eh4 dX4_become_29 (fun H locs hZ => ?_)
  refine lv_aload_n S.1 S.2.1 dX4_become_32 rfl (lv_at hl 0 rfl) ?_
  refine lv_aload_n S.1 S.2.1 dX4_become_33 rfl (lv_at hl 1 rfl) ?_
  refine cd_get4 (v := .int (cd_g h4 r1 4)) S hK hZ hr1 4 cd_f_X4_56 rfl dX4_become_34 ?_
  obtain ⟨h5, eh5, E⟩ := cd_nmE E
  refine cd_put4_4 S hK hZ hq cd_f_X4_56 eh5 dX4_become_37 (fun H locs hZ => ?_)
  refine lv_aload_n S.1 S.2.1 dX4_become_40 rfl (lv_at hl 1 rfl) ?_
  refine cd_get4 (v := .ref (G.2.2.2.2 + (r1 + 1))) S hK hZ hr1 5 cd_f_X4_18 rfl dX4_become_41 ?_
  refine lv_aload_n S.1 S.2.1 dX4_become_44 rfl (lv_at hl 0 rfl) ?_
  refine cd_get4 (v := .ref (G.2.2.2.2 + (q + 1))) S hK hZ hq 5 cd_f_X4_18 rfl dX4_become_45 ?_
  obtain ⟨o6, E1, E⟩ := cd_bE E
  refine cd_cNv (As := [.ref (G.2.2.2.2 + (r1 + 1)), .ref (G.2.2.2.2 + (q + 1))]) S hK hZ hl.1 (c_X7_copyRow l G (r1 + 1) (q + 1) ((cd_r4_5 hr1)).self ((cd_r4_5 hq)).self h5 o6 E1) cd_v_X7_copyRow (cd_nX4_59 hK.2) ⟨Nat.le_of_ble_eq_true rfl, Nat.le_of_ble_eq_true rfl⟩ ⟨rfl, rfl⟩ rfl rfl (Nat.le_of_ble_eq_true rfl) ⟨Nat.zero_le _, Nat.zero_le _⟩ dX4_become_48 (fun H locs hZ => ?_)
  refine lv_aload_n S.1 S.2.1 dX4_become_51 rfl (lv_at hl 0 rfl) ?_
  refine cd_get4 (v := .ref (G.2.2.2.2 + (q + 2))) S hK hZ hq 6 cd_f_X4_25 rfl dX4_become_52 ?_
  refine lv_aload_n S.1 S.2.1 dX4_become_55 rfl (lv_at hl 1 rfl) ?_
  refine cd_get4 (v := .ref (G.2.2.2.2 + (r1 + 2))) S hK hZ hr1 6 cd_f_X4_25 rfl dX4_become_56 ?_
  obtain ⟨o8, E1, E⟩ := cd_bE E
  refine cd_cVv (As := [.ref (G.2.2.2.2 + (r1 + 2))]) S hK hZ hl.1 (c_X5_become l G (q + 2) (r1 + 2) (cd_r4_6 hq) (cd_r4_6 hr1) o6 o8 E1) cd_v_X5_become cd_m_X4_63 ⟨Nat.le_of_ble_eq_true rfl, Nat.le_of_ble_eq_true rfl⟩ ⟨rfl, rfl⟩ (ci := 5) (by decide) rfl (cd_r4_6 hq) rfl rfl (Nat.le_of_ble_eq_true rfl) ⟨Nat.zero_le _, Nat.zero_le _⟩ dX4_become_59 (fun H locs hZ => ?_)
  refine lv_iconst (v := 0) S.1 S.2.1 dX4_become_62 (by decide) ?_
  refine lv_istore_n (lv' := [(2, .int 0), (0, .ref (G.2.2.2.2 + q)), (1, .ref (G.2.2.2.2 + r1))]) S.1 S.2.1 dX4_become_63 rfl hl (by decide) rfl (fun ls hl => ?_)
  obtain ⟨o16, E1, E⟩ := cd_bE E
  refine L64 cd_fu 0 o8 o16 H locs ls E1 hZ (lv_sub hl [0, 1, 2] rfl) (fun H locs ls hZ hl => ?_)
  refine lv_aload_n S.1 S.2.1 dX4_become_93 rfl (lv_at hl 2 rfl) ?_
  refine cd_get4 (v := .ref (G.2.2.2.2 + (r1 + 7))) S hK hZ hr1 8 cd_f_X4_35 rfl dX4_become_94 ?_
  refine lv_aload_n S.1 S.2.1 dX4_become_97 rfl (lv_at hl 1 rfl) ?_
  refine cd_get4 (v := .ref (G.2.2.2.2 + (q + 7))) S hK hZ hq 8 cd_f_X4_35 rfl dX4_become_98 ?_
  obtain ⟨o17, E1, E⟩ := cd_bE E
  refine cd_cNv (As := [.ref (G.2.2.2.2 + (r1 + 7)), .ref (G.2.2.2.2 + (q + 7))]) S hK hZ hl.1 (c_X7_copyRow l G (r1 + 7) (q + 7) ((cd_r4_8 hr1)).self ((cd_r4_8 hq)).self o16.2 o17 E1) cd_v_X7_copyRow (cd_nX4_59 hK.2) ⟨Nat.le_of_ble_eq_true rfl, Nat.le_of_ble_eq_true rfl⟩ ⟨rfl, rfl⟩ rfl rfl (Nat.le_of_ble_eq_true rfl) ⟨Nat.zero_le _, Nat.zero_le _⟩ dX4_become_101 (fun H locs hZ => ?_)
  refine lv_aload_n S.1 S.2.1 dX4_become_104 rfl (lv_at hl 1 rfl) ?_
  refine cd_get4 (v := .ref (G.2.2.2.2 + (q + 8))) S hK hZ hq 9 cd_f_X4_41 rfl dX4_become_105 ?_
  refine lv_aload_n S.1 S.2.1 dX4_become_108 rfl (lv_at hl 2 rfl) ?_
  refine cd_get4 (v := .ref (G.2.2.2.2 + (r1 + 8))) S hK hZ hr1 9 cd_f_X4_41 rfl dX4_become_109 ?_
  obtain ⟨o19, E1, E⟩ := cd_bE E
  refine cd_cVv (As := [.ref (G.2.2.2.2 + (r1 + 8))]) S hK hZ hl.1 (c_X2_become l G (q + 8) (r1 + 8) (cd_r4_9 hq) (cd_r4_9 hr1) o17 o19 E1) cd_v_X2_become cd_m_X4_70 ⟨Nat.le_of_ble_eq_true rfl, Nat.le_of_ble_eq_true rfl⟩ ⟨rfl, rfl⟩ (ci := 2) (by decide) rfl (cd_r4_9 hq) rfl rfl (Nat.le_of_ble_eq_true rfl) ⟨Nat.zero_le _, Nat.zero_le _⟩ dX4_become_112 (fun H locs hZ => ?_)
  exact hret _ _ _ _ _ (Option.some.inj E) hZ dX4_become_115
abbrev rm_X1_hold : Room := { frames := 4, cells := 0, slots := 0, locals := 144 }
theorem cd_v_X1_hold : cd_V yX1_hold cX1_hold 2 none 1 := ⟨cd_i_X1_hold, cd_e_X1_X1_hold, cd_n_X1, cd_c_X1_hold, by decide +kernel⟩
set_option maxHeartbeats 4000000 in
set_option maxRecDepth 100000 in
theorem c_X1_hold (l : Launch) (G : cd_G) (q : Nat) (r1 : Nat) (hq : cd_is 1 q) (hr1 : cd_is 4 r1) (h : cd_Hp) (out : cd_Hp) (E : f_X1_hold q r1 h = some out) : cd_Mv l G yX1_hold (Cond.code yX1_hold cX1_hold 2 none :: cd_T) rm_X1_hold [.ref (G.2.2.2.2 + q), .ref (G.2.2.2.2 + r1)] h out := by
  refine cd_inv (by decide) (Nat.le_of_ble_eq_true rfl) ?_
  intro p e s m args below meth c Q ls H locs S hK hZ hl hret
  have hl : lv_has ls 2 [(0, .ref (G.2.2.2.2 + q)), (1, .ref (G.2.2.2.2 + r1))] := hl
  unfold f_X1_hold at E
  refine lv_aload_n S.1 S.2.1 dX1_hold_0 rfl (lv_at hl 0 rfl) ?_
  refine cd_get1 (v := .ref (G.2.2.2.2 + (q + 1))) S hK hZ hq 2 cd_f_X1_13 rfl dX1_hold_1 ?_
  refine lv_aload_n S.1 S.2.1 dX1_hold_4 rfl (lv_at hl 0 rfl) ?_
  refine cd_get1 (v := .int (cd_g h q 1)) S hK hZ hq 1 cd_f_X1_20 rfl dX1_hold_5 ?_
  obtain ⟨z1, E⟩ := cd_ckE E
  refine cd_aald10 S hK hZ (cd_r1_2 hq) z1 dX1_hold_8 ?_
  refine lv_aload_n S.1 S.2.1 dX1_hold_9 rfl (lv_at hl 1 rfl) ?_
  obtain ⟨o2, E1, E⟩ := cd_bE E
  refine cd_cVv (As := [.ref (G.2.2.2.2 + r1)]) S hK hZ hl.1 (c_X4_become l G ((q + 1) + 1 + 56 * ((cd_g h q 1).toNatClampNeg)) r1 (cd_r10 (cd_r1_2 hq) z1) hr1 h o2 E1) cd_v_X4_become cd_m_X1_24 ⟨Nat.le_of_ble_eq_true rfl, Nat.le_of_ble_eq_true rfl⟩ ⟨rfl, rfl⟩ (ci := 4) (by decide) rfl (cd_r10 (cd_r1_2 hq) z1) rfl rfl (Nat.le_of_ble_eq_true rfl) ⟨Nat.zero_le _, Nat.zero_le _⟩ dX1_hold_10 (fun H locs hZ => ?_)
  exact hret _ _ _ _ _ (Option.some.inj E) hZ dX1_hold_13
abbrev rm_X1_undo : Room := { frames := 4, cells := 0, slots := 0, locals := 144 }
theorem cd_v_X1_undo : cd_V yX1_undo cX1_undo 2 none 1 := ⟨cd_i_X1_undo, cd_e_X1_X1_undo, cd_n_X1, cd_c_X1_undo, by decide +kernel⟩
set_option maxHeartbeats 4000000 in
set_option maxRecDepth 100000 in
theorem c_X1_undo (l : Launch) (G : cd_G) (q : Nat) (r1 : Nat) (hq : cd_is 1 q) (hr1 : cd_is 4 r1) (h : cd_Hp) (out : cd_Hp) (E : f_X1_undo q r1 h = some out) : cd_Mv l G yX1_undo (Cond.code yX1_undo cX1_undo 2 none :: cd_T) rm_X1_undo [.ref (G.2.2.2.2 + q), .ref (G.2.2.2.2 + r1)] h out := by
  refine cd_inv (by decide) (Nat.le_of_ble_eq_true rfl) ?_
  intro p e s m args below meth c Q ls H locs S hK hZ hl hret
  have hl : lv_has ls 2 [(0, .ref (G.2.2.2.2 + q)), (1, .ref (G.2.2.2.2 + r1))] := hl
  unfold f_X1_undo at E
  refine lv_aload_n S.1 S.2.1 dX1_undo_0 rfl (lv_at hl 1 rfl) ?_
  refine lv_aload_n S.1 S.2.1 dX1_undo_1 rfl (lv_at hl 0 rfl) ?_
  refine cd_get1 (v := .ref (G.2.2.2.2 + (q + 1))) S hK hZ hq 2 cd_f_X1_13 rfl dX1_undo_2 ?_
  refine lv_aload_n S.1 S.2.1 dX1_undo_5 rfl (lv_at hl 0 rfl) ?_
  refine cd_get1 (v := .int (cd_g h q 1)) S hK hZ hq 1 cd_f_X1_20 rfl dX1_undo_6 ?_
  obtain ⟨z1, E⟩ := cd_ckE E
  refine cd_aald10 S hK hZ (cd_r1_2 hq) z1 dX1_undo_9 ?_
  obtain ⟨o2, E1, E⟩ := cd_bE E
  refine cd_cVv (As := [.ref (G.2.2.2.2 + ((q + 1) + 1 + 56 * ((cd_g h q 1).toNatClampNeg)))]) S hK hZ hl.1 (c_X4_become l G r1 ((q + 1) + 1 + 56 * ((cd_g h q 1).toNatClampNeg)) hr1 (cd_r10 (cd_r1_2 hq) z1) h o2 E1) cd_v_X4_become cd_m_X1_24 ⟨Nat.le_of_ble_eq_true rfl, Nat.le_of_ble_eq_true rfl⟩ ⟨rfl, rfl⟩ (ci := 4) (by decide) rfl hr1 rfl rfl (Nat.le_of_ble_eq_true rfl) ⟨Nat.zero_le _, Nat.zero_le _⟩ dX1_undo_10 (fun H locs hZ => ?_)
  exact hret _ _ _ _ _ (Option.some.inj E) hZ dX1_undo_13
abbrev rm_X1_keep : Room := { frames := 1, cells := 0, slots := 0, locals := 40 }
theorem cd_v_X1_keep : cd_V yX1_keep cX1_keep 1 none 0 := ⟨cd_i_X1_keep, cd_e_X1_X1_keep, cd_n_X1, cd_c_X1_keep, by decide +kernel⟩
set_option maxHeartbeats 4000000 in
set_option maxRecDepth 100000 in
theorem c_X1_keep (l : Launch) (G : cd_G) (q : Nat) (hq : cd_is 1 q) (h : cd_Hp) (out : cd_Hp) (E : f_X1_keep q h = out) : cd_Mv l G yX1_keep (Cond.code yX1_keep cX1_keep 1 none :: cd_T) rm_X1_keep [.ref (G.2.2.2.2 + q)] h out := by
  refine cd_inv (by decide) (Nat.le_of_ble_eq_true rfl) ?_
  intro p e s m args below meth c Q ls H locs S hK hZ hl hret
  have hl : lv_has ls 1 [(0, .ref (G.2.2.2.2 + q))] := hl
  unfold f_X1_keep at E
  refine lv_aload_n S.1 S.2.1 dX1_keep_0 rfl (lv_at hl 0 rfl) ?_
  refine lv_aload_n S.1 S.2.1 dX1_keep_1 rfl (lv_at hl 0 rfl) ?_
  refine cd_get1 (v := .int (cd_g h q 1)) S hK hZ hq 1 cd_f_X1_20 rfl dX1_keep_2 ?_
  refine lv_iconst (v := 1) S.1 S.2.1 dX1_keep_5 (by decide) ?_
  refine lv_iadd S.1 S.2.1 dX1_keep_6 ?_
  refine lv_bipush (v := 6) S.1 S.2.1 dX1_keep_7 (by decide) ?_
  refine lv_irem S.1 S.2.1 dX1_keep_9 (by decide) ?_
  obtain ⟨h1, eh1, E⟩ := cd_nmE E
  refine cd_put1_1 S hK hZ hq cd_f_X1_20 eh1 dX1_keep_10 (fun H locs hZ => ?_)
  refine lv_aload_n S.1 S.2.1 dX1_keep_13 rfl (lv_at hl 0 rfl) ?_
  refine lv_aload_n S.1 S.2.1 dX1_keep_14 rfl (lv_at hl 0 rfl) ?_
  refine cd_get1 (v := .int (cd_g h1 q 0)) S hK hZ hq 0 cd_f_X1_28 rfl dX1_keep_15 ?_
  refine lv_iconst (v := 1) S.1 S.2.1 dX1_keep_18 (by decide) ?_
  refine lv_iadd S.1 S.2.1 dX1_keep_19 ?_
  refine lv_iconst (v := 5) S.1 S.2.1 dX1_keep_20 (by decide) ?_
  refine cd_min S hl.1 cd_m_X1_31 cd_s_J9_min_7cf53 cd_n_J9 cd_c_J9_min_7cf53 (Nat.le_of_ble_eq_true rfl) (Nat.le_of_ble_eq_true rfl) (Nat.zero_le _) (Nat.zero_le _) dX1_keep_21 ?_
  obtain ⟨h2, eh2, E⟩ := cd_nmE E
  refine cd_put1_0 S hK hZ hq cd_f_X1_28 eh2 dX1_keep_24 (fun H locs hZ => ?_)
  exact hret _ _ _ _ _ (E) hZ dX1_keep_27
abbrev rm_X1_stepBack : Room := { frames := 4, cells := 0, slots := 0, locals := 144 }
theorem cd_v_X1_stepBack : cd_V yX1_stepBack cX1_stepBack 2 (some .int) 1 := ⟨cd_i_X1_stepBack, cd_e_X1_X1_stepBack, cd_n_X1, cd_c_X1_stepBack, by decide +kernel⟩
set_option maxHeartbeats 4000000 in
set_option maxRecDepth 100000 in
theorem c_X1_stepBack (l : Launch) (G : cd_G) (q : Nat) (r1 : Nat) (hq : cd_is 1 q) (hr1 : cd_is 4 r1) (h : cd_Hp) (out : (Int32 × cd_Hp)) (E : f_X1_stepBack q r1 h = some out) : cd_Mi l G yX1_stepBack (Cond.code yX1_stepBack cX1_stepBack 2 (some .int) :: cd_T) rm_X1_stepBack [.ref (G.2.2.2.2 + q), .ref (G.2.2.2.2 + r1)] h out := by
  refine cd_ini (by decide) (Nat.le_of_ble_eq_true rfl) ?_
  intro p e s m args below meth c Q ls H locs S hK hZ hl hret
  have hl : lv_has ls 2 [(0, .ref (G.2.2.2.2 + q)), (1, .ref (G.2.2.2.2 + r1))] := hl
  unfold f_X1_stepBack at E
  refine lv_aload_n S.1 S.2.1 dX1_stepBack_0 rfl (lv_at hl 0 rfl) ?_
  refine cd_get1 (v := .int (cd_g h q 0)) S hK hZ hq 0 cd_f_X1_28 rfl dX1_stepBack_1 ?_
  refine lv_if_gt (tgt := 10) S.1 S.2.1 dX1_stepBack_4 (by decide) (fun c1 => ?_) (fun c1 => ?_)
  · have E := cd_tE c1 E
    refine lv_aload_n S.1 S.2.1 dX1_stepBack_10 rfl (lv_at hl 0 rfl) ?_
    refine lv_aload_n S.1 S.2.1 dX1_stepBack_11 rfl (lv_at hl 0 rfl) ?_
    refine cd_get1 (v := .int (cd_g h q 1)) S hK hZ hq 1 cd_f_X1_20 rfl dX1_stepBack_12 ?_
    refine lv_bipush (v := 6) S.1 S.2.1 dX1_stepBack_15 (by decide) ?_
    refine lv_iadd S.1 S.2.1 dX1_stepBack_17 ?_
    refine lv_iconst (v := 1) S.1 S.2.1 dX1_stepBack_18 (by decide) ?_
    refine lv_isub S.1 S.2.1 dX1_stepBack_19 ?_
    refine lv_bipush (v := 6) S.1 S.2.1 dX1_stepBack_20 (by decide) ?_
    refine lv_irem S.1 S.2.1 dX1_stepBack_22 (by decide) ?_
    obtain ⟨h2, eh2, E⟩ := cd_nmE E
    refine cd_put1_1 S hK hZ hq cd_f_X1_20 eh2 dX1_stepBack_23 (fun H locs hZ => ?_)
    refine lv_aload_n S.1 S.2.1 dX1_stepBack_26 rfl (lv_at hl 0 rfl) ?_
    refine lv_dup S.1 S.2.1 dX1_stepBack_27 rfl ?_
    refine cd_get1 (v := .int (cd_g h2 q 0)) S hK hZ hq 0 cd_f_X1_28 rfl dX1_stepBack_28 ?_
    refine lv_iconst (v := 1) S.1 S.2.1 dX1_stepBack_31 (by decide) ?_
    refine lv_isub S.1 S.2.1 dX1_stepBack_32 ?_
    obtain ⟨h3, eh3, E⟩ := cd_nmE E
    refine cd_put1_0 S hK hZ hq cd_f_X1_28 eh3 dX1_stepBack_33 (fun H locs hZ => ?_)
    refine lv_aload_n S.1 S.2.1 dX1_stepBack_36 rfl (lv_at hl 1 rfl) ?_
    refine lv_aload_n S.1 S.2.1 dX1_stepBack_37 rfl (lv_at hl 0 rfl) ?_
    refine cd_get1 (v := .ref (G.2.2.2.2 + (q + 1))) S hK hZ hq 2 cd_f_X1_13 rfl dX1_stepBack_38 ?_
    refine lv_aload_n S.1 S.2.1 dX1_stepBack_41 rfl (lv_at hl 0 rfl) ?_
    refine cd_get1 (v := .int (cd_g h3 q 1)) S hK hZ hq 1 cd_f_X1_20 rfl dX1_stepBack_42 ?_
    obtain ⟨z4, E⟩ := cd_ckE E
    refine cd_aald10 S hK hZ (cd_r1_2 hq) z4 dX1_stepBack_45 ?_
    obtain ⟨o5, E1, E⟩ := cd_bE E
    refine cd_cVv (As := [.ref (G.2.2.2.2 + ((q + 1) + 1 + 56 * ((cd_g h3 q 1).toNatClampNeg)))]) S hK hZ hl.1 (c_X4_become l G r1 ((q + 1) + 1 + 56 * ((cd_g h3 q 1).toNatClampNeg)) hr1 (cd_r10 (cd_r1_2 hq) z4) h3 o5 E1) cd_v_X4_become cd_m_X1_24 ⟨Nat.le_of_ble_eq_true rfl, Nat.le_of_ble_eq_true rfl⟩ ⟨rfl, rfl⟩ (ci := 4) (by decide) rfl hr1 rfl rfl (Nat.le_of_ble_eq_true rfl) ⟨Nat.zero_le _, Nat.zero_le _⟩ dX1_stepBack_46 (fun H locs hZ => ?_)
    refine lv_aload_n S.1 S.2.1 dX1_stepBack_49 rfl (lv_at hl 0 rfl) ?_
    refine cd_get1 (v := .int (cd_g o5 q 0)) S hK hZ hq 0 cd_f_X1_28 rfl dX1_stepBack_50 ?_
    exact hret _ _ _ _ _ _ (Option.some.inj E) hZ dX1_stepBack_53
  · have E := cd_fE c1 E
    refine lv_bipush (v := (-3)) S.1 S.2.1 dX1_stepBack_7 (by decide) ?_
    exact hret _ _ _ _ _ _ (Option.some.inj E) hZ dX1_stepBack_9
abbrev rm_X2_await : Room := { frames := 0, cells := 0, slots := 0, locals := 0 }
theorem cd_v_X2_await : cd_V yX2_await cX2_await 3 none 2 := ⟨cd_i_X2_await, cd_e_X2_X2_await, cd_n_X2, cd_c_X2_await, by decide +kernel⟩
set_option maxHeartbeats 4000000 in
set_option maxRecDepth 100000 in
theorem c_X2_await (l : Launch) (G : cd_G) (q : Nat) (a1 : Int32) (a2 : Int32) (hq : cd_is 2 q) (h : cd_Hp) (out : cd_Hp) (E : f_X2_await q a1 a2 h = some out) : cd_Mv l G yX2_await (Cond.code yX2_await cX2_await 3 none :: cd_T) rm_X2_await [.ref (G.2.2.2.2 + q), .int a1, .int a2] h out := by
  refine cd_inv (by decide) (Nat.le_of_ble_eq_true rfl) ?_
  intro p e s m args below meth c Q ls H locs S hK hZ hl hret
  have hl : lv_has ls 3 [(0, .ref (G.2.2.2.2 + q)), (1, .int a1), (2, .int a2)] := hl
  unfold f_X2_await at E
  refine lv_aload_n S.1 S.2.1 dX2_await_0 rfl (lv_at hl 0 rfl) ?_
  refine cd_get2 (v := .int (cd_g h q 0)) S hK hZ hq 0 cd_f_X2_27 rfl dX2_await_1 ?_
  refine lv_bipush (v := 64) S.1 S.2.1 dX2_await_4 (by decide) ?_
  refine lv_icmp_ge (tgt := 39) S.1 S.2.1 dX2_await_6 (by decide) (fun c1 => ?_) (fun c1 => ?_)
  · have E := cd_tE c1 E
    exact hret _ _ _ _ _ (Option.some.inj E) hZ dX2_await_39
  · have E := cd_fE c1 E
    refine lv_aload_n S.1 S.2.1 dX2_await_9 rfl (lv_at hl 0 rfl) ?_
    refine cd_get2 (v := .ref (G.2.2.2.2 + (q + 1))) S hK hZ hq 3 cd_f_X2_9 rfl dX2_await_10 ?_
    refine lv_aload_n S.1 S.2.1 dX2_await_13 rfl (lv_at hl 0 rfl) ?_
    refine cd_get2 (v := .int (cd_g h q 0)) S hK hZ hq 0 cd_f_X2_27 rfl dX2_await_14 ?_
    refine lv_iload_n S.1 S.2.1 dX2_await_17 rfl (lv_at hl 1 rfl) ?_
    obtain ⟨z2, E⟩ := cd_ckE E
    obtain ⟨h3, eh3, E⟩ := cd_nmE E
    refine cd_iast S hK hZ (cd_r2_3 hq) z2 eh3 dX2_await_18 (fun H locs hZ => ?_)
    refine lv_aload_n S.1 S.2.1 dX2_await_19 rfl (lv_at hl 0 rfl) ?_
    refine cd_get2 (v := .ref (G.2.2.2.2 + (q + 2))) S hK hZ hq 4 cd_f_X2_15 rfl dX2_await_20 ?_
    refine lv_aload_n S.1 S.2.1 dX2_await_23 rfl (lv_at hl 0 rfl) ?_
    refine cd_get2 (v := .int (cd_g h3 q 0)) S hK hZ hq 0 cd_f_X2_27 rfl dX2_await_24 ?_
    refine lv_iload_n S.1 S.2.1 dX2_await_27 rfl (lv_at hl 2 rfl) ?_
    obtain ⟨z4, E⟩ := cd_ckE E
    obtain ⟨h5, eh5, E⟩ := cd_nmE E
    refine cd_iast S hK hZ (cd_r2_4 hq) z4 eh5 dX2_await_28 (fun H locs hZ => ?_)
    refine lv_aload_n S.1 S.2.1 dX2_await_29 rfl (lv_at hl 0 rfl) ?_
    refine lv_dup S.1 S.2.1 dX2_await_30 rfl ?_
    refine cd_get2 (v := .int (cd_g h5 q 0)) S hK hZ hq 0 cd_f_X2_27 rfl dX2_await_31 ?_
    refine lv_iconst (v := 1) S.1 S.2.1 dX2_await_34 (by decide) ?_
    refine lv_iadd S.1 S.2.1 dX2_await_35 ?_
    obtain ⟨h6, eh6, E⟩ := cd_nmE E
    refine cd_put2_0 S hK hZ hq cd_f_X2_27 eh6 dX2_await_36 (fun H locs hZ => ?_)
    exact hret _ _ _ _ _ (Option.some.inj E) hZ dX2_await_39
abbrev rm_X2_keep : Room := { frames := 0, cells := 0, slots := 0, locals := 0 }
theorem cd_v_X2_keep : cd_V yX2_keep cX2_keep 4 none 3 := ⟨cd_i_X2_keep, cd_e_X2_X2_keep, cd_n_X2, cd_c_X2_keep, by decide +kernel⟩
set_option maxHeartbeats 4000000 in
set_option maxRecDepth 100000 in
theorem c_X2_keep (l : Launch) (G : cd_G) (q : Nat) (a1 : Int32) (a2 : Int32) (a3 : Int32) (hq : cd_is 2 q) (h : cd_Hp) (out : cd_Hp) (E : f_X2_keep q a1 a2 a3 h = some out) : cd_Mv l G yX2_keep (Cond.code yX2_keep cX2_keep 4 none :: cd_T) rm_X2_keep [.ref (G.2.2.2.2 + q), .int a1, .int a2, .int a3] h out := by
  refine cd_inv (by decide) (Nat.le_of_ble_eq_true rfl) ?_
  intro p e s m args below meth c Q ls H locs S hK hZ hl hret
  have hl : lv_has ls 4 [(0, .ref (G.2.2.2.2 + q)), (1, .int a1), (2, .int a2), (3, .int a3)] := hl
  unfold f_X2_keep at E
  refine lv_aload_n S.1 S.2.1 dX2_keep_0 rfl (lv_at hl 0 rfl) ?_
  refine cd_get2 (v := .int (cd_g h q 1)) S hK hZ hq 1 cd_f_X2_31 rfl dX2_keep_1 ?_
  refine lv_bipush (v := 12) S.1 S.2.1 dX2_keep_4 (by decide) ?_
  refine lv_icmp_lt (tgt := 20) S.1 S.2.1 dX2_keep_6 (by decide) (fun c1 => ?_) (fun c1 => ?_)
  · have E := cd_tE c1 E
    refine lv_aload_n S.1 S.2.1 dX2_keep_20 rfl (lv_at hl 0 rfl) ?_
    refine cd_get2 (v := .ref (G.2.2.2.2 + (q + 3))) S hK hZ hq 5 cd_f_X2_18 rfl dX2_keep_21 ?_
    refine lv_aload_n S.1 S.2.1 dX2_keep_24 rfl (lv_at hl 0 rfl) ?_
    refine cd_get2 (v := .int (cd_g h q 1)) S hK hZ hq 1 cd_f_X2_31 rfl dX2_keep_25 ?_
    refine lv_iload_n S.1 S.2.1 dX2_keep_28 rfl (lv_at hl 1 rfl) ?_
    obtain ⟨z2, E⟩ := cd_ckE E
    obtain ⟨h3, eh3, E⟩ := cd_nmE E
    refine cd_iast S hK hZ (cd_r2_5 hq) z2 eh3 dX2_keep_29 (fun H locs hZ => ?_)
    refine lv_aload_n S.1 S.2.1 dX2_keep_30 rfl (lv_at hl 0 rfl) ?_
    refine cd_get2 (v := .ref (G.2.2.2.2 + (q + 4))) S hK hZ hq 6 cd_f_X2_21 rfl dX2_keep_31 ?_
    refine lv_aload_n S.1 S.2.1 dX2_keep_34 rfl (lv_at hl 0 rfl) ?_
    refine cd_get2 (v := .int (cd_g h3 q 1)) S hK hZ hq 1 cd_f_X2_31 rfl dX2_keep_35 ?_
    refine lv_iload_n S.1 S.2.1 dX2_keep_38 rfl (lv_at hl 2 rfl) ?_
    obtain ⟨z4, E⟩ := cd_ckE E
    obtain ⟨h5, eh5, E⟩ := cd_nmE E
    refine cd_iast S hK hZ (cd_r2_6 hq) z4 eh5 dX2_keep_39 (fun H locs hZ => ?_)
    refine lv_aload_n S.1 S.2.1 dX2_keep_40 rfl (lv_at hl 0 rfl) ?_
    refine cd_get2 (v := .ref (G.2.2.2.2 + (q + 5))) S hK hZ hq 7 cd_f_X2_24 rfl dX2_keep_41 ?_
    refine lv_aload_n S.1 S.2.1 dX2_keep_44 rfl (lv_at hl 0 rfl) ?_
    refine cd_get2 (v := .int (cd_g h5 q 1)) S hK hZ hq 1 cd_f_X2_31 rfl dX2_keep_45 ?_
    refine lv_iload_n S.1 S.2.1 dX2_keep_48 rfl (lv_at hl 3 rfl) ?_
    obtain ⟨z6, E⟩ := cd_ckE E
    obtain ⟨h7, eh7, E⟩ := cd_nmE E
    refine cd_iast S hK hZ (cd_r2_7 hq) z6 eh7 dX2_keep_49 (fun H locs hZ => ?_)
    refine lv_aload_n S.1 S.2.1 dX2_keep_50 rfl (lv_at hl 0 rfl) ?_
    refine lv_dup S.1 S.2.1 dX2_keep_51 rfl ?_
    refine cd_get2 (v := .int (cd_g h7 q 1)) S hK hZ hq 1 cd_f_X2_31 rfl dX2_keep_52 ?_
    refine lv_iconst (v := 1) S.1 S.2.1 dX2_keep_55 (by decide) ?_
    refine lv_iadd S.1 S.2.1 dX2_keep_56 ?_
    obtain ⟨h8, eh8, E⟩ := cd_nmE E
    refine cd_put2_1 S hK hZ hq cd_f_X2_31 eh8 dX2_keep_57 (fun H locs hZ => ?_)
    exact hret _ _ _ _ _ (Option.some.inj E) hZ dX2_keep_60
  · have E := cd_fE c1 E
    refine lv_aload_n S.1 S.2.1 dX2_keep_9 rfl (lv_at hl 0 rfl) ?_
    refine lv_dup S.1 S.2.1 dX2_keep_10 rfl ?_
    refine cd_get2 (v := .int (cd_g h q 2)) S hK hZ hq 2 cd_f_X2_34 rfl dX2_keep_11 ?_
    refine lv_iconst (v := 1) S.1 S.2.1 dX2_keep_14 (by decide) ?_
    refine lv_iadd S.1 S.2.1 dX2_keep_15 ?_
    obtain ⟨h9, eh9, E⟩ := cd_nmE E
    refine cd_put2_2 S hK hZ hq cd_f_X2_34 eh9 dX2_keep_16 (fun H locs hZ => ?_)
    exact hret _ _ _ _ _ (Option.some.inj E) hZ dX2_keep_19
abbrev rm_X2_tellDue : Room := { frames := 1, cells := 0, slots := 0, locals := 23 }
theorem cd_v_X2_tellDue : cd_V yX2_tellDue cX2_tellDue 5 none 2 := ⟨cd_i_X2_tellDue, cd_e_X2_X2_tellDue, cd_n_X2, cd_c_X2_tellDue, by decide +kernel⟩
set_option maxHeartbeats 4000000 in
set_option maxRecDepth 100000 in
theorem c_X2_tellDue (l : Launch) (G : cd_G) (q : Nat) (a1 : Int32) (a2 : Int32) (hq : cd_is 2 q) (h : cd_Hp) (out : cd_Hp) (E : f_X2_tellDue q a1 a2 h = some out) : cd_Mv l G yX2_tellDue (Cond.code yX2_tellDue cX2_tellDue 5 none :: cd_T) rm_X2_tellDue [.ref (G.2.2.2.2 + q), .int a1, .int a2] h out := by
  refine cd_inv (by decide) (Nat.le_of_ble_eq_true rfl) ?_
  intro p e s m args below meth c Q ls H locs S hK hZ hl hret
  have hl : lv_has ls 5 [(0, .ref (G.2.2.2.2 + q)), (1, .int a1), (2, .int a2)] := hl
  have L5 : ∀ (n : Nat) (v5_3 : Int32) (v5_4 : Int32) (h5_ : cd_Hp) (o : (Int32 × Int32 × cd_Hp)) (H : Heap) (locs : List Loc) (ls : Array Slot), cd_lp (f_X2_tellDue_B5 q a1 a2) n (v5_3, v5_4, h5_) = some o → cd_Z G h5_ s.heap H locs → lv_has ls 5 [(4, .int v5_4), (3, .int v5_3), (0, .ref (G.2.2.2.2 + q)), (1, .int a1), (2, .int a2)] → (∀ (H : Heap) (locs : List Loc) (ls : Array Slot), cd_Z G o.2.2 s.heap H locs → lv_has ls 5 [(4, .int o.2.1), (3, .int o.1), (0, .ref (G.2.2.2.2 + q)), (1, .int a1), (2, .int a2)] → W p l e rm_X2_tellDue s m args below meth c H locs 0 0 Q (F0 m 76 ls [])) → W p l e rm_X2_tellDue s m args below meth c H locs 0 0 Q (F0 m 5 ls []) := by
    intro n
    induction n with
    | zero => intro v5_3 v5_4 h5_ o H locs ls E; exact nomatch (show (none : Option (Int32 × Int32 × cd_Hp)) = some o from E)
    | succ n ih =>
      intro v5_3 v5_4 h5_ o H locs ls E hZ hl hex
      have E : f_X2_tellDue_B5 q a1 a2 (cd_lp (f_X2_tellDue_B5 q a1 a2) n) (v5_3, v5_4, h5_) = some o := E
      unfold f_X2_tellDue_B5 at E
      dsimp only at E
      refine lv_iload S.1 S.2.1 dX2_tellDue_5 (lv_at hl 0 rfl) ?_
      refine lv_aload_n S.1 S.2.1 dX2_tellDue_7 rfl (lv_at hl 2 rfl) ?_
      refine cd_get2 (v := .int (cd_g h5_ q 0)) S hK hZ hq 0 cd_f_X2_27 rfl dX2_tellDue_8 ?_
      refine lv_icmp_ge (tgt := 76) S.1 S.2.1 dX2_tellDue_11 (by decide) (fun c1 => ?_) (fun c1 => ?_)
      · have E := cd_tE c1 E
        cases E
        exact hex H locs ls hZ (lv_sub hl [0, 1, 2, 3, 4] rfl)
      · have E := cd_fE c1 E
        refine lv_aload_n S.1 S.2.1 dX2_tellDue_14 rfl (lv_at hl 2 rfl) ?_
        refine cd_get2 (v := .ref (G.2.2.2.2 + (q + 2))) S hK hZ hq 4 cd_f_X2_15 rfl dX2_tellDue_15 ?_
        refine lv_iload S.1 S.2.1 dX2_tellDue_18 (lv_at hl 0 rfl) ?_
        obtain ⟨z2, E⟩ := cd_ckE E
        refine cd_iald S hK hZ (cd_r2_4 hq) z2 dX2_tellDue_20 ?_
        refine lv_iload_n S.1 S.2.1 dX2_tellDue_21 rfl (lv_at hl 4 rfl) ?_
        refine lv_icmp_gt (tgt := 41) S.1 S.2.1 dX2_tellDue_22 (by decide) (fun c3 => ?_) (fun c3 => ?_)
        · have E := cd_tE c3 E
          refine lv_aload_n S.1 S.2.1 dX2_tellDue_41 rfl (lv_at hl 2 rfl) ?_
          refine cd_get2 (v := .ref (G.2.2.2.2 + (q + 1))) S hK hZ hq 3 cd_f_X2_9 rfl dX2_tellDue_42 ?_
          refine lv_iload_n S.1 S.2.1 dX2_tellDue_45 rfl (lv_at hl 1 rfl) ?_
          refine lv_aload_n S.1 S.2.1 dX2_tellDue_46 rfl (lv_at hl 2 rfl) ?_
          refine cd_get2 (v := .ref (G.2.2.2.2 + (q + 1))) S hK hZ hq 3 cd_f_X2_9 rfl dX2_tellDue_47 ?_
          refine lv_iload S.1 S.2.1 dX2_tellDue_50 (lv_at hl 0 rfl) ?_
          obtain ⟨z4, E⟩ := cd_ckE E
          refine cd_iald S hK hZ (cd_r2_3 hq) z4 dX2_tellDue_52 ?_
          obtain ⟨z5, E⟩ := cd_ckE E
          obtain ⟨h6, eh6, E⟩ := cd_nmE E
          refine cd_iast S hK hZ (cd_r2_3 hq) z5 eh6 dX2_tellDue_53 (fun H locs hZ => ?_)
          refine lv_aload_n S.1 S.2.1 dX2_tellDue_54 rfl (lv_at hl 2 rfl) ?_
          refine cd_get2 (v := .ref (G.2.2.2.2 + (q + 2))) S hK hZ hq 4 cd_f_X2_15 rfl dX2_tellDue_55 ?_
          refine lv_iload_n S.1 S.2.1 dX2_tellDue_58 rfl (lv_at hl 1 rfl) ?_
          refine lv_aload_n S.1 S.2.1 dX2_tellDue_59 rfl (lv_at hl 2 rfl) ?_
          refine cd_get2 (v := .ref (G.2.2.2.2 + (q + 2))) S hK hZ hq 4 cd_f_X2_15 rfl dX2_tellDue_60 ?_
          refine lv_iload S.1 S.2.1 dX2_tellDue_63 (lv_at hl 0 rfl) ?_
          obtain ⟨z7, E⟩ := cd_ckE E
          refine cd_iald S hK hZ (cd_r2_4 hq) z7 dX2_tellDue_65 ?_
          obtain ⟨z8, E⟩ := cd_ckE E
          obtain ⟨h9, eh9, E⟩ := cd_nmE E
          refine cd_iast S hK hZ (cd_r2_4 hq) z8 eh9 dX2_tellDue_66 (fun H locs hZ => ?_)
          obtain ⟨x10, ex10, E⟩ := cd_nmE E
          refine lv_iinc (v := x10) (lv' := [(3, .int x10), (4, .int v5_4), (0, .ref (G.2.2.2.2 + q)), (1, .int a1), (2, .int a2)]) S.1 S.2.1 dX2_tellDue_67 hl (k := 1) rfl (by rw [ex10]; rfl) (by decide) rfl (fun ls hl => ?_)
          obtain ⟨x11, ex11, E⟩ := cd_nmE E
          refine lv_iinc (v := x11) (lv' := [(4, .int x11), (3, .int x10), (0, .ref (G.2.2.2.2 + q)), (1, .int a1), (2, .int a2)]) S.1 S.2.1 dX2_tellDue_70 hl (k := 1) rfl (by rw [ex11]; rfl) (by decide) rfl (fun ls hl => ?_)
          refine lv_goto (tgt := 5) S.1 S.2.1 dX2_tellDue_73 (by decide) ?_
          exact ih x10 x11 h9 o H locs ls E hZ (lv_sub hl [0, 1, 2, 3, 4] rfl) hex
        · have E := cd_fE c3 E
          refine lv_aload_n S.1 S.2.1 dX2_tellDue_25 rfl (lv_at hl 2 rfl) ?_
          refine lv_aload_n S.1 S.2.1 dX2_tellDue_26 rfl (lv_at hl 2 rfl) ?_
          refine cd_get2 (v := .ref (G.2.2.2.2 + (q + 1))) S hK hZ hq 3 cd_f_X2_9 rfl dX2_tellDue_27 ?_
          refine lv_iload S.1 S.2.1 dX2_tellDue_30 (lv_at hl 0 rfl) ?_
          obtain ⟨z12, E⟩ := cd_ckE E
          refine cd_iald S hK hZ (cd_r2_3 hq) z12 dX2_tellDue_32 ?_
          refine lv_iload_n S.1 S.2.1 dX2_tellDue_33 rfl (lv_at hl 3 rfl) ?_
          refine lv_iload_n S.1 S.2.1 dX2_tellDue_34 rfl (lv_at hl 4 rfl) ?_
          obtain ⟨o13, E1, E⟩ := cd_bE E
          refine cd_cVv (As := [.int (cd_g h5_ (q + 1) (v5_4.toNatClampNeg)), .int a1, .int a2]) S hK hZ hl.1 (c_X2_keep l G q (cd_g h5_ (q + 1) (v5_4.toNatClampNeg)) a1 a2 hq h5_ o13 E1) cd_v_X2_keep cd_m_X2_43 ⟨Nat.le_of_ble_eq_true rfl, Nat.le_of_ble_eq_true rfl⟩ ⟨rfl, rfl⟩ (ci := 2) (by decide) rfl hq rfl rfl (Nat.le_of_ble_eq_true rfl) ⟨Nat.zero_le _, Nat.zero_le _⟩ dX2_tellDue_35 (fun H locs hZ => ?_)
          refine lv_goto (tgt := 70) S.1 S.2.1 dX2_tellDue_38 (by decide) ?_
          obtain ⟨x15, ex15, E⟩ := cd_nmE E
          refine lv_iinc (v := x15) (lv' := [(4, .int x15), (3, .int v5_3), (0, .ref (G.2.2.2.2 + q)), (1, .int a1), (2, .int a2)]) S.1 S.2.1 dX2_tellDue_70 hl (k := 0) rfl (by rw [ex15]; rfl) (by decide) rfl (fun ls hl => ?_)
          refine lv_goto (tgt := 5) S.1 S.2.1 dX2_tellDue_73 (by decide) ?_
          exact ih v5_3 x15 o13 o H locs ls E hZ (lv_sub hl [0, 1, 2, 3, 4] rfl) hex
  unfold f_X2_tellDue at E
  refine lv_iconst (v := 0) S.1 S.2.1 dX2_tellDue_0 (by decide) ?_
  refine lv_istore_n (lv' := [(3, .int 0), (0, .ref (G.2.2.2.2 + q)), (1, .int a1), (2, .int a2)]) S.1 S.2.1 dX2_tellDue_1 rfl hl (by decide) rfl (fun ls hl => ?_)
  refine lv_iconst (v := 0) S.1 S.2.1 dX2_tellDue_2 (by decide) ?_
  refine lv_istore (lv' := [(4, .int 0), (3, .int 0), (0, .ref (G.2.2.2.2 + q)), (1, .int a1), (2, .int a2)]) S.1 S.2.1 dX2_tellDue_3 hl (by decide) rfl (fun ls hl => ?_)
  obtain ⟨o16, E1, E⟩ := cd_bE E
  refine L5 cd_fu 0 0 h o16 H locs ls E1 hZ (lv_sub hl [0, 1, 2, 3, 4] rfl) (fun H locs ls hZ hl => ?_)
  refine lv_aload_n S.1 S.2.1 dX2_tellDue_76 rfl (lv_at hl 2 rfl) ?_
  refine lv_iload_n S.1 S.2.1 dX2_tellDue_77 rfl (lv_at hl 1 rfl) ?_
  obtain ⟨h17, eh17, E⟩ := cd_nmE E
  refine cd_put2_0 S hK hZ hq cd_f_X2_27 eh17 dX2_tellDue_78 (fun H locs hZ => ?_)
  exact hret _ _ _ _ _ (Option.some.inj E) hZ dX2_tellDue_81
abbrev rm_X2_keptFact : Room := { frames := 1, cells := 0, slots := 0, locals := 22 }
theorem cd_v_X2_keptFact : cd_V yX2_keptFact cX2_keptFact 3 (some .int) 2 := ⟨cd_i_X2_keptFact, cd_e_X2_X2_keptFact, cd_n_X2, cd_c_X2_keptFact, by decide +kernel⟩
set_option maxHeartbeats 4000000 in
set_option maxRecDepth 100000 in
theorem c_X2_keptFact (l : Launch) (G : cd_G) (q : Nat) (a1 : Int32) (a2 : Int32) (hq : cd_is 2 q) (h : cd_Hp) (out : Int32) (E : f_X2_keptFact q a1 a2 h = some out) : cd_Mi l G yX2_keptFact (Cond.code yX2_keptFact cX2_keptFact 3 (some .int) :: cd_T) rm_X2_keptFact [.ref (G.2.2.2.2 + q), .int a1, .int a2] h (out, h) := by
  refine cd_ini (by decide) (Nat.le_of_ble_eq_true rfl) ?_
  intro p e s m args below meth c Q ls H locs S hK hZ hl hret
  have hl : lv_has ls 3 [(0, .ref (G.2.2.2.2 + q)), (1, .int a1), (2, .int a2)] := hl
  unfold f_X2_keptFact at E
  refine lv_iload_n S.1 S.2.1 dX2_keptFact_0 rfl (lv_at hl 1 rfl) ?_
  refine lv_if_lt (tgt := 13) S.1 S.2.1 dX2_keptFact_1 (by decide) (fun c1 => ?_) (fun c1 => ?_)
  · have E := cd_tE c1 E
    refine lv_bipush (v := (-2)) S.1 S.2.1 dX2_keptFact_13 (by decide) ?_
    exact hret _ _ _ _ _ _ (congrArg (fun z => (z, h)) (Option.some.inj E)) hZ dX2_keptFact_15
  · have E := cd_fE c1 E
    refine lv_iload_n S.1 S.2.1 dX2_keptFact_4 rfl (lv_at hl 2 rfl) ?_
    refine lv_iconst (v := 0) S.1 S.2.1 dX2_keptFact_5 (by decide) ?_
    refine lv_iconst (v := 2) S.1 S.2.1 dX2_keptFact_6 (by decide) ?_
    refine cd_cNz (As := [.int a2, .int 0, .int 2]) S hK hZ hl.1 (c_X7_isWithin l G a2 0 2 h _ rfl) cd_v_X7_isWithin (cd_nX2_47 hK.2) ⟨Nat.le_of_ble_eq_true rfl, Nat.le_of_ble_eq_true rfl⟩ ⟨rfl, rfl⟩ rfl rfl (Nat.le_of_ble_eq_true rfl) ⟨Nat.zero_le _, Nat.zero_le _⟩ dX2_keptFact_7 (fun H locs hZ b2 => ?_)
    refine lv_if_ne (tgt := 16) S.1 S.2.1 dX2_keptFact_10 (by decide) (fun c3 => ?_) (fun c3 => ?_)
    · have E := cd_fE c3 E
      refine lv_iload_n S.1 S.2.1 dX2_keptFact_16 rfl (lv_at hl 1 rfl) ?_
      refine lv_aload_n S.1 S.2.1 dX2_keptFact_17 rfl (lv_at hl 0 rfl) ?_
      refine cd_get2 (v := .int (cd_g h q 1)) S hK hZ hq 1 cd_f_X2_31 rfl dX2_keptFact_18 ?_
      refine lv_icmp_lt (tgt := 26) S.1 S.2.1 dX2_keptFact_21 (by decide) (fun c4 => ?_) (fun c4 => ?_)
      · have E := cd_tE c4 E
        refine lv_iload_n S.1 S.2.1 dX2_keptFact_26 rfl (lv_at hl 2 rfl) ?_
        refine cd_by (p := a2 = 0) (fun c5 => ?_) (fun c5 => ?_)
        · have E := cd_tE c5 E
          refine lv_lookup (off := 25) (tgt := 52) S.1 S.2.1 dX2_keptFact_27 (by decide) (by rw [c5]; first | done | rfl) (by decide) ?_
          refine lv_aload_n S.1 S.2.1 dX2_keptFact_52 rfl (lv_at hl 0 rfl) ?_
          refine cd_get2 (v := .ref (G.2.2.2.2 + (q + 3))) S hK hZ hq 5 cd_f_X2_18 rfl dX2_keptFact_53 ?_
          refine lv_iload_n S.1 S.2.1 dX2_keptFact_56 rfl (lv_at hl 1 rfl) ?_
          obtain ⟨z6, E⟩ := cd_ckE E
          refine cd_iald S hK hZ (cd_r2_5 hq) z6 dX2_keptFact_57 ?_
          exact hret _ _ _ _ _ _ (congrArg (fun z => (z, h)) (Option.some.inj E)) hZ dX2_keptFact_58
        · have E := cd_fE c5 E
          refine cd_by (p := a2 = 1) (fun c7 => ?_) (fun c7 => ?_)
          · have E := cd_tE c7 E
            refine lv_lookup (off := 32) (tgt := 59) S.1 S.2.1 dX2_keptFact_27 (by decide) (by rw [c7]; first | done | rfl) (by decide) ?_
            refine lv_aload_n S.1 S.2.1 dX2_keptFact_59 rfl (lv_at hl 0 rfl) ?_
            refine cd_get2 (v := .ref (G.2.2.2.2 + (q + 4))) S hK hZ hq 6 cd_f_X2_21 rfl dX2_keptFact_60 ?_
            refine lv_iload_n S.1 S.2.1 dX2_keptFact_63 rfl (lv_at hl 1 rfl) ?_
            obtain ⟨z8, E⟩ := cd_ckE E
            refine cd_iald S hK hZ (cd_r2_6 hq) z8 dX2_keptFact_64 ?_
            exact hret _ _ _ _ _ _ (congrArg (fun z => (z, h)) (Option.some.inj E)) hZ dX2_keptFact_65
          · have E := cd_fE c7 E
            refine lv_lookup (off := 39) (tgt := 66) S.1 S.2.1 dX2_keptFact_27 (by decide) (by show Op.lookupswitch.offset _ _ _ = _; rw [lv_osw c5 (by decide)]; rw [lv_osw c7 (by decide)]; first | done | rfl) (by decide) ?_
            refine lv_aload_n S.1 S.2.1 dX2_keptFact_66 rfl (lv_at hl 0 rfl) ?_
            refine cd_get2 (v := .ref (G.2.2.2.2 + (q + 5))) S hK hZ hq 7 cd_f_X2_24 rfl dX2_keptFact_67 ?_
            refine lv_iload_n S.1 S.2.1 dX2_keptFact_70 rfl (lv_at hl 1 rfl) ?_
            obtain ⟨z9, E⟩ := cd_ckE E
            refine cd_iald S hK hZ (cd_r2_7 hq) z9 dX2_keptFact_71 ?_
            exact hret _ _ _ _ _ _ (congrArg (fun z => (z, h)) (Option.some.inj E)) hZ dX2_keptFact_72
      · have E := cd_fE c4 E
        refine lv_iconst (v := (-1)) S.1 S.2.1 dX2_keptFact_24 (by decide) ?_
        exact hret _ _ _ _ _ _ (congrArg (fun z => (z, h)) (Option.some.inj E)) hZ dX2_keptFact_25
    · have E := cd_tE c3 E
      refine lv_bipush (v := (-2)) S.1 S.2.1 dX2_keptFact_13 (by decide) ?_
      exact hret _ _ _ _ _ _ (congrArg (fun z => (z, h)) (Option.some.inj E)) hZ dX2_keptFact_15
abbrev rm_X3_open : Room := { frames := 0, cells := 0, slots := 0, locals := 0 }
theorem cd_v_X3_open : cd_V yX3_open cX3_open 2 none 1 := ⟨cd_i_X3_open, cd_e_X3_X3_open, cd_n_X3, cd_c_X3_open, by decide +kernel⟩
set_option maxHeartbeats 4000000 in
set_option maxRecDepth 100000 in
theorem c_X3_open (l : Launch) (G : cd_G) (q : Nat) (a1 : Int32) (hq : cd_is 3 q) (h : cd_Hp) (out : cd_Hp) (E : f_X3_open q a1 h = out) : cd_Mv l G yX3_open (Cond.code yX3_open cX3_open 2 none :: cd_T) rm_X3_open [.ref (G.2.2.2.2 + q), .int a1] h out := by
  refine cd_inv (by decide) (Nat.le_of_ble_eq_true rfl) ?_
  intro p e s m args below meth c Q ls H locs S hK hZ hl hret
  have hl : lv_has ls 2 [(0, .ref (G.2.2.2.2 + q)), (1, .int a1)] := hl
  unfold f_X3_open at E
  refine lv_aload_n S.1 S.2.1 dX3_open_0 rfl (lv_at hl 0 rfl) ?_
  refine lv_iconst (v := 0) S.1 S.2.1 dX3_open_1 (by decide) ?_
  obtain ⟨h1, eh1, E⟩ := cd_nmE E
  refine cd_put3_0 S hK hZ hq cd_f_X3_18 eh1 dX3_open_2 (fun H locs hZ => ?_)
  refine lv_aload_n S.1 S.2.1 dX3_open_5 rfl (lv_at hl 0 rfl) ?_
  refine lv_iconst (v := 1) S.1 S.2.1 dX3_open_6 (by decide) ?_
  refine lv_iload_n S.1 S.2.1 dX3_open_7 rfl (lv_at hl 1 rfl) ?_
  refine lv_ishl S.1 S.2.1 dX3_open_8 ?_
  refine lv_iconst (v := 1) S.1 S.2.1 dX3_open_9 (by decide) ?_
  refine lv_isub S.1 S.2.1 dX3_open_10 ?_
  obtain ⟨h2, eh2, E⟩ := cd_nmE E
  refine cd_put3_1 S hK hZ hq cd_f_X3_22 eh2 dX3_open_11 (fun H locs hZ => ?_)
  exact hret _ _ _ _ _ (E) hZ dX3_open_14
abbrev rm_X3_sit (d : Nat) : Room := { frames := d, cells := 0, slots := 0, locals := 26 * d }
theorem cd_v_X3_sit : cd_Vs yX3_sit cX3_sit 7 (some .boolean) 5 := ⟨cd_s_X3_sit, cd_n_X3, cd_c_X3_sit, by decide +kernel⟩
set_option maxHeartbeats 4000000 in
set_option maxRecDepth 100000 in
theorem c_X3_sit_s (l : Launch) (G : cd_G) (d : Nat) (F : Nat → Nat → Int32 → Int32 → Int32 → cd_Hp → Option (Int32 × cd_Hp)) (ihF : ∀ (r0 : Nat) (r1 : Nat) (a2 : Int32) (a3 : Int32) (a4 : Int32) (hr0 : cd_ar (cd_ln r0) r0) (hr1 : cd_ar (cd_ln r1) r1) (h : cd_Hp) (o : Int32 × cd_Hp), F r0 r1 a2 a3 a4 h = some o → ∃ rm : Room, rm.frames + 1 ≤ d ∧ 8 + (7 + 11) + rm.locals ≤ 26 * d ∧ (rm.cells = 0 ∧ rm.slots = 0) ∧ cd_Mz l G yX3_sit (Cond.code yX3_sit cX3_sit 7 (some .boolean) :: cd_T) rm [.ref (G.2.2.2.2 + r0), .ref (G.2.2.2.2 + r1), .int a2, .int a3, .int a4] h o) (r0 : Nat) (r1 : Nat) (a2 : Int32) (a3 : Int32) (a4 : Int32) (hr0 : cd_ar (cd_ln r0) r0) (hr1 : cd_ar (cd_ln r1) r1) (h : cd_Hp) (out : (Int32 × cd_Hp)) (E : f_X3_sit_F F r0 r1 a2 a3 a4 h = some out) : cd_Mz l G yX3_sit (Cond.code yX3_sit cX3_sit 7 (some .boolean) :: cd_T) (rm_X3_sit d) [.ref (G.2.2.2.2 + r0), .ref (G.2.2.2.2 + r1), .int a2, .int a3, .int a4] h out := by
  refine cd_inz (by decide) (Nat.le_of_ble_eq_true rfl) ?_
  intro p e s m args below meth c Q ls H locs S hK hZ hl hret
  have hl : lv_has ls 7 [(0, .ref (G.2.2.2.2 + r0)), (1, .ref (G.2.2.2.2 + r1)), (2, .int a2), (3, .int a3), (4, .int a4)] := hl
  have L10 : ∀ (n : Nat) (v10_5 : Int32) (h10_ : cd_Hp) (o : ((Int32 × cd_Hp) ⊕ (Int32 × cd_Hp))) (H : Heap) (locs : List Loc) (ls : Array Slot), cd_lp (f_X3_sit_B10 r0 r1 a2 a3 a4 F) n (v10_5, h10_) = some o → cd_Z G h10_ s.heap H locs → lv_has ls 7 [(5, .int v10_5), (0, .ref (G.2.2.2.2 + r0)), (1, .ref (G.2.2.2.2 + r1)), (2, .int a2), (3, .int a3), (4, .int a4)] → (∀ x, o = .inl x → x = out) → (∀ st, o = .inr st → ∀ (H : Heap) (locs : List Loc) (ls : Array Slot), cd_Z G st.2 s.heap H locs → lv_has ls 7 [(5, .int st.1), (0, .ref (G.2.2.2.2 + r0)), (1, .ref (G.2.2.2.2 + r1)), (2, .int a2), (3, .int a3), (4, .int a4)] → W p l e (rm_X3_sit d) s m args below meth c H locs 0 0 Q (F0 m 66 ls [])) → W p l e (rm_X3_sit d) s m args below meth c H locs 0 0 Q (F0 m 10 ls []) := by
    intro n
    induction n with
    | zero => intro v10_5 h10_ o H locs ls E; exact nomatch (show (none : Option ((Int32 × cd_Hp) ⊕ (Int32 × cd_Hp))) = some o from E)
    | succ n ih =>
      intro v10_5 h10_ o H locs ls E hZ hl hin hex
      have E : f_X3_sit_B10 r0 r1 a2 a3 a4 F (cd_lp (f_X3_sit_B10 r0 r1 a2 a3 a4 F) n) (v10_5, h10_) = some o := E
      unfold f_X3_sit_B10 at E
      dsimp only at E
      refine lv_iload S.1 S.2.1 dX3_sit_10 (lv_at hl 0 rfl) ?_
      refine lv_iconst (v := 4) S.1 S.2.1 dX3_sit_12 (by decide) ?_
      refine lv_icmp_ge (tgt := 66) S.1 S.2.1 dX3_sit_13 (by decide) (fun c2 => ?_) (fun c2 => ?_)
      · have E := cd_tE c2 E
        cases E
        exact hex _ rfl H locs ls hZ (lv_sub hl [0, 1, 2, 3, 4, 5] rfl)
      · have E := cd_fE c2 E
        refine lv_iconst (v := 1) S.1 S.2.1 dX3_sit_16 (by decide) ?_
        refine lv_iload S.1 S.2.1 dX3_sit_17 (lv_at hl 0 rfl) ?_
        refine lv_ishl S.1 S.2.1 dX3_sit_19 ?_
        obtain ⟨x3, ex3, E⟩ := cd_nmE E
        refine cd_topi ex3 ?_
        refine lv_istore (lv' := [(6, .int x3), (5, .int v10_5), (0, .ref (G.2.2.2.2 + r0)), (1, .ref (G.2.2.2.2 + r1)), (2, .int a2), (3, .int a3), (4, .int a4)]) S.1 S.2.1 dX3_sit_20 hl (by decide) rfl (fun ls hl => ?_)
        refine lv_aload_n S.1 S.2.1 dX3_sit_22 rfl (lv_at hl 2 rfl) ?_
        refine lv_iload_n S.1 S.2.1 dX3_sit_23 rfl (lv_at hl 5 rfl) ?_
        obtain ⟨z4, E⟩ := cd_ckE E
        refine cd_iald S hK hZ hr0 z4 dX3_sit_24 ?_
        refine lv_iload S.1 S.2.1 dX3_sit_25 (lv_at hl 6 rfl) ?_
        refine lv_iand S.1 S.2.1 dX3_sit_27 ?_
        refine lv_iload S.1 S.2.1 dX3_sit_28 (lv_at hl 0 rfl) ?_
        refine lv_iand S.1 S.2.1 dX3_sit_30 ?_
        refine lv_if_eq (tgt := 60) S.1 S.2.1 dX3_sit_31 (by decide) (fun c5 => ?_) (fun c5 => ?_)
        · have E := cd_tE c5 E
          obtain ⟨x6, ex6, E⟩ := cd_nmE E
          refine lv_iinc (v := x6) (lv' := [(5, .int x6), (6, .int x3), (0, .ref (G.2.2.2.2 + r0)), (1, .ref (G.2.2.2.2 + r1)), (2, .int a2), (3, .int a3), (4, .int a4)]) S.1 S.2.1 dX3_sit_60 hl (k := 1) rfl (by rw [ex6]; rfl) (by decide) rfl (fun ls hl => ?_)
          refine lv_goto (tgt := 10) S.1 S.2.1 dX3_sit_63 (by decide) ?_
          exact ih x6 h10_ o H locs ls E hZ (lv_sub hl [0, 2, 3, 4, 5, 6] rfl) hin hex
        · have E := cd_fE c5 E
          refine lv_aload_n S.1 S.2.1 dX3_sit_34 rfl (lv_at hl 3 rfl) ?_
          refine lv_iload_n S.1 S.2.1 dX3_sit_35 rfl (lv_at hl 5 rfl) ?_
          refine lv_iload S.1 S.2.1 dX3_sit_36 (lv_at hl 1 rfl) ?_
          obtain ⟨z7, E⟩ := cd_ckE E
          obtain ⟨h8, eh8, E⟩ := cd_nmE E
          refine cd_iast S hK hZ hr1 z7 eh8 dX3_sit_38 (fun H locs hZ => ?_)
          refine lv_aload_n S.1 S.2.1 dX3_sit_39 rfl (lv_at hl 2 rfl) ?_
          refine lv_aload_n S.1 S.2.1 dX3_sit_40 rfl (lv_at hl 3 rfl) ?_
          refine lv_iload_n S.1 S.2.1 dX3_sit_41 rfl (lv_at hl 4 rfl) ?_
          refine lv_iload_n S.1 S.2.1 dX3_sit_42 rfl (lv_at hl 5 rfl) ?_
          refine lv_iconst (v := 1) S.1 S.2.1 dX3_sit_43 (by decide) ?_
          refine lv_iadd S.1 S.2.1 dX3_sit_44 ?_
          refine lv_iload S.1 S.2.1 dX3_sit_45 (lv_at hl 6 rfl) ?_
          refine lv_iload S.1 S.2.1 dX3_sit_47 (lv_at hl 0 rfl) ?_
          refine lv_iconst (v := (-1)) S.1 S.2.1 dX3_sit_49 (by decide) ?_
          refine lv_ixor S.1 S.2.1 dX3_sit_50 ?_
          refine lv_iand S.1 S.2.1 dX3_sit_51 ?_
          obtain ⟨o9, E1, E⟩ := cd_bE E
          obtain ⟨rmF, f1, f2, f3, hM⟩ := ihF r0 r1 a2 (a3 + 1) (a4 &&& (x3 ^^^ ((-1)))) (hr0).self (hr1).self h8 o9 E1
          refine cd_cSz (As := [.ref (G.2.2.2.2 + r0), .ref (G.2.2.2.2 + r1), .int a2, .int (a3 + 1), .int (a4 &&& (x3 ^^^ ((-1))))]) S hK hZ hl.1 hM cd_v_X3_sit cd_m_X3_33 ⟨f1, f2⟩ f3 rfl rfl (Nat.le_of_ble_eq_true rfl) ⟨Nat.zero_le _, Nat.zero_le _⟩ dX3_sit_52 (fun H locs hZ b10 => ?_)
          refine lv_if_eq (tgt := 60) S.1 S.2.1 dX3_sit_55 (by decide) (fun c11 => ?_) (fun c11 => ?_)
          · have E := cd_tE c11 E
            obtain ⟨x12, ex12, E⟩ := cd_nmE E
            refine lv_iinc (v := x12) (lv' := [(5, .int x12), (6, .int x3), (0, .ref (G.2.2.2.2 + r0)), (1, .ref (G.2.2.2.2 + r1)), (2, .int a2), (3, .int a3), (4, .int a4)]) S.1 S.2.1 dX3_sit_60 hl (k := 1) rfl (by rw [ex12]; rfl) (by decide) rfl (fun ls hl => ?_)
            refine lv_goto (tgt := 10) S.1 S.2.1 dX3_sit_63 (by decide) ?_
            exact ih x12 o9.2 o H locs ls E hZ (lv_sub hl [0, 2, 3, 4, 5, 6] rfl) hin hex
          · have E := cd_fE c11 E
            refine lv_iconst (v := 1) S.1 S.2.1 dX3_sit_58 (by decide) ?_
            cases E
            exact hret _ _ _ _ _ _ (by decide) (hin _ rfl) hZ dX3_sit_59
  unfold f_X3_sit_F at E
  refine lv_iload_n S.1 S.2.1 dX3_sit_0 rfl (lv_at hl 3 rfl) ?_
  refine lv_iload_n S.1 S.2.1 dX3_sit_1 rfl (lv_at hl 2 rfl) ?_
  refine lv_icmp_lt (tgt := 7) S.1 S.2.1 dX3_sit_2 (by decide) (fun c1 => ?_) (fun c1 => ?_)
  · have E := cd_tE c1 E
    refine lv_iconst (v := 0) S.1 S.2.1 dX3_sit_7 (by decide) ?_
    refine lv_istore (lv' := [(5, .int 0), (0, .ref (G.2.2.2.2 + r0)), (1, .ref (G.2.2.2.2 + r1)), (2, .int a2), (3, .int a3), (4, .int a4)]) S.1 S.2.1 dX3_sit_8 hl (by decide) rfl (fun ls hl => ?_)
    obtain ⟨o13, E1, EL, ER⟩ := cd_b2E E
    refine L10 cd_fu 0 h o13 H locs ls E1 hZ (lv_sub hl [0, 1, 2, 3, 4, 5] rfl) EL (fun st14 hst H locs ls hZ hl => ?_)
    have E := ER st14 hst
    refine lv_iconst (v := 0) S.1 S.2.1 dX3_sit_66 (by decide) ?_
    exact hret _ _ _ _ _ _ (by decide) (Option.some.inj E) hZ dX3_sit_67
  · have E := cd_fE c1 E
    refine lv_iconst (v := 1) S.1 S.2.1 dX3_sit_5 (by decide) ?_
    exact hret _ _ _ _ _ _ (by decide) (Option.some.inj E) hZ dX3_sit_6
theorem c_X3_sit_d (l : Launch) (G : cd_G) : ∀ (d : Nat) (r0 : Nat) (r1 : Nat) (a2 : Int32) (a3 : Int32) (a4 : Int32) (hr0 : cd_ar (cd_ln r0) r0) (hr1 : cd_ar (cd_ln r1) r1) (h : cd_Hp) (out : (Int32 × cd_Hp)), f_X3_sit (d + 1) r0 r1 a2 a3 a4 h = some out → cd_Mz l G yX3_sit (Cond.code yX3_sit cX3_sit 7 (some .boolean) :: cd_T) (rm_X3_sit d) [.ref (G.2.2.2.2 + r0), .ref (G.2.2.2.2 + r1), .int a2, .int a3, .int a4] h out := by
  intro d
  induction d with
  | zero => exact fun r0 r1 a2 a3 a4 hr0 hr1 h out E => c_X3_sit_s l G 0 (f_X3_sit 0) (fun r0 r1 a2 a3 a4 hr0 hr1 h o E => nomatch (show (none : Option (Int32 × cd_Hp)) = some o from E)) r0 r1 a2 a3 a4 hr0 hr1 h out E
  | succ d ih => exact fun r0 r1 a2 a3 a4 hr0 hr1 h out E => c_X3_sit_s l G (d + 1) (f_X3_sit (d + 1)) (fun r0 r1 a2 a3 a4 hr0 hr1 h o E => ⟨rm_X3_sit d, Nat.le_refl _, by show 8 + (7 + 11) + 26 * d ≤ 26 * (d + 1); omega, ⟨rfl, rfl⟩, ih r0 r1 a2 a3 a4 hr0 hr1 h o E⟩) r0 r1 a2 a3 a4 hr0 hr1 h out E
theorem c_X3_sit (l : Launch) (G : cd_G) (r0 : Nat) (r1 : Nat) (a2 : Int32) (a3 : Int32) (a4 : Int32) (hr0 : cd_ar (cd_ln r0) r0) (hr1 : cd_ar (cd_ln r1) r1) (h : cd_Hp) (out : (Int32 × cd_Hp)) (E : f_X3_sit 6 r0 r1 a2 a3 a4 h = some out) : cd_Mz l G yX3_sit (Cond.code yX3_sit cX3_sit 7 (some .boolean) :: cd_T) (rm_X3_sit 5) [.ref (G.2.2.2.2 + r0), .ref (G.2.2.2.2 + r1), .int a2, .int a3, .int a4] h out := c_X3_sit_d l G 5 r0 r1 a2 a3 a4 hr0 hr1 h out E
