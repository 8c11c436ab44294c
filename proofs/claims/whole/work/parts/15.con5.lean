-- CONTRACTS (written by wip/whole/gen.py): X7_back X7_refusedFact X7_refused X7_mixed X7_mixedTask X7_mixedEvent X7_mixedGroup X7_digest X8_in X8_has X8_bad X8_no X8_full X8_remembers X8_back X8_isTask X8_taskAt X8_isGroup X8_groupAt X8_ofGroup X8_isEvent X8_eventAt X8_countAt X8_isKind X8_rateOf X8_exchanges X8_counters X8_canMask X8_masks X8_canRate X8_rates X8_hasEnded X8_comesOf
abbrev rm_X7_back : Room := { frames := 5, cells := 0, slots := 0, locals := 165 }
theorem cd_v_X7_back : cd_V yX7_back cX7_back 1 (some .int) 0 := ⟨cd_i_X7_back, cd_e_X7_X7_back, cd_n_X7, cd_c_X7_back, by decide +kernel⟩
set_option maxHeartbeats 4000000 in
set_option maxRecDepth 100000 in
theorem c_X7_back (l : Launch) (G : cd_G)  (h : cd_Hp) (out : (Int32 × cd_Hp)) (E : f_X7_back h = some out) : cd_Mi l G yX7_back (Cond.code yX7_back cX7_back 1 (some .int) :: cd_T) rm_X7_back [.ref (G.2.2.2.2 + 0)] h out := by
  refine cd_ini (by decide) (Nat.le_of_ble_eq_true rfl) ?_
  intro p e s m args below meth c Q ls H locs S hK hZ hl hret
  have hl : lv_has ls 1 [(0, .ref (G.2.2.2.2 + 0))] := hl
  unfold f_X7_back at E
  refine lv_aload_n S.1 S.2.1 dX7_back_0 rfl (lv_at hl 0 rfl) ?_
  refine lv_aload_n S.1 S.2.1 dX7_back_1 rfl (lv_at hl 0 rfl) ?_
  refine cd_get7 (v := .ref (G.2.2.2.2 + 60)) S hK hZ cd_this7 1 cd_f_X7_24 rfl dX7_back_2 ?_
  refine lv_aload_n S.1 S.2.1 dX7_back_5 rfl (lv_at hl 0 rfl) ?_
  refine cd_get7 (v := .ref (G.2.2.2.2 + 4)) S hK hZ cd_this7 0 cd_f_X7_15 rfl dX7_back_6 ?_
  obtain ⟨o1, E1, E⟩ := cd_bE E
  refine cd_cVi (As := [.ref (G.2.2.2.2 + 4)]) S hK hZ hl.1 (c_X1_stepBack l G 60 4 (cd_r7_1 cd_this7) (cd_r7_0 cd_this7) h o1 E1) cd_v_X1_stepBack cd_m_X7_155 ⟨Nat.le_of_ble_eq_true rfl, Nat.le_of_ble_eq_true rfl⟩ ⟨rfl, rfl⟩ (ci := 1) (by decide) rfl (cd_r7_1 cd_this7) rfl rfl (Nat.le_of_ble_eq_true rfl) ⟨Nat.zero_le _, Nat.zero_le _⟩ dX7_back_9 (fun H locs hZ => ?_)
  obtain ⟨o3, E1, E⟩ := cd_bE E
  refine cd_cVi (As := [.int o1.1]) S hK hZ hl.1 (c_X7_answer l G o1.1 o1.2 o3 E1) cd_v_X7_answer cd_m_X7_92 ⟨Nat.le_of_ble_eq_true rfl, Nat.le_of_ble_eq_true rfl⟩ ⟨rfl, rfl⟩ (ci := 7) (by decide) rfl cd_this7 rfl rfl (Nat.le_of_ble_eq_true rfl) ⟨Nat.zero_le _, Nat.zero_le _⟩ dX7_back_12 (fun H locs hZ => ?_)
  exact hret _ _ _ _ _ _ (Option.some.inj E) hZ dX7_back_15
abbrev rm_X7_refusedFact : Room := { frames := 0, cells := 0, slots := 0, locals := 0 }
theorem cd_v_X7_refusedFact : cd_V yX7_refusedFact cX7_refusedFact 2 (some .int) 1 := ⟨cd_i_X7_refusedFact, cd_e_X7_X7_refusedFact, cd_n_X7, cd_c_X7_refusedFact, by decide +kernel⟩
set_option maxHeartbeats 4000000 in
set_option maxRecDepth 100000 in
theorem c_X7_refusedFact (l : Launch) (G : cd_G) (a1 : Int32) (h : cd_Hp) (out : Int32) (E : f_X7_refusedFact a1 h = some out) : cd_Mi l G yX7_refusedFact (Cond.code yX7_refusedFact cX7_refusedFact 2 (some .int) :: cd_T) rm_X7_refusedFact [.ref (G.2.2.2.2 + 0), .int a1] h (out, h) := by
  refine cd_ini (by decide) (Nat.le_of_ble_eq_true rfl) ?_
  intro p e s m args below meth c Q ls H locs S hK hZ hl hret
  have hl : lv_has ls 2 [(0, .ref (G.2.2.2.2 + 0)), (1, .int a1)] := hl
  unfold f_X7_refusedFact at E
  refine lv_iload_n S.1 S.2.1 dX7_refusedFact_0 rfl (lv_at hl 1 rfl) ?_
  refine cd_by (p := a1 = 0) (fun c1 => ?_) (fun c1 => ?_)
  · have E := cd_tE c1 E
    refine cd_tabI (k := 0) (off := 35) (tgt := 36) S.1 S.2.1 dX7_refusedFact_1 c1 (by decide +kernel) (by decide) ?_
    refine lv_aload_n S.1 S.2.1 dX7_refusedFact_36 rfl (lv_at hl 0 rfl) ?_
    refine cd_get7 (v := .ref (G.2.2.2.2 + 403)) S hK hZ cd_this7 3 cd_f_X7_35 rfl dX7_refusedFact_37 ?_
    refine lv_iload_n S.1 S.2.1 dX7_refusedFact_40 rfl (lv_at hl 1 rfl) ?_
    obtain ⟨z2, E⟩ := cd_ckE E
    refine cd_iald S hK hZ (cd_r7_3 cd_this7) z2 dX7_refusedFact_41 ?_
    exact hret _ _ _ _ _ _ (congrArg (fun z => (z, h)) (Option.some.inj E)) hZ dX7_refusedFact_42
  · have E := cd_fE c1 E
    refine cd_by (p := a1 = 1) (fun c3 => ?_) (fun c3 => ?_)
    · have E := cd_tE c3 E
      refine cd_tabI (k := 1) (off := 35) (tgt := 36) S.1 S.2.1 dX7_refusedFact_1 c3 (by decide +kernel) (by decide) ?_
      refine lv_aload_n S.1 S.2.1 dX7_refusedFact_36 rfl (lv_at hl 0 rfl) ?_
      refine cd_get7 (v := .ref (G.2.2.2.2 + 403)) S hK hZ cd_this7 3 cd_f_X7_35 rfl dX7_refusedFact_37 ?_
      refine lv_iload_n S.1 S.2.1 dX7_refusedFact_40 rfl (lv_at hl 1 rfl) ?_
      obtain ⟨z4, E⟩ := cd_ckE E
      refine cd_iald S hK hZ (cd_r7_3 cd_this7) z4 dX7_refusedFact_41 ?_
      exact hret _ _ _ _ _ _ (congrArg (fun z => (z, h)) (Option.some.inj E)) hZ dX7_refusedFact_42
    · have E := cd_fE c3 E
      refine cd_by (p := a1 = 2) (fun c5 => ?_) (fun c5 => ?_)
      · have E := cd_tE c5 E
        refine cd_tabI (k := 2) (off := 35) (tgt := 36) S.1 S.2.1 dX7_refusedFact_1 c5 (by decide +kernel) (by decide) ?_
        refine lv_aload_n S.1 S.2.1 dX7_refusedFact_36 rfl (lv_at hl 0 rfl) ?_
        refine cd_get7 (v := .ref (G.2.2.2.2 + 403)) S hK hZ cd_this7 3 cd_f_X7_35 rfl dX7_refusedFact_37 ?_
        refine lv_iload_n S.1 S.2.1 dX7_refusedFact_40 rfl (lv_at hl 1 rfl) ?_
        obtain ⟨z6, E⟩ := cd_ckE E
        refine cd_iald S hK hZ (cd_r7_3 cd_this7) z6 dX7_refusedFact_41 ?_
        exact hret _ _ _ _ _ _ (congrArg (fun z => (z, h)) (Option.some.inj E)) hZ dX7_refusedFact_42
      · have E := cd_fE c5 E
        refine cd_by (p := a1 = 3) (fun c7 => ?_) (fun c7 => ?_)
        · have E := cd_tE c7 E
          refine cd_tabI (k := 3) (off := 42) (tgt := 43) S.1 S.2.1 dX7_refusedFact_1 c7 (by decide +kernel) (by decide) ?_
          refine lv_aload_n S.1 S.2.1 dX7_refusedFact_43 rfl (lv_at hl 0 rfl) ?_
          refine cd_get7 (v := .ref (G.2.2.2.2 + 398)) S hK hZ cd_this7 2 cd_f_X7_31 rfl dX7_refusedFact_44 ?_
          refine cd_get6 (v := .int (cd_g h 398 0)) S hK hZ (cd_r7_2 cd_this7) 0 cd_f_X7_131 rfl dX7_refusedFact_47 ?_
          exact hret _ _ _ _ _ _ (congrArg (fun z => (z, h)) (Option.some.inj E)) hZ dX7_refusedFact_50
        · have E := cd_fE c7 E
          refine cd_by (p := a1 = 4) (fun c8 => ?_) (fun c8 => ?_)
          · have E := cd_tE c8 E
            refine cd_tabI (k := 4) (off := 50) (tgt := 51) S.1 S.2.1 dX7_refusedFact_1 c8 (by decide +kernel) (by decide) ?_
            refine lv_aload_n S.1 S.2.1 dX7_refusedFact_51 rfl (lv_at hl 0 rfl) ?_
            refine cd_get7 (v := .ref (G.2.2.2.2 + 60)) S hK hZ cd_this7 1 cd_f_X7_24 rfl dX7_refusedFact_52 ?_
            refine cd_get1 (v := .int (cd_g h 60 0)) S hK hZ (cd_r7_1 cd_this7) 0 cd_f_X7_202 rfl dX7_refusedFact_55 ?_
            exact hret _ _ _ _ _ _ (congrArg (fun z => (z, h)) (Option.some.inj E)) hZ dX7_refusedFact_58
          · have E := cd_fE c8 E
            refine lv_tableOut (tgt := 59) S.1 S.2.1 dX7_refusedFact_1 (by have z0 := lv_neT c1 (a := 0) (by decide); have z1 := lv_neT c3 (a := 1) (by decide); have z2 := lv_neT c5 (a := 2) (by decide); have z3 := lv_neT c7 (a := 3) (by decide); have z4 := lv_neT c8 (a := 4) (by decide); omega) (by decide) ?_
            refine lv_bipush (v := (-2)) S.1 S.2.1 dX7_refusedFact_59 (by decide) ?_
            exact hret _ _ _ _ _ _ (congrArg (fun z => (z, h)) (Option.some.inj E)) hZ dX7_refusedFact_61
abbrev rm_X7_refused : Room := { frames := 2, cells := 0, slots := 0, locals := 41 }
theorem cd_v_X7_refused : cd_V yX7_refused cX7_refused 2 (some .int) 1 := ⟨cd_i_X7_refused, cd_e_X7_X7_refused, cd_n_X7, cd_c_X7_refused, by decide +kernel⟩
set_option maxHeartbeats 4000000 in
set_option maxRecDepth 100000 in
theorem c_X7_refused (l : Launch) (G : cd_G) (a1 : Int32) (h : cd_Hp) (out : (Int32 × cd_Hp)) (E : f_X7_refused a1 h = some out) : cd_Mi l G yX7_refused (Cond.code yX7_refused cX7_refused 2 (some .int) :: cd_T) rm_X7_refused [.ref (G.2.2.2.2 + 0), .int a1] h out := by
  refine cd_ini (by decide) (Nat.le_of_ble_eq_true rfl) ?_
  intro p e s m args below meth c Q ls H locs S hK hZ hl hret
  have hl : lv_has ls 2 [(0, .ref (G.2.2.2.2 + 0)), (1, .int a1)] := hl
  unfold f_X7_refused at E
  refine lv_aload_n S.1 S.2.1 dX7_refused_0 rfl (lv_at hl 0 rfl) ?_
  refine lv_aload_n S.1 S.2.1 dX7_refused_1 rfl (lv_at hl 0 rfl) ?_
  refine lv_iload_n S.1 S.2.1 dX7_refused_2 rfl (lv_at hl 1 rfl) ?_
  obtain ⟨o1, E1, E⟩ := cd_bE E
  refine cd_cVi (As := [.int a1]) S hK hZ hl.1 (c_X7_refusedFact l G a1 h o1 E1) cd_v_X7_refusedFact cd_m_X7_159 ⟨Nat.le_of_ble_eq_true rfl, Nat.le_of_ble_eq_true rfl⟩ ⟨rfl, rfl⟩ (ci := 7) (by decide) rfl cd_this7 rfl rfl (Nat.le_of_ble_eq_true rfl) ⟨Nat.zero_le _, Nat.zero_le _⟩ dX7_refused_3 (fun H locs hZ => ?_)
  obtain ⟨o3, E1, E⟩ := cd_bE E
  refine cd_cVi (As := [.int o1]) S hK hZ hl.1 (c_X7_answer l G o1 h o3 E1) cd_v_X7_answer cd_m_X7_92 ⟨Nat.le_of_ble_eq_true rfl, Nat.le_of_ble_eq_true rfl⟩ ⟨rfl, rfl⟩ (ci := 7) (by decide) rfl cd_this7 rfl rfl (Nat.le_of_ble_eq_true rfl) ⟨Nat.zero_le _, Nat.zero_le _⟩ dX7_refused_6 (fun H locs hZ => ?_)
  exact hret _ _ _ _ _ _ (Option.some.inj E) hZ dX7_refused_9
abbrev rm_X7_mixed : Room := { frames := 0, cells := 0, slots := 0, locals := 0 }
theorem cd_v_X7_mixed : cd_Vs yX7_mixed cX7_mixed 3 (some .long) 2 := ⟨cd_s_X7_mixed, cd_n_X7, cd_c_X7_mixed, by decide +kernel⟩
set_option maxHeartbeats 4000000 in
set_option maxRecDepth 100000 in
theorem c_X7_mixed (l : Launch) (G : cd_G) (a0 : Int64) (a2 : Int32) (h : cd_Hp) (out : Int64) (E : f_X7_mixed a0 a2 = out) : cd_Ml l G yX7_mixed (Cond.code yX7_mixed cX7_mixed 3 (some .long) :: cd_T) rm_X7_mixed [.long a0, .int a2] h (out, h) := by
  refine cd_inl (by decide) (Nat.le_of_ble_eq_true rfl) ?_
  intro p e s m args below meth c Q ls H locs S hK hZ hl hret
  have hl : lv_has ls 3 [(0, .long a0), (2, .int a2)] := hl
  unfold f_X7_mixed at E
  refine lv_ldc2 (v := 31) S.1 S.2.1 S.2.2.2.1 (S.2.2.2.2 _ cd_l_X7_184) dX7_mixed_0 ?_
  refine lv_lload_n S.1 S.2.1 dX7_mixed_3 rfl (lv_at hl 0 rfl) ?_
  refine lv_lmul S.1 S.2.1 dX7_mixed_4 ?_
  refine lv_iload_n S.1 S.2.1 dX7_mixed_5 rfl (lv_at hl 1 rfl) ?_
  refine lv_i2l S.1 S.2.1 dX7_mixed_6 rfl ?_
  refine lv_ladd S.1 S.2.1 dX7_mixed_7 ?_
  exact hret _ _ _ _ _ _ (congrArg (fun z => (z, h)) (E)) hZ dX7_mixed_8
abbrev rm_X7_mixedTask : Room := { frames := 4, cells := 0, slots := 0, locals := 94 }
theorem cd_v_X7_mixedTask : cd_V yX7_mixedTask cX7_mixedTask 7 (some .long) 2 := ⟨cd_i_X7_mixedTask, cd_e_X7_X7_mixedTask, cd_n_X7, cd_c_X7_mixedTask, by decide +kernel⟩
set_option maxHeartbeats 4000000 in
set_option maxRecDepth 100000 in
theorem c_X7_mixedTask (l : Launch) (G : cd_G) (a1 : Int64) (a3 : Int32) (h : cd_Hp) (out : Int64) (E : f_X7_mixedTask a1 a3 h = some out) : cd_Ml l G yX7_mixedTask (Cond.code yX7_mixedTask cX7_mixedTask 7 (some .long) :: cd_T) rm_X7_mixedTask [.ref (G.2.2.2.2 + 0), .long a1, .int a3] h (out, h) := by
  refine cd_inl (by decide) (Nat.le_of_ble_eq_true rfl) ?_
  intro p e s m args below meth c Q ls H locs S hK hZ hl hret
  have hl : lv_has ls 7 [(0, .ref (G.2.2.2.2 + 0)), (1, .long a1), (3, .int a3)] := hl
  have L6 : ∀ (n : Nat) (v6_4 : Int64) (v6_6 : Int32) (o : (Int64 × Int32)) (H : Heap) (locs : List Loc) (ls : Array Slot), cd_lp (f_X7_mixedTask_B6 a1 a3 h) n (v6_4, v6_6) = some o → cd_Z G h s.heap H locs → lv_has ls 7 [(6, .int v6_6), (4, .long v6_4), (0, .ref (G.2.2.2.2 + 0)), (1, .long a1), (3, .int a3)] → (∀ (H : Heap) (locs : List Loc) (ls : Array Slot), cd_Z G h s.heap H locs → lv_has ls 7 [(6, .int o.2), (4, .long o.1), (0, .ref (G.2.2.2.2 + 0)), (1, .long a1), (3, .int a3)] → W p l e rm_X7_mixedTask s m args below meth c H locs 0 0 Q (F0 m 35 ls [])) → W p l e rm_X7_mixedTask s m args below meth c H locs 0 0 Q (F0 m 6 ls []) := by
    intro n
    induction n with
    | zero => intro v6_4 v6_6 o H locs ls E; exact nomatch (show (none : Option (Int64 × Int32)) = some o from E)
    | succ n ih =>
      intro v6_4 v6_6 o H locs ls E hZ hl hex
      have E : f_X7_mixedTask_B6 a1 a3 h (cd_lp (f_X7_mixedTask_B6 a1 a3 h) n) (v6_4, v6_6) = some o := E
      unfold f_X7_mixedTask_B6 at E
      dsimp only at E
      refine lv_iload S.1 S.2.1 dX7_mixedTask_6 (lv_at hl 0 rfl) ?_
      refine lv_iconst (v := 2) S.1 S.2.1 dX7_mixedTask_8 (by decide) ?_
      refine lv_icmp_gt (tgt := 35) S.1 S.2.1 dX7_mixedTask_9 (by decide) (fun c1 => ?_) (fun c1 => ?_)
      · have E := cd_tE c1 E
        cases E
        exact hex H locs ls hZ (lv_sub hl [0, 1, 2, 3, 4] rfl)
      · have E := cd_fE c1 E
        refine lv_lload S.1 S.2.1 dX7_mixedTask_12 (lv_at hl 1 rfl) ?_
        refine lv_aload_n S.1 S.2.1 dX7_mixedTask_14 rfl (lv_at hl 2 rfl) ?_
        refine cd_get7 (v := .ref (G.2.2.2.2 + 4)) S hK hZ cd_this7 0 cd_f_X7_15 rfl dX7_mixedTask_15 ?_
        refine lv_iload_n S.1 S.2.1 dX7_mixedTask_18 rfl (lv_at hl 4 rfl) ?_
        refine lv_iload S.1 S.2.1 dX7_mixedTask_19 (lv_at hl 0 rfl) ?_
        obtain ⟨o2, E1, E⟩ := cd_bE E
        refine cd_cVi (As := [.int a3, .int v6_6]) S hK hZ hl.1 (c_X4_taskFact l G 4 a3 v6_6 (cd_r7_0 cd_this7) h o2 E1) cd_v_X4_taskFact cd_m_X7_89 ⟨Nat.le_of_ble_eq_true rfl, Nat.le_of_ble_eq_true rfl⟩ ⟨rfl, rfl⟩ (ci := 4) (by decide) rfl (cd_r7_0 cd_this7) rfl rfl (Nat.le_of_ble_eq_true rfl) ⟨Nat.zero_le _, Nat.zero_le _⟩ dX7_mixedTask_21 (fun H locs hZ => ?_)
        refine cd_cSl (As := [.long v6_4, .int o2]) S hK hZ hl.1 (c_X7_mixed l G v6_4 o2 h _ rfl) cd_v_X7_mixed cd_m_X7_164 ⟨Nat.le_of_ble_eq_true rfl, Nat.le_of_ble_eq_true rfl⟩ ⟨rfl, rfl⟩ rfl rfl (Nat.le_of_ble_eq_true rfl) ⟨Nat.zero_le _, Nat.zero_le _⟩ dX7_mixedTask_24 (fun H locs hZ => ?_)
        obtain ⟨x5, ex5, E⟩ := cd_nmE E
        refine cd_topl ex5 ?_
        refine lv_lstore (lv' := [(4, .long x5), (6, .int v6_6), (0, .ref (G.2.2.2.2 + 0)), (1, .long a1), (3, .int a3)]) S.1 S.2.1 dX7_mixedTask_27 hl (by decide) rfl (fun ls hl => ?_)
        obtain ⟨x6, ex6, E⟩ := cd_nmE E
        refine lv_iinc (v := x6) (lv' := [(6, .int x6), (4, .long x5), (0, .ref (G.2.2.2.2 + 0)), (1, .long a1), (3, .int a3)]) S.1 S.2.1 dX7_mixedTask_29 hl (k := 1) rfl (by rw [ex6]; rfl) (by decide) rfl (fun ls hl => ?_)
        refine lv_goto (tgt := 6) S.1 S.2.1 dX7_mixedTask_32 (by decide) ?_
        exact ih x5 x6 o H locs ls E hZ (lv_sub hl [0, 1, 2, 3, 4] rfl) hex
  have L38 : ∀ (n : Nat) (v38_4 : Int64) (v38_6 : Int32) (o : (Int64 × Int32)) (H : Heap) (locs : List Loc) (ls : Array Slot), cd_lp (f_X7_mixedTask_B38 a1 a3 h) n (v38_4, v38_6) = some o → cd_Z G h s.heap H locs → lv_has ls 7 [(6, .int v38_6), (4, .long v38_4), (0, .ref (G.2.2.2.2 + 0)), (1, .long a1), (3, .int a3)] → (∀ (H : Heap) (locs : List Loc) (ls : Array Slot), cd_Z G h s.heap H locs → lv_has ls 7 [(6, .int o.2), (4, .long o.1), (0, .ref (G.2.2.2.2 + 0)), (1, .long a1), (3, .int a3)] → W p l e rm_X7_mixedTask s m args below meth c H locs 0 0 Q (F0 m 71 ls [])) → W p l e rm_X7_mixedTask s m args below meth c H locs 0 0 Q (F0 m 38 ls []) := by
    intro n
    induction n with
    | zero => intro v38_4 v38_6 o H locs ls E; exact nomatch (show (none : Option (Int64 × Int32)) = some o from E)
    | succ n ih =>
      intro v38_4 v38_6 o H locs ls E hZ hl hex
      have E : f_X7_mixedTask_B38 a1 a3 h (cd_lp (f_X7_mixedTask_B38 a1 a3 h) n) (v38_4, v38_6) = some o := E
      unfold f_X7_mixedTask_B38 at E
      dsimp only at E
      refine lv_iload S.1 S.2.1 dX7_mixedTask_38 (lv_at hl 0 rfl) ?_
      refine lv_bipush (v := 8) S.1 S.2.1 dX7_mixedTask_40 (by decide) ?_
      refine lv_icmp_ge (tgt := 71) S.1 S.2.1 dX7_mixedTask_42 (by decide) (fun c8 => ?_) (fun c8 => ?_)
      · have E := cd_tE c8 E
        cases E
        exact hex H locs ls hZ (lv_sub hl [0, 1, 2, 3, 4] rfl)
      · have E := cd_fE c8 E
        refine lv_lload S.1 S.2.1 dX7_mixedTask_45 (lv_at hl 1 rfl) ?_
        refine lv_aload_n S.1 S.2.1 dX7_mixedTask_47 rfl (lv_at hl 2 rfl) ?_
        refine cd_get7 (v := .ref (G.2.2.2.2 + 4)) S hK hZ cd_this7 0 cd_f_X7_15 rfl dX7_mixedTask_48 ?_
        refine cd_get4 (v := .ref (G.2.2.2.2 + (4 + 2))) S hK hZ (cd_r7_0 cd_this7) 6 cd_f_X7_54 rfl dX7_mixedTask_51 ?_
        refine lv_iload_n S.1 S.2.1 dX7_mixedTask_54 rfl (lv_at hl 4 rfl) ?_
        refine lv_iload S.1 S.2.1 dX7_mixedTask_55 (lv_at hl 0 rfl) ?_
        obtain ⟨o9, E1, E⟩ := cd_bE E
        refine cd_cVi (As := [.int a3, .int v38_6]) S hK hZ hl.1 (c_X5_rateOf l G (4 + 2) a3 v38_6 (cd_r4_6 (cd_r7_0 cd_this7)) h o9 E1) cd_v_X5_rateOf cd_m_X7_186 ⟨Nat.le_of_ble_eq_true rfl, Nat.le_of_ble_eq_true rfl⟩ ⟨rfl, rfl⟩ (ci := 5) (by decide) rfl (cd_r4_6 (cd_r7_0 cd_this7)) rfl rfl (Nat.le_of_ble_eq_true rfl) ⟨Nat.zero_le _, Nat.zero_le _⟩ dX7_mixedTask_57 (fun H locs hZ => ?_)
        refine cd_cSl (As := [.long v38_4, .int o9]) S hK hZ hl.1 (c_X7_mixed l G v38_4 o9 h _ rfl) cd_v_X7_mixed cd_m_X7_164 ⟨Nat.le_of_ble_eq_true rfl, Nat.le_of_ble_eq_true rfl⟩ ⟨rfl, rfl⟩ rfl rfl (Nat.le_of_ble_eq_true rfl) ⟨Nat.zero_le _, Nat.zero_le _⟩ dX7_mixedTask_60 (fun H locs hZ => ?_)
        obtain ⟨x12, ex12, E⟩ := cd_nmE E
        refine cd_topl ex12 ?_
        refine lv_lstore (lv' := [(4, .long x12), (6, .int v38_6), (0, .ref (G.2.2.2.2 + 0)), (1, .long a1), (3, .int a3)]) S.1 S.2.1 dX7_mixedTask_63 hl (by decide) rfl (fun ls hl => ?_)
        obtain ⟨x13, ex13, E⟩ := cd_nmE E
        refine lv_iinc (v := x13) (lv' := [(6, .int x13), (4, .long x12), (0, .ref (G.2.2.2.2 + 0)), (1, .long a1), (3, .int a3)]) S.1 S.2.1 dX7_mixedTask_65 hl (k := 1) rfl (by rw [ex13]; rfl) (by decide) rfl (fun ls hl => ?_)
        refine lv_goto (tgt := 38) S.1 S.2.1 dX7_mixedTask_68 (by decide) ?_
        exact ih x12 x13 o H locs ls E hZ (lv_sub hl [0, 1, 2, 3, 4] rfl) hex
  unfold f_X7_mixedTask at E
  refine lv_lload_n S.1 S.2.1 dX7_mixedTask_0 rfl (lv_at hl 1 rfl) ?_
  refine lv_lstore (lv' := [(4, .long a1), (0, .ref (G.2.2.2.2 + 0)), (1, .long a1), (3, .int a3)]) S.1 S.2.1 dX7_mixedTask_1 hl (by decide) rfl (fun ls hl => ?_)
  refine lv_iconst (v := 0) S.1 S.2.1 dX7_mixedTask_3 (by decide) ?_
  refine lv_istore (lv' := [(6, .int 0), (4, .long a1), (0, .ref (G.2.2.2.2 + 0)), (1, .long a1), (3, .int a3)]) S.1 S.2.1 dX7_mixedTask_4 hl (by decide) rfl (fun ls hl => ?_)
  obtain ⟨o7, E1, E⟩ := cd_bE E
  refine L6 cd_fu a1 0 o7 H locs ls E1 hZ (lv_sub hl [0, 1, 2, 3, 4] rfl) (fun H locs ls hZ hl => ?_)
  refine lv_iconst (v := 0) S.1 S.2.1 dX7_mixedTask_35 (by decide) ?_
  refine lv_istore (lv' := [(6, .int 0), (4, .long o7.1), (0, .ref (G.2.2.2.2 + 0)), (1, .long a1), (3, .int a3)]) S.1 S.2.1 dX7_mixedTask_36 hl (by decide) rfl (fun ls hl => ?_)
  obtain ⟨o14, E1, E⟩ := cd_bE E
  refine L38 cd_fu o7.1 0 o14 H locs ls E1 hZ (lv_sub hl [0, 1, 2, 3, 4] rfl) (fun H locs ls hZ hl => ?_)
  refine lv_lload S.1 S.2.1 dX7_mixedTask_71 (lv_at hl 1 rfl) ?_
  exact hret _ _ _ _ _ _ (congrArg (fun z => (z, h)) (Option.some.inj E)) hZ dX7_mixedTask_73
abbrev rm_X7_mixedEvent : Room := { frames := 4, cells := 0, slots := 0, locals := 91 }
theorem cd_v_X7_mixedEvent : cd_V yX7_mixedEvent cX7_mixedEvent 8 (some .long) 3 := ⟨cd_i_X7_mixedEvent, cd_e_X7_X7_mixedEvent, cd_n_X7, cd_c_X7_mixedEvent, by decide +kernel⟩
set_option maxHeartbeats 4000000 in
set_option maxRecDepth 100000 in
theorem c_X7_mixedEvent (l : Launch) (G : cd_G) (a1 : Int64) (a3 : Int32) (a4 : Int32) (h : cd_Hp) (out : Int64) (E : f_X7_mixedEvent a1 a3 a4 h = some out) : cd_Ml l G yX7_mixedEvent (Cond.code yX7_mixedEvent cX7_mixedEvent 8 (some .long) :: cd_T) rm_X7_mixedEvent [.ref (G.2.2.2.2 + 0), .long a1, .int a3, .int a4] h (out, h) := by
  refine cd_inl (by decide) (Nat.le_of_ble_eq_true rfl) ?_
  intro p e s m args below meth c Q ls H locs S hK hZ hl hret
  have hl : lv_has ls 8 [(0, .ref (G.2.2.2.2 + 0)), (1, .long a1), (3, .int a3), (4, .int a4)] := hl
  have L6 : ∀ (n : Nat) (v6_5 : Int64) (v6_7 : Int32) (o : (Int64 × Int32)) (H : Heap) (locs : List Loc) (ls : Array Slot), cd_lp (f_X7_mixedEvent_B6 a1 a3 a4 h) n (v6_5, v6_7) = some o → cd_Z G h s.heap H locs → lv_has ls 8 [(7, .int v6_7), (5, .long v6_5), (0, .ref (G.2.2.2.2 + 0)), (1, .long a1), (3, .int a3), (4, .int a4)] → (∀ (H : Heap) (locs : List Loc) (ls : Array Slot), cd_Z G h s.heap H locs → lv_has ls 8 [(7, .int o.2), (5, .long o.1), (0, .ref (G.2.2.2.2 + 0)), (1, .long a1), (3, .int a3), (4, .int a4)] → W p l e rm_X7_mixedEvent s m args below meth c H locs 0 0 Q (F0 m 37 ls [])) → W p l e rm_X7_mixedEvent s m args below meth c H locs 0 0 Q (F0 m 6 ls []) := by
    intro n
    induction n with
    | zero => intro v6_5 v6_7 o H locs ls E; exact nomatch (show (none : Option (Int64 × Int32)) = some o from E)
    | succ n ih =>
      intro v6_5 v6_7 o H locs ls E hZ hl hex
      have E : f_X7_mixedEvent_B6 a1 a3 a4 h (cd_lp (f_X7_mixedEvent_B6 a1 a3 a4 h) n) (v6_5, v6_7) = some o := E
      unfold f_X7_mixedEvent_B6 at E
      dsimp only at E
      refine lv_iload S.1 S.2.1 dX7_mixedEvent_6 (lv_at hl 0 rfl) ?_
      refine lv_iconst (v := 2) S.1 S.2.1 dX7_mixedEvent_8 (by decide) ?_
      refine lv_icmp_gt (tgt := 37) S.1 S.2.1 dX7_mixedEvent_9 (by decide) (fun c1 => ?_) (fun c1 => ?_)
      · have E := cd_tE c1 E
        cases E
        exact hex H locs ls hZ (lv_sub hl [0, 1, 2, 3, 4, 5] rfl)
      · have E := cd_fE c1 E
        refine lv_lload S.1 S.2.1 dX7_mixedEvent_12 (lv_at hl 1 rfl) ?_
        refine lv_aload_n S.1 S.2.1 dX7_mixedEvent_14 rfl (lv_at hl 2 rfl) ?_
        refine cd_get7 (v := .ref (G.2.2.2.2 + 4)) S hK hZ cd_this7 0 cd_f_X7_15 rfl dX7_mixedEvent_15 ?_
        refine lv_iload_n S.1 S.2.1 dX7_mixedEvent_18 rfl (lv_at hl 4 rfl) ?_
        refine lv_iload S.1 S.2.1 dX7_mixedEvent_19 (lv_at hl 5 rfl) ?_
        refine lv_iload S.1 S.2.1 dX7_mixedEvent_21 (lv_at hl 0 rfl) ?_
        obtain ⟨o2, E1, E⟩ := cd_bE E
        refine cd_cVi (As := [.int a3, .int a4, .int v6_7]) S hK hZ hl.1 (c_X4_eventFact l G 4 a3 a4 v6_7 (cd_r7_0 cd_this7) h o2 E1) cd_v_X4_eventFact cd_m_X7_98 ⟨Nat.le_of_ble_eq_true rfl, Nat.le_of_ble_eq_true rfl⟩ ⟨rfl, rfl⟩ (ci := 4) (by decide) rfl (cd_r7_0 cd_this7) rfl rfl (Nat.le_of_ble_eq_true rfl) ⟨Nat.zero_le _, Nat.zero_le _⟩ dX7_mixedEvent_23 (fun H locs hZ => ?_)
        refine cd_cSl (As := [.long v6_5, .int o2]) S hK hZ hl.1 (c_X7_mixed l G v6_5 o2 h _ rfl) cd_v_X7_mixed cd_m_X7_164 ⟨Nat.le_of_ble_eq_true rfl, Nat.le_of_ble_eq_true rfl⟩ ⟨rfl, rfl⟩ rfl rfl (Nat.le_of_ble_eq_true rfl) ⟨Nat.zero_le _, Nat.zero_le _⟩ dX7_mixedEvent_26 (fun H locs hZ => ?_)
        obtain ⟨x5, ex5, E⟩ := cd_nmE E
        refine cd_topl ex5 ?_
        refine lv_lstore (lv' := [(5, .long x5), (7, .int v6_7), (0, .ref (G.2.2.2.2 + 0)), (1, .long a1), (3, .int a3), (4, .int a4)]) S.1 S.2.1 dX7_mixedEvent_29 hl (by decide) rfl (fun ls hl => ?_)
        obtain ⟨x6, ex6, E⟩ := cd_nmE E
        refine lv_iinc (v := x6) (lv' := [(7, .int x6), (5, .long x5), (0, .ref (G.2.2.2.2 + 0)), (1, .long a1), (3, .int a3), (4, .int a4)]) S.1 S.2.1 dX7_mixedEvent_31 hl (k := 1) rfl (by rw [ex6]; rfl) (by decide) rfl (fun ls hl => ?_)
        refine lv_goto (tgt := 6) S.1 S.2.1 dX7_mixedEvent_34 (by decide) ?_
        exact ih x5 x6 o H locs ls E hZ (lv_sub hl [0, 1, 2, 3, 4, 5] rfl) hex
  have L40 : ∀ (n : Nat) (v40_5 : Int64) (v40_7 : Int32) (o : (Int64 × Int32)) (H : Heap) (locs : List Loc) (ls : Array Slot), cd_lp (f_X7_mixedEvent_B40 a1 a3 a4 h) n (v40_5, v40_7) = some o → cd_Z G h s.heap H locs → lv_has ls 8 [(7, .int v40_7), (5, .long v40_5), (0, .ref (G.2.2.2.2 + 0)), (1, .long a1), (3, .int a3), (4, .int a4)] → (∀ (H : Heap) (locs : List Loc) (ls : Array Slot), cd_Z G h s.heap H locs → lv_has ls 8 [(7, .int o.2), (5, .long o.1), (0, .ref (G.2.2.2.2 + 0)), (1, .long a1), (3, .int a3), (4, .int a4)] → W p l e rm_X7_mixedEvent s m args below meth c H locs 0 0 Q (F0 m 80 ls [])) → W p l e rm_X7_mixedEvent s m args below meth c H locs 0 0 Q (F0 m 40 ls []) := by
    intro n
    induction n with
    | zero => intro v40_5 v40_7 o H locs ls E; exact nomatch (show (none : Option (Int64 × Int32)) = some o from E)
    | succ n ih =>
      intro v40_5 v40_7 o H locs ls E hZ hl hex
      have E : f_X7_mixedEvent_B40 a1 a3 a4 h (cd_lp (f_X7_mixedEvent_B40 a1 a3 a4 h) n) (v40_5, v40_7) = some o := E
      unfold f_X7_mixedEvent_B40 at E
      dsimp only at E
      refine lv_iload S.1 S.2.1 dX7_mixedEvent_40 (lv_at hl 0 rfl) ?_
      refine lv_aload_n S.1 S.2.1 dX7_mixedEvent_42 rfl (lv_at hl 2 rfl) ?_
      refine cd_get7 (v := .ref (G.2.2.2.2 + 4)) S hK hZ cd_this7 0 cd_f_X7_15 rfl dX7_mixedEvent_43 ?_
      refine cd_get4 (v := .ref (G.2.2.2.2 + (4 + 2))) S hK hZ (cd_r7_0 cd_this7) 6 cd_f_X7_54 rfl dX7_mixedEvent_46 ?_
      refine cd_get5 (v := .int (cd_g h (4 + 2) 0)) S hK hZ (cd_r4_6 (cd_r7_0 cd_this7)) 0 cd_f_X7_171 rfl dX7_mixedEvent_49 ?_
      refine lv_icmp_ge (tgt := 80) S.1 S.2.1 dX7_mixedEvent_52 (by decide) (fun c8 => ?_) (fun c8 => ?_)
      · have E := cd_tE c8 E
        cases E
        exact hex H locs ls hZ (lv_sub hl [0, 1, 2, 3, 4, 5] rfl)
      · have E := cd_fE c8 E
        refine lv_lload S.1 S.2.1 dX7_mixedEvent_55 (lv_at hl 1 rfl) ?_
        refine lv_aload_n S.1 S.2.1 dX7_mixedEvent_57 rfl (lv_at hl 2 rfl) ?_
        refine cd_get7 (v := .ref (G.2.2.2.2 + 4)) S hK hZ cd_this7 0 cd_f_X7_15 rfl dX7_mixedEvent_58 ?_
        refine lv_iload_n S.1 S.2.1 dX7_mixedEvent_61 rfl (lv_at hl 4 rfl) ?_
        refine lv_iload S.1 S.2.1 dX7_mixedEvent_62 (lv_at hl 5 rfl) ?_
        refine lv_iload S.1 S.2.1 dX7_mixedEvent_64 (lv_at hl 0 rfl) ?_
        obtain ⟨o9, E1, E⟩ := cd_bE E
        refine cd_cVi (As := [.int a3, .int a4, .int v40_7]) S hK hZ hl.1 (c_X4_countFact l G 4 a3 a4 v40_7 (cd_r7_0 cd_this7) h o9 E1) cd_v_X4_countFact cd_m_X7_101 ⟨Nat.le_of_ble_eq_true rfl, Nat.le_of_ble_eq_true rfl⟩ ⟨rfl, rfl⟩ (ci := 4) (by decide) rfl (cd_r7_0 cd_this7) rfl rfl (Nat.le_of_ble_eq_true rfl) ⟨Nat.zero_le _, Nat.zero_le _⟩ dX7_mixedEvent_66 (fun H locs hZ => ?_)
        refine cd_cSl (As := [.long v40_5, .int o9]) S hK hZ hl.1 (c_X7_mixed l G v40_5 o9 h _ rfl) cd_v_X7_mixed cd_m_X7_164 ⟨Nat.le_of_ble_eq_true rfl, Nat.le_of_ble_eq_true rfl⟩ ⟨rfl, rfl⟩ rfl rfl (Nat.le_of_ble_eq_true rfl) ⟨Nat.zero_le _, Nat.zero_le _⟩ dX7_mixedEvent_69 (fun H locs hZ => ?_)
        obtain ⟨x12, ex12, E⟩ := cd_nmE E
        refine cd_topl ex12 ?_
        refine lv_lstore (lv' := [(5, .long x12), (7, .int v40_7), (0, .ref (G.2.2.2.2 + 0)), (1, .long a1), (3, .int a3), (4, .int a4)]) S.1 S.2.1 dX7_mixedEvent_72 hl (by decide) rfl (fun ls hl => ?_)
        obtain ⟨x13, ex13, E⟩ := cd_nmE E
        refine lv_iinc (v := x13) (lv' := [(7, .int x13), (5, .long x12), (0, .ref (G.2.2.2.2 + 0)), (1, .long a1), (3, .int a3), (4, .int a4)]) S.1 S.2.1 dX7_mixedEvent_74 hl (k := 1) rfl (by rw [ex13]; rfl) (by decide) rfl (fun ls hl => ?_)
        refine lv_goto (tgt := 40) S.1 S.2.1 dX7_mixedEvent_77 (by decide) ?_
        exact ih x12 x13 o H locs ls E hZ (lv_sub hl [0, 1, 2, 3, 4, 5] rfl) hex
  unfold f_X7_mixedEvent at E
  refine lv_lload_n S.1 S.2.1 dX7_mixedEvent_0 rfl (lv_at hl 1 rfl) ?_
  refine lv_lstore (lv' := [(5, .long a1), (0, .ref (G.2.2.2.2 + 0)), (1, .long a1), (3, .int a3), (4, .int a4)]) S.1 S.2.1 dX7_mixedEvent_1 hl (by decide) rfl (fun ls hl => ?_)
  refine lv_iconst (v := 0) S.1 S.2.1 dX7_mixedEvent_3 (by decide) ?_
  refine lv_istore (lv' := [(7, .int 0), (5, .long a1), (0, .ref (G.2.2.2.2 + 0)), (1, .long a1), (3, .int a3), (4, .int a4)]) S.1 S.2.1 dX7_mixedEvent_4 hl (by decide) rfl (fun ls hl => ?_)
  obtain ⟨o7, E1, E⟩ := cd_bE E
  refine L6 cd_fu a1 0 o7 H locs ls E1 hZ (lv_sub hl [0, 1, 2, 3, 4, 5] rfl) (fun H locs ls hZ hl => ?_)
  refine lv_iconst (v := 0) S.1 S.2.1 dX7_mixedEvent_37 (by decide) ?_
  refine lv_istore (lv' := [(7, .int 0), (5, .long o7.1), (0, .ref (G.2.2.2.2 + 0)), (1, .long a1), (3, .int a3), (4, .int a4)]) S.1 S.2.1 dX7_mixedEvent_38 hl (by decide) rfl (fun ls hl => ?_)
  obtain ⟨o14, E1, E⟩ := cd_bE E
  refine L40 cd_fu o7.1 0 o14 H locs ls E1 hZ (lv_sub hl [0, 1, 2, 3, 4, 5] rfl) (fun H locs ls hZ hl => ?_)
  refine lv_lload S.1 S.2.1 dX7_mixedEvent_80 (lv_at hl 1 rfl) ?_
  refine lv_aload_n S.1 S.2.1 dX7_mixedEvent_82 rfl (lv_at hl 2 rfl) ?_
  refine cd_get7 (v := .ref (G.2.2.2.2 + 4)) S hK hZ cd_this7 0 cd_f_X7_15 rfl dX7_mixedEvent_83 ?_
  refine lv_iload_n S.1 S.2.1 dX7_mixedEvent_86 rfl (lv_at hl 4 rfl) ?_
  refine lv_iload S.1 S.2.1 dX7_mixedEvent_87 (lv_at hl 5 rfl) ?_
  refine lv_iconst (v := 0) S.1 S.2.1 dX7_mixedEvent_89 (by decide) ?_
  obtain ⟨o15, E1, E⟩ := cd_bE E
  refine cd_cVi (As := [.int a3, .int a4, .int 0]) S hK hZ hl.1 (c_X4_scaledFact l G 4 a3 a4 0 (cd_r7_0 cd_this7) h o15 E1) cd_v_X4_scaledFact cd_m_X7_107 ⟨Nat.le_of_ble_eq_true rfl, Nat.le_of_ble_eq_true rfl⟩ ⟨rfl, rfl⟩ (ci := 4) (by decide) rfl (cd_r7_0 cd_this7) rfl rfl (Nat.le_of_ble_eq_true rfl) ⟨Nat.zero_le _, Nat.zero_le _⟩ dX7_mixedEvent_90 (fun H locs hZ => ?_)
  refine cd_cSl (As := [.long o14.1, .int o15]) S hK hZ hl.1 (c_X7_mixed l G o14.1 o15 h _ rfl) cd_v_X7_mixed cd_m_X7_164 ⟨Nat.le_of_ble_eq_true rfl, Nat.le_of_ble_eq_true rfl⟩ ⟨rfl, rfl⟩ rfl rfl (Nat.le_of_ble_eq_true rfl) ⟨Nat.zero_le _, Nat.zero_le _⟩ dX7_mixedEvent_93 (fun H locs hZ => ?_)
  obtain ⟨x18, ex18, E⟩ := cd_nmE E
  refine cd_topl ex18 ?_
  refine lv_lstore (lv' := [(5, .long x18), (7, .int o14.2), (0, .ref (G.2.2.2.2 + 0)), (1, .long a1), (3, .int a3), (4, .int a4)]) S.1 S.2.1 dX7_mixedEvent_96 hl (by decide) rfl (fun ls hl => ?_)
  refine lv_lload S.1 S.2.1 dX7_mixedEvent_98 (lv_at hl 0 rfl) ?_
  refine lv_aload_n S.1 S.2.1 dX7_mixedEvent_100 rfl (lv_at hl 2 rfl) ?_
  refine cd_get7 (v := .ref (G.2.2.2.2 + 4)) S hK hZ cd_this7 0 cd_f_X7_15 rfl dX7_mixedEvent_101 ?_
  refine lv_iload_n S.1 S.2.1 dX7_mixedEvent_104 rfl (lv_at hl 4 rfl) ?_
  refine lv_iload S.1 S.2.1 dX7_mixedEvent_105 (lv_at hl 5 rfl) ?_
  refine lv_iconst (v := 1) S.1 S.2.1 dX7_mixedEvent_107 (by decide) ?_
  obtain ⟨o19, E1, E⟩ := cd_bE E
  refine cd_cVi (As := [.int a3, .int a4, .int 1]) S hK hZ hl.1 (c_X4_scaledFact l G 4 a3 a4 1 (cd_r7_0 cd_this7) h o19 E1) cd_v_X4_scaledFact cd_m_X7_107 ⟨Nat.le_of_ble_eq_true rfl, Nat.le_of_ble_eq_true rfl⟩ ⟨rfl, rfl⟩ (ci := 4) (by decide) rfl (cd_r7_0 cd_this7) rfl rfl (Nat.le_of_ble_eq_true rfl) ⟨Nat.zero_le _, Nat.zero_le _⟩ dX7_mixedEvent_108 (fun H locs hZ => ?_)
  refine cd_cSl (As := [.long x18, .int o19]) S hK hZ hl.1 (c_X7_mixed l G x18 o19 h _ rfl) cd_v_X7_mixed cd_m_X7_164 ⟨Nat.le_of_ble_eq_true rfl, Nat.le_of_ble_eq_true rfl⟩ ⟨rfl, rfl⟩ rfl rfl (Nat.le_of_ble_eq_true rfl) ⟨Nat.zero_le _, Nat.zero_le _⟩ dX7_mixedEvent_111 (fun H locs hZ => ?_)
  exact hret _ _ _ _ _ _ (congrArg (fun z => (z, h)) (Option.some.inj E)) hZ dX7_mixedEvent_114
abbrev rm_X7_mixedGroup : Room := { frames := 5, cells := 0, slots := 0, locals := 118 }
theorem cd_v_X7_mixedGroup : cd_V yX7_mixedGroup cX7_mixedGroup 7 (some .long) 2 := ⟨cd_i_X7_mixedGroup, cd_e_X7_X7_mixedGroup, cd_n_X7, cd_c_X7_mixedGroup, by decide +kernel⟩
set_option maxHeartbeats 4000000 in
set_option maxRecDepth 100000 in
theorem c_X7_mixedGroup (l : Launch) (G : cd_G) (a1 : Int64) (a3 : Int32) (h : cd_Hp) (out : Int64) (E : f_X7_mixedGroup a1 a3 h = some out) : cd_Ml l G yX7_mixedGroup (Cond.code yX7_mixedGroup cX7_mixedGroup 7 (some .long) :: cd_T) rm_X7_mixedGroup [.ref (G.2.2.2.2 + 0), .long a1, .int a3] h (out, h) := by
  refine cd_inl (by decide) (Nat.le_of_ble_eq_true rfl) ?_
  intro p e s m args below meth c Q ls H locs S hK hZ hl hret
  have hl : lv_has ls 7 [(0, .ref (G.2.2.2.2 + 0)), (1, .long a1), (3, .int a3)] := hl
  have L6 : ∀ (n : Nat) (v6_4 : Int64) (v6_6 : Int32) (o : (Int64 × Int32)) (H : Heap) (locs : List Loc) (ls : Array Slot), cd_lp (f_X7_mixedGroup_B6 a1 a3 h) n (v6_4, v6_6) = some o → cd_Z G h s.heap H locs → lv_has ls 7 [(6, .int v6_6), (4, .long v6_4), (0, .ref (G.2.2.2.2 + 0)), (1, .long a1), (3, .int a3)] → (∀ (H : Heap) (locs : List Loc) (ls : Array Slot), cd_Z G h s.heap H locs → lv_has ls 7 [(6, .int o.2), (4, .long o.1), (0, .ref (G.2.2.2.2 + 0)), (1, .long a1), (3, .int a3)] → W p l e rm_X7_mixedGroup s m args below meth c H locs 0 0 Q (F0 m 36 ls [])) → W p l e rm_X7_mixedGroup s m args below meth c H locs 0 0 Q (F0 m 6 ls []) := by
    intro n
    induction n with
    | zero => intro v6_4 v6_6 o H locs ls E; exact nomatch (show (none : Option (Int64 × Int32)) = some o from E)
    | succ n ih =>
      intro v6_4 v6_6 o H locs ls E hZ hl hex
      have E : f_X7_mixedGroup_B6 a1 a3 h (cd_lp (f_X7_mixedGroup_B6 a1 a3 h) n) (v6_4, v6_6) = some o := E
      unfold f_X7_mixedGroup_B6 at E
      dsimp only at E
      refine lv_iload S.1 S.2.1 dX7_mixedGroup_6 (lv_at hl 0 rfl) ?_
      refine lv_bipush (v := 10) S.1 S.2.1 dX7_mixedGroup_8 (by decide) ?_
      refine lv_icmp_gt (tgt := 36) S.1 S.2.1 dX7_mixedGroup_10 (by decide) (fun c1 => ?_) (fun c1 => ?_)
      · have E := cd_tE c1 E
        cases E
        exact hex H locs ls hZ (lv_sub hl [0, 1, 2, 3, 4] rfl)
      · have E := cd_fE c1 E
        refine lv_lload S.1 S.2.1 dX7_mixedGroup_13 (lv_at hl 1 rfl) ?_
        refine lv_aload_n S.1 S.2.1 dX7_mixedGroup_15 rfl (lv_at hl 2 rfl) ?_
        refine cd_get7 (v := .ref (G.2.2.2.2 + 4)) S hK hZ cd_this7 0 cd_f_X7_15 rfl dX7_mixedGroup_16 ?_
        refine lv_iload_n S.1 S.2.1 dX7_mixedGroup_19 rfl (lv_at hl 4 rfl) ?_
        refine lv_iload S.1 S.2.1 dX7_mixedGroup_20 (lv_at hl 0 rfl) ?_
        obtain ⟨o2, E1, E⟩ := cd_bE E
        refine cd_cVi (As := [.int a3, .int v6_6]) S hK hZ hl.1 (c_X4_groupFact l G 4 a3 v6_6 (cd_r7_0 cd_this7) h o2 E1) cd_v_X4_groupFact cd_m_X7_95 ⟨Nat.le_of_ble_eq_true rfl, Nat.le_of_ble_eq_true rfl⟩ ⟨rfl, rfl⟩ (ci := 4) (by decide) rfl (cd_r7_0 cd_this7) rfl rfl (Nat.le_of_ble_eq_true rfl) ⟨Nat.zero_le _, Nat.zero_le _⟩ dX7_mixedGroup_22 (fun H locs hZ => ?_)
        refine cd_cSl (As := [.long v6_4, .int o2]) S hK hZ hl.1 (c_X7_mixed l G v6_4 o2 h _ rfl) cd_v_X7_mixed cd_m_X7_164 ⟨Nat.le_of_ble_eq_true rfl, Nat.le_of_ble_eq_true rfl⟩ ⟨rfl, rfl⟩ rfl rfl (Nat.le_of_ble_eq_true rfl) ⟨Nat.zero_le _, Nat.zero_le _⟩ dX7_mixedGroup_25 (fun H locs hZ => ?_)
        obtain ⟨x5, ex5, E⟩ := cd_nmE E
        refine cd_topl ex5 ?_
        refine lv_lstore (lv' := [(4, .long x5), (6, .int v6_6), (0, .ref (G.2.2.2.2 + 0)), (1, .long a1), (3, .int a3)]) S.1 S.2.1 dX7_mixedGroup_28 hl (by decide) rfl (fun ls hl => ?_)
        obtain ⟨x6, ex6, E⟩ := cd_nmE E
        refine lv_iinc (v := x6) (lv' := [(6, .int x6), (4, .long x5), (0, .ref (G.2.2.2.2 + 0)), (1, .long a1), (3, .int a3)]) S.1 S.2.1 dX7_mixedGroup_30 hl (k := 1) rfl (by rw [ex6]; rfl) (by decide) rfl (fun ls hl => ?_)
        refine lv_goto (tgt := 6) S.1 S.2.1 dX7_mixedGroup_33 (by decide) ?_
        exact ih x5 x6 o H locs ls E hZ (lv_sub hl [0, 1, 2, 3, 4] rfl) hex
  have L39 : ∀ (n : Nat) (v39_4 : Int64) (v39_6 : Int32) (o : (Int64 × Int32)) (H : Heap) (locs : List Loc) (ls : Array Slot), cd_lp (f_X7_mixedGroup_B39 a1 a3 h) n (v39_4, v39_6) = some o → cd_Z G h s.heap H locs → lv_has ls 7 [(6, .int v39_6), (4, .long v39_4), (0, .ref (G.2.2.2.2 + 0)), (1, .long a1), (3, .int a3)] → (∀ (H : Heap) (locs : List Loc) (ls : Array Slot), cd_Z G h s.heap H locs → lv_has ls 7 [(6, .int o.2), (4, .long o.1), (0, .ref (G.2.2.2.2 + 0)), (1, .long a1), (3, .int a3)] → W p l e rm_X7_mixedGroup s m args below meth c H locs 0 0 Q (F0 m 73 ls [])) → W p l e rm_X7_mixedGroup s m args below meth c H locs 0 0 Q (F0 m 39 ls []) := by
    intro n
    induction n with
    | zero => intro v39_4 v39_6 o H locs ls E; exact nomatch (show (none : Option (Int64 × Int32)) = some o from E)
    | succ n ih =>
      intro v39_4 v39_6 o H locs ls E hZ hl hex
      have E : f_X7_mixedGroup_B39 a1 a3 h (cd_lp (f_X7_mixedGroup_B39 a1 a3 h) n) (v39_4, v39_6) = some o := E
      unfold f_X7_mixedGroup_B39 at E
      dsimp only at E
      refine lv_iload S.1 S.2.1 dX7_mixedGroup_39 (lv_at hl 0 rfl) ?_
      refine lv_aload_n S.1 S.2.1 dX7_mixedGroup_41 rfl (lv_at hl 2 rfl) ?_
      refine cd_get7 (v := .ref (G.2.2.2.2 + 4)) S hK hZ cd_this7 0 cd_f_X7_15 rfl dX7_mixedGroup_42 ?_
      refine cd_get4 (v := .ref (G.2.2.2.2 + (4 + 6))) S hK hZ (cd_r7_0 cd_this7) 7 cd_f_X7_189 rfl dX7_mixedGroup_45 ?_
      refine lv_iload_n S.1 S.2.1 dX7_mixedGroup_48 rfl (lv_at hl 4 rfl) ?_
      obtain ⟨z8, E⟩ := cd_ckE E
      refine cd_aald9 S hK hZ (cd_r4_7 (cd_r7_0 cd_this7)) z8 dX7_mixedGroup_49 ?_
      refine cd_get0 (v := .int (cd_g h ((4 + 6) + 8 + 7 * (a3.toNatClampNeg)) 6)) S hK hZ (cd_r9 (cd_r4_7 (cd_r7_0 cd_this7)) z8) 6 cd_f_X7_193 rfl dX7_mixedGroup_50 ?_
      refine lv_icmp_ge (tgt := 73) S.1 S.2.1 dX7_mixedGroup_53 (by decide) (fun c9 => ?_) (fun c9 => ?_)
      · have E := cd_tE c9 E
        cases E
        exact hex H locs ls hZ (lv_sub hl [0, 1, 2, 3, 4] rfl)
      · have E := cd_fE c9 E
        refine lv_aload_n S.1 S.2.1 dX7_mixedGroup_56 rfl (lv_at hl 2 rfl) ?_
        refine lv_lload S.1 S.2.1 dX7_mixedGroup_57 (lv_at hl 1 rfl) ?_
        refine lv_iload_n S.1 S.2.1 dX7_mixedGroup_59 rfl (lv_at hl 4 rfl) ?_
        refine lv_iload S.1 S.2.1 dX7_mixedGroup_60 (lv_at hl 0 rfl) ?_
        obtain ⟨o10, E1, E⟩ := cd_bE E
        refine cd_cVl (As := [.long v39_4, .int a3, .int v39_6]) S hK hZ hl.1 (c_X7_mixedEvent l G v39_4 a3 v39_6 h o10 E1) cd_v_X7_mixedEvent cd_m_X7_198 ⟨Nat.le_of_ble_eq_true rfl, Nat.le_of_ble_eq_true rfl⟩ ⟨rfl, rfl⟩ (ci := 7) (by decide) rfl cd_this7 rfl rfl (Nat.le_of_ble_eq_true rfl) ⟨Nat.zero_le _, Nat.zero_le _⟩ dX7_mixedGroup_62 (fun H locs hZ => ?_)
        refine lv_lstore (lv' := [(4, .long o10), (6, .int v39_6), (0, .ref (G.2.2.2.2 + 0)), (1, .long a1), (3, .int a3)]) S.1 S.2.1 dX7_mixedGroup_65 hl (by decide) rfl (fun ls hl => ?_)
        obtain ⟨x12, ex12, E⟩ := cd_nmE E
        refine lv_iinc (v := x12) (lv' := [(6, .int x12), (4, .long o10), (0, .ref (G.2.2.2.2 + 0)), (1, .long a1), (3, .int a3)]) S.1 S.2.1 dX7_mixedGroup_67 hl (k := 1) rfl (by rw [ex12]; rfl) (by decide) rfl (fun ls hl => ?_)
        refine lv_goto (tgt := 39) S.1 S.2.1 dX7_mixedGroup_70 (by decide) ?_
        exact ih o10 x12 o H locs ls E hZ (lv_sub hl [0, 1, 2, 3, 4] rfl) hex
  have L76 : ∀ (n : Nat) (v76_4 : Int64) (v76_6 : Int32) (o : (Int64 × Int32)) (H : Heap) (locs : List Loc) (ls : Array Slot), cd_lp (f_X7_mixedGroup_B76 a1 a3 h) n (v76_4, v76_6) = some o → cd_Z G h s.heap H locs → lv_has ls 7 [(6, .int v76_6), (4, .long v76_4), (0, .ref (G.2.2.2.2 + 0)), (1, .long a1), (3, .int a3)] → (∀ (H : Heap) (locs : List Loc) (ls : Array Slot), cd_Z G h s.heap H locs → lv_has ls 7 [(6, .int o.2), (4, .long o.1), (0, .ref (G.2.2.2.2 + 0)), (1, .long a1), (3, .int a3)] → W p l e rm_X7_mixedGroup s m args below meth c H locs 0 0 Q (F0 m 133 ls [])) → W p l e rm_X7_mixedGroup s m args below meth c H locs 0 0 Q (F0 m 76 ls []) := by
    intro n
    induction n with
    | zero => intro v76_4 v76_6 o H locs ls E; exact nomatch (show (none : Option (Int64 × Int32)) = some o from E)
    | succ n ih =>
      intro v76_4 v76_6 o H locs ls E hZ hl hex
      have E : f_X7_mixedGroup_B76 a1 a3 h (cd_lp (f_X7_mixedGroup_B76 a1 a3 h) n) (v76_4, v76_6) = some o := E
      unfold f_X7_mixedGroup_B76 at E
      dsimp only at E
      refine lv_iload S.1 S.2.1 dX7_mixedGroup_76 (lv_at hl 0 rfl) ?_
      refine lv_aload_n S.1 S.2.1 dX7_mixedGroup_78 rfl (lv_at hl 2 rfl) ?_
      refine cd_get7 (v := .ref (G.2.2.2.2 + 4)) S hK hZ cd_this7 0 cd_f_X7_15 rfl dX7_mixedGroup_79 ?_
      refine cd_get4 (v := .ref (G.2.2.2.2 + (4 + 2))) S hK hZ (cd_r7_0 cd_this7) 6 cd_f_X7_54 rfl dX7_mixedGroup_82 ?_
      refine cd_get5 (v := .int (cd_g h (4 + 2) 0)) S hK hZ (cd_r4_6 (cd_r7_0 cd_this7)) 0 cd_f_X7_171 rfl dX7_mixedGroup_85 ?_
      refine lv_icmp_ge (tgt := 133) S.1 S.2.1 dX7_mixedGroup_88 (by decide) (fun c14 => ?_) (fun c14 => ?_)
      · have E := cd_tE c14 E
        cases E
        exact hex H locs ls hZ (lv_sub hl [0, 1, 2, 3, 4] rfl)
      · have E := cd_fE c14 E
        refine lv_lload S.1 S.2.1 dX7_mixedGroup_91 (lv_at hl 1 rfl) ?_
        refine lv_aload_n S.1 S.2.1 dX7_mixedGroup_93 rfl (lv_at hl 2 rfl) ?_
        refine cd_get7 (v := .ref (G.2.2.2.2 + 4)) S hK hZ cd_this7 0 cd_f_X7_15 rfl dX7_mixedGroup_94 ?_
        refine lv_iload_n S.1 S.2.1 dX7_mixedGroup_97 rfl (lv_at hl 4 rfl) ?_
        refine lv_iload S.1 S.2.1 dX7_mixedGroup_98 (lv_at hl 0 rfl) ?_
        refine lv_iconst (v := 0) S.1 S.2.1 dX7_mixedGroup_100 (by decide) ?_
        obtain ⟨o15, E1, E⟩ := cd_bE E
        refine cd_cVi (As := [.int a3, .int v76_6, .int 0]) S hK hZ hl.1 (c_X4_timeFact l G 4 a3 v76_6 0 (cd_r7_0 cd_this7) h o15 E1) cd_v_X4_timeFact cd_m_X7_104 ⟨Nat.le_of_ble_eq_true rfl, Nat.le_of_ble_eq_true rfl⟩ ⟨rfl, rfl⟩ (ci := 4) (by decide) rfl (cd_r7_0 cd_this7) rfl rfl (Nat.le_of_ble_eq_true rfl) ⟨Nat.zero_le _, Nat.zero_le _⟩ dX7_mixedGroup_101 (fun H locs hZ => ?_)
        refine cd_cSl (As := [.long v76_4, .int o15]) S hK hZ hl.1 (c_X7_mixed l G v76_4 o15 h _ rfl) cd_v_X7_mixed cd_m_X7_164 ⟨Nat.le_of_ble_eq_true rfl, Nat.le_of_ble_eq_true rfl⟩ ⟨rfl, rfl⟩ rfl rfl (Nat.le_of_ble_eq_true rfl) ⟨Nat.zero_le _, Nat.zero_le _⟩ dX7_mixedGroup_104 (fun H locs hZ => ?_)
        obtain ⟨x18, ex18, E⟩ := cd_nmE E
        refine cd_topl ex18 ?_
        refine lv_lstore (lv' := [(4, .long x18), (6, .int v76_6), (0, .ref (G.2.2.2.2 + 0)), (1, .long a1), (3, .int a3)]) S.1 S.2.1 dX7_mixedGroup_107 hl (by decide) rfl (fun ls hl => ?_)
        refine lv_lload S.1 S.2.1 dX7_mixedGroup_109 (lv_at hl 0 rfl) ?_
        refine lv_aload_n S.1 S.2.1 dX7_mixedGroup_111 rfl (lv_at hl 2 rfl) ?_
        refine cd_get7 (v := .ref (G.2.2.2.2 + 4)) S hK hZ cd_this7 0 cd_f_X7_15 rfl dX7_mixedGroup_112 ?_
        refine lv_iload_n S.1 S.2.1 dX7_mixedGroup_115 rfl (lv_at hl 4 rfl) ?_
        refine lv_iload S.1 S.2.1 dX7_mixedGroup_116 (lv_at hl 1 rfl) ?_
        refine lv_iconst (v := 1) S.1 S.2.1 dX7_mixedGroup_118 (by decide) ?_
        obtain ⟨o19, E1, E⟩ := cd_bE E
        refine cd_cVi (As := [.int a3, .int v76_6, .int 1]) S hK hZ hl.1 (c_X4_timeFact l G 4 a3 v76_6 1 (cd_r7_0 cd_this7) h o19 E1) cd_v_X4_timeFact cd_m_X7_104 ⟨Nat.le_of_ble_eq_true rfl, Nat.le_of_ble_eq_true rfl⟩ ⟨rfl, rfl⟩ (ci := 4) (by decide) rfl (cd_r7_0 cd_this7) rfl rfl (Nat.le_of_ble_eq_true rfl) ⟨Nat.zero_le _, Nat.zero_le _⟩ dX7_mixedGroup_119 (fun H locs hZ => ?_)
        refine cd_cSl (As := [.long x18, .int o19]) S hK hZ hl.1 (c_X7_mixed l G x18 o19 h _ rfl) cd_v_X7_mixed cd_m_X7_164 ⟨Nat.le_of_ble_eq_true rfl, Nat.le_of_ble_eq_true rfl⟩ ⟨rfl, rfl⟩ rfl rfl (Nat.le_of_ble_eq_true rfl) ⟨Nat.zero_le _, Nat.zero_le _⟩ dX7_mixedGroup_122 (fun H locs hZ => ?_)
        obtain ⟨x22, ex22, E⟩ := cd_nmE E
        refine cd_topl ex22 ?_
        refine lv_lstore (lv' := [(4, .long x22), (6, .int v76_6), (0, .ref (G.2.2.2.2 + 0)), (1, .long a1), (3, .int a3)]) S.1 S.2.1 dX7_mixedGroup_125 hl (by decide) rfl (fun ls hl => ?_)
        obtain ⟨x23, ex23, E⟩ := cd_nmE E
        refine lv_iinc (v := x23) (lv' := [(6, .int x23), (4, .long x22), (0, .ref (G.2.2.2.2 + 0)), (1, .long a1), (3, .int a3)]) S.1 S.2.1 dX7_mixedGroup_127 hl (k := 1) rfl (by rw [ex23]; rfl) (by decide) rfl (fun ls hl => ?_)
        refine lv_goto (tgt := 76) S.1 S.2.1 dX7_mixedGroup_130 (by decide) ?_
        exact ih x22 x23 o H locs ls E hZ (lv_sub hl [0, 1, 2, 3, 4] rfl) hex
  unfold f_X7_mixedGroup at E
  refine lv_lload_n S.1 S.2.1 dX7_mixedGroup_0 rfl (lv_at hl 1 rfl) ?_
  refine lv_lstore (lv' := [(4, .long a1), (0, .ref (G.2.2.2.2 + 0)), (1, .long a1), (3, .int a3)]) S.1 S.2.1 dX7_mixedGroup_1 hl (by decide) rfl (fun ls hl => ?_)
  refine lv_iconst (v := 0) S.1 S.2.1 dX7_mixedGroup_3 (by decide) ?_
  refine lv_istore (lv' := [(6, .int 0), (4, .long a1), (0, .ref (G.2.2.2.2 + 0)), (1, .long a1), (3, .int a3)]) S.1 S.2.1 dX7_mixedGroup_4 hl (by decide) rfl (fun ls hl => ?_)
  obtain ⟨o7, E1, E⟩ := cd_bE E
  refine L6 cd_fu a1 0 o7 H locs ls E1 hZ (lv_sub hl [0, 1, 2, 3, 4] rfl) (fun H locs ls hZ hl => ?_)
  refine lv_iconst (v := 0) S.1 S.2.1 dX7_mixedGroup_36 (by decide) ?_
  refine lv_istore (lv' := [(6, .int 0), (4, .long o7.1), (0, .ref (G.2.2.2.2 + 0)), (1, .long a1), (3, .int a3)]) S.1 S.2.1 dX7_mixedGroup_37 hl (by decide) rfl (fun ls hl => ?_)
  obtain ⟨o13, E1, E⟩ := cd_bE E
  refine L39 cd_fu o7.1 0 o13 H locs ls E1 hZ (lv_sub hl [0, 1, 2, 3, 4] rfl) (fun H locs ls hZ hl => ?_)
  refine lv_iconst (v := 0) S.1 S.2.1 dX7_mixedGroup_73 (by decide) ?_
  refine lv_istore (lv' := [(6, .int 0), (4, .long o13.1), (0, .ref (G.2.2.2.2 + 0)), (1, .long a1), (3, .int a3)]) S.1 S.2.1 dX7_mixedGroup_74 hl (by decide) rfl (fun ls hl => ?_)
  obtain ⟨o24, E1, E⟩ := cd_bE E
  refine L76 cd_fu o13.1 0 o24 H locs ls E1 hZ (lv_sub hl [0, 1, 2, 3, 4] rfl) (fun H locs ls hZ hl => ?_)
  refine lv_lload S.1 S.2.1 dX7_mixedGroup_133 (lv_at hl 1 rfl) ?_
  exact hret _ _ _ _ _ _ (congrArg (fun z => (z, h)) (Option.some.inj E)) hZ dX7_mixedGroup_135
abbrev rm_X7_digest : Room := { frames := 6, cells := 0, slots := 0, locals := 144 }
theorem cd_v_X7_digest : cd_V yX7_digest cX7_digest 5 (some .long) 0 := ⟨cd_i_X7_digest, cd_e_X7_X7_digest, cd_n_X7, cd_c_X7_digest, by decide +kernel⟩
set_option maxHeartbeats 4000000 in
set_option maxRecDepth 100000 in
theorem c_X7_digest (l : Launch) (G : cd_G)  (h : cd_Hp) (out : Int64) (E : f_X7_digest h = some out) : cd_Ml l G yX7_digest (Cond.code yX7_digest cX7_digest 5 (some .long) :: cd_T) rm_X7_digest [.ref (G.2.2.2.2 + 0)] h (out, h) := by
  refine cd_inl (by decide) (Nat.le_of_ble_eq_true rfl) ?_
  intro p e s m args below meth c Q ls H locs S hK hZ hl hret
  have hl : lv_has ls 5 [(0, .ref (G.2.2.2.2 + 0))] := hl
  have L6 : ∀ (n : Nat) (v6_1 : Int64) (v6_3 : Int32) (o : (Int64 × Int32)) (H : Heap) (locs : List Loc) (ls : Array Slot), cd_lp (f_X7_digest_B6 h) n (v6_1, v6_3) = some o → cd_Z G h s.heap H locs → lv_has ls 5 [(3, .int v6_3), (1, .long v6_1), (0, .ref (G.2.2.2.2 + 0))] → (∀ (H : Heap) (locs : List Loc) (ls : Array Slot), cd_Z G h s.heap H locs → lv_has ls 5 [(3, .int o.2), (1, .long o.1), (0, .ref (G.2.2.2.2 + 0))] → W p l e rm_X7_digest s m args below meth c H locs 0 0 Q (F0 m 27 ls [])) → W p l e rm_X7_digest s m args below meth c H locs 0 0 Q (F0 m 6 ls []) := by
    intro n
    induction n with
    | zero => intro v6_1 v6_3 o H locs ls E; exact nomatch (show (none : Option (Int64 × Int32)) = some o from E)
    | succ n ih =>
      intro v6_1 v6_3 o H locs ls E hZ hl hex
      have E : f_X7_digest_B6 h (cd_lp (f_X7_digest_B6 h) n) (v6_1, v6_3) = some o := E
      unfold f_X7_digest_B6 at E
      dsimp only at E
      refine lv_iload_n S.1 S.2.1 dX7_digest_6 rfl (lv_at hl 0 rfl) ?_
      refine lv_iconst (v := 4) S.1 S.2.1 dX7_digest_7 (by decide) ?_
      refine lv_icmp_gt (tgt := 27) S.1 S.2.1 dX7_digest_8 (by decide) (fun c1 => ?_) (fun c1 => ?_)
      · have E := cd_tE c1 E
        cases E
        exact hex H locs ls hZ (lv_sub hl [0, 1, 2] rfl)
      · have E := cd_fE c1 E
        refine lv_lload_n S.1 S.2.1 dX7_digest_11 rfl (lv_at hl 1 rfl) ?_
        refine lv_aload_n S.1 S.2.1 dX7_digest_12 rfl (lv_at hl 2 rfl) ?_
        refine lv_iload_n S.1 S.2.1 dX7_digest_13 rfl (lv_at hl 0 rfl) ?_
        obtain ⟨o2, E1, E⟩ := cd_bE E
        refine cd_cVi (As := [.int v6_3]) S hK hZ hl.1 (c_X7_refusedFact l G v6_3 h o2 E1) cd_v_X7_refusedFact cd_m_X7_159 ⟨Nat.le_of_ble_eq_true rfl, Nat.le_of_ble_eq_true rfl⟩ ⟨rfl, rfl⟩ (ci := 7) (by decide) rfl cd_this7 rfl rfl (Nat.le_of_ble_eq_true rfl) ⟨Nat.zero_le _, Nat.zero_le _⟩ dX7_digest_14 (fun H locs hZ => ?_)
        refine cd_cSl (As := [.long v6_1, .int o2]) S hK hZ hl.1 (c_X7_mixed l G v6_1 o2 h _ rfl) cd_v_X7_mixed cd_m_X7_164 ⟨Nat.le_of_ble_eq_true rfl, Nat.le_of_ble_eq_true rfl⟩ ⟨rfl, rfl⟩ rfl rfl (Nat.le_of_ble_eq_true rfl) ⟨Nat.zero_le _, Nat.zero_le _⟩ dX7_digest_17 (fun H locs hZ => ?_)
        obtain ⟨x5, ex5, E⟩ := cd_nmE E
        refine cd_topl ex5 ?_
        refine lv_lstore_n (lv' := [(1, .long x5), (3, .int v6_3), (0, .ref (G.2.2.2.2 + 0))]) S.1 S.2.1 dX7_digest_20 rfl hl (by decide) rfl (fun ls hl => ?_)
        obtain ⟨x6, ex6, E⟩ := cd_nmE E
        refine lv_iinc (v := x6) (lv' := [(3, .int x6), (1, .long x5), (0, .ref (G.2.2.2.2 + 0))]) S.1 S.2.1 dX7_digest_21 hl (k := 1) rfl (by rw [ex6]; rfl) (by decide) rfl (fun ls hl => ?_)
        refine lv_goto (tgt := 6) S.1 S.2.1 dX7_digest_24 (by decide) ?_
        exact ih x5 x6 o H locs ls E hZ (lv_sub hl [0, 1, 2] rfl) hex
  have L29 : ∀ (n : Nat) (v29_1 : Int64) (v29_3 : Int32) (o : (Int64 × Int32)) (H : Heap) (locs : List Loc) (ls : Array Slot), cd_lp (f_X7_digest_B29 h) n (v29_1, v29_3) = some o → cd_Z G h s.heap H locs → lv_has ls 5 [(3, .int v29_3), (1, .long v29_1), (0, .ref (G.2.2.2.2 + 0))] → (∀ (H : Heap) (locs : List Loc) (ls : Array Slot), cd_Z G h s.heap H locs → lv_has ls 5 [(3, .int o.2), (1, .long o.1), (0, .ref (G.2.2.2.2 + 0))] → W p l e rm_X7_digest s m args below meth c H locs 0 0 Q (F0 m 54 ls [])) → W p l e rm_X7_digest s m args below meth c H locs 0 0 Q (F0 m 29 ls []) := by
    intro n
    induction n with
    | zero => intro v29_1 v29_3 o H locs ls E; exact nomatch (show (none : Option (Int64 × Int32)) = some o from E)
    | succ n ih =>
      intro v29_1 v29_3 o H locs ls E hZ hl hex
      have E : f_X7_digest_B29 h (cd_lp (f_X7_digest_B29 h) n) (v29_1, v29_3) = some o := E
      unfold f_X7_digest_B29 at E
      dsimp only at E
      refine lv_iload_n S.1 S.2.1 dX7_digest_29 rfl (lv_at hl 0 rfl) ?_
      refine lv_bipush (v := 8) S.1 S.2.1 dX7_digest_30 (by decide) ?_
      refine lv_icmp_gt (tgt := 54) S.1 S.2.1 dX7_digest_32 (by decide) (fun c8 => ?_) (fun c8 => ?_)
      · have E := cd_tE c8 E
        cases E
        exact hex H locs ls hZ (lv_sub hl [0, 1, 2] rfl)
      · have E := cd_fE c8 E
        refine lv_lload_n S.1 S.2.1 dX7_digest_35 rfl (lv_at hl 1 rfl) ?_
        refine lv_aload_n S.1 S.2.1 dX7_digest_36 rfl (lv_at hl 2 rfl) ?_
        refine cd_get7 (v := .ref (G.2.2.2.2 + 4)) S hK hZ cd_this7 0 cd_f_X7_15 rfl dX7_digest_37 ?_
        refine lv_iload_n S.1 S.2.1 dX7_digest_40 rfl (lv_at hl 0 rfl) ?_
        obtain ⟨o9, E1, E⟩ := cd_bE E
        refine cd_cVi (As := [.int v29_3]) S hK hZ hl.1 (c_X4_wholeFact l G 4 v29_3 (cd_r7_0 cd_this7) h o9 E1) cd_v_X4_wholeFact cd_m_X7_125 ⟨Nat.le_of_ble_eq_true rfl, Nat.le_of_ble_eq_true rfl⟩ ⟨rfl, rfl⟩ (ci := 4) (by decide) rfl (cd_r7_0 cd_this7) rfl rfl (Nat.le_of_ble_eq_true rfl) ⟨Nat.zero_le _, Nat.zero_le _⟩ dX7_digest_41 (fun H locs hZ => ?_)
        refine cd_cSl (As := [.long v29_1, .int o9]) S hK hZ hl.1 (c_X7_mixed l G v29_1 o9 h _ rfl) cd_v_X7_mixed cd_m_X7_164 ⟨Nat.le_of_ble_eq_true rfl, Nat.le_of_ble_eq_true rfl⟩ ⟨rfl, rfl⟩ rfl rfl (Nat.le_of_ble_eq_true rfl) ⟨Nat.zero_le _, Nat.zero_le _⟩ dX7_digest_44 (fun H locs hZ => ?_)
        obtain ⟨x12, ex12, E⟩ := cd_nmE E
        refine cd_topl ex12 ?_
        refine lv_lstore_n (lv' := [(1, .long x12), (3, .int v29_3), (0, .ref (G.2.2.2.2 + 0))]) S.1 S.2.1 dX7_digest_47 rfl hl (by decide) rfl (fun ls hl => ?_)
        obtain ⟨x13, ex13, E⟩ := cd_nmE E
        refine lv_iinc (v := x13) (lv' := [(3, .int x13), (1, .long x12), (0, .ref (G.2.2.2.2 + 0))]) S.1 S.2.1 dX7_digest_48 hl (k := 1) rfl (by rw [ex13]; rfl) (by decide) rfl (fun ls hl => ?_)
        refine lv_goto (tgt := 29) S.1 S.2.1 dX7_digest_51 (by decide) ?_
        exact ih x12 x13 o H locs ls E hZ (lv_sub hl [0, 1, 2] rfl) hex
  have L56 : ∀ (n : Nat) (v56_1 : Int64) (v56_3 : Int32) (o : (Int64 × Int32)) (H : Heap) (locs : List Loc) (ls : Array Slot), cd_lp (f_X7_digest_B56 h) n (v56_1, v56_3) = some o → cd_Z G h s.heap H locs → lv_has ls 5 [(3, .int v56_3), (1, .long v56_1), (0, .ref (G.2.2.2.2 + 0))] → (∀ (H : Heap) (locs : List Loc) (ls : Array Slot), cd_Z G h s.heap H locs → lv_has ls 5 [(3, .int o.2), (1, .long o.1), (0, .ref (G.2.2.2.2 + 0))] → W p l e rm_X7_digest s m args below meth c H locs 0 0 Q (F0 m 82 ls [])) → W p l e rm_X7_digest s m args below meth c H locs 0 0 Q (F0 m 56 ls []) := by
    intro n
    induction n with
    | zero => intro v56_1 v56_3 o H locs ls E; exact nomatch (show (none : Option (Int64 × Int32)) = some o from E)
    | succ n ih =>
      intro v56_1 v56_3 o H locs ls E hZ hl hex
      have E : f_X7_digest_B56 h (cd_lp (f_X7_digest_B56 h) n) (v56_1, v56_3) = some o := E
      unfold f_X7_digest_B56 at E
      dsimp only at E
      refine lv_iload_n S.1 S.2.1 dX7_digest_56 rfl (lv_at hl 0 rfl) ?_
      refine lv_bipush (v := 8) S.1 S.2.1 dX7_digest_57 (by decide) ?_
      refine lv_icmp_ge (tgt := 82) S.1 S.2.1 dX7_digest_59 (by decide) (fun c15 => ?_) (fun c15 => ?_)
      · have E := cd_tE c15 E
        cases E
        exact hex H locs ls hZ (lv_sub hl [0, 1, 2] rfl)
      · have E := cd_fE c15 E
        refine lv_lload_n S.1 S.2.1 dX7_digest_62 rfl (lv_at hl 1 rfl) ?_
        refine lv_aload_n S.1 S.2.1 dX7_digest_63 rfl (lv_at hl 2 rfl) ?_
        refine cd_get7 (v := .ref (G.2.2.2.2 + 4)) S hK hZ cd_this7 0 cd_f_X7_15 rfl dX7_digest_64 ?_
        refine cd_get4 (v := .ref (G.2.2.2.2 + (4 + 1))) S hK hZ (cd_r7_0 cd_this7) 5 cd_f_X7_168 rfl dX7_digest_67 ?_
        refine lv_iload_n S.1 S.2.1 dX7_digest_70 rfl (lv_at hl 0 rfl) ?_
        obtain ⟨z16, E⟩ := cd_ckE E
        refine cd_iald S hK hZ (cd_r4_5 (cd_r7_0 cd_this7)) z16 dX7_digest_71 ?_
        refine cd_cSl (As := [.long v56_1, .int (cd_g h (4 + 1) (v56_3.toNatClampNeg))]) S hK hZ hl.1 (c_X7_mixed l G v56_1 (cd_g h (4 + 1) (v56_3.toNatClampNeg)) h _ rfl) cd_v_X7_mixed cd_m_X7_164 ⟨Nat.le_of_ble_eq_true rfl, Nat.le_of_ble_eq_true rfl⟩ ⟨rfl, rfl⟩ rfl rfl (Nat.le_of_ble_eq_true rfl) ⟨Nat.zero_le _, Nat.zero_le _⟩ dX7_digest_72 (fun H locs hZ => ?_)
        obtain ⟨x18, ex18, E⟩ := cd_nmE E
        refine cd_topl ex18 ?_
        refine lv_lstore_n (lv' := [(1, .long x18), (3, .int v56_3), (0, .ref (G.2.2.2.2 + 0))]) S.1 S.2.1 dX7_digest_75 rfl hl (by decide) rfl (fun ls hl => ?_)
        obtain ⟨x19, ex19, E⟩ := cd_nmE E
        refine lv_iinc (v := x19) (lv' := [(3, .int x19), (1, .long x18), (0, .ref (G.2.2.2.2 + 0))]) S.1 S.2.1 dX7_digest_76 hl (k := 1) rfl (by rw [ex19]; rfl) (by decide) rfl (fun ls hl => ?_)
        refine lv_goto (tgt := 56) S.1 S.2.1 dX7_digest_79 (by decide) ?_
        exact ih x18 x19 o H locs ls E hZ (lv_sub hl [0, 1, 2] rfl) hex
  have L84 : ∀ (n : Nat) (v84_1 : Int64) (v84_3 : Int32) (o : (Int64 × Int32)) (H : Heap) (locs : List Loc) (ls : Array Slot), cd_lp (f_X7_digest_B84 h) n (v84_1, v84_3) = some o → cd_Z G h s.heap H locs → lv_has ls 5 [(3, .int v84_3), (1, .long v84_1), (0, .ref (G.2.2.2.2 + 0))] → (∀ (H : Heap) (locs : List Loc) (ls : Array Slot), cd_Z G h s.heap H locs → lv_has ls 5 [(3, .int o.2), (1, .long o.1), (0, .ref (G.2.2.2.2 + 0))] → W p l e rm_X7_digest s m args below meth c H locs 0 0 Q (F0 m 111 ls [])) → W p l e rm_X7_digest s m args below meth c H locs 0 0 Q (F0 m 84 ls []) := by
    intro n
    induction n with
    | zero => intro v84_1 v84_3 o H locs ls E; exact nomatch (show (none : Option (Int64 × Int32)) = some o from E)
    | succ n ih =>
      intro v84_1 v84_3 o H locs ls E hZ hl hex
      have E : f_X7_digest_B84 h (cd_lp (f_X7_digest_B84 h) n) (v84_1, v84_3) = some o := E
      unfold f_X7_digest_B84 at E
      dsimp only at E
      refine lv_iload_n S.1 S.2.1 dX7_digest_84 rfl (lv_at hl 0 rfl) ?_
      refine lv_aload_n S.1 S.2.1 dX7_digest_85 rfl (lv_at hl 2 rfl) ?_
      refine cd_get7 (v := .ref (G.2.2.2.2 + 4)) S hK hZ cd_this7 0 cd_f_X7_15 rfl dX7_digest_86 ?_
      refine cd_get4 (v := .ref (G.2.2.2.2 + (4 + 2))) S hK hZ (cd_r7_0 cd_this7) 6 cd_f_X7_54 rfl dX7_digest_89 ?_
      refine cd_get5 (v := .int (cd_g h (4 + 2) 0)) S hK hZ (cd_r4_6 (cd_r7_0 cd_this7)) 0 cd_f_X7_171 rfl dX7_digest_92 ?_
      refine lv_icmp_ge (tgt := 111) S.1 S.2.1 dX7_digest_95 (by decide) (fun c21 => ?_) (fun c21 => ?_)
      · have E := cd_tE c21 E
        cases E
        exact hex H locs ls hZ (lv_sub hl [0, 1, 2] rfl)
      · have E := cd_fE c21 E
        refine lv_aload_n S.1 S.2.1 dX7_digest_98 rfl (lv_at hl 2 rfl) ?_
        refine lv_lload_n S.1 S.2.1 dX7_digest_99 rfl (lv_at hl 1 rfl) ?_
        refine lv_iload_n S.1 S.2.1 dX7_digest_100 rfl (lv_at hl 0 rfl) ?_
        obtain ⟨o22, E1, E⟩ := cd_bE E
        refine cd_cVl (As := [.long v84_1, .int v84_3]) S hK hZ hl.1 (c_X7_mixedTask l G v84_1 v84_3 h o22 E1) cd_v_X7_mixedTask cd_m_X7_174 ⟨Nat.le_of_ble_eq_true rfl, Nat.le_of_ble_eq_true rfl⟩ ⟨rfl, rfl⟩ (ci := 7) (by decide) rfl cd_this7 rfl rfl (Nat.le_of_ble_eq_true rfl) ⟨Nat.zero_le _, Nat.zero_le _⟩ dX7_digest_101 (fun H locs hZ => ?_)
        refine lv_lstore_n (lv' := [(1, .long o22), (3, .int v84_3), (0, .ref (G.2.2.2.2 + 0))]) S.1 S.2.1 dX7_digest_104 rfl hl (by decide) rfl (fun ls hl => ?_)
        obtain ⟨x24, ex24, E⟩ := cd_nmE E
        refine lv_iinc (v := x24) (lv' := [(3, .int x24), (1, .long o22), (0, .ref (G.2.2.2.2 + 0))]) S.1 S.2.1 dX7_digest_105 hl (k := 1) rfl (by rw [ex24]; rfl) (by decide) rfl (fun ls hl => ?_)
        refine lv_goto (tgt := 84) S.1 S.2.1 dX7_digest_108 (by decide) ?_
        exact ih o22 x24 o H locs ls E hZ (lv_sub hl [0, 1, 2] rfl) hex
  have L113 : ∀ (n : Nat) (v113_1 : Int64) (v113_3 : Int32) (o : (Int64 × Int32)) (H : Heap) (locs : List Loc) (ls : Array Slot), cd_lp (f_X7_digest_B113 h) n (v113_1, v113_3) = some o → cd_Z G h s.heap H locs → lv_has ls 5 [(3, .int v113_3), (1, .long v113_1), (0, .ref (G.2.2.2.2 + 0))] → (∀ (H : Heap) (locs : List Loc) (ls : Array Slot), cd_Z G h s.heap H locs → lv_has ls 5 [(3, .int o.2), (1, .long o.1), (0, .ref (G.2.2.2.2 + 0))] → W p l e rm_X7_digest s m args below meth c H locs 0 0 Q (F0 m 137 ls [])) → W p l e rm_X7_digest s m args below meth c H locs 0 0 Q (F0 m 113 ls []) := by
    intro n
    induction n with
    | zero => intro v113_1 v113_3 o H locs ls E; exact nomatch (show (none : Option (Int64 × Int32)) = some o from E)
    | succ n ih =>
      intro v113_1 v113_3 o H locs ls E hZ hl hex
      have E : f_X7_digest_B113 h (cd_lp (f_X7_digest_B113 h) n) (v113_1, v113_3) = some o := E
      unfold f_X7_digest_B113 at E
      dsimp only at E
      refine lv_iload_n S.1 S.2.1 dX7_digest_113 rfl (lv_at hl 0 rfl) ?_
      refine lv_aload_n S.1 S.2.1 dX7_digest_114 rfl (lv_at hl 2 rfl) ?_
      refine cd_get7 (v := .ref (G.2.2.2.2 + 4)) S hK hZ cd_this7 0 cd_f_X7_15 rfl dX7_digest_115 ?_
      refine cd_get4 (v := .int (cd_g h 4 3)) S hK hZ (cd_r7_0 cd_this7) 3 cd_f_X7_177 rfl dX7_digest_118 ?_
      refine lv_icmp_ge (tgt := 137) S.1 S.2.1 dX7_digest_121 (by decide) (fun c26 => ?_) (fun c26 => ?_)
      · have E := cd_tE c26 E
        cases E
        exact hex H locs ls hZ (lv_sub hl [0, 1, 2] rfl)
      · have E := cd_fE c26 E
        refine lv_aload_n S.1 S.2.1 dX7_digest_124 rfl (lv_at hl 2 rfl) ?_
        refine lv_lload_n S.1 S.2.1 dX7_digest_125 rfl (lv_at hl 1 rfl) ?_
        refine lv_iload_n S.1 S.2.1 dX7_digest_126 rfl (lv_at hl 0 rfl) ?_
        obtain ⟨o27, E1, E⟩ := cd_bE E
        refine cd_cVl (As := [.long v113_1, .int v113_3]) S hK hZ hl.1 (c_X7_mixedGroup l G v113_1 v113_3 h o27 E1) cd_v_X7_mixedGroup cd_m_X7_178 ⟨Nat.le_of_ble_eq_true rfl, Nat.le_of_ble_eq_true rfl⟩ ⟨rfl, rfl⟩ (ci := 7) (by decide) rfl cd_this7 rfl rfl (Nat.le_of_ble_eq_true rfl) ⟨Nat.zero_le _, Nat.zero_le _⟩ dX7_digest_127 (fun H locs hZ => ?_)
        refine lv_lstore_n (lv' := [(1, .long o27), (3, .int v113_3), (0, .ref (G.2.2.2.2 + 0))]) S.1 S.2.1 dX7_digest_130 rfl hl (by decide) rfl (fun ls hl => ?_)
        obtain ⟨x29, ex29, E⟩ := cd_nmE E
        refine lv_iinc (v := x29) (lv' := [(3, .int x29), (1, .long o27), (0, .ref (G.2.2.2.2 + 0))]) S.1 S.2.1 dX7_digest_131 hl (k := 1) rfl (by rw [ex29]; rfl) (by decide) rfl (fun ls hl => ?_)
        refine lv_goto (tgt := 113) S.1 S.2.1 dX7_digest_134 (by decide) ?_
        exact ih o27 x29 o H locs ls E hZ (lv_sub hl [0, 1, 2] rfl) hex
  have L156 : ∀ (p156_3 : Int32), ∀ (n : Nat) (v156_1 : Int64) (v156_4 : Int32) (o : (Int64 × Int32)) (H : Heap) (locs : List Loc) (ls : Array Slot), cd_lp (f_X7_digest_B156 p156_3 h) n (v156_1, v156_4) = some o → cd_Z G h s.heap H locs → lv_has ls 5 [(4, .int v156_4), (3, .int p156_3), (1, .long v156_1), (0, .ref (G.2.2.2.2 + 0))] → (∀ (H : Heap) (locs : List Loc) (ls : Array Slot), cd_Z G h s.heap H locs → lv_has ls 5 [(4, .int o.2), (3, .int p156_3), (1, .long o.1), (0, .ref (G.2.2.2.2 + 0))] → W p l e rm_X7_digest s m args below meth c H locs 0 0 Q (F0 m 186 ls [])) → W p l e rm_X7_digest s m args below meth c H locs 0 0 Q (F0 m 156 ls []) := by
    intro p156_3
    intro n
    induction n with
    | zero => intro v156_1 v156_4 o H locs ls E; exact nomatch (show (none : Option (Int64 × Int32)) = some o from E)
    | succ n ih =>
      intro v156_1 v156_4 o H locs ls E hZ hl hex
      have E : f_X7_digest_B156 p156_3 h (cd_lp (f_X7_digest_B156 p156_3 h) n) (v156_1, v156_4) = some o := E
      unfold f_X7_digest_B156 at E
      dsimp only at E
      refine lv_iload S.1 S.2.1 dX7_digest_156 (lv_at hl 0 rfl) ?_
      refine lv_iconst (v := 2) S.1 S.2.1 dX7_digest_158 (by decide) ?_
      refine lv_icmp_gt (tgt := 186) S.1 S.2.1 dX7_digest_159 (by decide) (fun c32 => ?_) (fun c32 => ?_)
      · have E := cd_tE c32 E
        cases E
        exact hex H locs ls hZ (lv_sub hl [0, 1, 2, 3] rfl)
      · have E := cd_fE c32 E
        refine lv_lload_n S.1 S.2.1 dX7_digest_162 rfl (lv_at hl 2 rfl) ?_
        refine lv_aload_n S.1 S.2.1 dX7_digest_163 rfl (lv_at hl 3 rfl) ?_
        refine cd_get7 (v := .ref (G.2.2.2.2 + 4)) S hK hZ cd_this7 0 cd_f_X7_15 rfl dX7_digest_164 ?_
        refine cd_get4 (v := .ref (G.2.2.2.2 + (4 + 8))) S hK hZ (cd_r7_0 cd_this7) 9 cd_f_X7_116 rfl dX7_digest_167 ?_
        refine lv_iload_n S.1 S.2.1 dX7_digest_170 rfl (lv_at hl 1 rfl) ?_
        refine lv_iload S.1 S.2.1 dX7_digest_171 (lv_at hl 0 rfl) ?_
        obtain ⟨o33, E1, E⟩ := cd_bE E
        refine cd_cVi (As := [.int p156_3, .int v156_4]) S hK hZ hl.1 (c_X2_keptFact l G (4 + 8) p156_3 v156_4 (cd_r4_9 (cd_r7_0 cd_this7)) h o33 E1) cd_v_X2_keptFact cd_m_X7_120 ⟨Nat.le_of_ble_eq_true rfl, Nat.le_of_ble_eq_true rfl⟩ ⟨rfl, rfl⟩ (ci := 2) (by decide) rfl (cd_r4_9 (cd_r7_0 cd_this7)) rfl rfl (Nat.le_of_ble_eq_true rfl) ⟨Nat.zero_le _, Nat.zero_le _⟩ dX7_digest_173 (fun H locs hZ => ?_)
        refine cd_cSl (As := [.long v156_1, .int o33]) S hK hZ hl.1 (c_X7_mixed l G v156_1 o33 h _ rfl) cd_v_X7_mixed cd_m_X7_164 ⟨Nat.le_of_ble_eq_true rfl, Nat.le_of_ble_eq_true rfl⟩ ⟨rfl, rfl⟩ rfl rfl (Nat.le_of_ble_eq_true rfl) ⟨Nat.zero_le _, Nat.zero_le _⟩ dX7_digest_176 (fun H locs hZ => ?_)
        obtain ⟨x36, ex36, E⟩ := cd_nmE E
        refine cd_topl ex36 ?_
        refine lv_lstore_n (lv' := [(1, .long x36), (4, .int v156_4), (3, .int p156_3), (0, .ref (G.2.2.2.2 + 0))]) S.1 S.2.1 dX7_digest_179 rfl hl (by decide) rfl (fun ls hl => ?_)
        obtain ⟨x37, ex37, E⟩ := cd_nmE E
        refine lv_iinc (v := x37) (lv' := [(4, .int x37), (1, .long x36), (3, .int p156_3), (0, .ref (G.2.2.2.2 + 0))]) S.1 S.2.1 dX7_digest_180 hl (k := 1) rfl (by rw [ex37]; rfl) (by decide) rfl (fun ls hl => ?_)
        refine lv_goto (tgt := 156) S.1 S.2.1 dX7_digest_183 (by decide) ?_
        exact ih x36 x37 o H locs ls E hZ (lv_sub hl [0, 2, 1, 3] rfl) hex
  have L139 : ∀ (n : Nat) (v139_1 : Int64) (v139_3 : Int32) (o : (Int64 × Int32)) (H : Heap) (locs : List Loc) (ls : Array Slot), cd_lp (f_X7_digest_B139 h) n (v139_1, v139_3) = some o → cd_Z G h s.heap H locs → lv_has ls 5 [(3, .int v139_3), (1, .long v139_1), (0, .ref (G.2.2.2.2 + 0))] → (∀ (H : Heap) (locs : List Loc) (ls : Array Slot), cd_Z G h s.heap H locs → lv_has ls 5 [(3, .int o.2), (1, .long o.1), (0, .ref (G.2.2.2.2 + 0))] → W p l e rm_X7_digest s m args below meth c H locs 0 0 Q (F0 m 192 ls [])) → W p l e rm_X7_digest s m args below meth c H locs 0 0 Q (F0 m 139 ls []) := by
    intro n
    induction n with
    | zero => intro v139_1 v139_3 o H locs ls E; exact nomatch (show (none : Option (Int64 × Int32)) = some o from E)
    | succ n ih =>
      intro v139_1 v139_3 o H locs ls E hZ hl hex
      have E : f_X7_digest_B139 h (cd_lp (f_X7_digest_B139 h) n) (v139_1, v139_3) = some o := E
      unfold f_X7_digest_B139 at E
      dsimp only at E
      refine lv_iload_n S.1 S.2.1 dX7_digest_139 rfl (lv_at hl 0 rfl) ?_
      refine lv_aload_n S.1 S.2.1 dX7_digest_140 rfl (lv_at hl 2 rfl) ?_
      refine cd_get7 (v := .ref (G.2.2.2.2 + 4)) S hK hZ cd_this7 0 cd_f_X7_15 rfl dX7_digest_141 ?_
      refine cd_get4 (v := .ref (G.2.2.2.2 + (4 + 8))) S hK hZ (cd_r7_0 cd_this7) 9 cd_f_X7_116 rfl dX7_digest_144 ?_
      refine cd_get2 (v := .int (cd_g h (4 + 8) 1)) S hK hZ (cd_r4_9 (cd_r7_0 cd_this7)) 1 cd_f_X7_181 rfl dX7_digest_147 ?_
      refine lv_icmp_ge (tgt := 192) S.1 S.2.1 dX7_digest_150 (by decide) (fun c31 => ?_) (fun c31 => ?_)
      · have E := cd_tE c31 E
        cases E
        exact hex H locs ls hZ (lv_sub hl [0, 1, 2] rfl)
      · have E := cd_fE c31 E
        refine lv_iconst (v := 0) S.1 S.2.1 dX7_digest_153 (by decide) ?_
        refine lv_istore (lv' := [(4, .int 0), (3, .int v139_3), (1, .long v139_1), (0, .ref (G.2.2.2.2 + 0))]) S.1 S.2.1 dX7_digest_154 hl (by decide) rfl (fun ls hl => ?_)
        obtain ⟨o38, E1, E⟩ := cd_bE E
        refine L156 v139_3 cd_fu v139_1 0 o38 H locs ls E1 hZ (lv_sub hl [0, 1, 2, 3] rfl) (fun H locs ls hZ hl => ?_)
        obtain ⟨x39, ex39, E⟩ := cd_nmE E
        refine lv_iinc (v := x39) (lv' := [(3, .int x39), (4, .int o38.2), (1, .long o38.1), (0, .ref (G.2.2.2.2 + 0))]) S.1 S.2.1 dX7_digest_186 hl (k := 1) rfl (by rw [ex39]; rfl) (by decide) rfl (fun ls hl => ?_)
        refine lv_goto (tgt := 139) S.1 S.2.1 dX7_digest_189 (by decide) ?_
        exact ih o38.1 x39 o H locs ls E hZ (lv_sub hl [0, 2, 3] rfl) hex
  unfold f_X7_digest at E
  refine lv_ldc2 (v := 2707) S.1 S.2.1 S.2.2.2.1 (S.2.2.2.2 _ cd_l_X7_162) dX7_digest_0 ?_
  refine lv_lstore_n (lv' := [(1, .long 2707), (0, .ref (G.2.2.2.2 + 0))]) S.1 S.2.1 dX7_digest_3 rfl hl (by decide) rfl (fun ls hl => ?_)
  refine lv_iconst (v := 0) S.1 S.2.1 dX7_digest_4 (by decide) ?_
  refine lv_istore_n (lv' := [(3, .int 0), (1, .long 2707), (0, .ref (G.2.2.2.2 + 0))]) S.1 S.2.1 dX7_digest_5 rfl hl (by decide) rfl (fun ls hl => ?_)
  obtain ⟨o7, E1, E⟩ := cd_bE E
  refine L6 cd_fu 2707 0 o7 H locs ls E1 hZ (lv_sub hl [0, 1, 2] rfl) (fun H locs ls hZ hl => ?_)
  refine lv_iconst (v := 0) S.1 S.2.1 dX7_digest_27 (by decide) ?_
  refine lv_istore_n (lv' := [(3, .int 0), (1, .long o7.1), (0, .ref (G.2.2.2.2 + 0))]) S.1 S.2.1 dX7_digest_28 rfl hl (by decide) rfl (fun ls hl => ?_)
  obtain ⟨o14, E1, E⟩ := cd_bE E
  refine L29 cd_fu o7.1 0 o14 H locs ls E1 hZ (lv_sub hl [0, 1, 2] rfl) (fun H locs ls hZ hl => ?_)
  refine lv_iconst (v := 0) S.1 S.2.1 dX7_digest_54 (by decide) ?_
  refine lv_istore_n (lv' := [(3, .int 0), (1, .long o14.1), (0, .ref (G.2.2.2.2 + 0))]) S.1 S.2.1 dX7_digest_55 rfl hl (by decide) rfl (fun ls hl => ?_)
  obtain ⟨o20, E1, E⟩ := cd_bE E
  refine L56 cd_fu o14.1 0 o20 H locs ls E1 hZ (lv_sub hl [0, 1, 2] rfl) (fun H locs ls hZ hl => ?_)
  refine lv_iconst (v := 0) S.1 S.2.1 dX7_digest_82 (by decide) ?_
  refine lv_istore_n (lv' := [(3, .int 0), (1, .long o20.1), (0, .ref (G.2.2.2.2 + 0))]) S.1 S.2.1 dX7_digest_83 rfl hl (by decide) rfl (fun ls hl => ?_)
  obtain ⟨o25, E1, E⟩ := cd_bE E
  refine L84 cd_fu o20.1 0 o25 H locs ls E1 hZ (lv_sub hl [0, 1, 2] rfl) (fun H locs ls hZ hl => ?_)
  refine lv_iconst (v := 0) S.1 S.2.1 dX7_digest_111 (by decide) ?_
  refine lv_istore_n (lv' := [(3, .int 0), (1, .long o25.1), (0, .ref (G.2.2.2.2 + 0))]) S.1 S.2.1 dX7_digest_112 rfl hl (by decide) rfl (fun ls hl => ?_)
  obtain ⟨o30, E1, E⟩ := cd_bE E
  refine L113 cd_fu o25.1 0 o30 H locs ls E1 hZ (lv_sub hl [0, 1, 2] rfl) (fun H locs ls hZ hl => ?_)
  refine lv_iconst (v := 0) S.1 S.2.1 dX7_digest_137 (by decide) ?_
  refine lv_istore_n (lv' := [(3, .int 0), (1, .long o30.1), (0, .ref (G.2.2.2.2 + 0))]) S.1 S.2.1 dX7_digest_138 rfl hl (by decide) rfl (fun ls hl => ?_)
  obtain ⟨o40, E1, E⟩ := cd_bE E
  refine L139 cd_fu o30.1 0 o40 H locs ls E1 hZ (lv_sub hl [0, 1, 2] rfl) (fun H locs ls hZ hl => ?_)
  refine lv_lload_n S.1 S.2.1 dX7_digest_192 rfl (lv_at hl 1 rfl) ?_
  exact hret _ _ _ _ _ _ (congrArg (fun z => (z, h)) (Option.some.inj E)) hZ dX7_digest_193
abbrev rm_X8_in : Room := { frames := 0, cells := 0, slots := 0, locals := 0 }
theorem cd_v_X8_in : cd_Vs yX8_in cX8_in 3 (some .boolean) 3 := ⟨cd_s_X8_in, cd_n_X8, cd_c_X8_in, by decide +kernel⟩
set_option maxHeartbeats 4000000 in
set_option maxRecDepth 100000 in
theorem c_X8_in (l : Launch) (G : cd_G) (a0 : Int32) (a1 : Int32) (a2 : Int32) (h : cd_Hp) (out : Int32) (E : f_X8_in a0 a1 a2 = out) : cd_Mz l G yX8_in (Cond.code yX8_in cX8_in 3 (some .boolean) :: cd_T) rm_X8_in [.int a0, .int a1, .int a2] h (out, h) := by
  refine cd_inz (by decide) (Nat.le_of_ble_eq_true rfl) ?_
  intro p e s m args below meth c Q ls H locs S hK hZ hl hret
  have hl : lv_has ls 3 [(0, .int a0), (1, .int a1), (2, .int a2)] := hl
  unfold f_X8_in at E
  refine lv_iload_n S.1 S.2.1 dX8_in_0 rfl (lv_at hl 0 rfl) ?_
  refine lv_iload_n S.1 S.2.1 dX8_in_1 rfl (lv_at hl 1 rfl) ?_
  refine lv_icmp_lt (tgt := 14) S.1 S.2.1 dX8_in_2 (by decide) (fun c1 => ?_) (fun c1 => ?_)
  · have E := cd_tE c1 E
    refine lv_iconst (v := 0) S.1 S.2.1 dX8_in_14 (by decide) ?_
    exact hret _ _ _ _ _ _ (by decide) (congrArg (fun z => (z, h)) (E)) hZ dX8_in_15
  · have E := cd_fE c1 E
    refine lv_iload_n S.1 S.2.1 dX8_in_5 rfl (lv_at hl 0 rfl) ?_
    refine lv_iload_n S.1 S.2.1 dX8_in_6 rfl (lv_at hl 2 rfl) ?_
    refine lv_icmp_gt (tgt := 14) S.1 S.2.1 dX8_in_7 (by decide) (fun c2 => ?_) (fun c2 => ?_)
    · have E := cd_tE c2 E
      refine lv_iconst (v := 0) S.1 S.2.1 dX8_in_14 (by decide) ?_
      exact hret _ _ _ _ _ _ (by decide) (congrArg (fun z => (z, h)) (E)) hZ dX8_in_15
    · have E := cd_fE c2 E
      refine lv_iconst (v := 1) S.1 S.2.1 dX8_in_10 (by decide) ?_
      refine lv_goto (tgt := 15) S.1 S.2.1 dX8_in_11 (by decide) ?_
      exact hret _ _ _ _ _ _ (by decide) (congrArg (fun z => (z, h)) (E)) hZ dX8_in_15
abbrev rm_X8_has : Room := { frames := 0, cells := 0, slots := 0, locals := 0 }
theorem cd_v_X8_has : cd_Vs yX8_has cX8_has 2 (some .boolean) 2 := ⟨cd_s_X8_has, cd_n_X8, cd_c_X8_has, by decide +kernel⟩
set_option maxHeartbeats 4000000 in
set_option maxRecDepth 100000 in
theorem c_X8_has (l : Launch) (G : cd_G) (a0 : Int32) (a1 : Int32) (h : cd_Hp) (out : Int32) (E : f_X8_has a0 a1 = out) : cd_Mz l G yX8_has (Cond.code yX8_has cX8_has 2 (some .boolean) :: cd_T) rm_X8_has [.int a0, .int a1] h (out, h) := by
  refine cd_inz (by decide) (Nat.le_of_ble_eq_true rfl) ?_
  intro p e s m args below meth c Q ls H locs S hK hZ hl hret
  have hl : lv_has ls 2 [(0, .int a0), (1, .int a1)] := hl
  unfold f_X8_has at E
  refine lv_iload_n S.1 S.2.1 dX8_has_0 rfl (lv_at hl 0 rfl) ?_
  refine lv_iload_n S.1 S.2.1 dX8_has_1 rfl (lv_at hl 1 rfl) ?_
  refine lv_ishr S.1 S.2.1 dX8_has_2 ?_
  refine lv_iconst (v := 1) S.1 S.2.1 dX8_has_3 (by decide) ?_
  refine lv_iand S.1 S.2.1 dX8_has_4 ?_
  refine lv_iconst (v := 1) S.1 S.2.1 dX8_has_5 (by decide) ?_
  refine lv_icmp_ne (tgt := 13) S.1 S.2.1 dX8_has_6 (by decide) (fun c1 => ?_) (fun c1 => ?_)
  · have E := cd_fE c1 E
    refine lv_iconst (v := 0) S.1 S.2.1 dX8_has_13 (by decide) ?_
    exact hret _ _ _ _ _ _ (by decide) (congrArg (fun z => (z, h)) (E)) hZ dX8_has_14
  · have E := cd_tE c1 E
    refine lv_iconst (v := 1) S.1 S.2.1 dX8_has_9 (by decide) ?_
    refine lv_goto (tgt := 14) S.1 S.2.1 dX8_has_10 (by decide) ?_
    exact hret _ _ _ _ _ _ (by decide) (congrArg (fun z => (z, h)) (E)) hZ dX8_has_14
abbrev rm_X8_bad : Room := { frames := 0, cells := 0, slots := 0, locals := 0 }
theorem cd_v_X8_bad : cd_V yX8_bad cX8_bad 1 (some .int) 0 := ⟨cd_i_X8_bad, cd_e_X8_X8_bad, cd_n_X8, cd_c_X8_bad, by decide +kernel⟩
set_option maxHeartbeats 4000000 in
set_option maxRecDepth 100000 in
theorem c_X8_bad (l : Launch) (G : cd_G)  (h : cd_Hp) (out : (Int32 × cd_Hp)) (E : f_X8_bad h = out) : cd_Mi l G yX8_bad (Cond.code yX8_bad cX8_bad 1 (some .int) :: cd_T) rm_X8_bad [.ref (G.2.2.2.2 + 404)] h out := by
  refine cd_ini (by decide) (Nat.le_of_ble_eq_true rfl) ?_
  intro p e s m args below meth c Q ls H locs S hK hZ hl hret
  have hl : lv_has ls 1 [(0, .ref (G.2.2.2.2 + 404))] := hl
  unfold f_X8_bad at E
  refine lv_aload_n S.1 S.2.1 dX8_bad_0 rfl (lv_at hl 0 rfl) ?_
  refine cd_get8 (v := .ref (G.2.2.2.2 + 408)) S hK hZ cd_this8 4 cd_f_X8_19 rfl dX8_bad_1 ?_
  refine lv_iconst (v := 0) S.1 S.2.1 dX8_bad_4 (by decide) ?_
  refine lv_dup2_11 S.1 S.2.1 dX8_bad_5 rfl rfl ?_
  refine cd_iald S hK hZ (cd_r8_4 cd_this8) (by decide) dX8_bad_6 ?_
  refine lv_iconst (v := 1) S.1 S.2.1 dX8_bad_7 (by decide) ?_
  refine lv_iadd S.1 S.2.1 dX8_bad_8 ?_
  obtain ⟨h1, eh1, E⟩ := cd_nmE E
  refine cd_iast S hK hZ (cd_r8_4 cd_this8) (by decide) eh1 dX8_bad_9 (fun H locs hZ => ?_)
  refine lv_bipush (v := (-2)) S.1 S.2.1 dX8_bad_10 (by decide) ?_
  exact hret _ _ _ _ _ _ (E) hZ dX8_bad_12
abbrev rm_X8_no : Room := { frames := 0, cells := 0, slots := 0, locals := 0 }
theorem cd_v_X8_no : cd_V yX8_no cX8_no 1 (some .int) 0 := ⟨cd_i_X8_no, cd_e_X8_X8_no, cd_n_X8, cd_c_X8_no, by decide +kernel⟩
set_option maxHeartbeats 4000000 in
set_option maxRecDepth 100000 in
theorem c_X8_no (l : Launch) (G : cd_G)  (h : cd_Hp) (out : (Int32 × cd_Hp)) (E : f_X8_no h = out) : cd_Mi l G yX8_no (Cond.code yX8_no cX8_no 1 (some .int) :: cd_T) rm_X8_no [.ref (G.2.2.2.2 + 404)] h out := by
  refine cd_ini (by decide) (Nat.le_of_ble_eq_true rfl) ?_
  intro p e s m args below meth c Q ls H locs S hK hZ hl hret
  have hl : lv_has ls 1 [(0, .ref (G.2.2.2.2 + 404))] := hl
  unfold f_X8_no at E
  refine lv_aload_n S.1 S.2.1 dX8_no_0 rfl (lv_at hl 0 rfl) ?_
  refine cd_get8 (v := .ref (G.2.2.2.2 + 408)) S hK hZ cd_this8 4 cd_f_X8_19 rfl dX8_no_1 ?_
  refine lv_iconst (v := 1) S.1 S.2.1 dX8_no_4 (by decide) ?_
  refine lv_dup2_11 S.1 S.2.1 dX8_no_5 rfl rfl ?_
  refine cd_iald S hK hZ (cd_r8_4 cd_this8) (by decide) dX8_no_6 ?_
  refine lv_iconst (v := 1) S.1 S.2.1 dX8_no_7 (by decide) ?_
  refine lv_iadd S.1 S.2.1 dX8_no_8 ?_
  obtain ⟨h1, eh1, E⟩ := cd_nmE E
  refine cd_iast S hK hZ (cd_r8_4 cd_this8) (by decide) eh1 dX8_no_9 (fun H locs hZ => ?_)
  refine lv_bipush (v := (-3)) S.1 S.2.1 dX8_no_10 (by decide) ?_
  exact hret _ _ _ _ _ _ (E) hZ dX8_no_12
abbrev rm_X8_full : Room := { frames := 0, cells := 0, slots := 0, locals := 0 }
theorem cd_v_X8_full : cd_V yX8_full cX8_full 1 (some .int) 0 := ⟨cd_i_X8_full, cd_e_X8_X8_full, cd_n_X8, cd_c_X8_full, by decide +kernel⟩
set_option maxHeartbeats 4000000 in
set_option maxRecDepth 100000 in
theorem c_X8_full (l : Launch) (G : cd_G)  (h : cd_Hp) (out : (Int32 × cd_Hp)) (E : f_X8_full h = out) : cd_Mi l G yX8_full (Cond.code yX8_full cX8_full 1 (some .int) :: cd_T) rm_X8_full [.ref (G.2.2.2.2 + 404)] h out := by
  refine cd_ini (by decide) (Nat.le_of_ble_eq_true rfl) ?_
  intro p e s m args below meth c Q ls H locs S hK hZ hl hret
  have hl : lv_has ls 1 [(0, .ref (G.2.2.2.2 + 404))] := hl
  unfold f_X8_full at E
  refine lv_aload_n S.1 S.2.1 dX8_full_0 rfl (lv_at hl 0 rfl) ?_
  refine cd_get8 (v := .ref (G.2.2.2.2 + 408)) S hK hZ cd_this8 4 cd_f_X8_19 rfl dX8_full_1 ?_
  refine lv_iconst (v := 2) S.1 S.2.1 dX8_full_4 (by decide) ?_
  refine lv_dup2_11 S.1 S.2.1 dX8_full_5 rfl rfl ?_
  refine cd_iald S hK hZ (cd_r8_4 cd_this8) (by decide) dX8_full_6 ?_
  refine lv_iconst (v := 1) S.1 S.2.1 dX8_full_7 (by decide) ?_
  refine lv_iadd S.1 S.2.1 dX8_full_8 ?_
  obtain ⟨h1, eh1, E⟩ := cd_nmE E
  refine cd_iast S hK hZ (cd_r8_4 cd_this8) (by decide) eh1 dX8_full_9 (fun H locs hZ => ?_)
  refine lv_bipush (v := (-4)) S.1 S.2.1 dX8_full_10 (by decide) ?_
  exact hret _ _ _ _ _ _ (E) hZ dX8_full_12
abbrev rm_X8_remembers : Room := { frames := 0, cells := 0, slots := 0, locals := 0 }
theorem cd_v_X8_remembers : cd_V yX8_remembers cX8_remembers 2 none 0 := ⟨cd_i_X8_remembers, cd_e_X8_X8_remembers, cd_n_X8, cd_c_X8_remembers, by decide +kernel⟩
set_option maxHeartbeats 4000000 in
set_option maxRecDepth 100000 in
theorem c_X8_remembers (l : Launch) (G : cd_G)  (h : cd_Hp) (out : cd_Hp) (E : f_X8_remembers h = some out) : cd_Mv l G yX8_remembers (Cond.code yX8_remembers cX8_remembers 2 none :: cd_T) rm_X8_remembers [.ref (G.2.2.2.2 + 404)] h out := by
  refine cd_inv (by decide) (Nat.le_of_ble_eq_true rfl) ?_
  intro p e s m args below meth c Q ls H locs S hK hZ hl hret
  have hl : lv_has ls 2 [(0, .ref (G.2.2.2.2 + 404))] := hl
  have L51 : ∀ (n : Nat) (v51_1 : Int32) (h51_ : cd_Hp) (o : (Int32 × cd_Hp)) (H : Heap) (locs : List Loc) (ls : Array Slot), cd_lp (f_X8_remembers_B51) n (v51_1, h51_) = some o → cd_Z G h51_ s.heap H locs → lv_has ls 2 [(1, .int v51_1), (0, .ref (G.2.2.2.2 + 404))] → (∀ (H : Heap) (locs : List Loc) (ls : Array Slot), cd_Z G o.2 s.heap H locs → lv_has ls 2 [(1, .int o.1), (0, .ref (G.2.2.2.2 + 404))] → W p l e rm_X8_remembers s m args below meth c H locs 0 0 Q (F0 m 85 ls [])) → W p l e rm_X8_remembers s m args below meth c H locs 0 0 Q (F0 m 51 ls []) := by
    intro n
    induction n with
    | zero => intro v51_1 h51_ o H locs ls E; exact nomatch (show (none : Option (Int32 × cd_Hp)) = some o from E)
    | succ n ih =>
      intro v51_1 h51_ o H locs ls E hZ hl hex
      have E : f_X8_remembers_B51 (cd_lp (f_X8_remembers_B51) n) (v51_1, h51_) = some o := E
      unfold f_X8_remembers_B51 at E
      dsimp only at E
      refine lv_iload_n S.1 S.2.1 dX8_remembers_51 rfl (lv_at hl 0 rfl) ?_
      refine lv_sipush (v := 659) S.1 S.2.1 dX8_remembers_52 (by decide) ?_
      refine lv_icmp_ge (tgt := 85) S.1 S.2.1 dX8_remembers_55 (by decide) (fun c2 => ?_) (fun c2 => ?_)
      · have E := cd_tE c2 E
        cases E
        exact hex H locs ls hZ (lv_sub hl [0, 1] rfl)
      · have E := cd_fE c2 E
        refine lv_aload_n S.1 S.2.1 dX8_remembers_58 rfl (lv_at hl 1 rfl) ?_
        refine cd_get8 (v := .ref (G.2.2.2.2 + 407)) S hK hZ cd_this8 2 cd_f_X8_16 rfl dX8_remembers_59 ?_
        refine lv_sipush (v := 659) S.1 S.2.1 dX8_remembers_62 (by decide) ?_
        refine lv_aload_n S.1 S.2.1 dX8_remembers_65 rfl (lv_at hl 1 rfl) ?_
        refine cd_get8 (v := .int (cd_g h51_ 404 3)) S hK hZ cd_this8 3 cd_f_X8_43 rfl dX8_remembers_66 ?_
        refine lv_imul S.1 S.2.1 dX8_remembers_69 ?_
        refine lv_iload_n S.1 S.2.1 dX8_remembers_70 rfl (lv_at hl 0 rfl) ?_
        refine lv_iadd S.1 S.2.1 dX8_remembers_71 ?_
        refine lv_aload_n S.1 S.2.1 dX8_remembers_72 rfl (lv_at hl 1 rfl) ?_
        refine cd_get8 (v := .ref (G.2.2.2.2 + 405)) S hK hZ cd_this8 0 cd_f_X8_7 rfl dX8_remembers_73 ?_
        refine lv_iload_n S.1 S.2.1 dX8_remembers_76 rfl (lv_at hl 0 rfl) ?_
        obtain ⟨z3, E⟩ := cd_ckE E
        refine cd_iald S hK hZ (cd_r8_0 cd_this8) z3 dX8_remembers_77 ?_
        obtain ⟨z4, E⟩ := cd_ckE E
        obtain ⟨h5, eh5, E⟩ := cd_nmE E
        refine cd_iast S hK hZ (cd_r8_2 cd_this8) z4 eh5 dX8_remembers_78 (fun H locs hZ => ?_)
        obtain ⟨x6, ex6, E⟩ := cd_nmE E
        refine lv_iinc (v := x6) (lv' := [(1, .int x6), (0, .ref (G.2.2.2.2 + 404))]) S.1 S.2.1 dX8_remembers_79 hl (k := 0) rfl (by rw [ex6]; rfl) (by decide) rfl (fun ls hl => ?_)
        refine lv_goto (tgt := 51) S.1 S.2.1 dX8_remembers_82 (by decide) ?_
        exact ih x6 h5 o H locs ls E hZ (lv_sub hl [0, 1] rfl) hex
  have L10 : ∀ (n : Nat) (v10_1 : Int32) (h10_ : cd_Hp) (o : (Int32 × cd_Hp)) (H : Heap) (locs : List Loc) (ls : Array Slot), cd_lp (f_X8_remembers_B10) n (v10_1, h10_) = some o → cd_Z G h10_ s.heap H locs → lv_has ls 2 [(1, .int v10_1), (0, .ref (G.2.2.2.2 + 404))] → (∀ (H : Heap) (locs : List Loc) (ls : Array Slot), cd_Z G o.2 s.heap H locs → lv_has ls 2 [(1, .int o.1), (0, .ref (G.2.2.2.2 + 404))] → W p l e rm_X8_remembers s m args below meth c H locs 0 0 Q (F0 m 39 ls [])) → W p l e rm_X8_remembers s m args below meth c H locs 0 0 Q (F0 m 10 ls []) := by
    intro n
    induction n with
    | zero => intro v10_1 h10_ o H locs ls E; exact nomatch (show (none : Option (Int32 × cd_Hp)) = some o from E)
    | succ n ih =>
      intro v10_1 h10_ o H locs ls E hZ hl hex
      have E : f_X8_remembers_B10 (cd_lp (f_X8_remembers_B10) n) (v10_1, h10_) = some o := E
      unfold f_X8_remembers_B10 at E
      dsimp only at E
      refine lv_iload_n S.1 S.2.1 dX8_remembers_10 rfl (lv_at hl 0 rfl) ?_
      refine lv_sipush (v := 2636) S.1 S.2.1 dX8_remembers_11 (by decide) ?_
      refine lv_icmp_ge (tgt := 39) S.1 S.2.1 dX8_remembers_14 (by decide) (fun c9 => ?_) (fun c9 => ?_)
      · have E := cd_tE c9 E
        cases E
        exact hex H locs ls hZ (lv_sub hl [0, 1] rfl)
      · have E := cd_fE c9 E
        refine lv_aload_n S.1 S.2.1 dX8_remembers_17 rfl (lv_at hl 1 rfl) ?_
        refine cd_get8 (v := .ref (G.2.2.2.2 + 407)) S hK hZ cd_this8 2 cd_f_X8_16 rfl dX8_remembers_18 ?_
        refine lv_iload_n S.1 S.2.1 dX8_remembers_21 rfl (lv_at hl 0 rfl) ?_
        refine lv_aload_n S.1 S.2.1 dX8_remembers_22 rfl (lv_at hl 1 rfl) ?_
        refine cd_get8 (v := .ref (G.2.2.2.2 + 407)) S hK hZ cd_this8 2 cd_f_X8_16 rfl dX8_remembers_23 ?_
        refine lv_iload_n S.1 S.2.1 dX8_remembers_26 rfl (lv_at hl 0 rfl) ?_
        refine lv_sipush (v := 659) S.1 S.2.1 dX8_remembers_27 (by decide) ?_
        refine lv_iadd S.1 S.2.1 dX8_remembers_30 ?_
        obtain ⟨z10, E⟩ := cd_ckE E
        refine cd_iald S hK hZ (cd_r8_2 cd_this8) z10 dX8_remembers_31 ?_
        obtain ⟨z11, E⟩ := cd_ckE E
        obtain ⟨h12, eh12, E⟩ := cd_nmE E
        refine cd_iast S hK hZ (cd_r8_2 cd_this8) z11 eh12 dX8_remembers_32 (fun H locs hZ => ?_)
        obtain ⟨x13, ex13, E⟩ := cd_nmE E
        refine lv_iinc (v := x13) (lv' := [(1, .int x13), (0, .ref (G.2.2.2.2 + 404))]) S.1 S.2.1 dX8_remembers_33 hl (k := 0) rfl (by rw [ex13]; rfl) (by decide) rfl (fun ls hl => ?_)
        refine lv_goto (tgt := 10) S.1 S.2.1 dX8_remembers_36 (by decide) ?_
        exact ih x13 h12 o H locs ls E hZ (lv_sub hl [0, 1] rfl) hex
  unfold f_X8_remembers at E
  refine lv_aload_n S.1 S.2.1 dX8_remembers_0 rfl (lv_at hl 0 rfl) ?_
  refine cd_get8 (v := .int (cd_g h 404 3)) S hK hZ cd_this8 3 cd_f_X8_43 rfl dX8_remembers_1 ?_
  refine lv_iconst (v := 5) S.1 S.2.1 dX8_remembers_4 (by decide) ?_
  refine lv_icmp_ne (tgt := 49) S.1 S.2.1 dX8_remembers_5 (by decide) (fun c1 => ?_) (fun c1 => ?_)
  · have E := cd_fE c1 E
    refine lv_iconst (v := 0) S.1 S.2.1 dX8_remembers_49 (by decide) ?_
    refine lv_istore_n (lv' := [(1, .int 0), (0, .ref (G.2.2.2.2 + 404))]) S.1 S.2.1 dX8_remembers_50 rfl hl (by decide) rfl (fun ls hl => ?_)
    obtain ⟨o7, E1, E⟩ := cd_bE E
    refine L51 cd_fu 0 h o7 H locs ls E1 hZ (lv_sub hl [0, 1] rfl) (fun H locs ls hZ hl => ?_)
    refine lv_aload_n S.1 S.2.1 dX8_remembers_85 rfl (lv_at hl 1 rfl) ?_
    refine lv_dup S.1 S.2.1 dX8_remembers_86 rfl ?_
    refine cd_get8 (v := .int (cd_g o7.2 404 3)) S hK hZ cd_this8 3 cd_f_X8_43 rfl dX8_remembers_87 ?_
    refine lv_iconst (v := 1) S.1 S.2.1 dX8_remembers_90 (by decide) ?_
    refine lv_iadd S.1 S.2.1 dX8_remembers_91 ?_
    obtain ⟨h8, eh8, E⟩ := cd_nmE E
    refine cd_put8_3 S hK hZ cd_this8 cd_f_X8_43 eh8 dX8_remembers_92 (fun H locs hZ => ?_)
    exact hret _ _ _ _ _ (Option.some.inj E) hZ dX8_remembers_95
  · have E := cd_tE c1 E
    refine lv_iconst (v := 0) S.1 S.2.1 dX8_remembers_8 (by decide) ?_
    refine lv_istore_n (lv' := [(1, .int 0), (0, .ref (G.2.2.2.2 + 404))]) S.1 S.2.1 dX8_remembers_9 rfl hl (by decide) rfl (fun ls hl => ?_)
    obtain ⟨o14, E1, E⟩ := cd_bE E
    refine L10 cd_fu 0 h o14 H locs ls E1 hZ (lv_sub hl [0, 1] rfl) (fun H locs ls hZ hl => ?_)
    refine lv_aload_n S.1 S.2.1 dX8_remembers_39 rfl (lv_at hl 1 rfl) ?_
    refine lv_dup S.1 S.2.1 dX8_remembers_40 rfl ?_
    refine cd_get8 (v := .int (cd_g o14.2 404 3)) S hK hZ cd_this8 3 cd_f_X8_43 rfl dX8_remembers_41 ?_
    refine lv_iconst (v := 1) S.1 S.2.1 dX8_remembers_44 (by decide) ?_
    refine lv_isub S.1 S.2.1 dX8_remembers_45 ?_
    obtain ⟨h15, eh15, E⟩ := cd_nmE E
    refine cd_put8_3 S hK hZ cd_this8 cd_f_X8_43 eh15 dX8_remembers_46 (fun H locs hZ => ?_)
    refine lv_iconst (v := 0) S.1 S.2.1 dX8_remembers_49 (by decide) ?_
    refine lv_istore_n (lv' := [(1, .int 0), (0, .ref (G.2.2.2.2 + 404))]) S.1 S.2.1 dX8_remembers_50 rfl hl (by decide) rfl (fun ls hl => ?_)
    obtain ⟨o16, E1, E⟩ := cd_bE E
    refine L51 cd_fu 0 h15 o16 H locs ls E1 hZ (lv_sub hl [0, 1] rfl) (fun H locs ls hZ hl => ?_)
    refine lv_aload_n S.1 S.2.1 dX8_remembers_85 rfl (lv_at hl 1 rfl) ?_
    refine lv_dup S.1 S.2.1 dX8_remembers_86 rfl ?_
    refine cd_get8 (v := .int (cd_g o16.2 404 3)) S hK hZ cd_this8 3 cd_f_X8_43 rfl dX8_remembers_87 ?_
    refine lv_iconst (v := 1) S.1 S.2.1 dX8_remembers_90 (by decide) ?_
    refine lv_iadd S.1 S.2.1 dX8_remembers_91 ?_
    obtain ⟨h17, eh17, E⟩ := cd_nmE E
    refine cd_put8_3 S hK hZ cd_this8 cd_f_X8_43 eh17 dX8_remembers_92 (fun H locs hZ => ?_)
    exact hret _ _ _ _ _ (Option.some.inj E) hZ dX8_remembers_95
abbrev rm_X8_back : Room := { frames := 1, cells := 0, slots := 0, locals := 20 }
theorem cd_v_X8_back : cd_V yX8_back cX8_back 2 (some .int) 0 := ⟨cd_i_X8_back, cd_e_X8_X8_back, cd_n_X8, cd_c_X8_back, by decide +kernel⟩
set_option maxHeartbeats 4000000 in
set_option maxRecDepth 100000 in
theorem c_X8_back (l : Launch) (G : cd_G)  (h : cd_Hp) (out : (Int32 × cd_Hp)) (E : f_X8_back h = some out) : cd_Mi l G yX8_back (Cond.code yX8_back cX8_back 2 (some .int) :: cd_T) rm_X8_back [.ref (G.2.2.2.2 + 404)] h out := by
  refine cd_ini (by decide) (Nat.le_of_ble_eq_true rfl) ?_
  intro p e s m args below meth c Q ls H locs S hK hZ hl hret
  have hl : lv_has ls 2 [(0, .ref (G.2.2.2.2 + 404))] := hl
  have L24 : ∀ (n : Nat) (v24_1 : Int32) (h24_ : cd_Hp) (o : (Int32 × cd_Hp)) (H : Heap) (locs : List Loc) (ls : Array Slot), cd_lp (f_X8_back_B24) n (v24_1, h24_) = some o → cd_Z G h24_ s.heap H locs → lv_has ls 2 [(1, .int v24_1), (0, .ref (G.2.2.2.2 + 404))] → (∀ (H : Heap) (locs : List Loc) (ls : Array Slot), cd_Z G o.2 s.heap H locs → lv_has ls 2 [(1, .int o.1), (0, .ref (G.2.2.2.2 + 404))] → W p l e rm_X8_back s m args below meth c H locs 0 0 Q (F0 m 58 ls [])) → W p l e rm_X8_back s m args below meth c H locs 0 0 Q (F0 m 24 ls []) := by
    intro n
    induction n with
    | zero => intro v24_1 h24_ o H locs ls E; exact nomatch (show (none : Option (Int32 × cd_Hp)) = some o from E)
    | succ n ih =>
      intro v24_1 h24_ o H locs ls E hZ hl hex
      have E : f_X8_back_B24 (cd_lp (f_X8_back_B24) n) (v24_1, h24_) = some o := E
      unfold f_X8_back_B24 at E
      dsimp only at E
      refine lv_iload_n S.1 S.2.1 dX8_back_24 rfl (lv_at hl 0 rfl) ?_
      refine lv_sipush (v := 659) S.1 S.2.1 dX8_back_25 (by decide) ?_
      refine lv_icmp_ge (tgt := 58) S.1 S.2.1 dX8_back_28 (by decide) (fun c3 => ?_) (fun c3 => ?_)
      · have E := cd_tE c3 E
        cases E
        exact hex H locs ls hZ (lv_sub hl [0, 1] rfl)
      · have E := cd_fE c3 E
        refine lv_aload_n S.1 S.2.1 dX8_back_31 rfl (lv_at hl 1 rfl) ?_
        refine cd_get8 (v := .ref (G.2.2.2.2 + 405)) S hK hZ cd_this8 0 cd_f_X8_7 rfl dX8_back_32 ?_
        refine lv_iload_n S.1 S.2.1 dX8_back_35 rfl (lv_at hl 0 rfl) ?_
        refine lv_aload_n S.1 S.2.1 dX8_back_36 rfl (lv_at hl 1 rfl) ?_
        refine cd_get8 (v := .ref (G.2.2.2.2 + 407)) S hK hZ cd_this8 2 cd_f_X8_16 rfl dX8_back_37 ?_
        refine lv_sipush (v := 659) S.1 S.2.1 dX8_back_40 (by decide) ?_
        refine lv_aload_n S.1 S.2.1 dX8_back_43 rfl (lv_at hl 1 rfl) ?_
        refine cd_get8 (v := .int (cd_g h24_ 404 3)) S hK hZ cd_this8 3 cd_f_X8_43 rfl dX8_back_44 ?_
        refine lv_imul S.1 S.2.1 dX8_back_47 ?_
        refine lv_iload_n S.1 S.2.1 dX8_back_48 rfl (lv_at hl 0 rfl) ?_
        refine lv_iadd S.1 S.2.1 dX8_back_49 ?_
        obtain ⟨z4, E⟩ := cd_ckE E
        refine cd_iald S hK hZ (cd_r8_2 cd_this8) z4 dX8_back_50 ?_
        obtain ⟨z5, E⟩ := cd_ckE E
        obtain ⟨h6, eh6, E⟩ := cd_nmE E
        refine cd_iast S hK hZ (cd_r8_0 cd_this8) z5 eh6 dX8_back_51 (fun H locs hZ => ?_)
        obtain ⟨x7, ex7, E⟩ := cd_nmE E
        refine lv_iinc (v := x7) (lv' := [(1, .int x7), (0, .ref (G.2.2.2.2 + 404))]) S.1 S.2.1 dX8_back_52 hl (k := 0) rfl (by rw [ex7]; rfl) (by decide) rfl (fun ls hl => ?_)
        refine lv_goto (tgt := 24) S.1 S.2.1 dX8_back_55 (by decide) ?_
        exact ih x7 h6 o H locs ls E hZ (lv_sub hl [0, 1] rfl) hex
  unfold f_X8_back at E
  refine lv_aload_n S.1 S.2.1 dX8_back_0 rfl (lv_at hl 0 rfl) ?_
  refine cd_get8 (v := .int (cd_g h 404 3)) S hK hZ cd_this8 3 cd_f_X8_43 rfl dX8_back_1 ?_
  refine lv_if_ne (tgt := 12) S.1 S.2.1 dX8_back_4 (by decide) (fun c1 => ?_) (fun c1 => ?_)
  · have E := cd_fE c1 E
    refine lv_aload_n S.1 S.2.1 dX8_back_12 rfl (lv_at hl 0 rfl) ?_
    refine lv_dup S.1 S.2.1 dX8_back_13 rfl ?_
    refine cd_get8 (v := .int (cd_g h 404 3)) S hK hZ cd_this8 3 cd_f_X8_43 rfl dX8_back_14 ?_
    refine lv_iconst (v := 1) S.1 S.2.1 dX8_back_17 (by decide) ?_
    refine lv_isub S.1 S.2.1 dX8_back_18 ?_
    obtain ⟨h2, eh2, E⟩ := cd_nmE E
    refine cd_put8_3 S hK hZ cd_this8 cd_f_X8_43 eh2 dX8_back_19 (fun H locs hZ => ?_)
    refine lv_iconst (v := 0) S.1 S.2.1 dX8_back_22 (by decide) ?_
    refine lv_istore_n (lv' := [(1, .int 0), (0, .ref (G.2.2.2.2 + 404))]) S.1 S.2.1 dX8_back_23 rfl hl (by decide) rfl (fun ls hl => ?_)
    obtain ⟨o8, E1, E⟩ := cd_bE E
    refine L24 cd_fu 0 h2 o8 H locs ls E1 hZ (lv_sub hl [0, 1] rfl) (fun H locs ls hZ hl => ?_)
    refine lv_aload_n S.1 S.2.1 dX8_back_58 rfl (lv_at hl 1 rfl) ?_
    refine cd_get8 (v := .int (cd_g o8.2 404 3)) S hK hZ cd_this8 3 cd_f_X8_43 rfl dX8_back_59 ?_
    exact hret _ _ _ _ _ _ (Option.some.inj E) hZ dX8_back_62
  · have E := cd_tE c1 E
    refine lv_aload_n S.1 S.2.1 dX8_back_7 rfl (lv_at hl 0 rfl) ?_
    obtain ⟨o9, E1, E⟩ := cd_nmE E
    refine cd_cVi (As := []) S hK hZ hl.1 (c_X8_no l G  h o9 E1.symm) cd_v_X8_no cd_m_X8_47 ⟨Nat.le_of_ble_eq_true rfl, Nat.le_of_ble_eq_true rfl⟩ ⟨rfl, rfl⟩ (ci := 8) (by decide) rfl cd_this8 rfl rfl (Nat.le_of_ble_eq_true rfl) ⟨Nat.zero_le _, Nat.zero_le _⟩ dX8_back_8 (fun H locs hZ => ?_)
    exact hret _ _ _ _ _ _ (Option.some.inj E) hZ dX8_back_11
abbrev rm_X8_isTask : Room := { frames := 1, cells := 0, slots := 0, locals := 22 }
theorem cd_v_X8_isTask : cd_V yX8_isTask cX8_isTask 2 (some .boolean) 1 := ⟨cd_i_X8_isTask, cd_e_X8_X8_isTask, cd_n_X8, cd_c_X8_isTask, by decide +kernel⟩
set_option maxHeartbeats 4000000 in
set_option maxRecDepth 100000 in
theorem c_X8_isTask (l : Launch) (G : cd_G) (a1 : Int32) (h : cd_Hp) (out : Int32) (E : f_X8_isTask a1 h = out) : cd_Mz l G yX8_isTask (Cond.code yX8_isTask cX8_isTask 2 (some .boolean) :: cd_T) rm_X8_isTask [.ref (G.2.2.2.2 + 404), .int a1] h (out, h) := by
  refine cd_inz (by decide) (Nat.le_of_ble_eq_true rfl) ?_
  intro p e s m args below meth c Q ls H locs S hK hZ hl hret
  have hl : lv_has ls 2 [(0, .ref (G.2.2.2.2 + 404)), (1, .int a1)] := hl
  unfold f_X8_isTask at E
  refine lv_iload_n S.1 S.2.1 dX8_isTask_0 rfl (lv_at hl 1 rfl) ?_
  refine lv_iconst (v := 0) S.1 S.2.1 dX8_isTask_1 (by decide) ?_
  refine lv_aload_n S.1 S.2.1 dX8_isTask_2 rfl (lv_at hl 0 rfl) ?_
  refine cd_get8 (v := .ref (G.2.2.2.2 + 405)) S hK hZ cd_this8 0 cd_f_X8_7 rfl dX8_isTask_3 ?_
  refine lv_bipush (v := 9) S.1 S.2.1 dX8_isTask_6 (by decide) ?_
  refine cd_iald S hK hZ (cd_r8_0 cd_this8) (by decide) dX8_isTask_8 ?_
  refine lv_iconst (v := 1) S.1 S.2.1 dX8_isTask_9 (by decide) ?_
  refine lv_isub S.1 S.2.1 dX8_isTask_10 ?_
  refine cd_cSz (As := [.int a1, .int 0, .int ((cd_g h 405 (Int32.toNatClampNeg 9)) - 1)]) S hK hZ hl.1 (c_X8_in l G a1 0 ((cd_g h 405 (Int32.toNatClampNeg 9)) - 1) h _ rfl) cd_v_X8_in cd_m_X8_51 ⟨Nat.le_of_ble_eq_true rfl, Nat.le_of_ble_eq_true rfl⟩ ⟨rfl, rfl⟩ rfl rfl (Nat.le_of_ble_eq_true rfl) ⟨Nat.zero_le _, Nat.zero_le _⟩ dX8_isTask_11 (fun H locs hZ b1 => ?_)
  exact hret _ _ _ _ _ _ b1 (congrArg (fun z => (z, h)) (E)) hZ dX8_isTask_14
abbrev rm_X8_taskAt : Room := { frames := 0, cells := 0, slots := 0, locals := 0 }
theorem cd_v_X8_taskAt : cd_Vs yX8_taskAt cX8_taskAt 1 (some .int) 1 := ⟨cd_s_X8_taskAt, cd_n_X8, cd_c_X8_taskAt, by decide +kernel⟩
set_option maxHeartbeats 4000000 in
set_option maxRecDepth 100000 in
theorem c_X8_taskAt (l : Launch) (G : cd_G) (a0 : Int32) (h : cd_Hp) (out : Int32) (E : f_X8_taskAt a0 = out) : cd_Mi l G yX8_taskAt (Cond.code yX8_taskAt cX8_taskAt 1 (some .int) :: cd_T) rm_X8_taskAt [.int a0] h (out, h) := by
  refine cd_ini (by decide) (Nat.le_of_ble_eq_true rfl) ?_
  intro p e s m args below meth c Q ls H locs S hK hZ hl hret
  have hl : lv_has ls 1 [(0, .int a0)] := hl
  unfold f_X8_taskAt at E
  refine lv_bipush (v := 10) S.1 S.2.1 dX8_taskAt_0 (by decide) ?_
  refine lv_bipush (v := 10) S.1 S.2.1 dX8_taskAt_2 (by decide) ?_
  refine lv_iload_n S.1 S.2.1 dX8_taskAt_4 rfl (lv_at hl 0 rfl) ?_
  refine lv_imul S.1 S.2.1 dX8_taskAt_5 ?_
  refine lv_iadd S.1 S.2.1 dX8_taskAt_6 ?_
  exact hret _ _ _ _ _ _ (congrArg (fun z => (z, h)) (E)) hZ dX8_taskAt_7
abbrev rm_X8_isGroup : Room := { frames := 1, cells := 0, slots := 0, locals := 22 }
theorem cd_v_X8_isGroup : cd_V yX8_isGroup cX8_isGroup 2 (some .boolean) 1 := ⟨cd_i_X8_isGroup, cd_e_X8_X8_isGroup, cd_n_X8, cd_c_X8_isGroup, by decide +kernel⟩
set_option maxHeartbeats 4000000 in
set_option maxRecDepth 100000 in
theorem c_X8_isGroup (l : Launch) (G : cd_G) (a1 : Int32) (h : cd_Hp) (out : Int32) (E : f_X8_isGroup a1 h = out) : cd_Mz l G yX8_isGroup (Cond.code yX8_isGroup cX8_isGroup 2 (some .boolean) :: cd_T) rm_X8_isGroup [.ref (G.2.2.2.2 + 404), .int a1] h (out, h) := by
  refine cd_inz (by decide) (Nat.le_of_ble_eq_true rfl) ?_
  intro p e s m args below meth c Q ls H locs S hK hZ hl hret
  have hl : lv_has ls 2 [(0, .ref (G.2.2.2.2 + 404)), (1, .int a1)] := hl
  unfold f_X8_isGroup at E
  refine lv_iload_n S.1 S.2.1 dX8_isGroup_0 rfl (lv_at hl 1 rfl) ?_
  refine lv_iconst (v := 0) S.1 S.2.1 dX8_isGroup_1 (by decide) ?_
  refine lv_aload_n S.1 S.2.1 dX8_isGroup_2 rfl (lv_at hl 0 rfl) ?_
  refine cd_get8 (v := .ref (G.2.2.2.2 + 405)) S hK hZ cd_this8 0 cd_f_X8_7 rfl dX8_isGroup_3 ?_
  refine lv_bipush (v := 70) S.1 S.2.1 dX8_isGroup_6 (by decide) ?_
  refine cd_iald S hK hZ (cd_r8_0 cd_this8) (by decide) dX8_isGroup_8 ?_
  refine lv_iconst (v := 1) S.1 S.2.1 dX8_isGroup_9 (by decide) ?_
  refine lv_isub S.1 S.2.1 dX8_isGroup_10 ?_
  refine cd_cSz (As := [.int a1, .int 0, .int ((cd_g h 405 (Int32.toNatClampNeg 70)) - 1)]) S hK hZ hl.1 (c_X8_in l G a1 0 ((cd_g h 405 (Int32.toNatClampNeg 70)) - 1) h _ rfl) cd_v_X8_in cd_m_X8_51 ⟨Nat.le_of_ble_eq_true rfl, Nat.le_of_ble_eq_true rfl⟩ ⟨rfl, rfl⟩ rfl rfl (Nat.le_of_ble_eq_true rfl) ⟨Nat.zero_le _, Nat.zero_le _⟩ dX8_isGroup_11 (fun H locs hZ b1 => ?_)
  exact hret _ _ _ _ _ _ b1 (congrArg (fun z => (z, h)) (E)) hZ dX8_isGroup_14
abbrev rm_X8_groupAt : Room := { frames := 0, cells := 0, slots := 0, locals := 0 }
theorem cd_v_X8_groupAt : cd_Vs yX8_groupAt cX8_groupAt 1 (some .int) 1 := ⟨cd_s_X8_groupAt, cd_n_X8, cd_c_X8_groupAt, by decide +kernel⟩
set_option maxHeartbeats 4000000 in
set_option maxRecDepth 100000 in
theorem c_X8_groupAt (l : Launch) (G : cd_G) (a0 : Int32) (h : cd_Hp) (out : Int32) (E : f_X8_groupAt a0 = out) : cd_Mi l G yX8_groupAt (Cond.code yX8_groupAt cX8_groupAt 1 (some .int) :: cd_T) rm_X8_groupAt [.int a0] h (out, h) := by
  refine cd_ini (by decide) (Nat.le_of_ble_eq_true rfl) ?_
  intro p e s m args below meth c Q ls H locs S hK hZ hl hret
  have hl : lv_has ls 1 [(0, .int a0)] := hl
  unfold f_X8_groupAt at E
  refine lv_bipush (v := 71) S.1 S.2.1 dX8_groupAt_0 (by decide) ?_
  refine lv_bipush (v := 58) S.1 S.2.1 dX8_groupAt_2 (by decide) ?_
  refine lv_iload_n S.1 S.2.1 dX8_groupAt_4 rfl (lv_at hl 0 rfl) ?_
  refine lv_imul S.1 S.2.1 dX8_groupAt_5 ?_
  refine lv_iadd S.1 S.2.1 dX8_groupAt_6 ?_
  exact hret _ _ _ _ _ _ (congrArg (fun z => (z, h)) (E)) hZ dX8_groupAt_7
abbrev rm_X8_ofGroup : Room := { frames := 1, cells := 0, slots := 0, locals := 20 }
theorem cd_v_X8_ofGroup : cd_V yX8_ofGroup cX8_ofGroup 3 (some .int) 2 := ⟨cd_i_X8_ofGroup, cd_e_X8_X8_ofGroup, cd_n_X8, cd_c_X8_ofGroup, by decide +kernel⟩
set_option maxHeartbeats 4000000 in
set_option maxRecDepth 100000 in
theorem c_X8_ofGroup (l : Launch) (G : cd_G) (a1 : Int32) (a2 : Int32) (h : cd_Hp) (out : Int32) (E : f_X8_ofGroup a1 a2 h = some out) : cd_Mi l G yX8_ofGroup (Cond.code yX8_ofGroup cX8_ofGroup 3 (some .int) :: cd_T) rm_X8_ofGroup [.ref (G.2.2.2.2 + 404), .int a1, .int a2] h (out, h) := by
  refine cd_ini (by decide) (Nat.le_of_ble_eq_true rfl) ?_
  intro p e s m args below meth c Q ls H locs S hK hZ hl hret
  have hl : lv_has ls 3 [(0, .ref (G.2.2.2.2 + 404)), (1, .int a1), (2, .int a2)] := hl
  unfold f_X8_ofGroup at E
  refine lv_aload_n S.1 S.2.1 dX8_ofGroup_0 rfl (lv_at hl 0 rfl) ?_
  refine cd_get8 (v := .ref (G.2.2.2.2 + 405)) S hK hZ cd_this8 0 cd_f_X8_7 rfl dX8_ofGroup_1 ?_
  refine lv_iload_n S.1 S.2.1 dX8_ofGroup_4 rfl (lv_at hl 1 rfl) ?_
  refine cd_cSi (As := [.int a1]) S hK hZ hl.1 (c_X8_groupAt l G a1 h _ rfl) cd_v_X8_groupAt cd_m_X8_55 ⟨Nat.le_of_ble_eq_true rfl, Nat.le_of_ble_eq_true rfl⟩ ⟨rfl, rfl⟩ rfl rfl (Nat.le_of_ble_eq_true rfl) ⟨Nat.zero_le _, Nat.zero_le _⟩ dX8_ofGroup_5 (fun H locs hZ => ?_)
  refine lv_iload_n S.1 S.2.1 dX8_ofGroup_8 rfl (lv_at hl 2 rfl) ?_
  refine lv_iadd S.1 S.2.1 dX8_ofGroup_9 ?_
  obtain ⟨z2, E⟩ := cd_ckE E
  refine cd_iald S hK hZ (cd_r8_0 cd_this8) z2 dX8_ofGroup_10 ?_
  exact hret _ _ _ _ _ _ (congrArg (fun z => (z, h)) (Option.some.inj E)) hZ dX8_ofGroup_11
abbrev rm_X8_isEvent : Room := { frames := 2, cells := 0, slots := 0, locals := 43 }
theorem cd_v_X8_isEvent : cd_V yX8_isEvent cX8_isEvent 3 (some .boolean) 2 := ⟨cd_i_X8_isEvent, cd_e_X8_X8_isEvent, cd_n_X8, cd_c_X8_isEvent, by decide +kernel⟩
set_option maxHeartbeats 4000000 in
set_option maxRecDepth 100000 in
theorem c_X8_isEvent (l : Launch) (G : cd_G) (a1 : Int32) (a2 : Int32) (h : cd_Hp) (out : Int32) (E : f_X8_isEvent a1 a2 h = some out) : cd_Mz l G yX8_isEvent (Cond.code yX8_isEvent cX8_isEvent 3 (some .boolean) :: cd_T) rm_X8_isEvent [.ref (G.2.2.2.2 + 404), .int a1, .int a2] h (out, h) := by
  refine cd_inz (by decide) (Nat.le_of_ble_eq_true rfl) ?_
  intro p e s m args below meth c Q ls H locs S hK hZ hl hret
  have hl : lv_has ls 3 [(0, .ref (G.2.2.2.2 + 404)), (1, .int a1), (2, .int a2)] := hl
  unfold f_X8_isEvent at E
  refine lv_aload_n S.1 S.2.1 dX8_isEvent_0 rfl (lv_at hl 0 rfl) ?_
  refine lv_iload_n S.1 S.2.1 dX8_isEvent_1 rfl (lv_at hl 1 rfl) ?_
  refine cd_cVz (As := [.int a1]) S hK hZ hl.1 (c_X8_isGroup l G a1 h _ rfl) cd_v_X8_isGroup cd_m_X8_59 ⟨Nat.le_of_ble_eq_true rfl, Nat.le_of_ble_eq_true rfl⟩ ⟨rfl, rfl⟩ (ci := 8) (by decide) rfl cd_this8 rfl rfl (Nat.le_of_ble_eq_true rfl) ⟨Nat.zero_le _, Nat.zero_le _⟩ dX8_isEvent_2 (fun H locs hZ b1 => ?_)
  refine lv_if_eq (tgt := 28) S.1 S.2.1 dX8_isEvent_5 (by decide) (fun c2 => ?_) (fun c2 => ?_)
  · have E := cd_tE c2 E
    refine lv_iconst (v := 0) S.1 S.2.1 dX8_isEvent_28 (by decide) ?_
    exact hret _ _ _ _ _ _ (by decide) (congrArg (fun z => (z, h)) (Option.some.inj E)) hZ dX8_isEvent_29
  · have E := cd_fE c2 E
    refine lv_iload_n S.1 S.2.1 dX8_isEvent_8 rfl (lv_at hl 2 rfl) ?_
    refine lv_iconst (v := 0) S.1 S.2.1 dX8_isEvent_9 (by decide) ?_
    refine lv_aload_n S.1 S.2.1 dX8_isEvent_10 rfl (lv_at hl 0 rfl) ?_
    refine lv_iload_n S.1 S.2.1 dX8_isEvent_11 rfl (lv_at hl 1 rfl) ?_
    refine lv_iconst (v := 5) S.1 S.2.1 dX8_isEvent_12 (by decide) ?_
    obtain ⟨o3, E1, E⟩ := cd_bE E
    refine cd_cVi (As := [.int a1, .int 5]) S hK hZ hl.1 (c_X8_ofGroup l G a1 5 h o3 E1) cd_v_X8_ofGroup cd_m_X8_63 ⟨Nat.le_of_ble_eq_true rfl, Nat.le_of_ble_eq_true rfl⟩ ⟨rfl, rfl⟩ (ci := 8) (by decide) rfl cd_this8 rfl rfl (Nat.le_of_ble_eq_true rfl) ⟨Nat.zero_le _, Nat.zero_le _⟩ dX8_isEvent_13 (fun H locs hZ => ?_)
    refine lv_iconst (v := 1) S.1 S.2.1 dX8_isEvent_16 (by decide) ?_
    refine lv_isub S.1 S.2.1 dX8_isEvent_17 ?_
    refine cd_cSz (As := [.int a2, .int 0, .int (o3 - 1)]) S hK hZ hl.1 (c_X8_in l G a2 0 (o3 - 1) h _ rfl) cd_v_X8_in cd_m_X8_51 ⟨Nat.le_of_ble_eq_true rfl, Nat.le_of_ble_eq_true rfl⟩ ⟨rfl, rfl⟩ rfl rfl (Nat.le_of_ble_eq_true rfl) ⟨Nat.zero_le _, Nat.zero_le _⟩ dX8_isEvent_18 (fun H locs hZ b5 => ?_)
    refine lv_if_eq (tgt := 28) S.1 S.2.1 dX8_isEvent_21 (by decide) (fun c6 => ?_) (fun c6 => ?_)
    · have E := cd_tE c6 E
      refine lv_iconst (v := 0) S.1 S.2.1 dX8_isEvent_28 (by decide) ?_
      exact hret _ _ _ _ _ _ (by decide) (congrArg (fun z => (z, h)) (Option.some.inj E)) hZ dX8_isEvent_29
    · have E := cd_fE c6 E
      refine lv_iconst (v := 1) S.1 S.2.1 dX8_isEvent_24 (by decide) ?_
      refine lv_goto (tgt := 29) S.1 S.2.1 dX8_isEvent_25 (by decide) ?_
      exact hret _ _ _ _ _ _ (by decide) (congrArg (fun z => (z, h)) (Option.some.inj E)) hZ dX8_isEvent_29
abbrev rm_X8_eventAt : Room := { frames := 1, cells := 0, slots := 0, locals := 20 }
theorem cd_v_X8_eventAt : cd_Vs yX8_eventAt cX8_eventAt 2 (some .int) 2 := ⟨cd_s_X8_eventAt, cd_n_X8, cd_c_X8_eventAt, by decide +kernel⟩
set_option maxHeartbeats 4000000 in
set_option maxRecDepth 100000 in
theorem c_X8_eventAt (l : Launch) (G : cd_G) (a0 : Int32) (a1 : Int32) (h : cd_Hp) (out : Int32) (E : f_X8_eventAt a0 a1 = out) : cd_Mi l G yX8_eventAt (Cond.code yX8_eventAt cX8_eventAt 2 (some .int) :: cd_T) rm_X8_eventAt [.int a0, .int a1] h (out, h) := by
  refine cd_ini (by decide) (Nat.le_of_ble_eq_true rfl) ?_
  intro p e s m args below meth c Q ls H locs S hK hZ hl hret
  have hl : lv_has ls 2 [(0, .int a0), (1, .int a1)] := hl
  unfold f_X8_eventAt at E
  refine lv_iload_n S.1 S.2.1 dX8_eventAt_0 rfl (lv_at hl 0 rfl) ?_
  refine cd_cSi (As := [.int a0]) S hK hZ hl.1 (c_X8_groupAt l G a0 h _ rfl) cd_v_X8_groupAt cd_m_X8_55 ⟨Nat.le_of_ble_eq_true rfl, Nat.le_of_ble_eq_true rfl⟩ ⟨rfl, rfl⟩ rfl rfl (Nat.le_of_ble_eq_true rfl) ⟨Nat.zero_le _, Nat.zero_le _⟩ dX8_eventAt_1 (fun H locs hZ => ?_)
  refine lv_bipush (v := 10) S.1 S.2.1 dX8_eventAt_4 (by decide) ?_
  refine lv_iadd S.1 S.2.1 dX8_eventAt_6 ?_
  refine lv_iconst (v := 3) S.1 S.2.1 dX8_eventAt_7 (by decide) ?_
  refine lv_iload_n S.1 S.2.1 dX8_eventAt_8 rfl (lv_at hl 1 rfl) ?_
  refine lv_imul S.1 S.2.1 dX8_eventAt_9 ?_
  refine lv_iadd S.1 S.2.1 dX8_eventAt_10 ?_
  exact hret _ _ _ _ _ _ (congrArg (fun z => (z, h)) (E)) hZ dX8_eventAt_11
abbrev rm_X8_countAt : Room := { frames := 1, cells := 0, slots := 0, locals := 20 }
theorem cd_v_X8_countAt : cd_Vs yX8_countAt cX8_countAt 3 (some .int) 3 := ⟨cd_s_X8_countAt, cd_n_X8, cd_c_X8_countAt, by decide +kernel⟩
set_option maxHeartbeats 4000000 in
set_option maxRecDepth 100000 in
theorem c_X8_countAt (l : Launch) (G : cd_G) (a0 : Int32) (a1 : Int32) (a2 : Int32) (h : cd_Hp) (out : Int32) (E : f_X8_countAt a0 a1 a2 = out) : cd_Mi l G yX8_countAt (Cond.code yX8_countAt cX8_countAt 3 (some .int) :: cd_T) rm_X8_countAt [.int a0, .int a1, .int a2] h (out, h) := by
  refine cd_ini (by decide) (Nat.le_of_ble_eq_true rfl) ?_
  intro p e s m args below meth c Q ls H locs S hK hZ hl hret
  have hl : lv_has ls 3 [(0, .int a0), (1, .int a1), (2, .int a2)] := hl
  unfold f_X8_countAt at E
  refine lv_iload_n S.1 S.2.1 dX8_countAt_0 rfl (lv_at hl 0 rfl) ?_
  refine cd_cSi (As := [.int a0]) S hK hZ hl.1 (c_X8_groupAt l G a0 h _ rfl) cd_v_X8_groupAt cd_m_X8_55 ⟨Nat.le_of_ble_eq_true rfl, Nat.le_of_ble_eq_true rfl⟩ ⟨rfl, rfl⟩ rfl rfl (Nat.le_of_ble_eq_true rfl) ⟨Nat.zero_le _, Nat.zero_le _⟩ dX8_countAt_1 (fun H locs hZ => ?_)
  refine lv_bipush (v := 22) S.1 S.2.1 dX8_countAt_4 (by decide) ?_
  refine lv_iadd S.1 S.2.1 dX8_countAt_6 ?_
  refine lv_bipush (v := 6) S.1 S.2.1 dX8_countAt_7 (by decide) ?_
  refine lv_iload_n S.1 S.2.1 dX8_countAt_9 rfl (lv_at hl 1 rfl) ?_
  refine lv_imul S.1 S.2.1 dX8_countAt_10 ?_
  refine lv_iadd S.1 S.2.1 dX8_countAt_11 ?_
  refine lv_iload_n S.1 S.2.1 dX8_countAt_12 rfl (lv_at hl 2 rfl) ?_
  refine lv_iadd S.1 S.2.1 dX8_countAt_13 ?_
  exact hret _ _ _ _ _ _ (congrArg (fun z => (z, h)) (E)) hZ dX8_countAt_14
abbrev rm_X8_isKind : Room := { frames := 1, cells := 0, slots := 0, locals := 22 }
theorem cd_v_X8_isKind : cd_Vs yX8_isKind cX8_isKind 1 (some .boolean) 1 := ⟨cd_s_X8_isKind, cd_n_X8, cd_c_X8_isKind, by decide +kernel⟩
set_option maxHeartbeats 4000000 in
set_option maxRecDepth 100000 in
theorem c_X8_isKind (l : Launch) (G : cd_G) (a0 : Int32) (h : cd_Hp) (out : Int32) (E : f_X8_isKind a0 = out) : cd_Mz l G yX8_isKind (Cond.code yX8_isKind cX8_isKind 1 (some .boolean) :: cd_T) rm_X8_isKind [.int a0] h (out, h) := by
  refine cd_inz (by decide) (Nat.le_of_ble_eq_true rfl) ?_
  intro p e s m args below meth c Q ls H locs S hK hZ hl hret
  have hl : lv_has ls 1 [(0, .int a0)] := hl
  unfold f_X8_isKind at E
  refine lv_iload_n S.1 S.2.1 dX8_isKind_0 rfl (lv_at hl 0 rfl) ?_
  refine lv_iconst (v := 0) S.1 S.2.1 dX8_isKind_1 (by decide) ?_
  refine lv_bipush (v := 7) S.1 S.2.1 dX8_isKind_2 (by decide) ?_
  refine cd_cSz (As := [.int a0, .int 0, .int 7]) S hK hZ hl.1 (c_X8_in l G a0 0 7 h _ rfl) cd_v_X8_in cd_m_X8_51 ⟨Nat.le_of_ble_eq_true rfl, Nat.le_of_ble_eq_true rfl⟩ ⟨rfl, rfl⟩ rfl rfl (Nat.le_of_ble_eq_true rfl) ⟨Nat.zero_le _, Nat.zero_le _⟩ dX8_isKind_4 (fun H locs hZ b1 => ?_)
  exact hret _ _ _ _ _ _ b1 (congrArg (fun z => (z, h)) (E)) hZ dX8_isKind_7
abbrev rm_X8_rateOf : Room := { frames := 1, cells := 0, slots := 0, locals := 20 }
theorem cd_v_X8_rateOf : cd_V yX8_rateOf cX8_rateOf 3 (some .int) 2 := ⟨cd_i_X8_rateOf, cd_e_X8_X8_rateOf, cd_n_X8, cd_c_X8_rateOf, by decide +kernel⟩
set_option maxHeartbeats 4000000 in
set_option maxRecDepth 100000 in
theorem c_X8_rateOf (l : Launch) (G : cd_G) (a1 : Int32) (a2 : Int32) (h : cd_Hp) (out : Int32) (E : f_X8_rateOf a1 a2 h = some out) : cd_Mi l G yX8_rateOf (Cond.code yX8_rateOf cX8_rateOf 3 (some .int) :: cd_T) rm_X8_rateOf [.ref (G.2.2.2.2 + 404), .int a1, .int a2] h (out, h) := by
  refine cd_ini (by decide) (Nat.le_of_ble_eq_true rfl) ?_
  intro p e s m args below meth c Q ls H locs S hK hZ hl hret
  have hl : lv_has ls 3 [(0, .ref (G.2.2.2.2 + 404)), (1, .int a1), (2, .int a2)] := hl
  unfold f_X8_rateOf at E
  refine lv_aload_n S.1 S.2.1 dX8_rateOf_0 rfl (lv_at hl 0 rfl) ?_
  refine cd_get8 (v := .ref (G.2.2.2.2 + 405)) S hK hZ cd_this8 0 cd_f_X8_7 rfl dX8_rateOf_1 ?_
  refine lv_iload_n S.1 S.2.1 dX8_rateOf_4 rfl (lv_at hl 1 rfl) ?_
  refine cd_cSi (As := [.int a1]) S hK hZ hl.1 (c_X8_taskAt l G a1 h _ rfl) cd_v_X8_taskAt cd_m_X8_67 ⟨Nat.le_of_ble_eq_true rfl, Nat.le_of_ble_eq_true rfl⟩ ⟨rfl, rfl⟩ rfl rfl (Nat.le_of_ble_eq_true rfl) ⟨Nat.zero_le _, Nat.zero_le _⟩ dX8_rateOf_5 (fun H locs hZ => ?_)
  refine lv_iconst (v := 2) S.1 S.2.1 dX8_rateOf_8 (by decide) ?_
  refine lv_iadd S.1 S.2.1 dX8_rateOf_9 ?_
  refine lv_iload_n S.1 S.2.1 dX8_rateOf_10 rfl (lv_at hl 2 rfl) ?_
  refine lv_iadd S.1 S.2.1 dX8_rateOf_11 ?_
  obtain ⟨z2, E⟩ := cd_ckE E
  refine cd_iald S hK hZ (cd_r8_0 cd_this8) z2 dX8_rateOf_12 ?_
  exact hret _ _ _ _ _ _ (congrArg (fun z => (z, h)) (Option.some.inj E)) hZ dX8_rateOf_13
abbrev rm_X8_exchanges : Room := { frames := 0, cells := 0, slots := 0, locals := 0 }
theorem cd_v_X8_exchanges : cd_V yX8_exchanges cX8_exchanges 4 (some .int) 2 := ⟨cd_i_X8_exchanges, cd_e_X8_X8_exchanges, cd_n_X8, cd_c_X8_exchanges, by decide +kernel⟩
set_option maxHeartbeats 4000000 in
set_option maxRecDepth 100000 in
theorem c_X8_exchanges (l : Launch) (G : cd_G) (a1 : Int32) (a2 : Int32) (h : cd_Hp) (out : (Int32 × cd_Hp)) (E : f_X8_exchanges a1 a2 h = some out) : cd_Mi l G yX8_exchanges (Cond.code yX8_exchanges cX8_exchanges 4 (some .int) :: cd_T) rm_X8_exchanges [.ref (G.2.2.2.2 + 404), .int a1, .int a2] h out := by
  refine cd_ini (by decide) (Nat.le_of_ble_eq_true rfl) ?_
  intro p e s m args below meth c Q ls H locs S hK hZ hl hret
  have hl : lv_has ls 4 [(0, .ref (G.2.2.2.2 + 404)), (1, .int a1), (2, .int a2)] := hl
  unfold f_X8_exchanges at E
  refine lv_aload_n S.1 S.2.1 dX8_exchanges_0 rfl (lv_at hl 0 rfl) ?_
  refine cd_get8 (v := .ref (G.2.2.2.2 + 405)) S hK hZ cd_this8 0 cd_f_X8_7 rfl dX8_exchanges_1 ?_
  refine lv_iload_n S.1 S.2.1 dX8_exchanges_4 rfl (lv_at hl 1 rfl) ?_
  obtain ⟨z1, E⟩ := cd_ckE E
  refine cd_iald S hK hZ (cd_r8_0 cd_this8) z1 dX8_exchanges_5 ?_
  obtain ⟨x2, ex2, E⟩ := cd_nmE E
  refine cd_topi ex2 ?_
  refine lv_istore_n (lv' := [(3, .int x2), (0, .ref (G.2.2.2.2 + 404)), (1, .int a1), (2, .int a2)]) S.1 S.2.1 dX8_exchanges_6 rfl hl (by decide) rfl (fun ls hl => ?_)
  refine lv_aload_n S.1 S.2.1 dX8_exchanges_7 rfl (lv_at hl 1 rfl) ?_
  refine cd_get8 (v := .ref (G.2.2.2.2 + 405)) S hK hZ cd_this8 0 cd_f_X8_7 rfl dX8_exchanges_8 ?_
  refine lv_iload_n S.1 S.2.1 dX8_exchanges_11 rfl (lv_at hl 2 rfl) ?_
  refine lv_iload_n S.1 S.2.1 dX8_exchanges_12 rfl (lv_at hl 3 rfl) ?_
  obtain ⟨z3, E⟩ := cd_ckE E
  obtain ⟨h4, eh4, E⟩ := cd_nmE E
  refine cd_iast S hK hZ (cd_r8_0 cd_this8) z3 eh4 dX8_exchanges_13 (fun H locs hZ => ?_)
  refine lv_iload_n S.1 S.2.1 dX8_exchanges_14 rfl (lv_at hl 0 rfl) ?_
  exact hret _ _ _ _ _ _ (Option.some.inj E) hZ dX8_exchanges_15
abbrev rm_X8_counters : Room := { frames := 1, cells := 0, slots := 0, locals := 23 }
theorem cd_v_X8_counters : cd_V yX8_counters cX8_counters 2 (some .int) 1 := ⟨cd_i_X8_counters, cd_e_X8_X8_counters, cd_n_X8, cd_c_X8_counters, by decide +kernel⟩
set_option maxHeartbeats 4000000 in
set_option maxRecDepth 100000 in
theorem c_X8_counters (l : Launch) (G : cd_G) (a1 : Int32) (h : cd_Hp) (out : (Int32 × cd_Hp)) (E : f_X8_counters a1 h = some out) : cd_Mi l G yX8_counters (Cond.code yX8_counters cX8_counters 2 (some .int) :: cd_T) rm_X8_counters [.ref (G.2.2.2.2 + 404), .int a1] h out := by
  refine cd_ini (by decide) (Nat.le_of_ble_eq_true rfl) ?_
  intro p e s m args below meth c Q ls H locs S hK hZ hl hret
  have hl : lv_has ls 2 [(0, .ref (G.2.2.2.2 + 404)), (1, .int a1)] := hl
  unfold f_X8_counters at E
  refine lv_iload_n S.1 S.2.1 dX8_counters_0 rfl (lv_at hl 1 rfl) ?_
  refine lv_iconst (v := 1) S.1 S.2.1 dX8_counters_1 (by decide) ?_
  refine lv_iconst (v := 4) S.1 S.2.1 dX8_counters_2 (by decide) ?_
  refine cd_cSz (As := [.int a1, .int 1, .int 4]) S hK hZ hl.1 (c_X8_in l G a1 1 4 h _ rfl) cd_v_X8_in cd_m_X8_51 ⟨Nat.le_of_ble_eq_true rfl, Nat.le_of_ble_eq_true rfl⟩ ⟨rfl, rfl⟩ rfl rfl (Nat.le_of_ble_eq_true rfl) ⟨Nat.zero_le _, Nat.zero_le _⟩ dX8_counters_3 (fun H locs hZ b1 => ?_)
  refine lv_if_ne (tgt := 14) S.1 S.2.1 dX8_counters_6 (by decide) (fun c2 => ?_) (fun c2 => ?_)
  · have E := cd_fE c2 E
    refine lv_aload_n S.1 S.2.1 dX8_counters_14 rfl (lv_at hl 0 rfl) ?_
    obtain ⟨o3, E1, E⟩ := cd_bE E
    refine cd_cVv (As := []) S hK hZ hl.1 (c_X8_remembers l G  h o3 E1) cd_v_X8_remembers cd_m_X8_73 ⟨Nat.le_of_ble_eq_true rfl, Nat.le_of_ble_eq_true rfl⟩ ⟨rfl, rfl⟩ (ci := 8) (by decide) rfl cd_this8 rfl rfl (Nat.le_of_ble_eq_true rfl) ⟨Nat.zero_le _, Nat.zero_le _⟩ dX8_counters_15 (fun H locs hZ => ?_)
    refine lv_aload_n S.1 S.2.1 dX8_counters_18 rfl (lv_at hl 0 rfl) ?_
    refine lv_iconst (v := 0) S.1 S.2.1 dX8_counters_19 (by decide) ?_
    refine lv_iload_n S.1 S.2.1 dX8_counters_20 rfl (lv_at hl 1 rfl) ?_
    obtain ⟨o5, E1, E⟩ := cd_bE E
    refine cd_cVi (As := [.int 0, .int a1]) S hK hZ hl.1 (c_X8_exchanges l G 0 a1 o3 o5 E1) cd_v_X8_exchanges cd_m_X8_76 ⟨Nat.le_of_ble_eq_true rfl, Nat.le_of_ble_eq_true rfl⟩ ⟨rfl, rfl⟩ (ci := 8) (by decide) rfl cd_this8 rfl rfl (Nat.le_of_ble_eq_true rfl) ⟨Nat.zero_le _, Nat.zero_le _⟩ dX8_counters_21 (fun H locs hZ => ?_)
    exact hret _ _ _ _ _ _ (Option.some.inj E) hZ dX8_counters_24
  · have E := cd_tE c2 E
    refine lv_aload_n S.1 S.2.1 dX8_counters_9 rfl (lv_at hl 0 rfl) ?_
    obtain ⟨o7, E1, E⟩ := cd_nmE E
    refine cd_cVi (As := []) S hK hZ hl.1 (c_X8_bad l G  h o7 E1.symm) cd_v_X8_bad cd_m_X8_70 ⟨Nat.le_of_ble_eq_true rfl, Nat.le_of_ble_eq_true rfl⟩ ⟨rfl, rfl⟩ (ci := 8) (by decide) rfl cd_this8 rfl rfl (Nat.le_of_ble_eq_true rfl) ⟨Nat.zero_le _, Nat.zero_le _⟩ dX8_counters_10 (fun H locs hZ => ?_)
    exact hret _ _ _ _ _ _ (Option.some.inj E) hZ dX8_counters_13
abbrev rm_X8_canMask : Room := { frames := 2, cells := 0, slots := 0, locals := 42 }
theorem cd_v_X8_canMask : cd_Vs yX8_canMask cX8_canMask 2 (some .boolean) 2 := ⟨cd_s_X8_canMask, cd_n_X8, cd_c_X8_canMask, by decide +kernel⟩
set_option maxHeartbeats 4000000 in
set_option maxRecDepth 100000 in
theorem c_X8_canMask (l : Launch) (G : cd_G) (a0 : Int32) (a1 : Int32) (h : cd_Hp) (out : Int32) (E : f_X8_canMask a0 a1 = out) : cd_Mz l G yX8_canMask (Cond.code yX8_canMask cX8_canMask 2 (some .boolean) :: cd_T) rm_X8_canMask [.int a0, .int a1] h (out, h) := by
  refine cd_inz (by decide) (Nat.le_of_ble_eq_true rfl) ?_
  intro p e s m args below meth c Q ls H locs S hK hZ hl hret
  have hl : lv_has ls 2 [(0, .int a0), (1, .int a1)] := hl
  unfold f_X8_canMask at E
  refine lv_iload_n S.1 S.2.1 dX8_canMask_0 rfl (lv_at hl 0 rfl) ?_
  refine cd_cSz (As := [.int a0]) S hK hZ hl.1 (c_X8_isKind l G a0 h _ rfl) cd_v_X8_isKind cd_m_X8_79 ⟨Nat.le_of_ble_eq_true rfl, Nat.le_of_ble_eq_true rfl⟩ ⟨rfl, rfl⟩ rfl rfl (Nat.le_of_ble_eq_true rfl) ⟨Nat.zero_le _, Nat.zero_le _⟩ dX8_canMask_1 (fun H locs hZ b1 => ?_)
  refine lv_if_eq (tgt := 21) S.1 S.2.1 dX8_canMask_4 (by decide) (fun c2 => ?_) (fun c2 => ?_)
  · have E := cd_tE c2 E
    refine lv_iconst (v := 0) S.1 S.2.1 dX8_canMask_21 (by decide) ?_
    exact hret _ _ _ _ _ _ (by decide) (congrArg (fun z => (z, h)) (E)) hZ dX8_canMask_22
  · have E := cd_fE c2 E
    refine lv_iload_n S.1 S.2.1 dX8_canMask_7 rfl (lv_at hl 1 rfl) ?_
    refine lv_iconst (v := 0) S.1 S.2.1 dX8_canMask_8 (by decide) ?_
    refine lv_bipush (v := 15) S.1 S.2.1 dX8_canMask_9 (by decide) ?_
    refine cd_cSz (As := [.int a1, .int 0, .int 15]) S hK hZ hl.1 (c_X8_in l G a1 0 15 h _ rfl) cd_v_X8_in cd_m_X8_51 ⟨Nat.le_of_ble_eq_true rfl, Nat.le_of_ble_eq_true rfl⟩ ⟨rfl, rfl⟩ rfl rfl (Nat.le_of_ble_eq_true rfl) ⟨Nat.zero_le _, Nat.zero_le _⟩ dX8_canMask_11 (fun H locs hZ b3 => ?_)
    refine lv_if_eq (tgt := 21) S.1 S.2.1 dX8_canMask_14 (by decide) (fun c4 => ?_) (fun c4 => ?_)
    · have E := cd_tE c4 E
      refine lv_iconst (v := 0) S.1 S.2.1 dX8_canMask_21 (by decide) ?_
      exact hret _ _ _ _ _ _ (by decide) (congrArg (fun z => (z, h)) (E)) hZ dX8_canMask_22
    · have E := cd_fE c4 E
      refine lv_iconst (v := 1) S.1 S.2.1 dX8_canMask_17 (by decide) ?_
      refine lv_goto (tgt := 22) S.1 S.2.1 dX8_canMask_18 (by decide) ?_
      exact hret _ _ _ _ _ _ (by decide) (congrArg (fun z => (z, h)) (E)) hZ dX8_canMask_22
abbrev rm_X8_masks : Room := { frames := 3, cells := 0, slots := 0, locals := 63 }
theorem cd_v_X8_masks : cd_V yX8_masks cX8_masks 3 (some .int) 2 := ⟨cd_i_X8_masks, cd_e_X8_X8_masks, cd_n_X8, cd_c_X8_masks, by decide +kernel⟩
set_option maxHeartbeats 4000000 in
set_option maxRecDepth 100000 in
theorem c_X8_masks (l : Launch) (G : cd_G) (a1 : Int32) (a2 : Int32) (h : cd_Hp) (out : (Int32 × cd_Hp)) (E : f_X8_masks a1 a2 h = some out) : cd_Mi l G yX8_masks (Cond.code yX8_masks cX8_masks 3 (some .int) :: cd_T) rm_X8_masks [.ref (G.2.2.2.2 + 404), .int a1, .int a2] h out := by
  refine cd_ini (by decide) (Nat.le_of_ble_eq_true rfl) ?_
  intro p e s m args below meth c Q ls H locs S hK hZ hl hret
  have hl : lv_has ls 3 [(0, .ref (G.2.2.2.2 + 404)), (1, .int a1), (2, .int a2)] := hl
  unfold f_X8_masks at E
  refine lv_iload_n S.1 S.2.1 dX8_masks_0 rfl (lv_at hl 1 rfl) ?_
  refine lv_iload_n S.1 S.2.1 dX8_masks_1 rfl (lv_at hl 2 rfl) ?_
  refine cd_cSz (As := [.int a1, .int a2]) S hK hZ hl.1 (c_X8_canMask l G a1 a2 h _ rfl) cd_v_X8_canMask cd_m_X8_82 ⟨Nat.le_of_ble_eq_true rfl, Nat.le_of_ble_eq_true rfl⟩ ⟨rfl, rfl⟩ rfl rfl (Nat.le_of_ble_eq_true rfl) ⟨Nat.zero_le _, Nat.zero_le _⟩ dX8_masks_2 (fun H locs hZ b1 => ?_)
  refine lv_if_ne (tgt := 13) S.1 S.2.1 dX8_masks_5 (by decide) (fun c2 => ?_) (fun c2 => ?_)
  · have E := cd_fE c2 E
    refine lv_aload_n S.1 S.2.1 dX8_masks_13 rfl (lv_at hl 0 rfl) ?_
    obtain ⟨o3, E1, E⟩ := cd_bE E
    refine cd_cVv (As := []) S hK hZ hl.1 (c_X8_remembers l G  h o3 E1) cd_v_X8_remembers cd_m_X8_73 ⟨Nat.le_of_ble_eq_true rfl, Nat.le_of_ble_eq_true rfl⟩ ⟨rfl, rfl⟩ (ci := 8) (by decide) rfl cd_this8 rfl rfl (Nat.le_of_ble_eq_true rfl) ⟨Nat.zero_le _, Nat.zero_le _⟩ dX8_masks_14 (fun H locs hZ => ?_)
    refine lv_aload_n S.1 S.2.1 dX8_masks_17 rfl (lv_at hl 0 rfl) ?_
    refine lv_iconst (v := 1) S.1 S.2.1 dX8_masks_18 (by decide) ?_
    refine lv_iload_n S.1 S.2.1 dX8_masks_19 rfl (lv_at hl 1 rfl) ?_
    refine lv_iadd S.1 S.2.1 dX8_masks_20 ?_
    refine lv_iload_n S.1 S.2.1 dX8_masks_21 rfl (lv_at hl 2 rfl) ?_
    obtain ⟨o5, E1, E⟩ := cd_bE E
    refine cd_cVi (As := [.int (1 + a1), .int a2]) S hK hZ hl.1 (c_X8_exchanges l G (1 + a1) a2 o3 o5 E1) cd_v_X8_exchanges cd_m_X8_76 ⟨Nat.le_of_ble_eq_true rfl, Nat.le_of_ble_eq_true rfl⟩ ⟨rfl, rfl⟩ (ci := 8) (by decide) rfl cd_this8 rfl rfl (Nat.le_of_ble_eq_true rfl) ⟨Nat.zero_le _, Nat.zero_le _⟩ dX8_masks_22 (fun H locs hZ => ?_)
    exact hret _ _ _ _ _ _ (Option.some.inj E) hZ dX8_masks_25
  · have E := cd_tE c2 E
    refine lv_aload_n S.1 S.2.1 dX8_masks_8 rfl (lv_at hl 0 rfl) ?_
    obtain ⟨o7, E1, E⟩ := cd_nmE E
    refine cd_cVi (As := []) S hK hZ hl.1 (c_X8_bad l G  h o7 E1.symm) cd_v_X8_bad cd_m_X8_70 ⟨Nat.le_of_ble_eq_true rfl, Nat.le_of_ble_eq_true rfl⟩ ⟨rfl, rfl⟩ (ci := 8) (by decide) rfl cd_this8 rfl rfl (Nat.le_of_ble_eq_true rfl) ⟨Nat.zero_le _, Nat.zero_le _⟩ dX8_masks_9 (fun H locs hZ => ?_)
    exact hret _ _ _ _ _ _ (Option.some.inj E) hZ dX8_masks_12
abbrev rm_X8_canRate : Room := { frames := 2, cells := 0, slots := 0, locals := 43 }
theorem cd_v_X8_canRate : cd_V yX8_canRate cX8_canRate 4 (some .boolean) 3 := ⟨cd_i_X8_canRate, cd_e_X8_X8_canRate, cd_n_X8, cd_c_X8_canRate, by decide +kernel⟩
set_option maxHeartbeats 4000000 in
set_option maxRecDepth 100000 in
theorem c_X8_canRate (l : Launch) (G : cd_G) (a1 : Int32) (a2 : Int32) (a3 : Int32) (h : cd_Hp) (out : Int32) (E : f_X8_canRate a1 a2 a3 h = out) : cd_Mz l G yX8_canRate (Cond.code yX8_canRate cX8_canRate 4 (some .boolean) :: cd_T) rm_X8_canRate [.ref (G.2.2.2.2 + 404), .int a1, .int a2, .int a3] h (out, h) := by
  refine cd_inz (by decide) (Nat.le_of_ble_eq_true rfl) ?_
  intro p e s m args below meth c Q ls H locs S hK hZ hl hret
  have hl : lv_has ls 4 [(0, .ref (G.2.2.2.2 + 404)), (1, .int a1), (2, .int a2), (3, .int a3)] := hl
  unfold f_X8_canRate at E
  refine lv_aload_n S.1 S.2.1 dX8_canRate_0 rfl (lv_at hl 0 rfl) ?_
  refine lv_iload_n S.1 S.2.1 dX8_canRate_1 rfl (lv_at hl 1 rfl) ?_
  refine cd_cVz (As := [.int a1]) S hK hZ hl.1 (c_X8_isTask l G a1 h _ rfl) cd_v_X8_isTask cd_m_X8_86 ⟨Nat.le_of_ble_eq_true rfl, Nat.le_of_ble_eq_true rfl⟩ ⟨rfl, rfl⟩ (ci := 8) (by decide) rfl cd_this8 rfl rfl (Nat.le_of_ble_eq_true rfl) ⟨Nat.zero_le _, Nat.zero_le _⟩ dX8_canRate_2 (fun H locs hZ b1 => ?_)
  refine lv_if_eq (tgt := 29) S.1 S.2.1 dX8_canRate_5 (by decide) (fun c2 => ?_) (fun c2 => ?_)
  · have E := cd_tE c2 E
    refine lv_iconst (v := 0) S.1 S.2.1 dX8_canRate_29 (by decide) ?_
    exact hret _ _ _ _ _ _ (by decide) (congrArg (fun z => (z, h)) (E)) hZ dX8_canRate_30
  · have E := cd_fE c2 E
    refine lv_iload_n S.1 S.2.1 dX8_canRate_8 rfl (lv_at hl 2 rfl) ?_
    refine cd_cSz (As := [.int a2]) S hK hZ hl.1 (c_X8_isKind l G a2 h _ rfl) cd_v_X8_isKind cd_m_X8_79 ⟨Nat.le_of_ble_eq_true rfl, Nat.le_of_ble_eq_true rfl⟩ ⟨rfl, rfl⟩ rfl rfl (Nat.le_of_ble_eq_true rfl) ⟨Nat.zero_le _, Nat.zero_le _⟩ dX8_canRate_9 (fun H locs hZ b3 => ?_)
    refine lv_if_eq (tgt := 29) S.1 S.2.1 dX8_canRate_12 (by decide) (fun c4 => ?_) (fun c4 => ?_)
    · have E := cd_tE c4 E
      refine lv_iconst (v := 0) S.1 S.2.1 dX8_canRate_29 (by decide) ?_
      exact hret _ _ _ _ _ _ (by decide) (congrArg (fun z => (z, h)) (E)) hZ dX8_canRate_30
    · have E := cd_fE c4 E
      refine lv_iload_n S.1 S.2.1 dX8_canRate_15 rfl (lv_at hl 3 rfl) ?_
      refine lv_iconst (v := 0) S.1 S.2.1 dX8_canRate_16 (by decide) ?_
      refine lv_bipush (v := 99) S.1 S.2.1 dX8_canRate_17 (by decide) ?_
      refine cd_cSz (As := [.int a3, .int 0, .int 99]) S hK hZ hl.1 (c_X8_in l G a3 0 99 h _ rfl) cd_v_X8_in cd_m_X8_51 ⟨Nat.le_of_ble_eq_true rfl, Nat.le_of_ble_eq_true rfl⟩ ⟨rfl, rfl⟩ rfl rfl (Nat.le_of_ble_eq_true rfl) ⟨Nat.zero_le _, Nat.zero_le _⟩ dX8_canRate_19 (fun H locs hZ b5 => ?_)
      refine lv_if_eq (tgt := 29) S.1 S.2.1 dX8_canRate_22 (by decide) (fun c6 => ?_) (fun c6 => ?_)
      · have E := cd_tE c6 E
        refine lv_iconst (v := 0) S.1 S.2.1 dX8_canRate_29 (by decide) ?_
        exact hret _ _ _ _ _ _ (by decide) (congrArg (fun z => (z, h)) (E)) hZ dX8_canRate_30
      · have E := cd_fE c6 E
        refine lv_iconst (v := 1) S.1 S.2.1 dX8_canRate_25 (by decide) ?_
        refine lv_goto (tgt := 30) S.1 S.2.1 dX8_canRate_26 (by decide) ?_
        exact hret _ _ _ _ _ _ (by decide) (congrArg (fun z => (z, h)) (E)) hZ dX8_canRate_30
abbrev rm_X8_rates : Room := { frames := 3, cells := 0, slots := 0, locals := 66 }
theorem cd_v_X8_rates : cd_V yX8_rates cX8_rates 4 (some .int) 3 := ⟨cd_i_X8_rates, cd_e_X8_X8_rates, cd_n_X8, cd_c_X8_rates, by decide +kernel⟩
set_option maxHeartbeats 4000000 in
set_option maxRecDepth 100000 in
theorem c_X8_rates (l : Launch) (G : cd_G) (a1 : Int32) (a2 : Int32) (a3 : Int32) (h : cd_Hp) (out : (Int32 × cd_Hp)) (E : f_X8_rates a1 a2 a3 h = some out) : cd_Mi l G yX8_rates (Cond.code yX8_rates cX8_rates 4 (some .int) :: cd_T) rm_X8_rates [.ref (G.2.2.2.2 + 404), .int a1, .int a2, .int a3] h out := by
  refine cd_ini (by decide) (Nat.le_of_ble_eq_true rfl) ?_
  intro p e s m args below meth c Q ls H locs S hK hZ hl hret
  have hl : lv_has ls 4 [(0, .ref (G.2.2.2.2 + 404)), (1, .int a1), (2, .int a2), (3, .int a3)] := hl
  unfold f_X8_rates at E
  refine lv_aload_n S.1 S.2.1 dX8_rates_0 rfl (lv_at hl 0 rfl) ?_
  refine lv_iload_n S.1 S.2.1 dX8_rates_1 rfl (lv_at hl 1 rfl) ?_
  refine lv_iload_n S.1 S.2.1 dX8_rates_2 rfl (lv_at hl 2 rfl) ?_
  refine lv_iload_n S.1 S.2.1 dX8_rates_3 rfl (lv_at hl 3 rfl) ?_
  refine cd_cVz (As := [.int a1, .int a2, .int a3]) S hK hZ hl.1 (c_X8_canRate l G a1 a2 a3 h _ rfl) cd_v_X8_canRate cd_m_X8_89 ⟨Nat.le_of_ble_eq_true rfl, Nat.le_of_ble_eq_true rfl⟩ ⟨rfl, rfl⟩ (ci := 8) (by decide) rfl cd_this8 rfl rfl (Nat.le_of_ble_eq_true rfl) ⟨Nat.zero_le _, Nat.zero_le _⟩ dX8_rates_4 (fun H locs hZ b1 => ?_)
  refine lv_if_ne (tgt := 15) S.1 S.2.1 dX8_rates_7 (by decide) (fun c2 => ?_) (fun c2 => ?_)
  · have E := cd_fE c2 E
    refine lv_aload_n S.1 S.2.1 dX8_rates_15 rfl (lv_at hl 0 rfl) ?_
    obtain ⟨o3, E1, E⟩ := cd_bE E
    refine cd_cVv (As := []) S hK hZ hl.1 (c_X8_remembers l G  h o3 E1) cd_v_X8_remembers cd_m_X8_73 ⟨Nat.le_of_ble_eq_true rfl, Nat.le_of_ble_eq_true rfl⟩ ⟨rfl, rfl⟩ (ci := 8) (by decide) rfl cd_this8 rfl rfl (Nat.le_of_ble_eq_true rfl) ⟨Nat.zero_le _, Nat.zero_le _⟩ dX8_rates_16 (fun H locs hZ => ?_)
    refine lv_aload_n S.1 S.2.1 dX8_rates_19 rfl (lv_at hl 0 rfl) ?_
    refine lv_iload_n S.1 S.2.1 dX8_rates_20 rfl (lv_at hl 1 rfl) ?_
    refine cd_cSi (As := [.int a1]) S hK hZ hl.1 (c_X8_taskAt l G a1 o3 _ rfl) cd_v_X8_taskAt cd_m_X8_67 ⟨Nat.le_of_ble_eq_true rfl, Nat.le_of_ble_eq_true rfl⟩ ⟨rfl, rfl⟩ rfl rfl (Nat.le_of_ble_eq_true rfl) ⟨Nat.zero_le _, Nat.zero_le _⟩ dX8_rates_21 (fun H locs hZ => ?_)
    refine lv_iconst (v := 2) S.1 S.2.1 dX8_rates_24 (by decide) ?_
    refine lv_iadd S.1 S.2.1 dX8_rates_25 ?_
    refine lv_iload_n S.1 S.2.1 dX8_rates_26 rfl (lv_at hl 2 rfl) ?_
    refine lv_iadd S.1 S.2.1 dX8_rates_27 ?_
    refine lv_iload_n S.1 S.2.1 dX8_rates_28 rfl (lv_at hl 3 rfl) ?_
    obtain ⟨o6, E1, E⟩ := cd_bE E
    refine cd_cVi (As := [.int (((f_X8_taskAt a1) + 2) + a2), .int a3]) S hK hZ hl.1 (c_X8_exchanges l G (((f_X8_taskAt a1) + 2) + a2) a3 o3 o6 E1) cd_v_X8_exchanges cd_m_X8_76 ⟨Nat.le_of_ble_eq_true rfl, Nat.le_of_ble_eq_true rfl⟩ ⟨rfl, rfl⟩ (ci := 8) (by decide) rfl cd_this8 rfl rfl (Nat.le_of_ble_eq_true rfl) ⟨Nat.zero_le _, Nat.zero_le _⟩ dX8_rates_29 (fun H locs hZ => ?_)
    exact hret _ _ _ _ _ _ (Option.some.inj E) hZ dX8_rates_32
  · have E := cd_tE c2 E
    refine lv_aload_n S.1 S.2.1 dX8_rates_10 rfl (lv_at hl 0 rfl) ?_
    obtain ⟨o8, E1, E⟩ := cd_nmE E
    refine cd_cVi (As := []) S hK hZ hl.1 (c_X8_bad l G  h o8 E1.symm) cd_v_X8_bad cd_m_X8_70 ⟨Nat.le_of_ble_eq_true rfl, Nat.le_of_ble_eq_true rfl⟩ ⟨rfl, rfl⟩ (ci := 8) (by decide) rfl cd_this8 rfl rfl (Nat.le_of_ble_eq_true rfl) ⟨Nat.zero_le _, Nat.zero_le _⟩ dX8_rates_11 (fun H locs hZ => ?_)
    exact hret _ _ _ _ _ _ (Option.some.inj E) hZ dX8_rates_14
abbrev rm_X8_hasEnded : Room := { frames := 1, cells := 0, slots := 0, locals := 20 }
theorem cd_v_X8_hasEnded : cd_V yX8_hasEnded cX8_hasEnded 2 (some .boolean) 1 := ⟨cd_i_X8_hasEnded, cd_e_X8_X8_hasEnded, cd_n_X8, cd_c_X8_hasEnded, by decide +kernel⟩
set_option maxHeartbeats 4000000 in
set_option maxRecDepth 100000 in
theorem c_X8_hasEnded (l : Launch) (G : cd_G) (a1 : Int32) (h : cd_Hp) (out : Int32) (E : f_X8_hasEnded a1 h = some out) : cd_Mz l G yX8_hasEnded (Cond.code yX8_hasEnded cX8_hasEnded 2 (some .boolean) :: cd_T) rm_X8_hasEnded [.ref (G.2.2.2.2 + 404), .int a1] h (out, h) := by
  refine cd_inz (by decide) (Nat.le_of_ble_eq_true rfl) ?_
  intro p e s m args below meth c Q ls H locs S hK hZ hl hret
  have hl : lv_has ls 2 [(0, .ref (G.2.2.2.2 + 404)), (1, .int a1)] := hl
  unfold f_X8_hasEnded at E
  refine lv_aload_n S.1 S.2.1 dX8_hasEnded_0 rfl (lv_at hl 0 rfl) ?_
  refine cd_get8 (v := .ref (G.2.2.2.2 + 405)) S hK hZ cd_this8 0 cd_f_X8_7 rfl dX8_hasEnded_1 ?_
  refine lv_iload_n S.1 S.2.1 dX8_hasEnded_4 rfl (lv_at hl 1 rfl) ?_
  refine cd_cSi (As := [.int a1]) S hK hZ hl.1 (c_X8_taskAt l G a1 h _ rfl) cd_v_X8_taskAt cd_m_X8_67 ⟨Nat.le_of_ble_eq_true rfl, Nat.le_of_ble_eq_true rfl⟩ ⟨rfl, rfl⟩ rfl rfl (Nat.le_of_ble_eq_true rfl) ⟨Nat.zero_le _, Nat.zero_le _⟩ dX8_hasEnded_5 (fun H locs hZ => ?_)
  refine lv_iconst (v := 1) S.1 S.2.1 dX8_hasEnded_8 (by decide) ?_
  refine lv_iadd S.1 S.2.1 dX8_hasEnded_9 ?_
  obtain ⟨z2, E⟩ := cd_ckE E
  refine cd_iald S hK hZ (cd_r8_0 cd_this8) z2 dX8_hasEnded_10 ?_
  refine lv_iconst (v := 1) S.1 S.2.1 dX8_hasEnded_11 (by decide) ?_
  refine lv_icmp_ne (tgt := 19) S.1 S.2.1 dX8_hasEnded_12 (by decide) (fun c3 => ?_) (fun c3 => ?_)
  · have E := cd_fE c3 E
    refine lv_iconst (v := 0) S.1 S.2.1 dX8_hasEnded_19 (by decide) ?_
    exact hret _ _ _ _ _ _ (by decide) (congrArg (fun z => (z, h)) (Option.some.inj E)) hZ dX8_hasEnded_20
  · have E := cd_tE c3 E
    refine lv_iconst (v := 1) S.1 S.2.1 dX8_hasEnded_15 (by decide) ?_
    refine lv_goto (tgt := 20) S.1 S.2.1 dX8_hasEnded_16 (by decide) ?_
    exact hret _ _ _ _ _ _ (by decide) (congrArg (fun z => (z, h)) (Option.some.inj E)) hZ dX8_hasEnded_20
abbrev rm_X8_comesOf : Room := { frames := 2, cells := 0, slots := 0, locals := 42 }
theorem cd_v_X8_comesOf : cd_V yX8_comesOf cX8_comesOf 4 (some .int) 1 := ⟨cd_i_X8_comesOf, cd_e_X8_X8_comesOf, cd_n_X8, cd_c_X8_comesOf, by decide +kernel⟩
set_option maxHeartbeats 4000000 in
set_option maxRecDepth 100000 in
theorem c_X8_comesOf (l : Launch) (G : cd_G) (a1 : Int32) (h : cd_Hp) (out : (Int32 × cd_Hp)) (E : f_X8_comesOf a1 h = some out) : cd_Mi l G yX8_comesOf (Cond.code yX8_comesOf cX8_comesOf 4 (some .int) :: cd_T) rm_X8_comesOf [.ref (G.2.2.2.2 + 404), .int a1] h out := by
  refine cd_ini (by decide) (Nat.le_of_ble_eq_true rfl) ?_
  intro p e s m args below meth c Q ls H locs S hK hZ hl hret
  have hl : lv_has ls 4 [(0, .ref (G.2.2.2.2 + 404)), (1, .int a1)] := hl
  have L29 : ∀ (p29_2 : Int32), ∀ (n : Nat) (v29_3 : Int32) (h29_ : cd_Hp) (o : (Int32 × cd_Hp)) (H : Heap) (locs : List Loc) (ls : Array Slot), cd_lp (f_X8_comesOf_B29 a1 p29_2) n (v29_3, h29_) = some o → cd_Z G h29_ s.heap H locs → lv_has ls 4 [(3, .int v29_3), (2, .int p29_2), (0, .ref (G.2.2.2.2 + 404)), (1, .int a1)] → (∀ (H : Heap) (locs : List Loc) (ls : Array Slot), cd_Z G o.2 s.heap H locs → lv_has ls 4 [(3, .int o.1), (2, .int p29_2), (0, .ref (G.2.2.2.2 + 404)), (1, .int a1)] → W p l e rm_X8_comesOf s m args below meth c H locs 0 0 Q (F0 m 57 ls [])) → W p l e rm_X8_comesOf s m args below meth c H locs 0 0 Q (F0 m 29 ls []) := by
    intro p29_2
    intro n
    induction n with
    | zero => intro v29_3 h29_ o H locs ls E; exact nomatch (show (none : Option (Int32 × cd_Hp)) = some o from E)
    | succ n ih =>
      intro v29_3 h29_ o H locs ls E hZ hl hex
      have E : f_X8_comesOf_B29 a1 p29_2 (cd_lp (f_X8_comesOf_B29 a1 p29_2) n) (v29_3, h29_) = some o := E
      unfold f_X8_comesOf_B29 at E
      dsimp only at E
      refine lv_iload_n S.1 S.2.1 dX8_comesOf_29 rfl (lv_at hl 0 rfl) ?_
      refine lv_bipush (v := 8) S.1 S.2.1 dX8_comesOf_30 (by decide) ?_
      refine lv_icmp_ge (tgt := 57) S.1 S.2.1 dX8_comesOf_32 (by decide) (fun c7 => ?_) (fun c7 => ?_)
      · have E := cd_tE c7 E
        cases E
        exact hex H locs ls hZ (lv_sub hl [0, 1, 2, 3] rfl)
      · have E := cd_fE c7 E
        refine lv_aload_n S.1 S.2.1 dX8_comesOf_35 rfl (lv_at hl 2 rfl) ?_
        refine cd_get8 (v := .ref (G.2.2.2.2 + 405)) S hK hZ cd_this8 0 cd_f_X8_7 rfl dX8_comesOf_36 ?_
        refine lv_iload_n S.1 S.2.1 dX8_comesOf_39 rfl (lv_at hl 1 rfl) ?_
        refine lv_iconst (v := 2) S.1 S.2.1 dX8_comesOf_40 (by decide) ?_
        refine lv_iadd S.1 S.2.1 dX8_comesOf_41 ?_
        refine lv_iload_n S.1 S.2.1 dX8_comesOf_42 rfl (lv_at hl 0 rfl) ?_
        refine lv_iadd S.1 S.2.1 dX8_comesOf_43 ?_
        refine lv_aload_n S.1 S.2.1 dX8_comesOf_44 rfl (lv_at hl 2 rfl) ?_
        refine lv_iload_n S.1 S.2.1 dX8_comesOf_45 rfl (lv_at hl 3 rfl) ?_
        refine lv_iload_n S.1 S.2.1 dX8_comesOf_46 rfl (lv_at hl 0 rfl) ?_
        obtain ⟨o8, E1, E⟩ := cd_bE E
        refine cd_cVi (As := [.int a1, .int v29_3]) S hK hZ hl.1 (c_X8_rateOf l G a1 v29_3 h29_ o8 E1) cd_v_X8_rateOf cd_m_X8_92 ⟨Nat.le_of_ble_eq_true rfl, Nat.le_of_ble_eq_true rfl⟩ ⟨rfl, rfl⟩ (ci := 8) (by decide) rfl cd_this8 rfl rfl (Nat.le_of_ble_eq_true rfl) ⟨Nat.zero_le _, Nat.zero_le _⟩ dX8_comesOf_47 (fun H locs hZ => ?_)
        obtain ⟨z10, E⟩ := cd_ckE E
        obtain ⟨h11, eh11, E⟩ := cd_nmE E
        refine cd_iast S hK hZ (cd_r8_0 cd_this8) z10 eh11 dX8_comesOf_50 (fun H locs hZ => ?_)
        obtain ⟨x12, ex12, E⟩ := cd_nmE E
        refine lv_iinc (v := x12) (lv' := [(3, .int x12), (2, .int p29_2), (0, .ref (G.2.2.2.2 + 404)), (1, .int a1)]) S.1 S.2.1 dX8_comesOf_51 hl (k := 0) rfl (by rw [ex12]; rfl) (by decide) rfl (fun ls hl => ?_)
        refine lv_goto (tgt := 29) S.1 S.2.1 dX8_comesOf_54 (by decide) ?_
        exact ih x12 h11 o H locs ls E hZ (lv_sub hl [0, 1, 2, 3] rfl) hex
  unfold f_X8_comesOf at E
  refine lv_aload_n S.1 S.2.1 dX8_comesOf_0 rfl (lv_at hl 0 rfl) ?_
  refine cd_get8 (v := .ref (G.2.2.2.2 + 405)) S hK hZ cd_this8 0 cd_f_X8_7 rfl dX8_comesOf_1 ?_
  refine lv_bipush (v := 9) S.1 S.2.1 dX8_comesOf_4 (by decide) ?_
  refine cd_iald S hK hZ (cd_r8_0 cd_this8) (by decide) dX8_comesOf_6 ?_
  refine cd_cSi (As := [.int (cd_g h 405 (Int32.toNatClampNeg 9))]) S hK hZ hl.1 (c_X8_taskAt l G (cd_g h 405 (Int32.toNatClampNeg 9)) h _ rfl) cd_v_X8_taskAt cd_m_X8_67 ⟨Nat.le_of_ble_eq_true rfl, Nat.le_of_ble_eq_true rfl⟩ ⟨rfl, rfl⟩ rfl rfl (Nat.le_of_ble_eq_true rfl) ⟨Nat.zero_le _, Nat.zero_le _⟩ dX8_comesOf_7 (fun H locs hZ => ?_)
  obtain ⟨x2, ex2, E⟩ := cd_nmE E
  refine cd_topi ex2 ?_
  refine lv_istore_n (lv' := [(2, .int x2), (0, .ref (G.2.2.2.2 + 404)), (1, .int a1)]) S.1 S.2.1 dX8_comesOf_10 rfl hl (by decide) rfl (fun ls hl => ?_)
  refine lv_aload_n S.1 S.2.1 dX8_comesOf_11 rfl (lv_at hl 1 rfl) ?_
  refine cd_get8 (v := .ref (G.2.2.2.2 + 405)) S hK hZ cd_this8 0 cd_f_X8_7 rfl dX8_comesOf_12 ?_
  refine lv_iload_n S.1 S.2.1 dX8_comesOf_15 rfl (lv_at hl 0 rfl) ?_
  refine lv_iload_n S.1 S.2.1 dX8_comesOf_16 rfl (lv_at hl 2 rfl) ?_
  obtain ⟨z3, E⟩ := cd_ckE E
  obtain ⟨h4, eh4, E⟩ := cd_nmE E
  refine cd_iast S hK hZ (cd_r8_0 cd_this8) z3 eh4 dX8_comesOf_17 (fun H locs hZ => ?_)
  refine lv_aload_n S.1 S.2.1 dX8_comesOf_18 rfl (lv_at hl 1 rfl) ?_
  refine cd_get8 (v := .ref (G.2.2.2.2 + 405)) S hK hZ cd_this8 0 cd_f_X8_7 rfl dX8_comesOf_19 ?_
  refine lv_iload_n S.1 S.2.1 dX8_comesOf_22 rfl (lv_at hl 0 rfl) ?_
  refine lv_iconst (v := 1) S.1 S.2.1 dX8_comesOf_23 (by decide) ?_
  refine lv_iadd S.1 S.2.1 dX8_comesOf_24 ?_
  refine lv_iconst (v := 0) S.1 S.2.1 dX8_comesOf_25 (by decide) ?_
  obtain ⟨z5, E⟩ := cd_ckE E
  obtain ⟨h6, eh6, E⟩ := cd_nmE E
  refine cd_iast S hK hZ (cd_r8_0 cd_this8) z5 eh6 dX8_comesOf_26 (fun H locs hZ => ?_)
  refine lv_iconst (v := 0) S.1 S.2.1 dX8_comesOf_27 (by decide) ?_
  refine lv_istore_n (lv' := [(3, .int 0), (2, .int x2), (0, .ref (G.2.2.2.2 + 404)), (1, .int a1)]) S.1 S.2.1 dX8_comesOf_28 rfl hl (by decide) rfl (fun ls hl => ?_)
  obtain ⟨o13, E1, E⟩ := cd_bE E
  refine L29 x2 cd_fu 0 h6 o13 H locs ls E1 hZ (lv_sub hl [0, 1, 2, 3] rfl) (fun H locs ls hZ hl => ?_)
  refine lv_aload_n S.1 S.2.1 dX8_comesOf_57 rfl (lv_at hl 2 rfl) ?_
  refine cd_get8 (v := .ref (G.2.2.2.2 + 405)) S hK hZ cd_this8 0 cd_f_X8_7 rfl dX8_comesOf_58 ?_
  refine lv_bipush (v := 9) S.1 S.2.1 dX8_comesOf_61 (by decide) ?_
  refine lv_dup2_11 S.1 S.2.1 dX8_comesOf_63 rfl rfl ?_
  refine cd_iald S hK hZ (cd_r8_0 cd_this8) (by decide) dX8_comesOf_64 ?_
  refine lv_iconst (v := 1) S.1 S.2.1 dX8_comesOf_65 (by decide) ?_
  refine lv_iadd S.1 S.2.1 dX8_comesOf_66 ?_
  obtain ⟨h14, eh14, E⟩ := cd_nmE E
  refine cd_iast S hK hZ (cd_r8_0 cd_this8) (by decide) eh14 dX8_comesOf_67 (fun H locs hZ => ?_)
  refine lv_aload_n S.1 S.2.1 dX8_comesOf_68 rfl (lv_at hl 2 rfl) ?_
  refine cd_get8 (v := .ref (G.2.2.2.2 + 405)) S hK hZ cd_this8 0 cd_f_X8_7 rfl dX8_comesOf_69 ?_
  refine lv_bipush (v := 9) S.1 S.2.1 dX8_comesOf_72 (by decide) ?_
  refine cd_iald S hK hZ (cd_r8_0 cd_this8) (by decide) dX8_comesOf_74 ?_
  refine lv_iconst (v := 1) S.1 S.2.1 dX8_comesOf_75 (by decide) ?_
  refine lv_isub S.1 S.2.1 dX8_comesOf_76 ?_
  exact hret _ _ _ _ _ _ (Option.some.inj E) hZ dX8_comesOf_77
