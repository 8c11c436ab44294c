-- CONTRACTS (written by wip/whole/gen.py): X8_groupTold X8_obeys X8_swapsAside X8_does X8_refusedOf X8_refused X8_mix X8_mixGroup X8_digest
abbrev rm_X8_groupTold : Room := { frames := 4, cells := 0, slots := 0, locals := 94 }
theorem cd_v_X8_groupTold : cd_V yX8_groupTold cX8_groupTold 6 (some .boolean) 2 := ⟨cd_i_X8_groupTold, cd_e_X8_X8_groupTold, cd_n_X8, cd_c_X8_groupTold, by decide +kernel⟩
set_option maxHeartbeats 4000000 in
set_option maxRecDepth 100000 in
theorem c_X8_groupTold (l : Launch) (G : cd_G) (a1 : Int32) (a2 : Int32) (h : cd_Hp) (out : (Int32 × cd_Hp)) (E : f_X8_groupTold a1 a2 h = some out) : cd_Mz l G yX8_groupTold (Cond.code yX8_groupTold cX8_groupTold 6 (some .boolean) :: cd_T) rm_X8_groupTold [.ref (G.2.2.2.2 + 404), .int a1, .int a2] h out := by
  refine cd_inz (by decide) (Nat.le_of_ble_eq_true rfl) ?_
  intro p e s m args below meth c Q ls H locs S hK hZ hl hret
  have hl : lv_has ls 6 [(0, .ref (G.2.2.2.2 + 404)), (1, .int a1), (2, .int a2)] := hl
  have L107 : ∀ (p107_3 : Int32), ∀ (n : Nat) (v107_4 : Int32) (h107_ : cd_Hp) (o : ((Int32 × cd_Hp) ⊕ (Int32 × cd_Hp))) (H : Heap) (locs : List Loc) (ls : Array Slot), cd_lp (f_X8_groupTold_B107 a1 a2 p107_3) n (v107_4, h107_) = some o → cd_Z G h107_ s.heap H locs → lv_has ls 6 [(4, .int v107_4), (3, .int p107_3), (0, .ref (G.2.2.2.2 + 404)), (1, .int a1), (2, .int a2)] → (∀ x, o = .inl x → x = out) → (∀ st, o = .inr st → ∀ (H : Heap) (locs : List Loc) (ls : Array Slot), cd_Z G st.2 s.heap H locs → lv_has ls 6 [(4, .int st.1), (3, .int p107_3), (0, .ref (G.2.2.2.2 + 404)), (1, .int a1), (2, .int a2)] → W p l e rm_X8_groupTold s m args below meth c H locs 0 0 Q (F0 m 162 ls [])) → W p l e rm_X8_groupTold s m args below meth c H locs 0 0 Q (F0 m 107 ls []) := by
    intro p107_3
    intro n
    induction n with
    | zero => intro v107_4 h107_ o H locs ls E; exact nomatch (show (none : Option ((Int32 × cd_Hp) ⊕ (Int32 × cd_Hp))) = some o from E)
    | succ n ih =>
      intro v107_4 h107_ o H locs ls E hZ hl hin hex
      have E : f_X8_groupTold_B107 a1 a2 p107_3 (cd_lp (f_X8_groupTold_B107 a1 a2 p107_3) n) (v107_4, h107_) = some o := E
      unfold f_X8_groupTold_B107 at E
      dsimp only at E
      refine lv_iload S.1 S.2.1 dX8_groupTold_107 (lv_at hl 0 rfl) ?_
      refine lv_iload_n S.1 S.2.1 dX8_groupTold_109 rfl (lv_at hl 4 rfl) ?_
      refine lv_icmp_ge (tgt := 162) S.1 S.2.1 dX8_groupTold_110 (by decide) (fun c17 => ?_) (fun c17 => ?_)
      · have E := cd_tE c17 E
        cases E
        exact hex _ rfl H locs ls hZ (lv_sub hl [0, 1, 2, 3, 4] rfl)
      · have E := cd_fE c17 E
        refine lv_aload_n S.1 S.2.1 dX8_groupTold_113 rfl (lv_at hl 2 rfl) ?_
        refine cd_get8 (v := .ref (G.2.2.2.2 + 415)) S hK hZ cd_this8 13 cd_f_X8_40 rfl dX8_groupTold_114 ?_
        refine lv_iload S.1 S.2.1 dX8_groupTold_117 (lv_at hl 0 rfl) ?_
        obtain ⟨z18, E⟩ := cd_ckE E
        refine cd_iald S hK hZ (cd_r8_13 cd_this8) z18 dX8_groupTold_119 ?_
        refine cd_cSz (As := [.int (cd_g h107_ 415 (v107_4.toNatClampNeg))]) S hK hZ hl.1 (c_X8_isKind l G (cd_g h107_ 415 (v107_4.toNatClampNeg)) h107_ _ rfl) cd_v_X8_isKind cd_m_X8_79 ⟨Nat.le_of_ble_eq_true rfl, Nat.le_of_ble_eq_true rfl⟩ ⟨rfl, rfl⟩ rfl rfl (Nat.le_of_ble_eq_true rfl) ⟨Nat.zero_le _, Nat.zero_le _⟩ dX8_groupTold_120 (fun H locs hZ b19 => ?_)
        refine lv_if_ne (tgt := 128) S.1 S.2.1 dX8_groupTold_123 (by decide) (fun c20 => ?_) (fun c20 => ?_)
        · have E := cd_fE c20 E
          refine lv_aload_n S.1 S.2.1 dX8_groupTold_128 rfl (lv_at hl 2 rfl) ?_
          refine lv_iload_n S.1 S.2.1 dX8_groupTold_129 rfl (lv_at hl 1 rfl) ?_
          refine lv_aload_n S.1 S.2.1 dX8_groupTold_130 rfl (lv_at hl 2 rfl) ?_
          refine cd_get8 (v := .ref (G.2.2.2.2 + 415)) S hK hZ cd_this8 13 cd_f_X8_40 rfl dX8_groupTold_131 ?_
          refine lv_iload S.1 S.2.1 dX8_groupTold_134 (lv_at hl 0 rfl) ?_
          obtain ⟨z21, E⟩ := cd_ckE E
          refine cd_iald S hK hZ (cd_r8_13 cd_this8) z21 dX8_groupTold_136 ?_
          obtain ⟨o22, E1, E⟩ := cd_bE E
          refine cd_cVi (As := [.int p107_3, .int (cd_g h107_ 415 (v107_4.toNatClampNeg))]) S hK hZ hl.1 (c_X8_addsEvent l G p107_3 (cd_g h107_ 415 (v107_4.toNatClampNeg)) h107_ o22 E1) cd_v_X8_addsEvent cd_m_X8_118 ⟨Nat.le_of_ble_eq_true rfl, Nat.le_of_ble_eq_true rfl⟩ ⟨rfl, rfl⟩ (ci := 8) (by decide) rfl cd_this8 rfl rfl (Nat.le_of_ble_eq_true rfl) ⟨Nat.zero_le _, Nat.zero_le _⟩ dX8_groupTold_137 (fun H locs hZ => ?_)
          refine lv_istore (lv' := [(5, .int o22.1), (4, .int v107_4), (3, .int p107_3), (0, .ref (G.2.2.2.2 + 404)), (1, .int a1), (2, .int a2)]) S.1 S.2.1 dX8_groupTold_140 hl (by decide) rfl (fun ls hl => ?_)
          refine lv_aload_n S.1 S.2.1 dX8_groupTold_142 rfl (lv_at hl 3 rfl) ?_
          refine cd_get8 (v := .ref (G.2.2.2.2 + 405)) S hK hZ cd_this8 0 cd_f_X8_7 rfl dX8_groupTold_143 ?_
          refine lv_iload_n S.1 S.2.1 dX8_groupTold_146 rfl (lv_at hl 2 rfl) ?_
          refine lv_iload S.1 S.2.1 dX8_groupTold_147 (lv_at hl 0 rfl) ?_
          refine cd_cSi (As := [.int p107_3, .int o22.1]) S hK hZ hl.1 (c_X8_eventAt l G p107_3 o22.1 o22.2 _ rfl) cd_v_X8_eventAt cd_m_X8_115 ⟨Nat.le_of_ble_eq_true rfl, Nat.le_of_ble_eq_true rfl⟩ ⟨rfl, rfl⟩ rfl rfl (Nat.le_of_ble_eq_true rfl) ⟨Nat.zero_le _, Nat.zero_le _⟩ dX8_groupTold_149 (fun H locs hZ => ?_)
          refine lv_iconst (v := 2) S.1 S.2.1 dX8_groupTold_152 (by decide) ?_
          refine lv_iadd S.1 S.2.1 dX8_groupTold_153 ?_
          refine lv_iconst (v := (-1)) S.1 S.2.1 dX8_groupTold_154 (by decide) ?_
          obtain ⟨z25, E⟩ := cd_ckE E
          obtain ⟨h26, eh26, E⟩ := cd_nmE E
          refine cd_iast S hK hZ (cd_r8_0 cd_this8) z25 eh26 dX8_groupTold_155 (fun H locs hZ => ?_)
          obtain ⟨x27, ex27, E⟩ := cd_nmE E
          refine lv_iinc (v := x27) (lv' := [(4, .int x27), (5, .int o22.1), (3, .int p107_3), (0, .ref (G.2.2.2.2 + 404)), (1, .int a1), (2, .int a2)]) S.1 S.2.1 dX8_groupTold_156 hl (k := 1) rfl (by rw [ex27]; rfl) (by decide) rfl (fun ls hl => ?_)
          refine lv_goto (tgt := 107) S.1 S.2.1 dX8_groupTold_159 (by decide) ?_
          exact ih x27 h26 o H locs ls E hZ (lv_sub hl [0, 2, 3, 4, 5] rfl) hin hex
        · have E := cd_tE c20 E
          refine lv_iconst (v := 0) S.1 S.2.1 dX8_groupTold_126 (by decide) ?_
          cases E
          exact hret _ _ _ _ _ _ (by decide) (hin _ rfl) hZ dX8_groupTold_127
  unfold f_X8_groupTold at E
  refine lv_aload_n S.1 S.2.1 dX8_groupTold_0 rfl (lv_at hl 0 rfl) ?_
  refine lv_aload_n S.1 S.2.1 dX8_groupTold_1 rfl (lv_at hl 0 rfl) ?_
  refine cd_get8 (v := .ref (G.2.2.2.2 + 415)) S hK hZ cd_this8 13 cd_f_X8_40 rfl dX8_groupTold_2 ?_
  refine lv_iload_n S.1 S.2.1 dX8_groupTold_5 rfl (lv_at hl 1 rfl) ?_
  obtain ⟨z1, E⟩ := cd_ckE E
  refine cd_iald S hK hZ (cd_r8_13 cd_this8) z1 dX8_groupTold_6 ?_
  refine lv_aload_n S.1 S.2.1 dX8_groupTold_7 rfl (lv_at hl 0 rfl) ?_
  refine cd_get8 (v := .ref (G.2.2.2.2 + 415)) S hK hZ cd_this8 13 cd_f_X8_40 rfl dX8_groupTold_8 ?_
  refine lv_iload_n S.1 S.2.1 dX8_groupTold_11 rfl (lv_at hl 1 rfl) ?_
  refine lv_iconst (v := 1) S.1 S.2.1 dX8_groupTold_12 (by decide) ?_
  refine lv_iadd S.1 S.2.1 dX8_groupTold_13 ?_
  obtain ⟨z2, E⟩ := cd_ckE E
  refine cd_iald S hK hZ (cd_r8_13 cd_this8) z2 dX8_groupTold_14 ?_
  refine lv_aload_n S.1 S.2.1 dX8_groupTold_15 rfl (lv_at hl 0 rfl) ?_
  refine cd_get8 (v := .ref (G.2.2.2.2 + 415)) S hK hZ cd_this8 13 cd_f_X8_40 rfl dX8_groupTold_16 ?_
  refine lv_iload_n S.1 S.2.1 dX8_groupTold_19 rfl (lv_at hl 1 rfl) ?_
  refine lv_iconst (v := 2) S.1 S.2.1 dX8_groupTold_20 (by decide) ?_
  refine lv_iadd S.1 S.2.1 dX8_groupTold_21 ?_
  obtain ⟨z3, E⟩ := cd_ckE E
  refine cd_iald S hK hZ (cd_r8_13 cd_this8) z3 dX8_groupTold_22 ?_
  refine lv_aload_n S.1 S.2.1 dX8_groupTold_23 rfl (lv_at hl 0 rfl) ?_
  refine cd_get8 (v := .ref (G.2.2.2.2 + 415)) S hK hZ cd_this8 13 cd_f_X8_40 rfl dX8_groupTold_24 ?_
  refine lv_iload_n S.1 S.2.1 dX8_groupTold_27 rfl (lv_at hl 1 rfl) ?_
  refine lv_iconst (v := 3) S.1 S.2.1 dX8_groupTold_28 (by decide) ?_
  refine lv_iadd S.1 S.2.1 dX8_groupTold_29 ?_
  obtain ⟨z4, E⟩ := cd_ckE E
  refine cd_iald S hK hZ (cd_r8_13 cd_this8) z4 dX8_groupTold_30 ?_
  refine lv_aload_n S.1 S.2.1 dX8_groupTold_31 rfl (lv_at hl 0 rfl) ?_
  refine cd_get8 (v := .ref (G.2.2.2.2 + 415)) S hK hZ cd_this8 13 cd_f_X8_40 rfl dX8_groupTold_32 ?_
  refine lv_iload_n S.1 S.2.1 dX8_groupTold_35 rfl (lv_at hl 1 rfl) ?_
  refine lv_iconst (v := 4) S.1 S.2.1 dX8_groupTold_36 (by decide) ?_
  refine lv_iadd S.1 S.2.1 dX8_groupTold_37 ?_
  obtain ⟨z5, E⟩ := cd_ckE E
  refine cd_iald S hK hZ (cd_r8_13 cd_this8) z5 dX8_groupTold_38 ?_
  refine cd_cVz (As := [.int (cd_g h 415 (a1.toNatClampNeg)), .int (cd_g h 415 ((a1 + 1).toNatClampNeg)), .int (cd_g h 415 ((a1 + 2).toNatClampNeg)), .int (cd_g h 415 ((a1 + 3).toNatClampNeg)), .int (cd_g h 415 ((a1 + 4).toNatClampNeg))]) S hK hZ hl.1 (c_X8_canGroup l G (cd_g h 415 (a1.toNatClampNeg)) (cd_g h 415 ((a1 + 1).toNatClampNeg)) (cd_g h 415 ((a1 + 2).toNatClampNeg)) (cd_g h 415 ((a1 + 3).toNatClampNeg)) (cd_g h 415 ((a1 + 4).toNatClampNeg)) h _ rfl) cd_v_X8_canGroup cd_m_X8_121 ⟨Nat.le_of_ble_eq_true rfl, Nat.le_of_ble_eq_true rfl⟩ ⟨rfl, rfl⟩ (ci := 8) (by decide) rfl cd_this8 rfl rfl (Nat.le_of_ble_eq_true rfl) ⟨Nat.zero_le _, Nat.zero_le _⟩ dX8_groupTold_39 (fun H locs hZ b6 => ?_)
  refine lv_if_eq (tgt := 57) S.1 S.2.1 dX8_groupTold_42 (by decide) (fun c7 => ?_) (fun c7 => ?_)
  · have E := cd_tE c7 E
    refine lv_iconst (v := 0) S.1 S.2.1 dX8_groupTold_57 (by decide) ?_
    exact hret _ _ _ _ _ _ (by decide) (Option.some.inj E) hZ dX8_groupTold_58
  · have E := cd_fE c7 E
    refine lv_aload_n S.1 S.2.1 dX8_groupTold_45 rfl (lv_at hl 0 rfl) ?_
    refine cd_get8 (v := .ref (G.2.2.2.2 + 405)) S hK hZ cd_this8 0 cd_f_X8_7 rfl dX8_groupTold_46 ?_
    refine lv_bipush (v := 70) S.1 S.2.1 dX8_groupTold_49 (by decide) ?_
    refine cd_iald S hK hZ (cd_r8_0 cd_this8) (by decide) dX8_groupTold_51 ?_
    refine lv_bipush (v := 6) S.1 S.2.1 dX8_groupTold_52 (by decide) ?_
    refine lv_icmp_ne (tgt := 59) S.1 S.2.1 dX8_groupTold_54 (by decide) (fun c8 => ?_) (fun c8 => ?_)
    · have E := cd_fE c8 E
      refine lv_aload_n S.1 S.2.1 dX8_groupTold_59 rfl (lv_at hl 0 rfl) ?_
      refine lv_aload_n S.1 S.2.1 dX8_groupTold_60 rfl (lv_at hl 0 rfl) ?_
      refine cd_get8 (v := .ref (G.2.2.2.2 + 415)) S hK hZ cd_this8 13 cd_f_X8_40 rfl dX8_groupTold_61 ?_
      refine lv_iload_n S.1 S.2.1 dX8_groupTold_64 rfl (lv_at hl 1 rfl) ?_
      obtain ⟨z9, E⟩ := cd_ckE E
      refine cd_iald S hK hZ (cd_r8_13 cd_this8) z9 dX8_groupTold_65 ?_
      refine lv_aload_n S.1 S.2.1 dX8_groupTold_66 rfl (lv_at hl 0 rfl) ?_
      refine cd_get8 (v := .ref (G.2.2.2.2 + 415)) S hK hZ cd_this8 13 cd_f_X8_40 rfl dX8_groupTold_67 ?_
      refine lv_iload_n S.1 S.2.1 dX8_groupTold_70 rfl (lv_at hl 1 rfl) ?_
      refine lv_iconst (v := 1) S.1 S.2.1 dX8_groupTold_71 (by decide) ?_
      refine lv_iadd S.1 S.2.1 dX8_groupTold_72 ?_
      obtain ⟨z10, E⟩ := cd_ckE E
      refine cd_iald S hK hZ (cd_r8_13 cd_this8) z10 dX8_groupTold_73 ?_
      refine lv_aload_n S.1 S.2.1 dX8_groupTold_74 rfl (lv_at hl 0 rfl) ?_
      refine cd_get8 (v := .ref (G.2.2.2.2 + 415)) S hK hZ cd_this8 13 cd_f_X8_40 rfl dX8_groupTold_75 ?_
      refine lv_iload_n S.1 S.2.1 dX8_groupTold_78 rfl (lv_at hl 1 rfl) ?_
      refine lv_iconst (v := 2) S.1 S.2.1 dX8_groupTold_79 (by decide) ?_
      refine lv_iadd S.1 S.2.1 dX8_groupTold_80 ?_
      obtain ⟨z11, E⟩ := cd_ckE E
      refine cd_iald S hK hZ (cd_r8_13 cd_this8) z11 dX8_groupTold_81 ?_
      refine lv_aload_n S.1 S.2.1 dX8_groupTold_82 rfl (lv_at hl 0 rfl) ?_
      refine cd_get8 (v := .ref (G.2.2.2.2 + 415)) S hK hZ cd_this8 13 cd_f_X8_40 rfl dX8_groupTold_83 ?_
      refine lv_iload_n S.1 S.2.1 dX8_groupTold_86 rfl (lv_at hl 1 rfl) ?_
      refine lv_iconst (v := 3) S.1 S.2.1 dX8_groupTold_87 (by decide) ?_
      refine lv_iadd S.1 S.2.1 dX8_groupTold_88 ?_
      obtain ⟨z12, E⟩ := cd_ckE E
      refine cd_iald S hK hZ (cd_r8_13 cd_this8) z12 dX8_groupTold_89 ?_
      refine lv_aload_n S.1 S.2.1 dX8_groupTold_90 rfl (lv_at hl 0 rfl) ?_
      refine cd_get8 (v := .ref (G.2.2.2.2 + 415)) S hK hZ cd_this8 13 cd_f_X8_40 rfl dX8_groupTold_91 ?_
      refine lv_iload_n S.1 S.2.1 dX8_groupTold_94 rfl (lv_at hl 1 rfl) ?_
      refine lv_iconst (v := 4) S.1 S.2.1 dX8_groupTold_95 (by decide) ?_
      refine lv_iadd S.1 S.2.1 dX8_groupTold_96 ?_
      obtain ⟨z13, E⟩ := cd_ckE E
      refine cd_iald S hK hZ (cd_r8_13 cd_this8) z13 dX8_groupTold_97 ?_
      obtain ⟨o14, E1, E⟩ := cd_bE E
      refine cd_cVi (As := [.int (cd_g h 415 (a1.toNatClampNeg)), .int (cd_g h 415 ((a1 + 1).toNatClampNeg)), .int (cd_g h 415 ((a1 + 2).toNatClampNeg)), .int (cd_g h 415 ((a1 + 3).toNatClampNeg)), .int (cd_g h 415 ((a1 + 4).toNatClampNeg))]) S hK hZ hl.1 (c_X8_comesGroup l G (cd_g h 415 (a1.toNatClampNeg)) (cd_g h 415 ((a1 + 1).toNatClampNeg)) (cd_g h 415 ((a1 + 2).toNatClampNeg)) (cd_g h 415 ((a1 + 3).toNatClampNeg)) (cd_g h 415 ((a1 + 4).toNatClampNeg)) h o14 E1) cd_v_X8_comesGroup cd_m_X8_125 ⟨Nat.le_of_ble_eq_true rfl, Nat.le_of_ble_eq_true rfl⟩ ⟨rfl, rfl⟩ (ci := 8) (by decide) rfl cd_this8 rfl rfl (Nat.le_of_ble_eq_true rfl) ⟨Nat.zero_le _, Nat.zero_le _⟩ dX8_groupTold_98 (fun H locs hZ => ?_)
      refine lv_istore_n (lv' := [(3, .int o14.1), (0, .ref (G.2.2.2.2 + 404)), (1, .int a1), (2, .int a2)]) S.1 S.2.1 dX8_groupTold_101 rfl hl (by decide) rfl (fun ls hl => ?_)
      refine lv_iload_n S.1 S.2.1 dX8_groupTold_102 rfl (lv_at hl 2 rfl) ?_
      refine lv_iconst (v := 5) S.1 S.2.1 dX8_groupTold_103 (by decide) ?_
      refine lv_iadd S.1 S.2.1 dX8_groupTold_104 ?_
      obtain ⟨x16, ex16, E⟩ := cd_nmE E
      refine cd_topi ex16 ?_
      refine lv_istore (lv' := [(4, .int x16), (3, .int o14.1), (0, .ref (G.2.2.2.2 + 404)), (1, .int a1), (2, .int a2)]) S.1 S.2.1 dX8_groupTold_105 hl (by decide) rfl (fun ls hl => ?_)
      obtain ⟨o28, E1, EL, ER⟩ := cd_b2E E
      refine L107 o14.1 cd_fu x16 o14.2 o28 H locs ls E1 hZ (lv_sub hl [0, 1, 2, 3, 4] rfl) EL (fun st29 hst H locs ls hZ hl => ?_)
      have E := ER st29 hst
      refine lv_iconst (v := 1) S.1 S.2.1 dX8_groupTold_162 (by decide) ?_
      exact hret _ _ _ _ _ _ (by decide) (Option.some.inj E) hZ dX8_groupTold_163
    · have E := cd_tE c8 E
      refine lv_iconst (v := 0) S.1 S.2.1 dX8_groupTold_57 (by decide) ?_
      exact hret _ _ _ _ _ _ (by decide) (Option.some.inj E) hZ dX8_groupTold_58
abbrev rm_X8_obeys : Room := { frames := 6, cells := 0, slots := 0, locals := 139 }
theorem cd_v_X8_obeys : cd_V yX8_obeys cX8_obeys 6 (some .boolean) 1 := ⟨cd_i_X8_obeys, cd_e_X8_X8_obeys, cd_n_X8, cd_c_X8_obeys, by decide +kernel⟩
set_option maxHeartbeats 4000000 in
set_option maxRecDepth 100000 in
theorem c_X8_obeys (l : Launch) (G : cd_G) (a1 : Int32) (h : cd_Hp) (out : (Int32 × cd_Hp)) (E : f_X8_obeys a1 h = some out) : cd_Mz l G yX8_obeys (Cond.code yX8_obeys cX8_obeys 6 (some .boolean) :: cd_T) rm_X8_obeys [.ref (G.2.2.2.2 + 404), .int a1] h out := by
  refine cd_inz (by decide) (Nat.le_of_ble_eq_true rfl) ?_
  intro p e s m args below meth c Q ls H locs S hK hZ hl hret
  have hl : lv_has ls 6 [(0, .ref (G.2.2.2.2 + 404)), (1, .int a1)] := hl
  unfold f_X8_obeys at E
  refine lv_aload_n S.1 S.2.1 dX8_obeys_0 rfl (lv_at hl 0 rfl) ?_
  refine cd_get8 (v := .ref (G.2.2.2.2 + 414)) S hK hZ cd_this8 12 cd_f_X8_37 rfl dX8_obeys_1 ?_
  refine lv_iload_n S.1 S.2.1 dX8_obeys_4 rfl (lv_at hl 1 rfl) ?_
  obtain ⟨z1, E⟩ := cd_ckE E
  refine cd_iald S hK hZ (cd_r8_12 cd_this8) z1 dX8_obeys_5 ?_
  obtain ⟨x2, ex2, E⟩ := cd_nmE E
  refine cd_topi ex2 ?_
  refine lv_istore_n (lv' := [(2, .int x2), (0, .ref (G.2.2.2.2 + 404)), (1, .int a1)]) S.1 S.2.1 dX8_obeys_6 rfl hl (by decide) rfl (fun ls hl => ?_)
  refine lv_aload_n S.1 S.2.1 dX8_obeys_7 rfl (lv_at hl 1 rfl) ?_
  refine cd_get8 (v := .ref (G.2.2.2.2 + 415)) S hK hZ cd_this8 13 cd_f_X8_40 rfl dX8_obeys_8 ?_
  refine lv_iload_n S.1 S.2.1 dX8_obeys_11 rfl (lv_at hl 0 rfl) ?_
  obtain ⟨z3, E⟩ := cd_ckE E
  refine cd_iald S hK hZ (cd_r8_13 cd_this8) z3 dX8_obeys_12 ?_
  obtain ⟨x4, ex4, E⟩ := cd_nmE E
  refine cd_topi ex4 ?_
  refine lv_istore_n (lv' := [(3, .int x4), (2, .int x2), (0, .ref (G.2.2.2.2 + 404)), (1, .int a1)]) S.1 S.2.1 dX8_obeys_13 rfl hl (by decide) rfl (fun ls hl => ?_)
  refine lv_aload_n S.1 S.2.1 dX8_obeys_14 rfl (lv_at hl 2 rfl) ?_
  refine cd_get8 (v := .ref (G.2.2.2.2 + 415)) S hK hZ cd_this8 13 cd_f_X8_40 rfl dX8_obeys_15 ?_
  refine lv_iload_n S.1 S.2.1 dX8_obeys_18 rfl (lv_at hl 1 rfl) ?_
  refine lv_iconst (v := 1) S.1 S.2.1 dX8_obeys_19 (by decide) ?_
  refine lv_iadd S.1 S.2.1 dX8_obeys_20 ?_
  obtain ⟨z5, E⟩ := cd_ckE E
  refine cd_iald S hK hZ (cd_r8_13 cd_this8) z5 dX8_obeys_21 ?_
  obtain ⟨x6, ex6, E⟩ := cd_nmE E
  refine cd_topi ex6 ?_
  refine lv_istore (lv' := [(4, .int x6), (3, .int x4), (2, .int x2), (0, .ref (G.2.2.2.2 + 404)), (1, .int a1)]) S.1 S.2.1 dX8_obeys_22 hl (by decide) rfl (fun ls hl => ?_)
  refine lv_aload_n S.1 S.2.1 dX8_obeys_24 rfl (lv_at hl 3 rfl) ?_
  refine cd_get8 (v := .ref (G.2.2.2.2 + 413)) S hK hZ cd_this8 11 cd_f_X8_34 rfl dX8_obeys_25 ?_
  refine lv_iload_n S.1 S.2.1 dX8_obeys_28 rfl (lv_at hl 4 rfl) ?_
  obtain ⟨z7, E⟩ := cd_ckE E
  refine cd_iald S hK hZ (cd_r8_11 cd_this8) z7 dX8_obeys_29 ?_
  refine cd_by (p := (cd_g h 413 (a1.toNatClampNeg)) = 99) (fun c8 => ?_) (fun c8 => ?_)
  · have E := cd_tE c8 E
    refine lv_lookup (off := 71) (tgt := 101) S.1 S.2.1 dX8_obeys_30 (by decide) (by rw [c8]; first | done | rfl) (by decide) ?_
    refine lv_aload_n S.1 S.2.1 dX8_obeys_101 rfl (lv_at hl 3 rfl) ?_
    refine lv_iload_n S.1 S.2.1 dX8_obeys_102 rfl (lv_at hl 1 rfl) ?_
    refine lv_iload S.1 S.2.1 dX8_obeys_103 (lv_at hl 0 rfl) ?_
    refine lv_aload_n S.1 S.2.1 dX8_obeys_105 rfl (lv_at hl 3 rfl) ?_
    refine cd_get8 (v := .ref (G.2.2.2.2 + 415)) S hK hZ cd_this8 13 cd_f_X8_40 rfl dX8_obeys_106 ?_
    refine lv_iload_n S.1 S.2.1 dX8_obeys_109 rfl (lv_at hl 2 rfl) ?_
    refine lv_iconst (v := 2) S.1 S.2.1 dX8_obeys_110 (by decide) ?_
    refine lv_iadd S.1 S.2.1 dX8_obeys_111 ?_
    obtain ⟨z9, E⟩ := cd_ckE E
    refine cd_iald S hK hZ (cd_r8_13 cd_this8) z9 dX8_obeys_112 ?_
    refine cd_cVz (As := [.int x4, .int x6, .int (cd_g h 415 ((x2 + 2).toNatClampNeg))]) S hK hZ hl.1 (c_X8_canRate l G x4 x6 (cd_g h 415 ((x2 + 2).toNatClampNeg)) h _ rfl) cd_v_X8_canRate cd_m_X8_89 ⟨Nat.le_of_ble_eq_true rfl, Nat.le_of_ble_eq_true rfl⟩ ⟨rfl, rfl⟩ (ci := 8) (by decide) rfl cd_this8 rfl rfl (Nat.le_of_ble_eq_true rfl) ⟨Nat.zero_le _, Nat.zero_le _⟩ dX8_obeys_113 (fun H locs hZ b10 => ?_)
    obtain ⟨x11, ex11, E⟩ := cd_nmE E
    refine cd_topi ex11 ?_
    refine lv_istore (lv' := [(5, .int x11), (4, .int x6), (3, .int x4), (2, .int x2), (0, .ref (G.2.2.2.2 + 404)), (1, .int a1)]) S.1 S.2.1 dX8_obeys_116 hl (by decide) rfl (fun ls hl => ?_)
    refine lv_aload_n S.1 S.2.1 dX8_obeys_118 rfl (lv_at hl 4 rfl) ?_
    refine lv_iload S.1 S.2.1 dX8_obeys_119 (lv_at hl 0 rfl) ?_
    refine lv_iload S.1 S.2.1 dX8_obeys_121 (lv_at hl 0 rfl) ?_
    refine lv_if_eq (tgt := 138) S.1 S.2.1 dX8_obeys_123 (by decide) (fun c12 => ?_) (fun c12 => ?_)
    · have E := cd_tE c12 E
      refine lv_iconst (v := 0) S.1 S.2.1 dX8_obeys_138 (by decide) ?_
      refine lv_aload_n S.1 S.2.1 dX8_obeys_139 rfl (lv_at hl 4 rfl) ?_
      refine cd_get8 (v := .ref (G.2.2.2.2 + 415)) S hK hZ cd_this8 13 cd_f_X8_40 rfl dX8_obeys_140 ?_
      refine lv_iload_n S.1 S.2.1 dX8_obeys_143 rfl (lv_at hl 3 rfl) ?_
      refine lv_iconst (v := 2) S.1 S.2.1 dX8_obeys_144 (by decide) ?_
      refine lv_iadd S.1 S.2.1 dX8_obeys_145 ?_
      obtain ⟨z13, E⟩ := cd_ckE E
      refine cd_iald S hK hZ (cd_r8_13 cd_this8) z13 dX8_obeys_146 ?_
      obtain ⟨o14, E1, E⟩ := cd_bE E
      refine cd_cVz (As := [.int x11, .int 0, .int (cd_g h 415 ((x2 + 2).toNatClampNeg))]) S hK hZ hl.1 (c_X8_puts l G x11 0 (cd_g h 415 ((x2 + 2).toNatClampNeg)) h o14 E1) cd_v_X8_puts cd_m_X8_236 ⟨Nat.le_of_ble_eq_true rfl, Nat.le_of_ble_eq_true rfl⟩ ⟨rfl, rfl⟩ (ci := 8) (by decide) rfl cd_this8 rfl rfl (Nat.le_of_ble_eq_true rfl) ⟨Nat.zero_le _, Nat.zero_le _⟩ dX8_obeys_147 (fun H locs hZ b15 => ?_)
      exact hret _ _ _ _ _ _ b15 (Option.some.inj E) hZ dX8_obeys_150
    · have E := cd_fE c12 E
      refine lv_iload_n S.1 S.2.1 dX8_obeys_126 rfl (lv_at hl 2 rfl) ?_
      refine cd_cSi (As := [.int x4]) S hK hZ hl.1 (c_X8_taskAt l G x4 h _ rfl) cd_v_X8_taskAt cd_m_X8_67 ⟨Nat.le_of_ble_eq_true rfl, Nat.le_of_ble_eq_true rfl⟩ ⟨rfl, rfl⟩ rfl rfl (Nat.le_of_ble_eq_true rfl) ⟨Nat.zero_le _, Nat.zero_le _⟩ dX8_obeys_127 (fun H locs hZ => ?_)
      refine lv_iconst (v := 2) S.1 S.2.1 dX8_obeys_130 (by decide) ?_
      refine lv_iadd S.1 S.2.1 dX8_obeys_131 ?_
      refine lv_iload S.1 S.2.1 dX8_obeys_132 (lv_at hl 1 rfl) ?_
      refine lv_iadd S.1 S.2.1 dX8_obeys_134 ?_
      refine lv_goto (tgt := 139) S.1 S.2.1 dX8_obeys_135 (by decide) ?_
      refine lv_aload_n S.1 S.2.1 dX8_obeys_139 rfl (lv_at hl 4 rfl) ?_
      refine cd_get8 (v := .ref (G.2.2.2.2 + 415)) S hK hZ cd_this8 13 cd_f_X8_40 rfl dX8_obeys_140 ?_
      refine lv_iload_n S.1 S.2.1 dX8_obeys_143 rfl (lv_at hl 3 rfl) ?_
      refine lv_iconst (v := 2) S.1 S.2.1 dX8_obeys_144 (by decide) ?_
      refine lv_iadd S.1 S.2.1 dX8_obeys_145 ?_
      obtain ⟨z17, E⟩ := cd_ckE E
      refine cd_iald S hK hZ (cd_r8_13 cd_this8) z17 dX8_obeys_146 ?_
      obtain ⟨o18, E1, E⟩ := cd_bE E
      refine cd_cVz (As := [.int x11, .int (((f_X8_taskAt x4) + 2) + x6), .int (cd_g h 415 ((x2 + 2).toNatClampNeg))]) S hK hZ hl.1 (c_X8_puts l G x11 (((f_X8_taskAt x4) + 2) + x6) (cd_g h 415 ((x2 + 2).toNatClampNeg)) h o18 E1) cd_v_X8_puts cd_m_X8_236 ⟨Nat.le_of_ble_eq_true rfl, Nat.le_of_ble_eq_true rfl⟩ ⟨rfl, rfl⟩ (ci := 8) (by decide) rfl cd_this8 rfl rfl (Nat.le_of_ble_eq_true rfl) ⟨Nat.zero_le _, Nat.zero_le _⟩ dX8_obeys_147 (fun H locs hZ b19 => ?_)
      exact hret _ _ _ _ _ _ b19 (Option.some.inj E) hZ dX8_obeys_150
  · have E := cd_fE c8 E
    refine cd_by (p := (cd_g h 413 (a1.toNatClampNeg)) = 102) (fun c20 => ?_) (fun c20 => ?_)
    · have E := cd_tE c20 E
      refine lv_lookup (off := 121) (tgt := 151) S.1 S.2.1 dX8_obeys_30 (by decide) (by rw [c20]; first | done | rfl) (by decide) ?_
      refine lv_aload_n S.1 S.2.1 dX8_obeys_151 rfl (lv_at hl 3 rfl) ?_
      refine lv_iload_n S.1 S.2.1 dX8_obeys_152 rfl (lv_at hl 1 rfl) ?_
      refine cd_cVz (As := [.int x4]) S hK hZ hl.1 (c_X8_isTask l G x4 h _ rfl) cd_v_X8_isTask cd_m_X8_86 ⟨Nat.le_of_ble_eq_true rfl, Nat.le_of_ble_eq_true rfl⟩ ⟨rfl, rfl⟩ (ci := 8) (by decide) rfl cd_this8 rfl rfl (Nat.le_of_ble_eq_true rfl) ⟨Nat.zero_le _, Nat.zero_le _⟩ dX8_obeys_153 (fun H locs hZ b21 => ?_)
      refine lv_if_eq (tgt := 191) S.1 S.2.1 dX8_obeys_156 (by decide) (fun c22 => ?_) (fun c22 => ?_)
      · have E := cd_tE c22 E
        refine lv_iconst (v := 0) S.1 S.2.1 dX8_obeys_191 (by decide) ?_
        exact hret _ _ _ _ _ _ (by decide) (Option.some.inj E) hZ dX8_obeys_192
      · have E := cd_fE c22 E
        refine lv_aload_n S.1 S.2.1 dX8_obeys_159 rfl (lv_at hl 3 rfl) ?_
        refine lv_iload_n S.1 S.2.1 dX8_obeys_160 rfl (lv_at hl 1 rfl) ?_
        obtain ⟨o23, E1, E⟩ := cd_bE E
        refine cd_cVz (As := [.int x4]) S hK hZ hl.1 (c_X8_hasEnded l G x4 h o23 E1) cd_v_X8_hasEnded cd_m_X8_95 ⟨Nat.le_of_ble_eq_true rfl, Nat.le_of_ble_eq_true rfl⟩ ⟨rfl, rfl⟩ (ci := 8) (by decide) rfl cd_this8 rfl rfl (Nat.le_of_ble_eq_true rfl) ⟨Nat.zero_le _, Nat.zero_le _⟩ dX8_obeys_161 (fun H locs hZ b24 => ?_)
        refine lv_if_ne (tgt := 191) S.1 S.2.1 dX8_obeys_164 (by decide) (fun c25 => ?_) (fun c25 => ?_)
        · have E := cd_fE c25 E
          refine lv_iconst (v := 0) S.1 S.2.1 dX8_obeys_191 (by decide) ?_
          exact hret _ _ _ _ _ _ (by decide) (Option.some.inj E) hZ dX8_obeys_192
        · have E := cd_tE c25 E
          refine lv_aload_n S.1 S.2.1 dX8_obeys_167 rfl (lv_at hl 3 rfl) ?_
          refine cd_get8 (v := .ref (G.2.2.2.2 + 405)) S hK hZ cd_this8 0 cd_f_X8_7 rfl dX8_obeys_168 ?_
          refine lv_bipush (v := 9) S.1 S.2.1 dX8_obeys_171 (by decide) ?_
          refine cd_iald S hK hZ (cd_r8_0 cd_this8) (by decide) dX8_obeys_173 ?_
          refine lv_bipush (v := 6) S.1 S.2.1 dX8_obeys_174 (by decide) ?_
          refine lv_icmp_ge (tgt := 191) S.1 S.2.1 dX8_obeys_176 (by decide) (fun c26 => ?_) (fun c26 => ?_)
          · have E := cd_tE c26 E
            refine lv_iconst (v := 0) S.1 S.2.1 dX8_obeys_191 (by decide) ?_
            exact hret _ _ _ _ _ _ (by decide) (Option.some.inj E) hZ dX8_obeys_192
          · have E := cd_fE c26 E
            refine lv_aload_n S.1 S.2.1 dX8_obeys_179 rfl (lv_at hl 3 rfl) ?_
            refine lv_iload_n S.1 S.2.1 dX8_obeys_180 rfl (lv_at hl 1 rfl) ?_
            obtain ⟨o27, E1, E⟩ := cd_bE E
            refine cd_cVi (As := [.int x4]) S hK hZ hl.1 (c_X8_comesOf l G x4 h o27 E1) cd_v_X8_comesOf cd_m_X8_101 ⟨Nat.le_of_ble_eq_true rfl, Nat.le_of_ble_eq_true rfl⟩ ⟨rfl, rfl⟩ (ci := 8) (by decide) rfl cd_this8 rfl rfl (Nat.le_of_ble_eq_true rfl) ⟨Nat.zero_le _, Nat.zero_le _⟩ dX8_obeys_181 (fun H locs hZ => ?_)
            refine lv_if_le (tgt := 191) S.1 S.2.1 dX8_obeys_184 (by decide) (fun c29 => ?_) (fun c29 => ?_)
            · have E := cd_tE c29 E
              refine lv_iconst (v := 0) S.1 S.2.1 dX8_obeys_191 (by decide) ?_
              exact hret _ _ _ _ _ _ (by decide) (Option.some.inj E) hZ dX8_obeys_192
            · have E := cd_fE c29 E
              refine lv_iconst (v := 1) S.1 S.2.1 dX8_obeys_187 (by decide) ?_
              refine lv_goto (tgt := 192) S.1 S.2.1 dX8_obeys_188 (by decide) ?_
              exact hret _ _ _ _ _ _ (by decide) (Option.some.inj E) hZ dX8_obeys_192
    · have E := cd_fE c20 E
      refine cd_by (p := (cd_g h 413 (a1.toNatClampNeg)) = 103) (fun c30 => ?_) (fun c30 => ?_)
      · have E := cd_tE c30 E
        refine lv_lookup (off := 163) (tgt := 193) S.1 S.2.1 dX8_obeys_30 (by decide) (by rw [c30]; first | done | rfl) (by decide) ?_
        refine lv_aload_n S.1 S.2.1 dX8_obeys_193 rfl (lv_at hl 3 rfl) ?_
        refine lv_iload_n S.1 S.2.1 dX8_obeys_194 rfl (lv_at hl 2 rfl) ?_
        refine lv_aload_n S.1 S.2.1 dX8_obeys_195 rfl (lv_at hl 3 rfl) ?_
        refine cd_get8 (v := .ref (G.2.2.2.2 + 414)) S hK hZ cd_this8 12 cd_f_X8_37 rfl dX8_obeys_196 ?_
        refine lv_iload_n S.1 S.2.1 dX8_obeys_199 rfl (lv_at hl 4 rfl) ?_
        refine lv_iconst (v := 1) S.1 S.2.1 dX8_obeys_200 (by decide) ?_
        refine lv_iadd S.1 S.2.1 dX8_obeys_201 ?_
        obtain ⟨z31, E⟩ := cd_ckE E
        refine cd_iald S hK hZ (cd_r8_12 cd_this8) z31 dX8_obeys_202 ?_
        obtain ⟨o32, E1, E⟩ := cd_bE E
        refine cd_cVz (As := [.int x2, .int (cd_g h 414 ((a1 + 1).toNatClampNeg))]) S hK hZ hl.1 (c_X8_groupTold l G x2 (cd_g h 414 ((a1 + 1).toNatClampNeg)) h o32 E1) cd_v_X8_groupTold cd_m_X8_240 ⟨Nat.le_of_ble_eq_true rfl, Nat.le_of_ble_eq_true rfl⟩ ⟨rfl, rfl⟩ (ci := 8) (by decide) rfl cd_this8 rfl rfl (Nat.le_of_ble_eq_true rfl) ⟨Nat.zero_le _, Nat.zero_le _⟩ dX8_obeys_203 (fun H locs hZ b33 => ?_)
        exact hret _ _ _ _ _ _ b33 (Option.some.inj E) hZ dX8_obeys_206
      · have E := cd_fE c30 E
        refine cd_by (p := (cd_g h 413 (a1.toNatClampNeg)) = 109) (fun c34 => ?_) (fun c34 => ?_)
        · have E := cd_tE c34 E
          refine lv_lookup (off := 42) (tgt := 72) S.1 S.2.1 dX8_obeys_30 (by decide) (by rw [c34]; first | done | rfl) (by decide) ?_
          refine lv_iload_n S.1 S.2.1 dX8_obeys_72 rfl (lv_at hl 1 rfl) ?_
          refine lv_iload S.1 S.2.1 dX8_obeys_73 (lv_at hl 0 rfl) ?_
          refine cd_cSz (As := [.int x4, .int x6]) S hK hZ hl.1 (c_X8_canMask l G x4 x6 h _ rfl) cd_v_X8_canMask cd_m_X8_82 ⟨Nat.le_of_ble_eq_true rfl, Nat.le_of_ble_eq_true rfl⟩ ⟨rfl, rfl⟩ rfl rfl (Nat.le_of_ble_eq_true rfl) ⟨Nat.zero_le _, Nat.zero_le _⟩ dX8_obeys_75 (fun H locs hZ b35 => ?_)
          obtain ⟨x36, ex36, E⟩ := cd_nmE E
          refine cd_topi ex36 ?_
          refine lv_istore (lv' := [(5, .int x36), (4, .int x6), (3, .int x4), (2, .int x2), (0, .ref (G.2.2.2.2 + 404)), (1, .int a1)]) S.1 S.2.1 dX8_obeys_78 hl (by decide) rfl (fun ls hl => ?_)
          refine lv_aload_n S.1 S.2.1 dX8_obeys_80 rfl (lv_at hl 4 rfl) ?_
          refine lv_iload S.1 S.2.1 dX8_obeys_81 (lv_at hl 0 rfl) ?_
          refine lv_iload S.1 S.2.1 dX8_obeys_83 (lv_at hl 0 rfl) ?_
          refine lv_if_eq (tgt := 94) S.1 S.2.1 dX8_obeys_85 (by decide) (fun c37 => ?_) (fun c37 => ?_)
          · have E := cd_tE c37 E
            refine lv_iconst (v := 0) S.1 S.2.1 dX8_obeys_94 (by decide) ?_
            refine lv_iload S.1 S.2.1 dX8_obeys_95 (lv_at hl 1 rfl) ?_
            obtain ⟨o38, E1, E⟩ := cd_bE E
            refine cd_cVz (As := [.int x36, .int 0, .int x6]) S hK hZ hl.1 (c_X8_puts l G x36 0 x6 h o38 E1) cd_v_X8_puts cd_m_X8_236 ⟨Nat.le_of_ble_eq_true rfl, Nat.le_of_ble_eq_true rfl⟩ ⟨rfl, rfl⟩ (ci := 8) (by decide) rfl cd_this8 rfl rfl (Nat.le_of_ble_eq_true rfl) ⟨Nat.zero_le _, Nat.zero_le _⟩ dX8_obeys_97 (fun H locs hZ b39 => ?_)
            exact hret _ _ _ _ _ _ b39 (Option.some.inj E) hZ dX8_obeys_100
          · have E := cd_fE c37 E
            refine lv_iconst (v := 1) S.1 S.2.1 dX8_obeys_88 (by decide) ?_
            refine lv_iload_n S.1 S.2.1 dX8_obeys_89 rfl (lv_at hl 2 rfl) ?_
            refine lv_iadd S.1 S.2.1 dX8_obeys_90 ?_
            refine lv_goto (tgt := 95) S.1 S.2.1 dX8_obeys_91 (by decide) ?_
            refine lv_iload S.1 S.2.1 dX8_obeys_95 (lv_at hl 1 rfl) ?_
            obtain ⟨o40, E1, E⟩ := cd_bE E
            refine cd_cVz (As := [.int x36, .int (1 + x4), .int x6]) S hK hZ hl.1 (c_X8_puts l G x36 (1 + x4) x6 h o40 E1) cd_v_X8_puts cd_m_X8_236 ⟨Nat.le_of_ble_eq_true rfl, Nat.le_of_ble_eq_true rfl⟩ ⟨rfl, rfl⟩ (ci := 8) (by decide) rfl cd_this8 rfl rfl (Nat.le_of_ble_eq_true rfl) ⟨Nat.zero_le _, Nat.zero_le _⟩ dX8_obeys_97 (fun H locs hZ b41 => ?_)
            exact hret _ _ _ _ _ _ b41 (Option.some.inj E) hZ dX8_obeys_100
        · have E := cd_fE c34 E
          refine lv_lookup (off := 177) (tgt := 207) S.1 S.2.1 dX8_obeys_30 (by decide) (by show Op.lookupswitch.offset _ _ _ = _; rw [lv_osw c8 (by decide)]; rw [lv_osw c20 (by decide)]; rw [lv_osw c30 (by decide)]; rw [lv_osw c34 (by decide)]; first | done | rfl) (by decide) ?_
          refine lv_aload_n S.1 S.2.1 dX8_obeys_207 rfl (lv_at hl 3 rfl) ?_
          refine lv_iload_n S.1 S.2.1 dX8_obeys_208 rfl (lv_at hl 1 rfl) ?_
          refine lv_iload S.1 S.2.1 dX8_obeys_209 (lv_at hl 0 rfl) ?_
          refine cd_cVz (As := [.int x4, .int x6]) S hK hZ hl.1 (c_X8_isRun l G x4 x6 h _ rfl) cd_v_X8_isRun cd_m_X8_173 ⟨Nat.le_of_ble_eq_true rfl, Nat.le_of_ble_eq_true rfl⟩ ⟨rfl, rfl⟩ (ci := 8) (by decide) rfl cd_this8 rfl rfl (Nat.le_of_ble_eq_true rfl) ⟨Nat.zero_le _, Nat.zero_le _⟩ dX8_obeys_211 (fun H locs hZ b42 => ?_)
          refine lv_if_eq (tgt := 239) S.1 S.2.1 dX8_obeys_214 (by decide) (fun c43 => ?_) (fun c43 => ?_)
          · have E := cd_tE c43 E
            refine lv_iconst (v := 0) S.1 S.2.1 dX8_obeys_239 (by decide) ?_
            exact hret _ _ _ _ _ _ (by decide) (Option.some.inj E) hZ dX8_obeys_240
          · have E := cd_fE c43 E
            refine lv_aload_n S.1 S.2.1 dX8_obeys_217 rfl (lv_at hl 3 rfl) ?_
            refine lv_iload_n S.1 S.2.1 dX8_obeys_218 rfl (lv_at hl 1 rfl) ?_
            obtain ⟨o44, E1, E⟩ := cd_bE E
            refine cd_cVz (As := [.int x4]) S hK hZ hl.1 (c_X8_hasEnded l G x4 h o44 E1) cd_v_X8_hasEnded cd_m_X8_95 ⟨Nat.le_of_ble_eq_true rfl, Nat.le_of_ble_eq_true rfl⟩ ⟨rfl, rfl⟩ (ci := 8) (by decide) rfl cd_this8 rfl rfl (Nat.le_of_ble_eq_true rfl) ⟨Nat.zero_le _, Nat.zero_le _⟩ dX8_obeys_219 (fun H locs hZ b45 => ?_)
            refine lv_if_ne (tgt := 239) S.1 S.2.1 dX8_obeys_222 (by decide) (fun c46 => ?_) (fun c46 => ?_)
            · have E := cd_fE c46 E
              refine lv_iconst (v := 0) S.1 S.2.1 dX8_obeys_239 (by decide) ?_
              exact hret _ _ _ _ _ _ (by decide) (Option.some.inj E) hZ dX8_obeys_240
            · have E := cd_tE c46 E
              refine lv_aload_n S.1 S.2.1 dX8_obeys_225 rfl (lv_at hl 3 rfl) ?_
              refine lv_iload_n S.1 S.2.1 dX8_obeys_226 rfl (lv_at hl 1 rfl) ?_
              refine lv_iload S.1 S.2.1 dX8_obeys_227 (lv_at hl 0 rfl) ?_
              obtain ⟨o47, E1, E⟩ := cd_bE E
              refine cd_cVi (As := [.int x4, .int x6]) S hK hZ hl.1 (c_X8_goes l G x4 x6 h o47 E1) cd_v_X8_goes cd_m_X8_176 ⟨Nat.le_of_ble_eq_true rfl, Nat.le_of_ble_eq_true rfl⟩ ⟨rfl, rfl⟩ (ci := 8) (by decide) rfl cd_this8 rfl rfl (Nat.le_of_ble_eq_true rfl) ⟨Nat.zero_le _, Nat.zero_le _⟩ dX8_obeys_229 (fun H locs hZ => ?_)
              refine lv_if_le (tgt := 239) S.1 S.2.1 dX8_obeys_232 (by decide) (fun c49 => ?_) (fun c49 => ?_)
              · have E := cd_tE c49 E
                refine lv_iconst (v := 0) S.1 S.2.1 dX8_obeys_239 (by decide) ?_
                exact hret _ _ _ _ _ _ (by decide) (Option.some.inj E) hZ dX8_obeys_240
              · have E := cd_fE c49 E
                refine lv_iconst (v := 1) S.1 S.2.1 dX8_obeys_235 (by decide) ?_
                refine lv_goto (tgt := 240) S.1 S.2.1 dX8_obeys_236 (by decide) ?_
                exact hret _ _ _ _ _ _ (by decide) (Option.some.inj E) hZ dX8_obeys_240
abbrev rm_X8_swapsAside : Room := { frames := 0, cells := 0, slots := 0, locals := 0 }
theorem cd_v_X8_swapsAside : cd_V yX8_swapsAside cX8_swapsAside 3 none 0 := ⟨cd_i_X8_swapsAside, cd_e_X8_X8_swapsAside, cd_n_X8, cd_c_X8_swapsAside, by decide +kernel⟩
set_option maxHeartbeats 4000000 in
set_option maxRecDepth 100000 in
theorem c_X8_swapsAside (l : Launch) (G : cd_G)  (h : cd_Hp) (out : cd_Hp) (E : f_X8_swapsAside h = some out) : cd_Mv l G yX8_swapsAside (Cond.code yX8_swapsAside cX8_swapsAside 3 none :: cd_T) rm_X8_swapsAside [.ref (G.2.2.2.2 + 404)] h out := by
  refine cd_inv (by decide) (Nat.le_of_ble_eq_true rfl) ?_
  intro p e s m args below meth c Q ls H locs S hK hZ hl hret
  have hl : lv_has ls 3 [(0, .ref (G.2.2.2.2 + 404))] := hl
  have L2 : ∀ (n : Nat) (v2_1 : Int32) (h2_ : cd_Hp) (o : (Int32 × cd_Hp)) (H : Heap) (locs : List Loc) (ls : Array Slot), cd_lp (f_X8_swapsAside_B2) n (v2_1, h2_) = some o → cd_Z G h2_ s.heap H locs → lv_has ls 3 [(1, .int v2_1), (0, .ref (G.2.2.2.2 + 404))] → (∀ (H : Heap) (locs : List Loc) (ls : Array Slot), cd_Z G o.2 s.heap H locs → lv_has ls 3 [(1, .int o.1), (0, .ref (G.2.2.2.2 + 404))] → W p l e rm_X8_swapsAside s m args below meth c H locs 0 0 Q (F0 m 41 ls [])) → W p l e rm_X8_swapsAside s m args below meth c H locs 0 0 Q (F0 m 2 ls []) := by
    intro n
    induction n with
    | zero => intro v2_1 h2_ o H locs ls E; exact nomatch (show (none : Option (Int32 × cd_Hp)) = some o from E)
    | succ n ih =>
      intro v2_1 h2_ o H locs ls E hZ hl hex
      have E : f_X8_swapsAside_B2 (cd_lp (f_X8_swapsAside_B2) n) (v2_1, h2_) = some o := E
      unfold f_X8_swapsAside_B2 at E
      dsimp only at E
      refine lv_iload_n S.1 S.2.1 dX8_swapsAside_2 rfl (lv_at hl 0 rfl) ?_
      refine lv_sipush (v := 659) S.1 S.2.1 dX8_swapsAside_3 (by decide) ?_
      refine lv_icmp_ge (tgt := 41) S.1 S.2.1 dX8_swapsAside_6 (by decide) (fun c1 => ?_) (fun c1 => ?_)
      · have E := cd_tE c1 E
        cases E
        exact hex H locs ls hZ (lv_sub hl [0, 1] rfl)
      · have E := cd_fE c1 E
        refine lv_aload_n S.1 S.2.1 dX8_swapsAside_9 rfl (lv_at hl 1 rfl) ?_
        refine cd_get8 (v := .ref (G.2.2.2.2 + 405)) S hK hZ cd_this8 0 cd_f_X8_7 rfl dX8_swapsAside_10 ?_
        refine lv_iload_n S.1 S.2.1 dX8_swapsAside_13 rfl (lv_at hl 0 rfl) ?_
        obtain ⟨z2, E⟩ := cd_ckE E
        refine cd_iald S hK hZ (cd_r8_0 cd_this8) z2 dX8_swapsAside_14 ?_
        obtain ⟨x3, ex3, E⟩ := cd_nmE E
        refine cd_topi ex3 ?_
        refine lv_istore_n (lv' := [(2, .int x3), (1, .int v2_1), (0, .ref (G.2.2.2.2 + 404))]) S.1 S.2.1 dX8_swapsAside_15 rfl hl (by decide) rfl (fun ls hl => ?_)
        refine lv_aload_n S.1 S.2.1 dX8_swapsAside_16 rfl (lv_at hl 2 rfl) ?_
        refine cd_get8 (v := .ref (G.2.2.2.2 + 405)) S hK hZ cd_this8 0 cd_f_X8_7 rfl dX8_swapsAside_17 ?_
        refine lv_iload_n S.1 S.2.1 dX8_swapsAside_20 rfl (lv_at hl 1 rfl) ?_
        refine lv_aload_n S.1 S.2.1 dX8_swapsAside_21 rfl (lv_at hl 2 rfl) ?_
        refine cd_get8 (v := .ref (G.2.2.2.2 + 406)) S hK hZ cd_this8 1 cd_f_X8_13 rfl dX8_swapsAside_22 ?_
        refine lv_iload_n S.1 S.2.1 dX8_swapsAside_25 rfl (lv_at hl 1 rfl) ?_
        obtain ⟨z4, E⟩ := cd_ckE E
        refine cd_iald S hK hZ (cd_r8_1 cd_this8) z4 dX8_swapsAside_26 ?_
        obtain ⟨z5, E⟩ := cd_ckE E
        obtain ⟨h6, eh6, E⟩ := cd_nmE E
        refine cd_iast S hK hZ (cd_r8_0 cd_this8) z5 eh6 dX8_swapsAside_27 (fun H locs hZ => ?_)
        refine lv_aload_n S.1 S.2.1 dX8_swapsAside_28 rfl (lv_at hl 2 rfl) ?_
        refine cd_get8 (v := .ref (G.2.2.2.2 + 406)) S hK hZ cd_this8 1 cd_f_X8_13 rfl dX8_swapsAside_29 ?_
        refine lv_iload_n S.1 S.2.1 dX8_swapsAside_32 rfl (lv_at hl 1 rfl) ?_
        refine lv_iload_n S.1 S.2.1 dX8_swapsAside_33 rfl (lv_at hl 0 rfl) ?_
        obtain ⟨z7, E⟩ := cd_ckE E
        obtain ⟨h8, eh8, E⟩ := cd_nmE E
        refine cd_iast S hK hZ (cd_r8_1 cd_this8) z7 eh8 dX8_swapsAside_34 (fun H locs hZ => ?_)
        obtain ⟨x9, ex9, E⟩ := cd_nmE E
        refine lv_iinc (v := x9) (lv' := [(1, .int x9), (2, .int x3), (0, .ref (G.2.2.2.2 + 404))]) S.1 S.2.1 dX8_swapsAside_35 hl (k := 1) rfl (by rw [ex9]; rfl) (by decide) rfl (fun ls hl => ?_)
        refine lv_goto (tgt := 2) S.1 S.2.1 dX8_swapsAside_38 (by decide) ?_
        exact ih x9 h8 o H locs ls E hZ (lv_sub hl [0, 2] rfl) hex
  unfold f_X8_swapsAside at E
  refine lv_iconst (v := 0) S.1 S.2.1 dX8_swapsAside_0 (by decide) ?_
  refine lv_istore_n (lv' := [(1, .int 0), (0, .ref (G.2.2.2.2 + 404))]) S.1 S.2.1 dX8_swapsAside_1 rfl hl (by decide) rfl (fun ls hl => ?_)
  obtain ⟨o10, E1, E⟩ := cd_bE E
  refine L2 cd_fu 0 h o10 H locs ls E1 hZ (lv_sub hl [0, 1] rfl) (fun H locs ls hZ hl => ?_)
  exact hret _ _ _ _ _ (Option.some.inj E) hZ dX8_swapsAside_41
abbrev rm_X8_does : Room := { frames := 7, cells := 0, slots := 0, locals := 164 }
theorem cd_v_X8_does : cd_V yX8_does cX8_does 2 (some .int) 0 := ⟨cd_i_X8_does, cd_e_X8_X8_does, cd_n_X8, cd_c_X8_does, by decide +kernel⟩
set_option maxHeartbeats 4000000 in
set_option maxRecDepth 100000 in
theorem c_X8_does (l : Launch) (G : cd_G)  (h : cd_Hp) (out : (Int32 × cd_Hp)) (E : f_X8_does h = some out) : cd_Mi l G yX8_does (Cond.code yX8_does cX8_does 2 (some .int) :: cd_T) rm_X8_does [.ref (G.2.2.2.2 + 404)] h out := by
  refine cd_ini (by decide) (Nat.le_of_ble_eq_true rfl) ?_
  intro p e s m args below meth c Q ls H locs S hK hZ hl hret
  have hl : lv_has ls 2 [(0, .ref (G.2.2.2.2 + 404))] := hl
  have L17 : ∀ (n : Nat) (v17_1 : Int32) (h17_ : cd_Hp) (o : (Int32 × cd_Hp)) (H : Heap) (locs : List Loc) (ls : Array Slot), cd_lp (f_X8_does_B17) n (v17_1, h17_) = some o → cd_Z G h17_ s.heap H locs → lv_has ls 2 [(1, .int v17_1), (0, .ref (G.2.2.2.2 + 404))] → (∀ (H : Heap) (locs : List Loc) (ls : Array Slot), cd_Z G o.2 s.heap H locs → lv_has ls 2 [(1, .int o.1), (0, .ref (G.2.2.2.2 + 404))] → W p l e rm_X8_does s m args below meth c H locs 0 0 Q (F0 m 42 ls [])) → W p l e rm_X8_does s m args below meth c H locs 0 0 Q (F0 m 17 ls []) := by
    intro n
    induction n with
    | zero => intro v17_1 h17_ o H locs ls E; exact nomatch (show (none : Option (Int32 × cd_Hp)) = some o from E)
    | succ n ih =>
      intro v17_1 h17_ o H locs ls E hZ hl hex
      have E : f_X8_does_B17 (cd_lp (f_X8_does_B17) n) (v17_1, h17_) = some o := E
      unfold f_X8_does_B17 at E
      dsimp only at E
      refine lv_iload_n S.1 S.2.1 dX8_does_17 rfl (lv_at hl 0 rfl) ?_
      refine lv_sipush (v := 659) S.1 S.2.1 dX8_does_18 (by decide) ?_
      refine lv_icmp_ge (tgt := 42) S.1 S.2.1 dX8_does_21 (by decide) (fun c4 => ?_) (fun c4 => ?_)
      · have E := cd_tE c4 E
        cases E
        exact hex H locs ls hZ (lv_sub hl [0, 1] rfl)
      · have E := cd_fE c4 E
        refine lv_aload_n S.1 S.2.1 dX8_does_24 rfl (lv_at hl 1 rfl) ?_
        refine cd_get8 (v := .ref (G.2.2.2.2 + 406)) S hK hZ cd_this8 1 cd_f_X8_13 rfl dX8_does_25 ?_
        refine lv_iload_n S.1 S.2.1 dX8_does_28 rfl (lv_at hl 0 rfl) ?_
        refine lv_aload_n S.1 S.2.1 dX8_does_29 rfl (lv_at hl 1 rfl) ?_
        refine cd_get8 (v := .ref (G.2.2.2.2 + 405)) S hK hZ cd_this8 0 cd_f_X8_7 rfl dX8_does_30 ?_
        refine lv_iload_n S.1 S.2.1 dX8_does_33 rfl (lv_at hl 0 rfl) ?_
        obtain ⟨z5, E⟩ := cd_ckE E
        refine cd_iald S hK hZ (cd_r8_0 cd_this8) z5 dX8_does_34 ?_
        obtain ⟨z6, E⟩ := cd_ckE E
        obtain ⟨h7, eh7, E⟩ := cd_nmE E
        refine cd_iast S hK hZ (cd_r8_1 cd_this8) z6 eh7 dX8_does_35 (fun H locs hZ => ?_)
        obtain ⟨x8, ex8, E⟩ := cd_nmE E
        refine lv_iinc (v := x8) (lv' := [(1, .int x8), (0, .ref (G.2.2.2.2 + 404))]) S.1 S.2.1 dX8_does_36 hl (k := 0) rfl (by rw [ex8]; rfl) (by decide) rfl (fun ls hl => ?_)
        refine lv_goto (tgt := 17) S.1 S.2.1 dX8_does_39 (by decide) ?_
        exact ih x8 h7 o H locs ls E hZ (lv_sub hl [0, 1] rfl) hex
  have L44 : ∀ (n : Nat) (v44_1 : Int32) (h44_ : cd_Hp) (o : ((Int32 × cd_Hp) ⊕ (Int32 × cd_Hp))) (H : Heap) (locs : List Loc) (ls : Array Slot), cd_lp (f_X8_does_B44) n (v44_1, h44_) = some o → cd_Z G h44_ s.heap H locs → lv_has ls 2 [(1, .int v44_1), (0, .ref (G.2.2.2.2 + 404))] → (∀ x, o = .inl x → x = out) → (∀ st, o = .inr st → ∀ (H : Heap) (locs : List Loc) (ls : Array Slot), cd_Z G st.2 s.heap H locs → lv_has ls 2 [(1, .int st.1), (0, .ref (G.2.2.2.2 + 404))] → W p l e rm_X8_does s m args below meth c H locs 0 0 Q (F0 m 76 ls [])) → W p l e rm_X8_does s m args below meth c H locs 0 0 Q (F0 m 44 ls []) := by
    intro n
    induction n with
    | zero => intro v44_1 h44_ o H locs ls E; exact nomatch (show (none : Option ((Int32 × cd_Hp) ⊕ (Int32 × cd_Hp))) = some o from E)
    | succ n ih =>
      intro v44_1 h44_ o H locs ls E hZ hl hin hex
      have E : f_X8_does_B44 (cd_lp (f_X8_does_B44) n) (v44_1, h44_) = some o := E
      unfold f_X8_does_B44 at E
      dsimp only at E
      refine lv_iload_n S.1 S.2.1 dX8_does_44 rfl (lv_at hl 0 rfl) ?_
      refine lv_aload_n S.1 S.2.1 dX8_does_45 rfl (lv_at hl 1 rfl) ?_
      refine cd_get8 (v := .int (cd_g h44_ 404 14)) S hK hZ cd_this8 14 cd_f_X8_224 rfl dX8_does_46 ?_
      refine lv_icmp_ge (tgt := 76) S.1 S.2.1 dX8_does_49 (by decide) (fun c10 => ?_) (fun c10 => ?_)
      · have E := cd_tE c10 E
        cases E
        exact hex _ rfl H locs ls hZ (lv_sub hl [0, 1] rfl)
      · have E := cd_fE c10 E
        refine lv_aload_n S.1 S.2.1 dX8_does_52 rfl (lv_at hl 1 rfl) ?_
        refine lv_iload_n S.1 S.2.1 dX8_does_53 rfl (lv_at hl 0 rfl) ?_
        obtain ⟨o11, E1, E⟩ := cd_bE E
        refine cd_cVz (As := [.int v44_1]) S hK hZ hl.1 (c_X8_obeys l G v44_1 h44_ o11 E1) cd_v_X8_obeys cd_m_X8_246 ⟨Nat.le_of_ble_eq_true rfl, Nat.le_of_ble_eq_true rfl⟩ ⟨rfl, rfl⟩ (ci := 8) (by decide) rfl cd_this8 rfl rfl (Nat.le_of_ble_eq_true rfl) ⟨Nat.zero_le _, Nat.zero_le _⟩ dX8_does_54 (fun H locs hZ b12 => ?_)
        refine lv_if_ne (tgt := 70) S.1 S.2.1 dX8_does_57 (by decide) (fun c13 => ?_) (fun c13 => ?_)
        · have E := cd_fE c13 E
          obtain ⟨x14, ex14, E⟩ := cd_nmE E
          refine lv_iinc (v := x14) (lv' := [(1, .int x14), (0, .ref (G.2.2.2.2 + 404))]) S.1 S.2.1 dX8_does_70 hl (k := 0) rfl (by rw [ex14]; rfl) (by decide) rfl (fun ls hl => ?_)
          refine lv_goto (tgt := 44) S.1 S.2.1 dX8_does_73 (by decide) ?_
          exact ih x14 o11.2 o H locs ls E hZ (lv_sub hl [0, 1] rfl) hin hex
        · have E := cd_tE c13 E
          refine lv_aload_n S.1 S.2.1 dX8_does_60 rfl (lv_at hl 1 rfl) ?_
          obtain ⟨o15, E1, E⟩ := cd_bE E
          refine cd_cVv (As := []) S hK hZ hl.1 (c_X8_swapsAside l G  o11.2 o15 E1) cd_v_X8_swapsAside cd_m_X8_249 ⟨Nat.le_of_ble_eq_true rfl, Nat.le_of_ble_eq_true rfl⟩ ⟨rfl, rfl⟩ (ci := 8) (by decide) rfl cd_this8 rfl rfl (Nat.le_of_ble_eq_true rfl) ⟨Nat.zero_le _, Nat.zero_le _⟩ dX8_does_61 (fun H locs hZ => ?_)
          refine lv_sipush (v := (-1000)) S.1 S.2.1 dX8_does_64 (by decide) ?_
          refine lv_iload_n S.1 S.2.1 dX8_does_67 rfl (lv_at hl 0 rfl) ?_
          refine lv_isub S.1 S.2.1 dX8_does_68 ?_
          cases E
          exact hret _ _ _ _ _ _ (hin _ rfl) hZ dX8_does_69
  unfold f_X8_does at E
  refine lv_aload_n S.1 S.2.1 dX8_does_0 rfl (lv_at hl 0 rfl) ?_
  obtain ⟨o1, E1, E⟩ := cd_bE E
  refine cd_cVz (As := []) S hK hZ hl.1 (c_X8_isRead l G  h o1 E1) cd_v_X8_isRead cd_m_X8_243 ⟨Nat.le_of_ble_eq_true rfl, Nat.le_of_ble_eq_true rfl⟩ ⟨rfl, rfl⟩ (ci := 8) (by decide) rfl cd_this8 rfl rfl (Nat.le_of_ble_eq_true rfl) ⟨Nat.zero_le _, Nat.zero_le _⟩ dX8_does_1 (fun H locs hZ b2 => ?_)
  refine lv_if_ne (tgt := 15) S.1 S.2.1 dX8_does_4 (by decide) (fun c3 => ?_) (fun c3 => ?_)
  · have E := cd_fE c3 E
    refine lv_iconst (v := 0) S.1 S.2.1 dX8_does_15 (by decide) ?_
    refine lv_istore_n (lv' := [(1, .int 0), (0, .ref (G.2.2.2.2 + 404))]) S.1 S.2.1 dX8_does_16 rfl hl (by decide) rfl (fun ls hl => ?_)
    obtain ⟨o9, E1, E⟩ := cd_bE E
    refine L17 cd_fu 0 o1.2 o9 H locs ls E1 hZ (lv_sub hl [0, 1] rfl) (fun H locs ls hZ hl => ?_)
    refine lv_iconst (v := 0) S.1 S.2.1 dX8_does_42 (by decide) ?_
    refine lv_istore_n (lv' := [(1, .int 0), (0, .ref (G.2.2.2.2 + 404))]) S.1 S.2.1 dX8_does_43 rfl hl (by decide) rfl (fun ls hl => ?_)
    obtain ⟨o17, E1, EL, ER⟩ := cd_b2E E
    refine L44 cd_fu 0 o9.2 o17 H locs ls E1 hZ (lv_sub hl [0, 1] rfl) EL (fun st18 hst H locs ls hZ hl => ?_)
    have E := ER st18 hst
    refine lv_aload_n S.1 S.2.1 dX8_does_76 rfl (lv_at hl 1 rfl) ?_
    obtain ⟨o19, E1, E⟩ := cd_bE E
    refine cd_cVv (As := []) S hK hZ hl.1 (c_X8_swapsAside l G  st18.2 o19 E1) cd_v_X8_swapsAside cd_m_X8_249 ⟨Nat.le_of_ble_eq_true rfl, Nat.le_of_ble_eq_true rfl⟩ ⟨rfl, rfl⟩ (ci := 8) (by decide) rfl cd_this8 rfl rfl (Nat.le_of_ble_eq_true rfl) ⟨Nat.zero_le _, Nat.zero_le _⟩ dX8_does_77 (fun H locs hZ => ?_)
    refine lv_aload_n S.1 S.2.1 dX8_does_80 rfl (lv_at hl 1 rfl) ?_
    obtain ⟨o21, E1, E⟩ := cd_bE E
    refine cd_cVv (As := []) S hK hZ hl.1 (c_X8_remembers l G  o19 o21 E1) cd_v_X8_remembers cd_m_X8_73 ⟨Nat.le_of_ble_eq_true rfl, Nat.le_of_ble_eq_true rfl⟩ ⟨rfl, rfl⟩ (ci := 8) (by decide) rfl cd_this8 rfl rfl (Nat.le_of_ble_eq_true rfl) ⟨Nat.zero_le _, Nat.zero_le _⟩ dX8_does_81 (fun H locs hZ => ?_)
    refine lv_aload_n S.1 S.2.1 dX8_does_84 rfl (lv_at hl 1 rfl) ?_
    obtain ⟨o23, E1, E⟩ := cd_bE E
    refine cd_cVv (As := []) S hK hZ hl.1 (c_X8_swapsAside l G  o21 o23 E1) cd_v_X8_swapsAside cd_m_X8_249 ⟨Nat.le_of_ble_eq_true rfl, Nat.le_of_ble_eq_true rfl⟩ ⟨rfl, rfl⟩ (ci := 8) (by decide) rfl cd_this8 rfl rfl (Nat.le_of_ble_eq_true rfl) ⟨Nat.zero_le _, Nat.zero_le _⟩ dX8_does_85 (fun H locs hZ => ?_)
    refine lv_aload_n S.1 S.2.1 dX8_does_88 rfl (lv_at hl 1 rfl) ?_
    refine cd_get8 (v := .int (cd_g o23 404 14)) S hK hZ cd_this8 14 cd_f_X8_224 rfl dX8_does_89 ?_
    exact hret _ _ _ _ _ _ (Option.some.inj E) hZ dX8_does_92
  · have E := cd_tE c3 E
    refine lv_bipush (v := (-10)) S.1 S.2.1 dX8_does_7 (by decide) ?_
    refine lv_aload_n S.1 S.2.1 dX8_does_9 rfl (lv_at hl 0 rfl) ?_
    refine cd_get8 (v := .int (cd_g o1.2 404 16)) S hK hZ cd_this8 16 cd_f_X8_215 rfl dX8_does_10 ?_
    refine lv_isub S.1 S.2.1 dX8_does_13 ?_
    exact hret _ _ _ _ _ _ (Option.some.inj E) hZ dX8_does_14
abbrev rm_X8_refusedOf : Room := { frames := 0, cells := 0, slots := 0, locals := 0 }
theorem cd_v_X8_refusedOf : cd_V yX8_refusedOf cX8_refusedOf 2 (some .int) 1 := ⟨cd_i_X8_refusedOf, cd_e_X8_X8_refusedOf, cd_n_X8, cd_c_X8_refusedOf, by decide +kernel⟩
set_option maxHeartbeats 4000000 in
set_option maxRecDepth 100000 in
theorem c_X8_refusedOf (l : Launch) (G : cd_G) (a1 : Int32) (h : cd_Hp) (out : Int32) (E : f_X8_refusedOf a1 h = some out) : cd_Mi l G yX8_refusedOf (Cond.code yX8_refusedOf cX8_refusedOf 2 (some .int) :: cd_T) rm_X8_refusedOf [.ref (G.2.2.2.2 + 404), .int a1] h (out, h) := by
  refine cd_ini (by decide) (Nat.le_of_ble_eq_true rfl) ?_
  intro p e s m args below meth c Q ls H locs S hK hZ hl hret
  have hl : lv_has ls 2 [(0, .ref (G.2.2.2.2 + 404)), (1, .int a1)] := hl
  unfold f_X8_refusedOf at E
  refine lv_iload_n S.1 S.2.1 dX8_refusedOf_0 rfl (lv_at hl 1 rfl) ?_
  refine lv_iconst (v := 3) S.1 S.2.1 dX8_refusedOf_1 (by decide) ?_
  refine lv_icmp_ge (tgt := 14) S.1 S.2.1 dX8_refusedOf_2 (by decide) (fun c1 => ?_) (fun c1 => ?_)
  · have E := cd_tE c1 E
    refine lv_iload_n S.1 S.2.1 dX8_refusedOf_14 rfl (lv_at hl 1 rfl) ?_
    refine lv_iconst (v := 3) S.1 S.2.1 dX8_refusedOf_15 (by decide) ?_
    refine lv_icmp_ne (tgt := 26) S.1 S.2.1 dX8_refusedOf_16 (by decide) (fun c2 => ?_) (fun c2 => ?_)
    · have E := cd_fE c2 E
      refine lv_aload_n S.1 S.2.1 dX8_refusedOf_26 rfl (lv_at hl 0 rfl) ?_
      refine cd_get8 (v := .int (cd_g h 404 3)) S hK hZ cd_this8 3 cd_f_X8_43 rfl dX8_refusedOf_27 ?_
      exact hret _ _ _ _ _ _ (congrArg (fun z => (z, h)) (Option.some.inj E)) hZ dX8_refusedOf_30
    · have E := cd_tE c2 E
      refine lv_aload_n S.1 S.2.1 dX8_refusedOf_19 rfl (lv_at hl 0 rfl) ?_
      refine cd_get8 (v := .int (cd_g h 404 6)) S hK hZ cd_this8 6 cd_f_X8_206 rfl dX8_refusedOf_20 ?_
      refine lv_goto (tgt := 30) S.1 S.2.1 dX8_refusedOf_23 (by decide) ?_
      exact hret _ _ _ _ _ _ (congrArg (fun z => (z, h)) (Option.some.inj E)) hZ dX8_refusedOf_30
  · have E := cd_fE c1 E
    refine lv_aload_n S.1 S.2.1 dX8_refusedOf_5 rfl (lv_at hl 0 rfl) ?_
    refine cd_get8 (v := .ref (G.2.2.2.2 + 408)) S hK hZ cd_this8 4 cd_f_X8_19 rfl dX8_refusedOf_6 ?_
    refine lv_iload_n S.1 S.2.1 dX8_refusedOf_9 rfl (lv_at hl 1 rfl) ?_
    obtain ⟨z3, E⟩ := cd_ckE E
    refine cd_iald S hK hZ (cd_r8_4 cd_this8) z3 dX8_refusedOf_10 ?_
    refine lv_goto (tgt := 30) S.1 S.2.1 dX8_refusedOf_11 (by decide) ?_
    exact hret _ _ _ _ _ _ (congrArg (fun z => (z, h)) (Option.some.inj E)) hZ dX8_refusedOf_30
abbrev rm_X8_refused : Room := { frames := 1, cells := 0, slots := 0, locals := 22 }
theorem cd_v_X8_refused : cd_V yX8_refused cX8_refused 2 (some .int) 1 := ⟨cd_i_X8_refused, cd_e_X8_X8_refused, cd_n_X8, cd_c_X8_refused, by decide +kernel⟩
set_option maxHeartbeats 4000000 in
set_option maxRecDepth 100000 in
theorem c_X8_refused (l : Launch) (G : cd_G) (a1 : Int32) (h : cd_Hp) (out : (Int32 × cd_Hp)) (E : f_X8_refused a1 h = some out) : cd_Mi l G yX8_refused (Cond.code yX8_refused cX8_refused 2 (some .int) :: cd_T) rm_X8_refused [.ref (G.2.2.2.2 + 404), .int a1] h out := by
  refine cd_ini (by decide) (Nat.le_of_ble_eq_true rfl) ?_
  intro p e s m args below meth c Q ls H locs S hK hZ hl hret
  have hl : lv_has ls 2 [(0, .ref (G.2.2.2.2 + 404)), (1, .int a1)] := hl
  unfold f_X8_refused at E
  refine lv_iload_n S.1 S.2.1 dX8_refused_0 rfl (lv_at hl 1 rfl) ?_
  refine lv_iconst (v := 0) S.1 S.2.1 dX8_refused_1 (by decide) ?_
  refine lv_iconst (v := 4) S.1 S.2.1 dX8_refused_2 (by decide) ?_
  refine cd_cSz (As := [.int a1, .int 0, .int 4]) S hK hZ hl.1 (c_X8_in l G a1 0 4 h _ rfl) cd_v_X8_in cd_m_X8_51 ⟨Nat.le_of_ble_eq_true rfl, Nat.le_of_ble_eq_true rfl⟩ ⟨rfl, rfl⟩ rfl rfl (Nat.le_of_ble_eq_true rfl) ⟨Nat.zero_le _, Nat.zero_le _⟩ dX8_refused_3 (fun H locs hZ b1 => ?_)
  refine lv_if_eq (tgt := 17) S.1 S.2.1 dX8_refused_6 (by decide) (fun c2 => ?_) (fun c2 => ?_)
  · have E := cd_tE c2 E
    refine lv_aload_n S.1 S.2.1 dX8_refused_17 rfl (lv_at hl 0 rfl) ?_
    obtain ⟨o3, E1, E⟩ := cd_nmE E
    refine cd_cVi (As := []) S hK hZ hl.1 (c_X8_bad l G  h o3 E1.symm) cd_v_X8_bad cd_m_X8_70 ⟨Nat.le_of_ble_eq_true rfl, Nat.le_of_ble_eq_true rfl⟩ ⟨rfl, rfl⟩ (ci := 8) (by decide) rfl cd_this8 rfl rfl (Nat.le_of_ble_eq_true rfl) ⟨Nat.zero_le _, Nat.zero_le _⟩ dX8_refused_18 (fun H locs hZ => ?_)
    exact hret _ _ _ _ _ _ (Option.some.inj E) hZ dX8_refused_21
  · have E := cd_fE c2 E
    refine lv_aload_n S.1 S.2.1 dX8_refused_9 rfl (lv_at hl 0 rfl) ?_
    refine lv_iload_n S.1 S.2.1 dX8_refused_10 rfl (lv_at hl 1 rfl) ?_
    obtain ⟨o5, E1, E⟩ := cd_bE E
    refine cd_cVi (As := [.int a1]) S hK hZ hl.1 (c_X8_refusedOf l G a1 h o5 E1) cd_v_X8_refusedOf cd_m_X8_252 ⟨Nat.le_of_ble_eq_true rfl, Nat.le_of_ble_eq_true rfl⟩ ⟨rfl, rfl⟩ (ci := 8) (by decide) rfl cd_this8 rfl rfl (Nat.le_of_ble_eq_true rfl) ⟨Nat.zero_le _, Nat.zero_le _⟩ dX8_refused_11 (fun H locs hZ => ?_)
    refine lv_goto (tgt := 21) S.1 S.2.1 dX8_refused_14 (by decide) ?_
    exact hret _ _ _ _ _ _ (Option.some.inj E) hZ dX8_refused_21
abbrev rm_X8_mix : Room := { frames := 0, cells := 0, slots := 0, locals := 0 }
theorem cd_v_X8_mix : cd_V yX8_mix cX8_mix 3 none 1 := ⟨cd_i_X8_mix, cd_e_X8_X8_mix, cd_n_X8, cd_c_X8_mix, by decide +kernel⟩
set_option maxHeartbeats 4000000 in
set_option maxRecDepth 100000 in
theorem c_X8_mix (l : Launch) (G : cd_G) (a1 : Int64) (h : cd_Hp) (out : cd_Hp) (E : f_X8_mix a1 h = out) : cd_Mv l G yX8_mix (Cond.code yX8_mix cX8_mix 3 none :: cd_T) rm_X8_mix [.ref (G.2.2.2.2 + 404), .long a1] h out := by
  refine cd_inv (by decide) (Nat.le_of_ble_eq_true rfl) ?_
  intro p e s m args below meth c Q ls H locs S hK hZ hl hret
  have hl : lv_has ls 3 [(0, .ref (G.2.2.2.2 + 404)), (1, .long a1)] := hl
  unfold f_X8_mix at E
  refine lv_aload_n S.1 S.2.1 dX8_mix_0 rfl (lv_at hl 0 rfl) ?_
  refine lv_ldc2 (v := 31) S.1 S.2.1 S.2.2.2.1 (S.2.2.2.2 _ cd_l_X8_255) dX8_mix_1 ?_
  refine lv_aload_n S.1 S.2.1 dX8_mix_4 rfl (lv_at hl 0 rfl) ?_
  refine cd_get8 (v := .long h.2) S hK hZ cd_this8 17 cd_f_X8_257 rfl dX8_mix_5 ?_
  refine lv_lmul S.1 S.2.1 dX8_mix_8 ?_
  refine lv_lload_n S.1 S.2.1 dX8_mix_9 rfl (lv_at hl 1 rfl) ?_
  refine lv_ladd S.1 S.2.1 dX8_mix_10 ?_
  obtain ⟨h1, eh1, E⟩ := cd_nmE E
  refine cd_put8_17 S hK hZ cd_f_X8_257 eh1 dX8_mix_11 (fun H locs hZ => ?_)
  exact hret _ _ _ _ _ (E) hZ dX8_mix_14
abbrev rm_X8_mixGroup : Room := { frames := 3, cells := 0, slots := 0, locals := 68 }
theorem cd_v_X8_mixGroup : cd_V yX8_mixGroup cX8_mixGroup 4 none 1 := ⟨cd_i_X8_mixGroup, cd_e_X8_X8_mixGroup, cd_n_X8, cd_c_X8_mixGroup, by decide +kernel⟩
set_option maxHeartbeats 4000000 in
set_option maxRecDepth 100000 in
theorem c_X8_mixGroup (l : Launch) (G : cd_G) (a1 : Int32) (h : cd_Hp) (out : cd_Hp) (E : f_X8_mixGroup a1 h = some out) : cd_Mv l G yX8_mixGroup (Cond.code yX8_mixGroup cX8_mixGroup 4 none :: cd_T) rm_X8_mixGroup [.ref (G.2.2.2.2 + 404), .int a1] h out := by
  refine cd_inv (by decide) (Nat.le_of_ble_eq_true rfl) ?_
  intro p e s m args below meth c Q ls H locs S hK hZ hl hret
  have hl : lv_has ls 4 [(0, .ref (G.2.2.2.2 + 404)), (1, .int a1)] := hl
  have L2 : ∀ (n : Nat) (v2_2 : Int32) (h2_ : cd_Hp) (o : (Int32 × cd_Hp)) (H : Heap) (locs : List Loc) (ls : Array Slot), cd_lp (f_X8_mixGroup_B2 a1) n (v2_2, h2_) = some o → cd_Z G h2_ s.heap H locs → lv_has ls 4 [(2, .int v2_2), (0, .ref (G.2.2.2.2 + 404)), (1, .int a1)] → (∀ (H : Heap) (locs : List Loc) (ls : Array Slot), cd_Z G o.2 s.heap H locs → lv_has ls 4 [(2, .int o.1), (0, .ref (G.2.2.2.2 + 404)), (1, .int a1)] → W p l e rm_X8_mixGroup s m args below meth c H locs 0 0 Q (F0 m 25 ls [])) → W p l e rm_X8_mixGroup s m args below meth c H locs 0 0 Q (F0 m 2 ls []) := by
    intro n
    induction n with
    | zero => intro v2_2 h2_ o H locs ls E; exact nomatch (show (none : Option (Int32 × cd_Hp)) = some o from E)
    | succ n ih =>
      intro v2_2 h2_ o H locs ls E hZ hl hex
      have E : f_X8_mixGroup_B2 a1 (cd_lp (f_X8_mixGroup_B2 a1) n) (v2_2, h2_) = some o := E
      unfold f_X8_mixGroup_B2 at E
      dsimp only at E
      refine lv_iload_n S.1 S.2.1 dX8_mixGroup_2 rfl (lv_at hl 0 rfl) ?_
      refine lv_bipush (v := 10) S.1 S.2.1 dX8_mixGroup_3 (by decide) ?_
      refine lv_icmp_gt (tgt := 25) S.1 S.2.1 dX8_mixGroup_5 (by decide) (fun c1 => ?_) (fun c1 => ?_)
      · have E := cd_tE c1 E
        cases E
        exact hex H locs ls hZ (lv_sub hl [0, 1, 2] rfl)
      · have E := cd_fE c1 E
        refine lv_aload_n S.1 S.2.1 dX8_mixGroup_8 rfl (lv_at hl 1 rfl) ?_
        refine lv_aload_n S.1 S.2.1 dX8_mixGroup_9 rfl (lv_at hl 1 rfl) ?_
        refine lv_iload_n S.1 S.2.1 dX8_mixGroup_10 rfl (lv_at hl 2 rfl) ?_
        refine lv_iload_n S.1 S.2.1 dX8_mixGroup_11 rfl (lv_at hl 0 rfl) ?_
        obtain ⟨o2, E1, E⟩ := cd_bE E
        refine cd_cVi (As := [.int a1, .int v2_2]) S hK hZ hl.1 (c_X8_aboutGroup l G a1 v2_2 h2_ o2 E1) cd_v_X8_aboutGroup cd_m_X8_185 ⟨Nat.le_of_ble_eq_true rfl, Nat.le_of_ble_eq_true rfl⟩ ⟨rfl, rfl⟩ (ci := 8) (by decide) rfl cd_this8 rfl rfl (Nat.le_of_ble_eq_true rfl) ⟨Nat.zero_le _, Nat.zero_le _⟩ dX8_mixGroup_12 (fun H locs hZ => ?_)
        refine lv_i2l S.1 S.2.1 dX8_mixGroup_15 rfl ?_
        obtain ⟨o4, E1, E⟩ := cd_nmE E
        refine cd_cVv (As := [.long (Int32.toInt64 o2)]) S hK hZ hl.1 (c_X8_mix l G (Int32.toInt64 o2) h2_ o4 E1.symm) cd_v_X8_mix cd_m_X8_261 ⟨Nat.le_of_ble_eq_true rfl, Nat.le_of_ble_eq_true rfl⟩ ⟨rfl, rfl⟩ (ci := 8) (by decide) rfl cd_this8 rfl rfl (Nat.le_of_ble_eq_true rfl) ⟨Nat.zero_le _, Nat.zero_le _⟩ dX8_mixGroup_16 (fun H locs hZ => ?_)
        obtain ⟨x6, ex6, E⟩ := cd_nmE E
        refine lv_iinc (v := x6) (lv' := [(2, .int x6), (0, .ref (G.2.2.2.2 + 404)), (1, .int a1)]) S.1 S.2.1 dX8_mixGroup_19 hl (k := 0) rfl (by rw [ex6]; rfl) (by decide) rfl (fun ls hl => ?_)
        refine lv_goto (tgt := 2) S.1 S.2.1 dX8_mixGroup_22 (by decide) ?_
        exact ih x6 o4 o H locs ls E hZ (lv_sub hl [0, 1, 2] rfl) hex
  have L39 : ∀ (p39_2 : Int32), ∀ (n : Nat) (v39_3 : Int32) (h39_ : cd_Hp) (o : (Int32 × cd_Hp)) (H : Heap) (locs : List Loc) (ls : Array Slot), cd_lp (f_X8_mixGroup_B39 a1 p39_2) n (v39_3, h39_) = some o → cd_Z G h39_ s.heap H locs → lv_has ls 4 [(3, .int v39_3), (2, .int p39_2), (0, .ref (G.2.2.2.2 + 404)), (1, .int a1)] → (∀ (H : Heap) (locs : List Loc) (ls : Array Slot), cd_Z G o.2 s.heap H locs → lv_has ls 4 [(3, .int o.1), (2, .int p39_2), (0, .ref (G.2.2.2.2 + 404)), (1, .int a1)] → W p l e rm_X8_mixGroup s m args below meth c H locs 0 0 Q (F0 m 67 ls [])) → W p l e rm_X8_mixGroup s m args below meth c H locs 0 0 Q (F0 m 39 ls []) := by
    intro p39_2
    intro n
    induction n with
    | zero => intro v39_3 h39_ o H locs ls E; exact nomatch (show (none : Option (Int32 × cd_Hp)) = some o from E)
    | succ n ih =>
      intro v39_3 h39_ o H locs ls E hZ hl hex
      have E : f_X8_mixGroup_B39 a1 p39_2 (cd_lp (f_X8_mixGroup_B39 a1 p39_2) n) (v39_3, h39_) = some o := E
      unfold f_X8_mixGroup_B39 at E
      dsimp only at E
      refine lv_iload_n S.1 S.2.1 dX8_mixGroup_39 rfl (lv_at hl 0 rfl) ?_
      refine lv_iconst (v := 3) S.1 S.2.1 dX8_mixGroup_40 (by decide) ?_
      refine lv_icmp_ge (tgt := 67) S.1 S.2.1 dX8_mixGroup_41 (by decide) (fun c11 => ?_) (fun c11 => ?_)
      · have E := cd_tE c11 E
        cases E
        exact hex H locs ls hZ (lv_sub hl [0, 1, 2, 3] rfl)
      · have E := cd_fE c11 E
        refine lv_aload_n S.1 S.2.1 dX8_mixGroup_44 rfl (lv_at hl 2 rfl) ?_
        refine lv_aload_n S.1 S.2.1 dX8_mixGroup_45 rfl (lv_at hl 2 rfl) ?_
        refine cd_get8 (v := .ref (G.2.2.2.2 + 405)) S hK hZ cd_this8 0 cd_f_X8_7 rfl dX8_mixGroup_46 ?_
        refine lv_iload_n S.1 S.2.1 dX8_mixGroup_49 rfl (lv_at hl 3 rfl) ?_
        refine lv_iload_n S.1 S.2.1 dX8_mixGroup_50 rfl (lv_at hl 1 rfl) ?_
        refine cd_cSi (As := [.int a1, .int p39_2]) S hK hZ hl.1 (c_X8_eventAt l G a1 p39_2 h39_ _ rfl) cd_v_X8_eventAt cd_m_X8_115 ⟨Nat.le_of_ble_eq_true rfl, Nat.le_of_ble_eq_true rfl⟩ ⟨rfl, rfl⟩ rfl rfl (Nat.le_of_ble_eq_true rfl) ⟨Nat.zero_le _, Nat.zero_le _⟩ dX8_mixGroup_51 (fun H locs hZ => ?_)
        refine lv_iload_n S.1 S.2.1 dX8_mixGroup_54 rfl (lv_at hl 0 rfl) ?_
        refine lv_iadd S.1 S.2.1 dX8_mixGroup_55 ?_
        obtain ⟨z13, E⟩ := cd_ckE E
        refine cd_iald S hK hZ (cd_r8_0 cd_this8) z13 dX8_mixGroup_56 ?_
        refine lv_i2l S.1 S.2.1 dX8_mixGroup_57 rfl ?_
        obtain ⟨o14, E1, E⟩ := cd_nmE E
        refine cd_cVv (As := [.long (Int32.toInt64 (cd_g h39_ 405 (((f_X8_eventAt a1 p39_2) + v39_3).toNatClampNeg)))]) S hK hZ hl.1 (c_X8_mix l G (Int32.toInt64 (cd_g h39_ 405 (((f_X8_eventAt a1 p39_2) + v39_3).toNatClampNeg))) h39_ o14 E1.symm) cd_v_X8_mix cd_m_X8_261 ⟨Nat.le_of_ble_eq_true rfl, Nat.le_of_ble_eq_true rfl⟩ ⟨rfl, rfl⟩ (ci := 8) (by decide) rfl cd_this8 rfl rfl (Nat.le_of_ble_eq_true rfl) ⟨Nat.zero_le _, Nat.zero_le _⟩ dX8_mixGroup_58 (fun H locs hZ => ?_)
        obtain ⟨x16, ex16, E⟩ := cd_nmE E
        refine lv_iinc (v := x16) (lv' := [(3, .int x16), (2, .int p39_2), (0, .ref (G.2.2.2.2 + 404)), (1, .int a1)]) S.1 S.2.1 dX8_mixGroup_61 hl (k := 0) rfl (by rw [ex16]; rfl) (by decide) rfl (fun ls hl => ?_)
        refine lv_goto (tgt := 39) S.1 S.2.1 dX8_mixGroup_64 (by decide) ?_
        exact ih x16 o14 o H locs ls E hZ (lv_sub hl [0, 1, 2, 3] rfl) hex
  have L69 : ∀ (p69_2 : Int32), ∀ (n : Nat) (v69_3 : Int32) (h69_ : cd_Hp) (o : (Int32 × cd_Hp)) (H : Heap) (locs : List Loc) (ls : Array Slot), cd_lp (f_X8_mixGroup_B69 a1 p69_2) n (v69_3, h69_) = some o → cd_Z G h69_ s.heap H locs → lv_has ls 4 [(3, .int v69_3), (2, .int p69_2), (0, .ref (G.2.2.2.2 + 404)), (1, .int a1)] → (∀ (H : Heap) (locs : List Loc) (ls : Array Slot), cd_Z G o.2 s.heap H locs → lv_has ls 4 [(3, .int o.1), (2, .int p69_2), (0, .ref (G.2.2.2.2 + 404)), (1, .int a1)] → W p l e rm_X8_mixGroup s m args below meth c H locs 0 0 Q (F0 m 102 ls [])) → W p l e rm_X8_mixGroup s m args below meth c H locs 0 0 Q (F0 m 69 ls []) := by
    intro p69_2
    intro n
    induction n with
    | zero => intro v69_3 h69_ o H locs ls E; exact nomatch (show (none : Option (Int32 × cd_Hp)) = some o from E)
    | succ n ih =>
      intro v69_3 h69_ o H locs ls E hZ hl hex
      have E : f_X8_mixGroup_B69 a1 p69_2 (cd_lp (f_X8_mixGroup_B69 a1 p69_2) n) (v69_3, h69_) = some o := E
      unfold f_X8_mixGroup_B69 at E
      dsimp only at E
      refine lv_iload_n S.1 S.2.1 dX8_mixGroup_69 rfl (lv_at hl 0 rfl) ?_
      refine lv_aload_n S.1 S.2.1 dX8_mixGroup_70 rfl (lv_at hl 2 rfl) ?_
      refine cd_get8 (v := .ref (G.2.2.2.2 + 405)) S hK hZ cd_this8 0 cd_f_X8_7 rfl dX8_mixGroup_71 ?_
      refine lv_bipush (v := 9) S.1 S.2.1 dX8_mixGroup_74 (by decide) ?_
      refine cd_iald S hK hZ (cd_r8_0 cd_this8) (by decide) dX8_mixGroup_76 ?_
      refine lv_icmp_ge (tgt := 102) S.1 S.2.1 dX8_mixGroup_77 (by decide) (fun c18 => ?_) (fun c18 => ?_)
      · have E := cd_tE c18 E
        cases E
        exact hex H locs ls hZ (lv_sub hl [0, 1, 2, 3] rfl)
      · have E := cd_fE c18 E
        refine lv_aload_n S.1 S.2.1 dX8_mixGroup_80 rfl (lv_at hl 2 rfl) ?_
        refine lv_aload_n S.1 S.2.1 dX8_mixGroup_81 rfl (lv_at hl 2 rfl) ?_
        refine cd_get8 (v := .ref (G.2.2.2.2 + 405)) S hK hZ cd_this8 0 cd_f_X8_7 rfl dX8_mixGroup_82 ?_
        refine lv_iload_n S.1 S.2.1 dX8_mixGroup_85 rfl (lv_at hl 3 rfl) ?_
        refine lv_iload_n S.1 S.2.1 dX8_mixGroup_86 rfl (lv_at hl 1 rfl) ?_
        refine lv_iload_n S.1 S.2.1 dX8_mixGroup_87 rfl (lv_at hl 0 rfl) ?_
        refine cd_cSi (As := [.int a1, .int p69_2, .int v69_3]) S hK hZ hl.1 (c_X8_countAt l G a1 p69_2 v69_3 h69_ _ rfl) cd_v_X8_countAt cd_m_X8_111 ⟨Nat.le_of_ble_eq_true rfl, Nat.le_of_ble_eq_true rfl⟩ ⟨rfl, rfl⟩ rfl rfl (Nat.le_of_ble_eq_true rfl) ⟨Nat.zero_le _, Nat.zero_le _⟩ dX8_mixGroup_88 (fun H locs hZ => ?_)
        obtain ⟨z20, E⟩ := cd_ckE E
        refine cd_iald S hK hZ (cd_r8_0 cd_this8) z20 dX8_mixGroup_91 ?_
        refine lv_i2l S.1 S.2.1 dX8_mixGroup_92 rfl ?_
        obtain ⟨o21, E1, E⟩ := cd_nmE E
        refine cd_cVv (As := [.long (Int32.toInt64 (cd_g h69_ 405 ((f_X8_countAt a1 p69_2 v69_3).toNatClampNeg)))]) S hK hZ hl.1 (c_X8_mix l G (Int32.toInt64 (cd_g h69_ 405 ((f_X8_countAt a1 p69_2 v69_3).toNatClampNeg))) h69_ o21 E1.symm) cd_v_X8_mix cd_m_X8_261 ⟨Nat.le_of_ble_eq_true rfl, Nat.le_of_ble_eq_true rfl⟩ ⟨rfl, rfl⟩ (ci := 8) (by decide) rfl cd_this8 rfl rfl (Nat.le_of_ble_eq_true rfl) ⟨Nat.zero_le _, Nat.zero_le _⟩ dX8_mixGroup_93 (fun H locs hZ => ?_)
        obtain ⟨x23, ex23, E⟩ := cd_nmE E
        refine lv_iinc (v := x23) (lv' := [(3, .int x23), (2, .int p69_2), (0, .ref (G.2.2.2.2 + 404)), (1, .int a1)]) S.1 S.2.1 dX8_mixGroup_96 hl (k := 0) rfl (by rw [ex23]; rfl) (by decide) rfl (fun ls hl => ?_)
        refine lv_goto (tgt := 69) S.1 S.2.1 dX8_mixGroup_99 (by decide) ?_
        exact ih x23 o21 o H locs ls E hZ (lv_sub hl [0, 1, 2, 3] rfl) hex
  have L27 : ∀ (n : Nat) (v27_2 : Int32) (h27_ : cd_Hp) (o : (Int32 × cd_Hp)) (H : Heap) (locs : List Loc) (ls : Array Slot), cd_lp (f_X8_mixGroup_B27 a1) n (v27_2, h27_) = some o → cd_Z G h27_ s.heap H locs → lv_has ls 4 [(2, .int v27_2), (0, .ref (G.2.2.2.2 + 404)), (1, .int a1)] → (∀ (H : Heap) (locs : List Loc) (ls : Array Slot), cd_Z G o.2 s.heap H locs → lv_has ls 4 [(2, .int o.1), (0, .ref (G.2.2.2.2 + 404)), (1, .int a1)] → W p l e rm_X8_mixGroup s m args below meth c H locs 0 0 Q (F0 m 132 ls [])) → W p l e rm_X8_mixGroup s m args below meth c H locs 0 0 Q (F0 m 27 ls []) := by
    intro n
    induction n with
    | zero => intro v27_2 h27_ o H locs ls E; exact nomatch (show (none : Option (Int32 × cd_Hp)) = some o from E)
    | succ n ih =>
      intro v27_2 h27_ o H locs ls E hZ hl hex
      have E : f_X8_mixGroup_B27 a1 (cd_lp (f_X8_mixGroup_B27 a1) n) (v27_2, h27_) = some o := E
      unfold f_X8_mixGroup_B27 at E
      dsimp only at E
      refine lv_iload_n S.1 S.2.1 dX8_mixGroup_27 rfl (lv_at hl 0 rfl) ?_
      refine lv_aload_n S.1 S.2.1 dX8_mixGroup_28 rfl (lv_at hl 1 rfl) ?_
      refine lv_iload_n S.1 S.2.1 dX8_mixGroup_29 rfl (lv_at hl 2 rfl) ?_
      refine lv_iconst (v := 5) S.1 S.2.1 dX8_mixGroup_30 (by decide) ?_
      obtain ⟨o8, E1, E⟩ := cd_bE E
      refine cd_cVi (As := [.int a1, .int 5]) S hK hZ hl.1 (c_X8_ofGroup l G a1 5 h27_ o8 E1) cd_v_X8_ofGroup cd_m_X8_63 ⟨Nat.le_of_ble_eq_true rfl, Nat.le_of_ble_eq_true rfl⟩ ⟨rfl, rfl⟩ (ci := 8) (by decide) rfl cd_this8 rfl rfl (Nat.le_of_ble_eq_true rfl) ⟨Nat.zero_le _, Nat.zero_le _⟩ dX8_mixGroup_31 (fun H locs hZ => ?_)
      refine lv_icmp_ge (tgt := 132) S.1 S.2.1 dX8_mixGroup_34 (by decide) (fun c10 => ?_) (fun c10 => ?_)
      · have E := cd_tE c10 E
        cases E
        exact hex H locs ls hZ (lv_sub hl [0, 1, 2] rfl)
      · have E := cd_fE c10 E
        refine lv_iconst (v := 0) S.1 S.2.1 dX8_mixGroup_37 (by decide) ?_
        refine lv_istore_n (lv' := [(3, .int 0), (2, .int v27_2), (0, .ref (G.2.2.2.2 + 404)), (1, .int a1)]) S.1 S.2.1 dX8_mixGroup_38 rfl hl (by decide) rfl (fun ls hl => ?_)
        obtain ⟨o17, E1, E⟩ := cd_bE E
        refine L39 v27_2 cd_fu 0 h27_ o17 H locs ls E1 hZ (lv_sub hl [0, 1, 2, 3] rfl) (fun H locs ls hZ hl => ?_)
        refine lv_iconst (v := 0) S.1 S.2.1 dX8_mixGroup_67 (by decide) ?_
        refine lv_istore_n (lv' := [(3, .int 0), (2, .int v27_2), (0, .ref (G.2.2.2.2 + 404)), (1, .int a1)]) S.1 S.2.1 dX8_mixGroup_68 rfl hl (by decide) rfl (fun ls hl => ?_)
        obtain ⟨o24, E1, E⟩ := cd_bE E
        refine L69 v27_2 cd_fu 0 o17.2 o24 H locs ls E1 hZ (lv_sub hl [0, 1, 2, 3] rfl) (fun H locs ls hZ hl => ?_)
        refine lv_aload_n S.1 S.2.1 dX8_mixGroup_102 rfl (lv_at hl 2 rfl) ?_
        refine lv_aload_n S.1 S.2.1 dX8_mixGroup_103 rfl (lv_at hl 2 rfl) ?_
        refine lv_iload_n S.1 S.2.1 dX8_mixGroup_104 rfl (lv_at hl 3 rfl) ?_
        refine lv_iload_n S.1 S.2.1 dX8_mixGroup_105 rfl (lv_at hl 1 rfl) ?_
        refine lv_iconst (v := 0) S.1 S.2.1 dX8_mixGroup_106 (by decide) ?_
        obtain ⟨o25, E1, E⟩ := cd_bE E
        refine cd_cVi (As := [.int a1, .int v27_2, .int 0]) S hK hZ hl.1 (c_X8_scaledOf l G a1 v27_2 0 o24.2 o25 E1) cd_v_X8_scaledOf cd_m_X8_194 ⟨Nat.le_of_ble_eq_true rfl, Nat.le_of_ble_eq_true rfl⟩ ⟨rfl, rfl⟩ (ci := 8) (by decide) rfl cd_this8 rfl rfl (Nat.le_of_ble_eq_true rfl) ⟨Nat.zero_le _, Nat.zero_le _⟩ dX8_mixGroup_107 (fun H locs hZ => ?_)
        refine lv_i2l S.1 S.2.1 dX8_mixGroup_110 rfl ?_
        obtain ⟨o27, E1, E⟩ := cd_nmE E
        refine cd_cVv (As := [.long (Int32.toInt64 o25)]) S hK hZ hl.1 (c_X8_mix l G (Int32.toInt64 o25) o24.2 o27 E1.symm) cd_v_X8_mix cd_m_X8_261 ⟨Nat.le_of_ble_eq_true rfl, Nat.le_of_ble_eq_true rfl⟩ ⟨rfl, rfl⟩ (ci := 8) (by decide) rfl cd_this8 rfl rfl (Nat.le_of_ble_eq_true rfl) ⟨Nat.zero_le _, Nat.zero_le _⟩ dX8_mixGroup_111 (fun H locs hZ => ?_)
        refine lv_aload_n S.1 S.2.1 dX8_mixGroup_114 rfl (lv_at hl 2 rfl) ?_
        refine lv_aload_n S.1 S.2.1 dX8_mixGroup_115 rfl (lv_at hl 2 rfl) ?_
        refine lv_iload_n S.1 S.2.1 dX8_mixGroup_116 rfl (lv_at hl 3 rfl) ?_
        refine lv_iload_n S.1 S.2.1 dX8_mixGroup_117 rfl (lv_at hl 1 rfl) ?_
        refine lv_iconst (v := 1) S.1 S.2.1 dX8_mixGroup_118 (by decide) ?_
        obtain ⟨o29, E1, E⟩ := cd_bE E
        refine cd_cVi (As := [.int a1, .int v27_2, .int 1]) S hK hZ hl.1 (c_X8_scaledOf l G a1 v27_2 1 o27 o29 E1) cd_v_X8_scaledOf cd_m_X8_194 ⟨Nat.le_of_ble_eq_true rfl, Nat.le_of_ble_eq_true rfl⟩ ⟨rfl, rfl⟩ (ci := 8) (by decide) rfl cd_this8 rfl rfl (Nat.le_of_ble_eq_true rfl) ⟨Nat.zero_le _, Nat.zero_le _⟩ dX8_mixGroup_119 (fun H locs hZ => ?_)
        refine lv_i2l S.1 S.2.1 dX8_mixGroup_122 rfl ?_
        obtain ⟨o31, E1, E⟩ := cd_nmE E
        refine cd_cVv (As := [.long (Int32.toInt64 o29)]) S hK hZ hl.1 (c_X8_mix l G (Int32.toInt64 o29) o27 o31 E1.symm) cd_v_X8_mix cd_m_X8_261 ⟨Nat.le_of_ble_eq_true rfl, Nat.le_of_ble_eq_true rfl⟩ ⟨rfl, rfl⟩ (ci := 8) (by decide) rfl cd_this8 rfl rfl (Nat.le_of_ble_eq_true rfl) ⟨Nat.zero_le _, Nat.zero_le _⟩ dX8_mixGroup_123 (fun H locs hZ => ?_)
        obtain ⟨x33, ex33, E⟩ := cd_nmE E
        refine lv_iinc (v := x33) (lv' := [(2, .int x33), (3, .int o24.1), (0, .ref (G.2.2.2.2 + 404)), (1, .int a1)]) S.1 S.2.1 dX8_mixGroup_126 hl (k := 1) rfl (by rw [ex33]; rfl) (by decide) rfl (fun ls hl => ?_)
        refine lv_goto (tgt := 27) S.1 S.2.1 dX8_mixGroup_129 (by decide) ?_
        exact ih x33 o31 o H locs ls E hZ (lv_sub hl [0, 2, 3] rfl) hex
  have L134 : ∀ (n : Nat) (v134_2 : Int32) (h134_ : cd_Hp) (o : (Int32 × cd_Hp)) (H : Heap) (locs : List Loc) (ls : Array Slot), cd_lp (f_X8_mixGroup_B134 a1) n (v134_2, h134_) = some o → cd_Z G h134_ s.heap H locs → lv_has ls 4 [(2, .int v134_2), (0, .ref (G.2.2.2.2 + 404)), (1, .int a1)] → (∀ (H : Heap) (locs : List Loc) (ls : Array Slot), cd_Z G o.2 s.heap H locs → lv_has ls 4 [(2, .int o.1), (0, .ref (G.2.2.2.2 + 404)), (1, .int a1)] → W p l e rm_X8_mixGroup s m args below meth c H locs 0 0 Q (F0 m 179 ls [])) → W p l e rm_X8_mixGroup s m args below meth c H locs 0 0 Q (F0 m 134 ls []) := by
    intro n
    induction n with
    | zero => intro v134_2 h134_ o H locs ls E; exact nomatch (show (none : Option (Int32 × cd_Hp)) = some o from E)
    | succ n ih =>
      intro v134_2 h134_ o H locs ls E hZ hl hex
      have E : f_X8_mixGroup_B134 a1 (cd_lp (f_X8_mixGroup_B134 a1) n) (v134_2, h134_) = some o := E
      unfold f_X8_mixGroup_B134 at E
      dsimp only at E
      refine lv_iload_n S.1 S.2.1 dX8_mixGroup_134 rfl (lv_at hl 0 rfl) ?_
      refine lv_aload_n S.1 S.2.1 dX8_mixGroup_135 rfl (lv_at hl 1 rfl) ?_
      refine cd_get8 (v := .ref (G.2.2.2.2 + 405)) S hK hZ cd_this8 0 cd_f_X8_7 rfl dX8_mixGroup_136 ?_
      refine lv_bipush (v := 9) S.1 S.2.1 dX8_mixGroup_139 (by decide) ?_
      refine cd_iald S hK hZ (cd_r8_0 cd_this8) (by decide) dX8_mixGroup_141 ?_
      refine lv_icmp_ge (tgt := 179) S.1 S.2.1 dX8_mixGroup_142 (by decide) (fun c35 => ?_) (fun c35 => ?_)
      · have E := cd_tE c35 E
        cases E
        exact hex H locs ls hZ (lv_sub hl [0, 1, 2] rfl)
      · have E := cd_fE c35 E
        refine lv_aload_n S.1 S.2.1 dX8_mixGroup_145 rfl (lv_at hl 1 rfl) ?_
        refine lv_aload_n S.1 S.2.1 dX8_mixGroup_146 rfl (lv_at hl 1 rfl) ?_
        refine lv_iload_n S.1 S.2.1 dX8_mixGroup_147 rfl (lv_at hl 2 rfl) ?_
        refine lv_bipush (v := 46) S.1 S.2.1 dX8_mixGroup_148 (by decide) ?_
        refine lv_iload_n S.1 S.2.1 dX8_mixGroup_150 rfl (lv_at hl 0 rfl) ?_
        refine lv_iadd S.1 S.2.1 dX8_mixGroup_151 ?_
        obtain ⟨o36, E1, E⟩ := cd_bE E
        refine cd_cVi (As := [.int a1, .int (46 + v134_2)]) S hK hZ hl.1 (c_X8_ofGroup l G a1 (46 + v134_2) h134_ o36 E1) cd_v_X8_ofGroup cd_m_X8_63 ⟨Nat.le_of_ble_eq_true rfl, Nat.le_of_ble_eq_true rfl⟩ ⟨rfl, rfl⟩ (ci := 8) (by decide) rfl cd_this8 rfl rfl (Nat.le_of_ble_eq_true rfl) ⟨Nat.zero_le _, Nat.zero_le _⟩ dX8_mixGroup_152 (fun H locs hZ => ?_)
        refine lv_i2l S.1 S.2.1 dX8_mixGroup_155 rfl ?_
        obtain ⟨o38, E1, E⟩ := cd_nmE E
        refine cd_cVv (As := [.long (Int32.toInt64 o36)]) S hK hZ hl.1 (c_X8_mix l G (Int32.toInt64 o36) h134_ o38 E1.symm) cd_v_X8_mix cd_m_X8_261 ⟨Nat.le_of_ble_eq_true rfl, Nat.le_of_ble_eq_true rfl⟩ ⟨rfl, rfl⟩ (ci := 8) (by decide) rfl cd_this8 rfl rfl (Nat.le_of_ble_eq_true rfl) ⟨Nat.zero_le _, Nat.zero_le _⟩ dX8_mixGroup_156 (fun H locs hZ => ?_)
        refine lv_aload_n S.1 S.2.1 dX8_mixGroup_159 rfl (lv_at hl 1 rfl) ?_
        refine lv_aload_n S.1 S.2.1 dX8_mixGroup_160 rfl (lv_at hl 1 rfl) ?_
        refine lv_iload_n S.1 S.2.1 dX8_mixGroup_161 rfl (lv_at hl 2 rfl) ?_
        refine lv_bipush (v := 52) S.1 S.2.1 dX8_mixGroup_162 (by decide) ?_
        refine lv_iload_n S.1 S.2.1 dX8_mixGroup_164 rfl (lv_at hl 0 rfl) ?_
        refine lv_iadd S.1 S.2.1 dX8_mixGroup_165 ?_
        obtain ⟨o40, E1, E⟩ := cd_bE E
        refine cd_cVi (As := [.int a1, .int (52 + v134_2)]) S hK hZ hl.1 (c_X8_ofGroup l G a1 (52 + v134_2) o38 o40 E1) cd_v_X8_ofGroup cd_m_X8_63 ⟨Nat.le_of_ble_eq_true rfl, Nat.le_of_ble_eq_true rfl⟩ ⟨rfl, rfl⟩ (ci := 8) (by decide) rfl cd_this8 rfl rfl (Nat.le_of_ble_eq_true rfl) ⟨Nat.zero_le _, Nat.zero_le _⟩ dX8_mixGroup_166 (fun H locs hZ => ?_)
        refine lv_i2l S.1 S.2.1 dX8_mixGroup_169 rfl ?_
        obtain ⟨o42, E1, E⟩ := cd_nmE E
        refine cd_cVv (As := [.long (Int32.toInt64 o40)]) S hK hZ hl.1 (c_X8_mix l G (Int32.toInt64 o40) o38 o42 E1.symm) cd_v_X8_mix cd_m_X8_261 ⟨Nat.le_of_ble_eq_true rfl, Nat.le_of_ble_eq_true rfl⟩ ⟨rfl, rfl⟩ (ci := 8) (by decide) rfl cd_this8 rfl rfl (Nat.le_of_ble_eq_true rfl) ⟨Nat.zero_le _, Nat.zero_le _⟩ dX8_mixGroup_170 (fun H locs hZ => ?_)
        obtain ⟨x44, ex44, E⟩ := cd_nmE E
        refine lv_iinc (v := x44) (lv' := [(2, .int x44), (0, .ref (G.2.2.2.2 + 404)), (1, .int a1)]) S.1 S.2.1 dX8_mixGroup_173 hl (k := 0) rfl (by rw [ex44]; rfl) (by decide) rfl (fun ls hl => ?_)
        refine lv_goto (tgt := 134) S.1 S.2.1 dX8_mixGroup_176 (by decide) ?_
        exact ih x44 o42 o H locs ls E hZ (lv_sub hl [0, 1, 2] rfl) hex
  unfold f_X8_mixGroup at E
  refine lv_iconst (v := 0) S.1 S.2.1 dX8_mixGroup_0 (by decide) ?_
  refine lv_istore_n (lv' := [(2, .int 0), (0, .ref (G.2.2.2.2 + 404)), (1, .int a1)]) S.1 S.2.1 dX8_mixGroup_1 rfl hl (by decide) rfl (fun ls hl => ?_)
  obtain ⟨o7, E1, E⟩ := cd_bE E
  refine L2 cd_fu 0 h o7 H locs ls E1 hZ (lv_sub hl [0, 1, 2] rfl) (fun H locs ls hZ hl => ?_)
  refine lv_iconst (v := 0) S.1 S.2.1 dX8_mixGroup_25 (by decide) ?_
  refine lv_istore_n (lv' := [(2, .int 0), (0, .ref (G.2.2.2.2 + 404)), (1, .int a1)]) S.1 S.2.1 dX8_mixGroup_26 rfl hl (by decide) rfl (fun ls hl => ?_)
  obtain ⟨o34, E1, E⟩ := cd_bE E
  refine L27 cd_fu 0 o7.2 o34 H locs ls E1 hZ (lv_sub hl [0, 1, 2] rfl) (fun H locs ls hZ hl => ?_)
  refine lv_iconst (v := 0) S.1 S.2.1 dX8_mixGroup_132 (by decide) ?_
  refine lv_istore_n (lv' := [(2, .int 0), (0, .ref (G.2.2.2.2 + 404)), (1, .int a1)]) S.1 S.2.1 dX8_mixGroup_133 rfl hl (by decide) rfl (fun ls hl => ?_)
  obtain ⟨o45, E1, E⟩ := cd_bE E
  refine L134 cd_fu 0 o34.2 o45 H locs ls E1 hZ (lv_sub hl [0, 1, 2] rfl) (fun H locs ls hZ hl => ?_)
  exact hret _ _ _ _ _ (Option.some.inj E) hZ dX8_mixGroup_179
abbrev rm_X8_digest : Room := { frames := 5, cells := 0, slots := 0, locals := 112 }
theorem cd_v_X8_digest : cd_V yX8_digest cX8_digest 3 (some .long) 0 := ⟨cd_i_X8_digest, cd_e_X8_X8_digest, cd_n_X8, cd_c_X8_digest, by decide +kernel⟩
set_option maxHeartbeats 4000000 in
set_option maxRecDepth 100000 in
theorem c_X8_digest (l : Launch) (G : cd_G)  (h : cd_Hp) (out : (Int64 × cd_Hp)) (E : f_X8_digest h = some out) : cd_Ml l G yX8_digest (Cond.code yX8_digest cX8_digest 3 (some .long) :: cd_T) rm_X8_digest [.ref (G.2.2.2.2 + 404)] h out := by
  refine cd_inl (by decide) (Nat.le_of_ble_eq_true rfl) ?_
  intro p e s m args below meth c Q ls H locs S hK hZ hl hret
  have hl : lv_has ls 3 [(0, .ref (G.2.2.2.2 + 404))] := hl
  have L9 : ∀ (n : Nat) (v9_1 : Int32) (h9_ : cd_Hp) (o : (Int32 × cd_Hp)) (H : Heap) (locs : List Loc) (ls : Array Slot), cd_lp (f_X8_digest_B9) n (v9_1, h9_) = some o → cd_Z G h9_ s.heap H locs → lv_has ls 3 [(1, .int v9_1), (0, .ref (G.2.2.2.2 + 404))] → (∀ (H : Heap) (locs : List Loc) (ls : Array Slot), cd_Z G o.2 s.heap H locs → lv_has ls 3 [(1, .int o.1), (0, .ref (G.2.2.2.2 + 404))] → W p l e rm_X8_digest s m args below meth c H locs 0 0 Q (F0 m 30 ls [])) → W p l e rm_X8_digest s m args below meth c H locs 0 0 Q (F0 m 9 ls []) := by
    intro n
    induction n with
    | zero => intro v9_1 h9_ o H locs ls E; exact nomatch (show (none : Option (Int32 × cd_Hp)) = some o from E)
    | succ n ih =>
      intro v9_1 h9_ o H locs ls E hZ hl hex
      have E : f_X8_digest_B9 (cd_lp (f_X8_digest_B9) n) (v9_1, h9_) = some o := E
      unfold f_X8_digest_B9 at E
      dsimp only at E
      refine lv_iload_n S.1 S.2.1 dX8_digest_9 rfl (lv_at hl 0 rfl) ?_
      refine lv_iconst (v := 5) S.1 S.2.1 dX8_digest_10 (by decide) ?_
      refine lv_icmp_ge (tgt := 30) S.1 S.2.1 dX8_digest_11 (by decide) (fun c2 => ?_) (fun c2 => ?_)
      · have E := cd_tE c2 E
        cases E
        exact hex H locs ls hZ (lv_sub hl [0, 1] rfl)
      · have E := cd_fE c2 E
        refine lv_aload_n S.1 S.2.1 dX8_digest_14 rfl (lv_at hl 1 rfl) ?_
        refine lv_aload_n S.1 S.2.1 dX8_digest_15 rfl (lv_at hl 1 rfl) ?_
        refine lv_iload_n S.1 S.2.1 dX8_digest_16 rfl (lv_at hl 0 rfl) ?_
        obtain ⟨o3, E1, E⟩ := cd_bE E
        refine cd_cVi (As := [.int v9_1]) S hK hZ hl.1 (c_X8_refusedOf l G v9_1 h9_ o3 E1) cd_v_X8_refusedOf cd_m_X8_252 ⟨Nat.le_of_ble_eq_true rfl, Nat.le_of_ble_eq_true rfl⟩ ⟨rfl, rfl⟩ (ci := 8) (by decide) rfl cd_this8 rfl rfl (Nat.le_of_ble_eq_true rfl) ⟨Nat.zero_le _, Nat.zero_le _⟩ dX8_digest_17 (fun H locs hZ => ?_)
        refine lv_i2l S.1 S.2.1 dX8_digest_20 rfl ?_
        obtain ⟨o5, E1, E⟩ := cd_nmE E
        refine cd_cVv (As := [.long (Int32.toInt64 o3)]) S hK hZ hl.1 (c_X8_mix l G (Int32.toInt64 o3) h9_ o5 E1.symm) cd_v_X8_mix cd_m_X8_261 ⟨Nat.le_of_ble_eq_true rfl, Nat.le_of_ble_eq_true rfl⟩ ⟨rfl, rfl⟩ (ci := 8) (by decide) rfl cd_this8 rfl rfl (Nat.le_of_ble_eq_true rfl) ⟨Nat.zero_le _, Nat.zero_le _⟩ dX8_digest_21 (fun H locs hZ => ?_)
        obtain ⟨x7, ex7, E⟩ := cd_nmE E
        refine lv_iinc (v := x7) (lv' := [(1, .int x7), (0, .ref (G.2.2.2.2 + 404))]) S.1 S.2.1 dX8_digest_24 hl (k := 0) rfl (by rw [ex7]; rfl) (by decide) rfl (fun ls hl => ?_)
        refine lv_goto (tgt := 9) S.1 S.2.1 dX8_digest_27 (by decide) ?_
        exact ih x7 o5 o H locs ls E hZ (lv_sub hl [0, 1] rfl) hex
  have L32 : ∀ (n : Nat) (v32_1 : Int32) (h32_ : cd_Hp) (o : (Int32 × cd_Hp)) (H : Heap) (locs : List Loc) (ls : Array Slot), cd_lp (f_X8_digest_B32) n (v32_1, h32_) = some o → cd_Z G h32_ s.heap H locs → lv_has ls 3 [(1, .int v32_1), (0, .ref (G.2.2.2.2 + 404))] → (∀ (H : Heap) (locs : List Loc) (ls : Array Slot), cd_Z G o.2 s.heap H locs → lv_has ls 3 [(1, .int o.1), (0, .ref (G.2.2.2.2 + 404))] → W p l e rm_X8_digest s m args below meth c H locs 0 0 Q (F0 m 54 ls [])) → W p l e rm_X8_digest s m args below meth c H locs 0 0 Q (F0 m 32 ls []) := by
    intro n
    induction n with
    | zero => intro v32_1 h32_ o H locs ls E; exact nomatch (show (none : Option (Int32 × cd_Hp)) = some o from E)
    | succ n ih =>
      intro v32_1 h32_ o H locs ls E hZ hl hex
      have E : f_X8_digest_B32 (cd_lp (f_X8_digest_B32) n) (v32_1, h32_) = some o := E
      unfold f_X8_digest_B32 at E
      dsimp only at E
      refine lv_iload_n S.1 S.2.1 dX8_digest_32 rfl (lv_at hl 0 rfl) ?_
      refine lv_bipush (v := 9) S.1 S.2.1 dX8_digest_33 (by decide) ?_
      refine lv_icmp_ge (tgt := 54) S.1 S.2.1 dX8_digest_35 (by decide) (fun c9 => ?_) (fun c9 => ?_)
      · have E := cd_tE c9 E
        cases E
        exact hex H locs ls hZ (lv_sub hl [0, 1] rfl)
      · have E := cd_fE c9 E
        refine lv_aload_n S.1 S.2.1 dX8_digest_38 rfl (lv_at hl 1 rfl) ?_
        refine lv_aload_n S.1 S.2.1 dX8_digest_39 rfl (lv_at hl 1 rfl) ?_
        refine lv_iload_n S.1 S.2.1 dX8_digest_40 rfl (lv_at hl 0 rfl) ?_
        obtain ⟨o10, E1, E⟩ := cd_bE E
        refine cd_cVi (As := [.int v32_1]) S hK hZ hl.1 (c_X8_toldOf l G v32_1 h32_ o10 E1) cd_v_X8_toldOf cd_m_X8_203 ⟨Nat.le_of_ble_eq_true rfl, Nat.le_of_ble_eq_true rfl⟩ ⟨rfl, rfl⟩ (ci := 8) (by decide) rfl cd_this8 rfl rfl (Nat.le_of_ble_eq_true rfl) ⟨Nat.zero_le _, Nat.zero_le _⟩ dX8_digest_41 (fun H locs hZ => ?_)
        refine lv_i2l S.1 S.2.1 dX8_digest_44 rfl ?_
        obtain ⟨o12, E1, E⟩ := cd_nmE E
        refine cd_cVv (As := [.long (Int32.toInt64 o10)]) S hK hZ hl.1 (c_X8_mix l G (Int32.toInt64 o10) h32_ o12 E1.symm) cd_v_X8_mix cd_m_X8_261 ⟨Nat.le_of_ble_eq_true rfl, Nat.le_of_ble_eq_true rfl⟩ ⟨rfl, rfl⟩ (ci := 8) (by decide) rfl cd_this8 rfl rfl (Nat.le_of_ble_eq_true rfl) ⟨Nat.zero_le _, Nat.zero_le _⟩ dX8_digest_45 (fun H locs hZ => ?_)
        obtain ⟨x14, ex14, E⟩ := cd_nmE E
        refine lv_iinc (v := x14) (lv' := [(1, .int x14), (0, .ref (G.2.2.2.2 + 404))]) S.1 S.2.1 dX8_digest_48 hl (k := 0) rfl (by rw [ex14]; rfl) (by decide) rfl (fun ls hl => ?_)
        refine lv_goto (tgt := 32) S.1 S.2.1 dX8_digest_51 (by decide) ?_
        exact ih x14 o12 o H locs ls E hZ (lv_sub hl [0, 1] rfl) hex
  have L56 : ∀ (n : Nat) (v56_1 : Int32) (h56_ : cd_Hp) (o : (Int32 × cd_Hp)) (H : Heap) (locs : List Loc) (ls : Array Slot), cd_lp (f_X8_digest_B56) n (v56_1, h56_) = some o → cd_Z G h56_ s.heap H locs → lv_has ls 3 [(1, .int v56_1), (0, .ref (G.2.2.2.2 + 404))] → (∀ (H : Heap) (locs : List Loc) (ls : Array Slot), cd_Z G o.2 s.heap H locs → lv_has ls 3 [(1, .int o.1), (0, .ref (G.2.2.2.2 + 404))] → W p l e rm_X8_digest s m args below meth c H locs 0 0 Q (F0 m 81 ls [])) → W p l e rm_X8_digest s m args below meth c H locs 0 0 Q (F0 m 56 ls []) := by
    intro n
    induction n with
    | zero => intro v56_1 h56_ o H locs ls E; exact nomatch (show (none : Option (Int32 × cd_Hp)) = some o from E)
    | succ n ih =>
      intro v56_1 h56_ o H locs ls E hZ hl hex
      have E : f_X8_digest_B56 (cd_lp (f_X8_digest_B56) n) (v56_1, h56_) = some o := E
      unfold f_X8_digest_B56 at E
      dsimp only at E
      refine lv_iload_n S.1 S.2.1 dX8_digest_56 rfl (lv_at hl 0 rfl) ?_
      refine lv_bipush (v := 8) S.1 S.2.1 dX8_digest_57 (by decide) ?_
      refine lv_icmp_ge (tgt := 81) S.1 S.2.1 dX8_digest_59 (by decide) (fun c16 => ?_) (fun c16 => ?_)
      · have E := cd_tE c16 E
        cases E
        exact hex H locs ls hZ (lv_sub hl [0, 1] rfl)
      · have E := cd_fE c16 E
        refine lv_aload_n S.1 S.2.1 dX8_digest_62 rfl (lv_at hl 1 rfl) ?_
        refine lv_aload_n S.1 S.2.1 dX8_digest_63 rfl (lv_at hl 1 rfl) ?_
        refine cd_get8 (v := .ref (G.2.2.2.2 + 405)) S hK hZ cd_this8 0 cd_f_X8_7 rfl dX8_digest_64 ?_
        refine lv_iconst (v := 1) S.1 S.2.1 dX8_digest_67 (by decide) ?_
        refine lv_iload_n S.1 S.2.1 dX8_digest_68 rfl (lv_at hl 0 rfl) ?_
        refine lv_iadd S.1 S.2.1 dX8_digest_69 ?_
        obtain ⟨z17, E⟩ := cd_ckE E
        refine cd_iald S hK hZ (cd_r8_0 cd_this8) z17 dX8_digest_70 ?_
        refine lv_i2l S.1 S.2.1 dX8_digest_71 rfl ?_
        obtain ⟨o18, E1, E⟩ := cd_nmE E
        refine cd_cVv (As := [.long (Int32.toInt64 (cd_g h56_ 405 ((1 + v56_1).toNatClampNeg)))]) S hK hZ hl.1 (c_X8_mix l G (Int32.toInt64 (cd_g h56_ 405 ((1 + v56_1).toNatClampNeg))) h56_ o18 E1.symm) cd_v_X8_mix cd_m_X8_261 ⟨Nat.le_of_ble_eq_true rfl, Nat.le_of_ble_eq_true rfl⟩ ⟨rfl, rfl⟩ (ci := 8) (by decide) rfl cd_this8 rfl rfl (Nat.le_of_ble_eq_true rfl) ⟨Nat.zero_le _, Nat.zero_le _⟩ dX8_digest_72 (fun H locs hZ => ?_)
        obtain ⟨x20, ex20, E⟩ := cd_nmE E
        refine lv_iinc (v := x20) (lv' := [(1, .int x20), (0, .ref (G.2.2.2.2 + 404))]) S.1 S.2.1 dX8_digest_75 hl (k := 0) rfl (by rw [ex20]; rfl) (by decide) rfl (fun ls hl => ?_)
        refine lv_goto (tgt := 56) S.1 S.2.1 dX8_digest_78 (by decide) ?_
        exact ih x20 o18 o H locs ls E hZ (lv_sub hl [0, 1] rfl) hex
  have L96 : ∀ (p96_1 : Int32), ∀ (n : Nat) (v96_2 : Int32) (h96_ : cd_Hp) (o : (Int32 × cd_Hp)) (H : Heap) (locs : List Loc) (ls : Array Slot), cd_lp (f_X8_digest_B96 p96_1) n (v96_2, h96_) = some o → cd_Z G h96_ s.heap H locs → lv_has ls 3 [(2, .int v96_2), (1, .int p96_1), (0, .ref (G.2.2.2.2 + 404))] → (∀ (H : Heap) (locs : List Loc) (ls : Array Slot), cd_Z G o.2 s.heap H locs → lv_has ls 3 [(2, .int o.1), (1, .int p96_1), (0, .ref (G.2.2.2.2 + 404))] → W p l e rm_X8_digest s m args below meth c H locs 0 0 Q (F0 m 118 ls [])) → W p l e rm_X8_digest s m args below meth c H locs 0 0 Q (F0 m 96 ls []) := by
    intro p96_1
    intro n
    induction n with
    | zero => intro v96_2 h96_ o H locs ls E; exact nomatch (show (none : Option (Int32 × cd_Hp)) = some o from E)
    | succ n ih =>
      intro v96_2 h96_ o H locs ls E hZ hl hex
      have E : f_X8_digest_B96 p96_1 (cd_lp (f_X8_digest_B96 p96_1) n) (v96_2, h96_) = some o := E
      unfold f_X8_digest_B96 at E
      dsimp only at E
      refine lv_iload_n S.1 S.2.1 dX8_digest_96 rfl (lv_at hl 0 rfl) ?_
      refine lv_iconst (v := 3) S.1 S.2.1 dX8_digest_97 (by decide) ?_
      refine lv_icmp_ge (tgt := 118) S.1 S.2.1 dX8_digest_98 (by decide) (fun c23 => ?_) (fun c23 => ?_)
      · have E := cd_tE c23 E
        cases E
        exact hex H locs ls hZ (lv_sub hl [0, 1, 2] rfl)
      · have E := cd_fE c23 E
        refine lv_aload_n S.1 S.2.1 dX8_digest_101 rfl (lv_at hl 2 rfl) ?_
        refine lv_aload_n S.1 S.2.1 dX8_digest_102 rfl (lv_at hl 2 rfl) ?_
        refine lv_iload_n S.1 S.2.1 dX8_digest_103 rfl (lv_at hl 1 rfl) ?_
        refine lv_iload_n S.1 S.2.1 dX8_digest_104 rfl (lv_at hl 0 rfl) ?_
        obtain ⟨o24, E1, E⟩ := cd_bE E
        refine cd_cVi (As := [.int p96_1, .int v96_2]) S hK hZ hl.1 (c_X8_aboutTask l G p96_1 v96_2 h96_ o24 E1) cd_v_X8_aboutTask cd_m_X8_179 ⟨Nat.le_of_ble_eq_true rfl, Nat.le_of_ble_eq_true rfl⟩ ⟨rfl, rfl⟩ (ci := 8) (by decide) rfl cd_this8 rfl rfl (Nat.le_of_ble_eq_true rfl) ⟨Nat.zero_le _, Nat.zero_le _⟩ dX8_digest_105 (fun H locs hZ => ?_)
        refine lv_i2l S.1 S.2.1 dX8_digest_108 rfl ?_
        obtain ⟨o26, E1, E⟩ := cd_nmE E
        refine cd_cVv (As := [.long (Int32.toInt64 o24)]) S hK hZ hl.1 (c_X8_mix l G (Int32.toInt64 o24) h96_ o26 E1.symm) cd_v_X8_mix cd_m_X8_261 ⟨Nat.le_of_ble_eq_true rfl, Nat.le_of_ble_eq_true rfl⟩ ⟨rfl, rfl⟩ (ci := 8) (by decide) rfl cd_this8 rfl rfl (Nat.le_of_ble_eq_true rfl) ⟨Nat.zero_le _, Nat.zero_le _⟩ dX8_digest_109 (fun H locs hZ => ?_)
        obtain ⟨x28, ex28, E⟩ := cd_nmE E
        refine lv_iinc (v := x28) (lv' := [(2, .int x28), (1, .int p96_1), (0, .ref (G.2.2.2.2 + 404))]) S.1 S.2.1 dX8_digest_112 hl (k := 0) rfl (by rw [ex28]; rfl) (by decide) rfl (fun ls hl => ?_)
        refine lv_goto (tgt := 96) S.1 S.2.1 dX8_digest_115 (by decide) ?_
        exact ih x28 o26 o H locs ls E hZ (lv_sub hl [0, 1, 2] rfl) hex
  have L120 : ∀ (p120_1 : Int32), ∀ (n : Nat) (v120_2 : Int32) (h120_ : cd_Hp) (o : (Int32 × cd_Hp)) (H : Heap) (locs : List Loc) (ls : Array Slot), cd_lp (f_X8_digest_B120 p120_1) n (v120_2, h120_) = some o → cd_Z G h120_ s.heap H locs → lv_has ls 3 [(2, .int v120_2), (1, .int p120_1), (0, .ref (G.2.2.2.2 + 404))] → (∀ (H : Heap) (locs : List Loc) (ls : Array Slot), cd_Z G o.2 s.heap H locs → lv_has ls 3 [(2, .int o.1), (1, .int p120_1), (0, .ref (G.2.2.2.2 + 404))] → W p l e rm_X8_digest s m args below meth c H locs 0 0 Q (F0 m 143 ls [])) → W p l e rm_X8_digest s m args below meth c H locs 0 0 Q (F0 m 120 ls []) := by
    intro p120_1
    intro n
    induction n with
    | zero => intro v120_2 h120_ o H locs ls E; exact nomatch (show (none : Option (Int32 × cd_Hp)) = some o from E)
    | succ n ih =>
      intro v120_2 h120_ o H locs ls E hZ hl hex
      have E : f_X8_digest_B120 p120_1 (cd_lp (f_X8_digest_B120 p120_1) n) (v120_2, h120_) = some o := E
      unfold f_X8_digest_B120 at E
      dsimp only at E
      refine lv_iload_n S.1 S.2.1 dX8_digest_120 rfl (lv_at hl 0 rfl) ?_
      refine lv_bipush (v := 8) S.1 S.2.1 dX8_digest_121 (by decide) ?_
      refine lv_icmp_ge (tgt := 143) S.1 S.2.1 dX8_digest_123 (by decide) (fun c30 => ?_) (fun c30 => ?_)
      · have E := cd_tE c30 E
        cases E
        exact hex H locs ls hZ (lv_sub hl [0, 1, 2] rfl)
      · have E := cd_fE c30 E
        refine lv_aload_n S.1 S.2.1 dX8_digest_126 rfl (lv_at hl 2 rfl) ?_
        refine lv_aload_n S.1 S.2.1 dX8_digest_127 rfl (lv_at hl 2 rfl) ?_
        refine lv_iload_n S.1 S.2.1 dX8_digest_128 rfl (lv_at hl 1 rfl) ?_
        refine lv_iload_n S.1 S.2.1 dX8_digest_129 rfl (lv_at hl 0 rfl) ?_
        obtain ⟨o31, E1, E⟩ := cd_bE E
        refine cd_cVi (As := [.int p120_1, .int v120_2]) S hK hZ hl.1 (c_X8_rateOf l G p120_1 v120_2 h120_ o31 E1) cd_v_X8_rateOf cd_m_X8_92 ⟨Nat.le_of_ble_eq_true rfl, Nat.le_of_ble_eq_true rfl⟩ ⟨rfl, rfl⟩ (ci := 8) (by decide) rfl cd_this8 rfl rfl (Nat.le_of_ble_eq_true rfl) ⟨Nat.zero_le _, Nat.zero_le _⟩ dX8_digest_130 (fun H locs hZ => ?_)
        refine lv_i2l S.1 S.2.1 dX8_digest_133 rfl ?_
        obtain ⟨o33, E1, E⟩ := cd_nmE E
        refine cd_cVv (As := [.long (Int32.toInt64 o31)]) S hK hZ hl.1 (c_X8_mix l G (Int32.toInt64 o31) h120_ o33 E1.symm) cd_v_X8_mix cd_m_X8_261 ⟨Nat.le_of_ble_eq_true rfl, Nat.le_of_ble_eq_true rfl⟩ ⟨rfl, rfl⟩ (ci := 8) (by decide) rfl cd_this8 rfl rfl (Nat.le_of_ble_eq_true rfl) ⟨Nat.zero_le _, Nat.zero_le _⟩ dX8_digest_134 (fun H locs hZ => ?_)
        obtain ⟨x35, ex35, E⟩ := cd_nmE E
        refine lv_iinc (v := x35) (lv' := [(2, .int x35), (1, .int p120_1), (0, .ref (G.2.2.2.2 + 404))]) S.1 S.2.1 dX8_digest_137 hl (k := 0) rfl (by rw [ex35]; rfl) (by decide) rfl (fun ls hl => ?_)
        refine lv_goto (tgt := 120) S.1 S.2.1 dX8_digest_140 (by decide) ?_
        exact ih x35 o33 o H locs ls E hZ (lv_sub hl [0, 1, 2] rfl) hex
  have L83 : ∀ (n : Nat) (v83_1 : Int32) (h83_ : cd_Hp) (o : (Int32 × cd_Hp)) (H : Heap) (locs : List Loc) (ls : Array Slot), cd_lp (f_X8_digest_B83) n (v83_1, h83_) = some o → cd_Z G h83_ s.heap H locs → lv_has ls 3 [(1, .int v83_1), (0, .ref (G.2.2.2.2 + 404))] → (∀ (H : Heap) (locs : List Loc) (ls : Array Slot), cd_Z G o.2 s.heap H locs → lv_has ls 3 [(1, .int o.1), (0, .ref (G.2.2.2.2 + 404))] → W p l e rm_X8_digest s m args below meth c H locs 0 0 Q (F0 m 149 ls [])) → W p l e rm_X8_digest s m args below meth c H locs 0 0 Q (F0 m 83 ls []) := by
    intro n
    induction n with
    | zero => intro v83_1 h83_ o H locs ls E; exact nomatch (show (none : Option (Int32 × cd_Hp)) = some o from E)
    | succ n ih =>
      intro v83_1 h83_ o H locs ls E hZ hl hex
      have E : f_X8_digest_B83 (cd_lp (f_X8_digest_B83) n) (v83_1, h83_) = some o := E
      unfold f_X8_digest_B83 at E
      dsimp only at E
      refine lv_iload_n S.1 S.2.1 dX8_digest_83 rfl (lv_at hl 0 rfl) ?_
      refine lv_aload_n S.1 S.2.1 dX8_digest_84 rfl (lv_at hl 1 rfl) ?_
      refine cd_get8 (v := .ref (G.2.2.2.2 + 405)) S hK hZ cd_this8 0 cd_f_X8_7 rfl dX8_digest_85 ?_
      refine lv_bipush (v := 9) S.1 S.2.1 dX8_digest_88 (by decide) ?_
      refine cd_iald S hK hZ (cd_r8_0 cd_this8) (by decide) dX8_digest_90 ?_
      refine lv_icmp_ge (tgt := 149) S.1 S.2.1 dX8_digest_91 (by decide) (fun c22 => ?_) (fun c22 => ?_)
      · have E := cd_tE c22 E
        cases E
        exact hex H locs ls hZ (lv_sub hl [0, 1] rfl)
      · have E := cd_fE c22 E
        refine lv_iconst (v := 0) S.1 S.2.1 dX8_digest_94 (by decide) ?_
        refine lv_istore_n (lv' := [(2, .int 0), (1, .int v83_1), (0, .ref (G.2.2.2.2 + 404))]) S.1 S.2.1 dX8_digest_95 rfl hl (by decide) rfl (fun ls hl => ?_)
        obtain ⟨o29, E1, E⟩ := cd_bE E
        refine L96 v83_1 cd_fu 0 h83_ o29 H locs ls E1 hZ (lv_sub hl [0, 1, 2] rfl) (fun H locs ls hZ hl => ?_)
        refine lv_iconst (v := 0) S.1 S.2.1 dX8_digest_118 (by decide) ?_
        refine lv_istore_n (lv' := [(2, .int 0), (1, .int v83_1), (0, .ref (G.2.2.2.2 + 404))]) S.1 S.2.1 dX8_digest_119 rfl hl (by decide) rfl (fun ls hl => ?_)
        obtain ⟨o36, E1, E⟩ := cd_bE E
        refine L120 v83_1 cd_fu 0 o29.2 o36 H locs ls E1 hZ (lv_sub hl [0, 1, 2] rfl) (fun H locs ls hZ hl => ?_)
        obtain ⟨x37, ex37, E⟩ := cd_nmE E
        refine lv_iinc (v := x37) (lv' := [(1, .int x37), (2, .int o36.1), (0, .ref (G.2.2.2.2 + 404))]) S.1 S.2.1 dX8_digest_143 hl (k := 1) rfl (by rw [ex37]; rfl) (by decide) rfl (fun ls hl => ?_)
        refine lv_goto (tgt := 83) S.1 S.2.1 dX8_digest_146 (by decide) ?_
        exact ih x37 o36.2 o H locs ls E hZ (lv_sub hl [0, 2] rfl) hex
  have L151 : ∀ (n : Nat) (v151_1 : Int32) (h151_ : cd_Hp) (o : (Int32 × cd_Hp)) (H : Heap) (locs : List Loc) (ls : Array Slot), cd_lp (f_X8_digest_B151) n (v151_1, h151_) = some o → cd_Z G h151_ s.heap H locs → lv_has ls 3 [(1, .int v151_1), (0, .ref (G.2.2.2.2 + 404))] → (∀ (H : Heap) (locs : List Loc) (ls : Array Slot), cd_Z G o.2 s.heap H locs → lv_has ls 3 [(1, .int o.1), (0, .ref (G.2.2.2.2 + 404))] → W p l e rm_X8_digest s m args below meth c H locs 0 0 Q (F0 m 173 ls [])) → W p l e rm_X8_digest s m args below meth c H locs 0 0 Q (F0 m 151 ls []) := by
    intro n
    induction n with
    | zero => intro v151_1 h151_ o H locs ls E; exact nomatch (show (none : Option (Int32 × cd_Hp)) = some o from E)
    | succ n ih =>
      intro v151_1 h151_ o H locs ls E hZ hl hex
      have E : f_X8_digest_B151 (cd_lp (f_X8_digest_B151) n) (v151_1, h151_) = some o := E
      unfold f_X8_digest_B151 at E
      dsimp only at E
      refine lv_iload_n S.1 S.2.1 dX8_digest_151 rfl (lv_at hl 0 rfl) ?_
      refine lv_aload_n S.1 S.2.1 dX8_digest_152 rfl (lv_at hl 1 rfl) ?_
      refine cd_get8 (v := .ref (G.2.2.2.2 + 405)) S hK hZ cd_this8 0 cd_f_X8_7 rfl dX8_digest_153 ?_
      refine lv_bipush (v := 70) S.1 S.2.1 dX8_digest_156 (by decide) ?_
      refine cd_iald S hK hZ (cd_r8_0 cd_this8) (by decide) dX8_digest_158 ?_
      refine lv_icmp_ge (tgt := 173) S.1 S.2.1 dX8_digest_159 (by decide) (fun c39 => ?_) (fun c39 => ?_)
      · have E := cd_tE c39 E
        cases E
        exact hex H locs ls hZ (lv_sub hl [0, 1] rfl)
      · have E := cd_fE c39 E
        refine lv_aload_n S.1 S.2.1 dX8_digest_162 rfl (lv_at hl 1 rfl) ?_
        refine lv_iload_n S.1 S.2.1 dX8_digest_163 rfl (lv_at hl 0 rfl) ?_
        obtain ⟨o40, E1, E⟩ := cd_bE E
        refine cd_cVv (As := [.int v151_1]) S hK hZ hl.1 (c_X8_mixGroup l G v151_1 h151_ o40 E1) cd_v_X8_mixGroup cd_m_X8_267 ⟨Nat.le_of_ble_eq_true rfl, Nat.le_of_ble_eq_true rfl⟩ ⟨rfl, rfl⟩ (ci := 8) (by decide) rfl cd_this8 rfl rfl (Nat.le_of_ble_eq_true rfl) ⟨Nat.zero_le _, Nat.zero_le _⟩ dX8_digest_164 (fun H locs hZ => ?_)
        obtain ⟨x42, ex42, E⟩ := cd_nmE E
        refine lv_iinc (v := x42) (lv' := [(1, .int x42), (0, .ref (G.2.2.2.2 + 404))]) S.1 S.2.1 dX8_digest_167 hl (k := 0) rfl (by rw [ex42]; rfl) (by decide) rfl (fun ls hl => ?_)
        refine lv_goto (tgt := 151) S.1 S.2.1 dX8_digest_170 (by decide) ?_
        exact ih x42 o40 o H locs ls E hZ (lv_sub hl [0, 1] rfl) hex
  have L175 : ∀ (n : Nat) (v175_1 : Int32) (h175_ : cd_Hp) (o : (Int32 × cd_Hp)) (H : Heap) (locs : List Loc) (ls : Array Slot), cd_lp (f_X8_digest_B175) n (v175_1, h175_) = some o → cd_Z G h175_ s.heap H locs → lv_has ls 3 [(1, .int v175_1), (0, .ref (G.2.2.2.2 + 404))] → (∀ (H : Heap) (locs : List Loc) (ls : Array Slot), cd_Z G o.2 s.heap H locs → lv_has ls 3 [(1, .int o.1), (0, .ref (G.2.2.2.2 + 404))] → W p l e rm_X8_digest s m args below meth c H locs 0 0 Q (F0 m 210 ls [])) → W p l e rm_X8_digest s m args below meth c H locs 0 0 Q (F0 m 175 ls []) := by
    intro n
    induction n with
    | zero => intro v175_1 h175_ o H locs ls E; exact nomatch (show (none : Option (Int32 × cd_Hp)) = some o from E)
    | succ n ih =>
      intro v175_1 h175_ o H locs ls E hZ hl hex
      have E : f_X8_digest_B175 (cd_lp (f_X8_digest_B175) n) (v175_1, h175_) = some o := E
      unfold f_X8_digest_B175 at E
      dsimp only at E
      refine lv_iload_n S.1 S.2.1 dX8_digest_175 rfl (lv_at hl 0 rfl) ?_
      refine lv_iconst (v := 3) S.1 S.2.1 dX8_digest_176 (by decide) ?_
      refine lv_aload_n S.1 S.2.1 dX8_digest_177 rfl (lv_at hl 1 rfl) ?_
      refine cd_get8 (v := .ref (G.2.2.2.2 + 405)) S hK hZ cd_this8 0 cd_f_X8_7 rfl dX8_digest_178 ?_
      refine lv_sipush (v := 429) S.1 S.2.1 dX8_digest_181 (by decide) ?_
      refine cd_iald S hK hZ (cd_r8_0 cd_this8) (by decide) dX8_digest_184 ?_
      refine lv_imul S.1 S.2.1 dX8_digest_185 ?_
      refine lv_icmp_ge (tgt := 210) S.1 S.2.1 dX8_digest_186 (by decide) (fun c44 => ?_) (fun c44 => ?_)
      · have E := cd_tE c44 E
        cases E
        exact hex H locs ls hZ (lv_sub hl [0, 1] rfl)
      · have E := cd_fE c44 E
        refine lv_aload_n S.1 S.2.1 dX8_digest_189 rfl (lv_at hl 1 rfl) ?_
        refine lv_aload_n S.1 S.2.1 dX8_digest_190 rfl (lv_at hl 1 rfl) ?_
        refine cd_get8 (v := .ref (G.2.2.2.2 + 405)) S hK hZ cd_this8 0 cd_f_X8_7 rfl dX8_digest_191 ?_
        refine lv_sipush (v := 430) S.1 S.2.1 dX8_digest_194 (by decide) ?_
        refine lv_iload_n S.1 S.2.1 dX8_digest_197 rfl (lv_at hl 0 rfl) ?_
        refine lv_iadd S.1 S.2.1 dX8_digest_198 ?_
        obtain ⟨z45, E⟩ := cd_ckE E
        refine cd_iald S hK hZ (cd_r8_0 cd_this8) z45 dX8_digest_199 ?_
        refine lv_i2l S.1 S.2.1 dX8_digest_200 rfl ?_
        obtain ⟨o46, E1, E⟩ := cd_nmE E
        refine cd_cVv (As := [.long (Int32.toInt64 (cd_g h175_ 405 ((430 + v175_1).toNatClampNeg)))]) S hK hZ hl.1 (c_X8_mix l G (Int32.toInt64 (cd_g h175_ 405 ((430 + v175_1).toNatClampNeg))) h175_ o46 E1.symm) cd_v_X8_mix cd_m_X8_261 ⟨Nat.le_of_ble_eq_true rfl, Nat.le_of_ble_eq_true rfl⟩ ⟨rfl, rfl⟩ (ci := 8) (by decide) rfl cd_this8 rfl rfl (Nat.le_of_ble_eq_true rfl) ⟨Nat.zero_le _, Nat.zero_le _⟩ dX8_digest_201 (fun H locs hZ => ?_)
        obtain ⟨x48, ex48, E⟩ := cd_nmE E
        refine lv_iinc (v := x48) (lv' := [(1, .int x48), (0, .ref (G.2.2.2.2 + 404))]) S.1 S.2.1 dX8_digest_204 hl (k := 0) rfl (by rw [ex48]; rfl) (by decide) rfl (fun ls hl => ?_)
        refine lv_goto (tgt := 175) S.1 S.2.1 dX8_digest_207 (by decide) ?_
        exact ih x48 o46 o H locs ls E hZ (lv_sub hl [0, 1] rfl) hex
  unfold f_X8_digest at E
  refine lv_aload_n S.1 S.2.1 dX8_digest_0 rfl (lv_at hl 0 rfl) ?_
  refine lv_ldc2 (v := 2707) S.1 S.2.1 S.2.2.2.1 (S.2.2.2.2 _ cd_l_X8_265) dX8_digest_1 ?_
  obtain ⟨h1, eh1, E⟩ := cd_nmE E
  refine cd_put8_17 S hK hZ cd_f_X8_257 eh1 dX8_digest_4 (fun H locs hZ => ?_)
  refine lv_iconst (v := 0) S.1 S.2.1 dX8_digest_7 (by decide) ?_
  refine lv_istore_n (lv' := [(1, .int 0), (0, .ref (G.2.2.2.2 + 404))]) S.1 S.2.1 dX8_digest_8 rfl hl (by decide) rfl (fun ls hl => ?_)
  obtain ⟨o8, E1, E⟩ := cd_bE E
  refine L9 cd_fu 0 h1 o8 H locs ls E1 hZ (lv_sub hl [0, 1] rfl) (fun H locs ls hZ hl => ?_)
  refine lv_iconst (v := 0) S.1 S.2.1 dX8_digest_30 (by decide) ?_
  refine lv_istore_n (lv' := [(1, .int 0), (0, .ref (G.2.2.2.2 + 404))]) S.1 S.2.1 dX8_digest_31 rfl hl (by decide) rfl (fun ls hl => ?_)
  obtain ⟨o15, E1, E⟩ := cd_bE E
  refine L32 cd_fu 0 o8.2 o15 H locs ls E1 hZ (lv_sub hl [0, 1] rfl) (fun H locs ls hZ hl => ?_)
  refine lv_iconst (v := 0) S.1 S.2.1 dX8_digest_54 (by decide) ?_
  refine lv_istore_n (lv' := [(1, .int 0), (0, .ref (G.2.2.2.2 + 404))]) S.1 S.2.1 dX8_digest_55 rfl hl (by decide) rfl (fun ls hl => ?_)
  obtain ⟨o21, E1, E⟩ := cd_bE E
  refine L56 cd_fu 0 o15.2 o21 H locs ls E1 hZ (lv_sub hl [0, 1] rfl) (fun H locs ls hZ hl => ?_)
  refine lv_iconst (v := 0) S.1 S.2.1 dX8_digest_81 (by decide) ?_
  refine lv_istore_n (lv' := [(1, .int 0), (0, .ref (G.2.2.2.2 + 404))]) S.1 S.2.1 dX8_digest_82 rfl hl (by decide) rfl (fun ls hl => ?_)
  obtain ⟨o38, E1, E⟩ := cd_bE E
  refine L83 cd_fu 0 o21.2 o38 H locs ls E1 hZ (lv_sub hl [0, 1] rfl) (fun H locs ls hZ hl => ?_)
  refine lv_iconst (v := 0) S.1 S.2.1 dX8_digest_149 (by decide) ?_
  refine lv_istore_n (lv' := [(1, .int 0), (0, .ref (G.2.2.2.2 + 404))]) S.1 S.2.1 dX8_digest_150 rfl hl (by decide) rfl (fun ls hl => ?_)
  obtain ⟨o43, E1, E⟩ := cd_bE E
  refine L151 cd_fu 0 o38.2 o43 H locs ls E1 hZ (lv_sub hl [0, 1] rfl) (fun H locs ls hZ hl => ?_)
  refine lv_iconst (v := 0) S.1 S.2.1 dX8_digest_173 (by decide) ?_
  refine lv_istore_n (lv' := [(1, .int 0), (0, .ref (G.2.2.2.2 + 404))]) S.1 S.2.1 dX8_digest_174 rfl hl (by decide) rfl (fun ls hl => ?_)
  obtain ⟨o49, E1, E⟩ := cd_bE E
  refine L175 cd_fu 0 o43.2 o49 H locs ls E1 hZ (lv_sub hl [0, 1] rfl) (fun H locs ls hZ hl => ?_)
  refine lv_aload_n S.1 S.2.1 dX8_digest_210 rfl (lv_at hl 1 rfl) ?_
  refine cd_get8 (v := .long o49.2.2) S hK hZ cd_this8 17 cd_f_X8_257 rfl dX8_digest_211 ?_
  exact hret _ _ _ _ _ _ (Option.some.inj E) hZ dX8_digest_214
