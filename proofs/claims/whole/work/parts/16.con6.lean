-- CONTRACTS (written by wip/whole/gen.py): X8_forks X8_canEnd X8_moves X8_exits X8_canGroup X8_addsEvent X8_comesGroup X8_group X8_event X8_periods X8_skids X8_lives X8_isOf X8_watchers X8_isRow X8_canSit X8_isJoined
abbrev rm_X8_forks : Room := { frames := 3, cells := 0, slots := 0, locals := 65 }
theorem cd_v_X8_forks : cd_V yX8_forks cX8_forks 2 (some .int) 1 := ⟨cd_i_X8_forks, cd_e_X8_X8_forks, cd_n_X8, cd_c_X8_forks, by decide +kernel⟩
set_option maxHeartbeats 4000000 in
set_option maxRecDepth 100000 in
theorem c_X8_forks (l : Launch) (G : cd_G) (a1 : Int32) (h : cd_Hp) (out : (Int32 × cd_Hp)) (E : f_X8_forks a1 h = some out) : cd_Mi l G yX8_forks (Cond.code yX8_forks cX8_forks 2 (some .int) :: cd_T) rm_X8_forks [.ref (G.2.2.2.2 + 404), .int a1] h out := by
  refine cd_ini (by decide) (Nat.le_of_ble_eq_true rfl) ?_
  intro p e s m args below meth c Q ls H locs S hK hZ hl hret
  have hl : lv_has ls 2 [(0, .ref (G.2.2.2.2 + 404)), (1, .int a1)] := hl
  unfold f_X8_forks at E
  refine lv_aload_n S.1 S.2.1 dX8_forks_0 rfl (lv_at hl 0 rfl) ?_
  refine lv_iload_n S.1 S.2.1 dX8_forks_1 rfl (lv_at hl 1 rfl) ?_
  refine cd_cVz (As := [.int a1]) S hK hZ hl.1 (c_X8_isTask l G a1 h _ rfl) cd_v_X8_isTask cd_m_X8_86 ⟨Nat.le_of_ble_eq_true rfl, Nat.le_of_ble_eq_true rfl⟩ ⟨rfl, rfl⟩ (ci := 8) (by decide) rfl cd_this8 rfl rfl (Nat.le_of_ble_eq_true rfl) ⟨Nat.zero_le _, Nat.zero_le _⟩ dX8_forks_2 (fun H locs hZ b1 => ?_)
  refine lv_if_ne (tgt := 13) S.1 S.2.1 dX8_forks_5 (by decide) (fun c2 => ?_) (fun c2 => ?_)
  · have E := cd_fE c2 E
    refine lv_aload_n S.1 S.2.1 dX8_forks_13 rfl (lv_at hl 0 rfl) ?_
    refine lv_iload_n S.1 S.2.1 dX8_forks_14 rfl (lv_at hl 1 rfl) ?_
    obtain ⟨o3, E1, E⟩ := cd_bE E
    refine cd_cVz (As := [.int a1]) S hK hZ hl.1 (c_X8_hasEnded l G a1 h o3 E1) cd_v_X8_hasEnded cd_m_X8_95 ⟨Nat.le_of_ble_eq_true rfl, Nat.le_of_ble_eq_true rfl⟩ ⟨rfl, rfl⟩ (ci := 8) (by decide) rfl cd_this8 rfl rfl (Nat.le_of_ble_eq_true rfl) ⟨Nat.zero_le _, Nat.zero_le _⟩ dX8_forks_15 (fun H locs hZ b4 => ?_)
    refine lv_if_eq (tgt := 26) S.1 S.2.1 dX8_forks_18 (by decide) (fun c5 => ?_) (fun c5 => ?_)
    · have E := cd_tE c5 E
      refine lv_aload_n S.1 S.2.1 dX8_forks_26 rfl (lv_at hl 0 rfl) ?_
      refine cd_get8 (v := .ref (G.2.2.2.2 + 405)) S hK hZ cd_this8 0 cd_f_X8_7 rfl dX8_forks_27 ?_
      refine lv_bipush (v := 9) S.1 S.2.1 dX8_forks_30 (by decide) ?_
      refine cd_iald S hK hZ (cd_r8_0 cd_this8) (by decide) dX8_forks_32 ?_
      refine lv_bipush (v := 6) S.1 S.2.1 dX8_forks_33 (by decide) ?_
      refine lv_icmp_ne (tgt := 43) S.1 S.2.1 dX8_forks_35 (by decide) (fun c6 => ?_) (fun c6 => ?_)
      · have E := cd_fE c6 E
        refine lv_aload_n S.1 S.2.1 dX8_forks_43 rfl (lv_at hl 0 rfl) ?_
        obtain ⟨o7, E1, E⟩ := cd_bE E
        refine cd_cVv (As := []) S hK hZ hl.1 (c_X8_remembers l G  h o7 E1) cd_v_X8_remembers cd_m_X8_73 ⟨Nat.le_of_ble_eq_true rfl, Nat.le_of_ble_eq_true rfl⟩ ⟨rfl, rfl⟩ (ci := 8) (by decide) rfl cd_this8 rfl rfl (Nat.le_of_ble_eq_true rfl) ⟨Nat.zero_le _, Nat.zero_le _⟩ dX8_forks_44 (fun H locs hZ => ?_)
        refine lv_aload_n S.1 S.2.1 dX8_forks_47 rfl (lv_at hl 0 rfl) ?_
        refine lv_iload_n S.1 S.2.1 dX8_forks_48 rfl (lv_at hl 1 rfl) ?_
        obtain ⟨o9, E1, E⟩ := cd_bE E
        refine cd_cVi (As := [.int a1]) S hK hZ hl.1 (c_X8_comesOf l G a1 o7 o9 E1) cd_v_X8_comesOf cd_m_X8_101 ⟨Nat.le_of_ble_eq_true rfl, Nat.le_of_ble_eq_true rfl⟩ ⟨rfl, rfl⟩ (ci := 8) (by decide) rfl cd_this8 rfl rfl (Nat.le_of_ble_eq_true rfl) ⟨Nat.zero_le _, Nat.zero_le _⟩ dX8_forks_49 (fun H locs hZ => ?_)
        exact hret _ _ _ _ _ _ (Option.some.inj E) hZ dX8_forks_52
      · have E := cd_tE c6 E
        refine lv_aload_n S.1 S.2.1 dX8_forks_38 rfl (lv_at hl 0 rfl) ?_
        obtain ⟨o11, E1, E⟩ := cd_nmE E
        refine cd_cVi (As := []) S hK hZ hl.1 (c_X8_full l G  h o11 E1.symm) cd_v_X8_full cd_m_X8_98 ⟨Nat.le_of_ble_eq_true rfl, Nat.le_of_ble_eq_true rfl⟩ ⟨rfl, rfl⟩ (ci := 8) (by decide) rfl cd_this8 rfl rfl (Nat.le_of_ble_eq_true rfl) ⟨Nat.zero_le _, Nat.zero_le _⟩ dX8_forks_39 (fun H locs hZ => ?_)
        exact hret _ _ _ _ _ _ (Option.some.inj E) hZ dX8_forks_42
    · have E := cd_fE c5 E
      refine lv_aload_n S.1 S.2.1 dX8_forks_21 rfl (lv_at hl 0 rfl) ?_
      obtain ⟨o13, E1, E⟩ := cd_nmE E
      refine cd_cVi (As := []) S hK hZ hl.1 (c_X8_no l G  h o13 E1.symm) cd_v_X8_no cd_m_X8_47 ⟨Nat.le_of_ble_eq_true rfl, Nat.le_of_ble_eq_true rfl⟩ ⟨rfl, rfl⟩ (ci := 8) (by decide) rfl cd_this8 rfl rfl (Nat.le_of_ble_eq_true rfl) ⟨Nat.zero_le _, Nat.zero_le _⟩ dX8_forks_22 (fun H locs hZ => ?_)
      exact hret _ _ _ _ _ _ (Option.some.inj E) hZ dX8_forks_25
  · have E := cd_tE c2 E
    refine lv_aload_n S.1 S.2.1 dX8_forks_8 rfl (lv_at hl 0 rfl) ?_
    obtain ⟨o15, E1, E⟩ := cd_nmE E
    refine cd_cVi (As := []) S hK hZ hl.1 (c_X8_bad l G  h o15 E1.symm) cd_v_X8_bad cd_m_X8_70 ⟨Nat.le_of_ble_eq_true rfl, Nat.le_of_ble_eq_true rfl⟩ ⟨rfl, rfl⟩ (ci := 8) (by decide) rfl cd_this8 rfl rfl (Nat.le_of_ble_eq_true rfl) ⟨Nat.zero_le _, Nat.zero_le _⟩ dX8_forks_9 (fun H locs hZ => ?_)
    exact hret _ _ _ _ _ _ (Option.some.inj E) hZ dX8_forks_12
abbrev rm_X8_canEnd : Room := { frames := 2, cells := 0, slots := 0, locals := 41 }
theorem cd_v_X8_canEnd : cd_V yX8_canEnd cX8_canEnd 4 (some .boolean) 1 := ⟨cd_i_X8_canEnd, cd_e_X8_X8_canEnd, cd_n_X8, cd_c_X8_canEnd, by decide +kernel⟩
set_option maxHeartbeats 4000000 in
set_option maxRecDepth 100000 in
theorem c_X8_canEnd (l : Launch) (G : cd_G) (a1 : Int32) (h : cd_Hp) (out : Int32) (E : f_X8_canEnd a1 h = some out) : cd_Mz l G yX8_canEnd (Cond.code yX8_canEnd cX8_canEnd 4 (some .boolean) :: cd_T) rm_X8_canEnd [.ref (G.2.2.2.2 + 404), .int a1] h (out, h) := by
  refine cd_inz (by decide) (Nat.le_of_ble_eq_true rfl) ?_
  intro p e s m args below meth c Q ls H locs S hK hZ hl hret
  have hl : lv_has ls 4 [(0, .ref (G.2.2.2.2 + 404)), (1, .int a1)] := hl
  have L16 : ∀ (n : Nat) (v16_2 : Int32) (v16_3 : Int32) (o : (Int32 × Int32)) (H : Heap) (locs : List Loc) (ls : Array Slot), cd_lp (f_X8_canEnd_B16 a1 h) n (v16_2, v16_3) = some o → cd_Z G h s.heap H locs → lv_has ls 4 [(3, .int v16_3), (2, .int v16_2), (0, .ref (G.2.2.2.2 + 404)), (1, .int a1)] → (∀ (H : Heap) (locs : List Loc) (ls : Array Slot), cd_Z G h s.heap H locs → lv_has ls 4 [(3, .int o.2), (2, .int o.1), (0, .ref (G.2.2.2.2 + 404)), (1, .int a1)] → W p l e rm_X8_canEnd s m args below meth c H locs 0 0 Q (F0 m 64 ls [])) → W p l e rm_X8_canEnd s m args below meth c H locs 0 0 Q (F0 m 16 ls []) := by
    intro n
    induction n with
    | zero => intro v16_2 v16_3 o H locs ls E; exact nomatch (show (none : Option (Int32 × Int32)) = some o from E)
    | succ n ih =>
      intro v16_2 v16_3 o H locs ls E hZ hl hex
      have E : f_X8_canEnd_B16 a1 h (cd_lp (f_X8_canEnd_B16 a1 h) n) (v16_2, v16_3) = some o := E
      unfold f_X8_canEnd_B16 at E
      dsimp only at E
      refine lv_iload_n S.1 S.2.1 dX8_canEnd_16 rfl (lv_at hl 0 rfl) ?_
      refine lv_aload_n S.1 S.2.1 dX8_canEnd_17 rfl (lv_at hl 2 rfl) ?_
      refine cd_get8 (v := .ref (G.2.2.2.2 + 405)) S hK hZ cd_this8 0 cd_f_X8_7 rfl dX8_canEnd_18 ?_
      refine lv_bipush (v := 9) S.1 S.2.1 dX8_canEnd_21 (by decide) ?_
      refine cd_iald S hK hZ (cd_r8_0 cd_this8) (by decide) dX8_canEnd_23 ?_
      refine lv_icmp_ge (tgt := 64) S.1 S.2.1 dX8_canEnd_24 (by decide) (fun c4 => ?_) (fun c4 => ?_)
      · have E := cd_tE c4 E
        cases E
        exact hex H locs ls hZ (lv_sub hl [0, 1, 2, 3] rfl)
      · have E := cd_fE c4 E
        refine lv_iload_n S.1 S.2.1 dX8_canEnd_27 rfl (lv_at hl 1 rfl) ?_
        refine lv_if_eq (tgt := 56) S.1 S.2.1 dX8_canEnd_28 (by decide) (fun c5 => ?_) (fun c5 => ?_)
        · have E := cd_tE c5 E
          refine lv_iconst (v := 0) S.1 S.2.1 dX8_canEnd_56 (by decide) ?_
          refine lv_istore_n (lv' := [(2, .int 0), (3, .int v16_3), (0, .ref (G.2.2.2.2 + 404)), (1, .int a1)]) S.1 S.2.1 dX8_canEnd_57 rfl hl (by decide) rfl (fun ls hl => ?_)
          obtain ⟨x6, ex6, E⟩ := cd_nmE E
          refine lv_iinc (v := x6) (lv' := [(3, .int x6), (2, .int 0), (0, .ref (G.2.2.2.2 + 404)), (1, .int a1)]) S.1 S.2.1 dX8_canEnd_58 hl (k := 1) rfl (by rw [ex6]; rfl) (by decide) rfl (fun ls hl => ?_)
          refine lv_goto (tgt := 16) S.1 S.2.1 dX8_canEnd_61 (by decide) ?_
          exact ih 0 x6 o H locs ls E hZ (lv_sub hl [0, 1, 2, 3] rfl) hex
        · have E := cd_fE c5 E
          refine lv_aload_n S.1 S.2.1 dX8_canEnd_31 rfl (lv_at hl 2 rfl) ?_
          refine cd_get8 (v := .ref (G.2.2.2.2 + 405)) S hK hZ cd_this8 0 cd_f_X8_7 rfl dX8_canEnd_32 ?_
          refine lv_iload_n S.1 S.2.1 dX8_canEnd_35 rfl (lv_at hl 0 rfl) ?_
          refine cd_cSi (As := [.int v16_3]) S hK hZ hl.1 (c_X8_taskAt l G v16_3 h _ rfl) cd_v_X8_taskAt cd_m_X8_67 ⟨Nat.le_of_ble_eq_true rfl, Nat.le_of_ble_eq_true rfl⟩ ⟨rfl, rfl⟩ rfl rfl (Nat.le_of_ble_eq_true rfl) ⟨Nat.zero_le _, Nat.zero_le _⟩ dX8_canEnd_36 (fun H locs hZ => ?_)
          obtain ⟨z8, E⟩ := cd_ckE E
          refine cd_iald S hK hZ (cd_r8_0 cd_this8) z8 dX8_canEnd_39 ?_
          refine lv_iload_n S.1 S.2.1 dX8_canEnd_40 rfl (lv_at hl 3 rfl) ?_
          refine lv_icmp_ne (tgt := 52) S.1 S.2.1 dX8_canEnd_41 (by decide) (fun c9 => ?_) (fun c9 => ?_)
          · have E := cd_fE c9 E
            refine lv_iconst (v := 1) S.1 S.2.1 dX8_canEnd_52 (by decide) ?_
            refine lv_goto (tgt := 57) S.1 S.2.1 dX8_canEnd_53 (by decide) ?_
            refine lv_istore_n (lv' := [(2, .int 1), (3, .int v16_3), (0, .ref (G.2.2.2.2 + 404)), (1, .int a1)]) S.1 S.2.1 dX8_canEnd_57 rfl hl (by decide) rfl (fun ls hl => ?_)
            obtain ⟨x10, ex10, E⟩ := cd_nmE E
            refine lv_iinc (v := x10) (lv' := [(3, .int x10), (2, .int 1), (0, .ref (G.2.2.2.2 + 404)), (1, .int a1)]) S.1 S.2.1 dX8_canEnd_58 hl (k := 1) rfl (by rw [ex10]; rfl) (by decide) rfl (fun ls hl => ?_)
            refine lv_goto (tgt := 16) S.1 S.2.1 dX8_canEnd_61 (by decide) ?_
            exact ih 1 x10 o H locs ls E hZ (lv_sub hl [0, 1, 2, 3] rfl) hex
          · have E := cd_tE c9 E
            refine lv_aload_n S.1 S.2.1 dX8_canEnd_44 rfl (lv_at hl 2 rfl) ?_
            refine lv_iload_n S.1 S.2.1 dX8_canEnd_45 rfl (lv_at hl 0 rfl) ?_
            obtain ⟨o11, E1, E⟩ := cd_bE E
            refine cd_cVz (As := [.int v16_3]) S hK hZ hl.1 (c_X8_hasEnded l G v16_3 h o11 E1) cd_v_X8_hasEnded cd_m_X8_95 ⟨Nat.le_of_ble_eq_true rfl, Nat.le_of_ble_eq_true rfl⟩ ⟨rfl, rfl⟩ (ci := 8) (by decide) rfl cd_this8 rfl rfl (Nat.le_of_ble_eq_true rfl) ⟨Nat.zero_le _, Nat.zero_le _⟩ dX8_canEnd_46 (fun H locs hZ b12 => ?_)
            refine lv_if_eq (tgt := 56) S.1 S.2.1 dX8_canEnd_49 (by decide) (fun c13 => ?_) (fun c13 => ?_)
            · have E := cd_tE c13 E
              refine lv_iconst (v := 0) S.1 S.2.1 dX8_canEnd_56 (by decide) ?_
              refine lv_istore_n (lv' := [(2, .int 0), (3, .int v16_3), (0, .ref (G.2.2.2.2 + 404)), (1, .int a1)]) S.1 S.2.1 dX8_canEnd_57 rfl hl (by decide) rfl (fun ls hl => ?_)
              obtain ⟨x14, ex14, E⟩ := cd_nmE E
              refine lv_iinc (v := x14) (lv' := [(3, .int x14), (2, .int 0), (0, .ref (G.2.2.2.2 + 404)), (1, .int a1)]) S.1 S.2.1 dX8_canEnd_58 hl (k := 1) rfl (by rw [ex14]; rfl) (by decide) rfl (fun ls hl => ?_)
              refine lv_goto (tgt := 16) S.1 S.2.1 dX8_canEnd_61 (by decide) ?_
              exact ih 0 x14 o H locs ls E hZ (lv_sub hl [0, 1, 2, 3] rfl) hex
            · have E := cd_fE c13 E
              refine lv_iconst (v := 1) S.1 S.2.1 dX8_canEnd_52 (by decide) ?_
              refine lv_goto (tgt := 57) S.1 S.2.1 dX8_canEnd_53 (by decide) ?_
              refine lv_istore_n (lv' := [(2, .int 1), (3, .int v16_3), (0, .ref (G.2.2.2.2 + 404)), (1, .int a1)]) S.1 S.2.1 dX8_canEnd_57 rfl hl (by decide) rfl (fun ls hl => ?_)
              obtain ⟨x15, ex15, E⟩ := cd_nmE E
              refine lv_iinc (v := x15) (lv' := [(3, .int x15), (2, .int 1), (0, .ref (G.2.2.2.2 + 404)), (1, .int a1)]) S.1 S.2.1 dX8_canEnd_58 hl (k := 1) rfl (by rw [ex15]; rfl) (by decide) rfl (fun ls hl => ?_)
              refine lv_goto (tgt := 16) S.1 S.2.1 dX8_canEnd_61 (by decide) ?_
              exact ih 1 x15 o H locs ls E hZ (lv_sub hl [0, 1, 2, 3] rfl) hex
  unfold f_X8_canEnd at E
  refine lv_aload_n S.1 S.2.1 dX8_canEnd_0 rfl (lv_at hl 0 rfl) ?_
  refine lv_iload_n S.1 S.2.1 dX8_canEnd_1 rfl (lv_at hl 1 rfl) ?_
  obtain ⟨o1, E1, E⟩ := cd_bE E
  refine cd_cVz (As := [.int a1]) S hK hZ hl.1 (c_X8_hasEnded l G a1 h o1 E1) cd_v_X8_hasEnded cd_m_X8_95 ⟨Nat.le_of_ble_eq_true rfl, Nat.le_of_ble_eq_true rfl⟩ ⟨rfl, rfl⟩ (ci := 8) (by decide) rfl cd_this8 rfl rfl (Nat.le_of_ble_eq_true rfl) ⟨Nat.zero_le _, Nat.zero_le _⟩ dX8_canEnd_2 (fun H locs hZ b2 => ?_)
  refine lv_if_ne (tgt := 12) S.1 S.2.1 dX8_canEnd_5 (by decide) (fun c3 => ?_) (fun c3 => ?_)
  · have E := cd_fE c3 E
    refine lv_iconst (v := 0) S.1 S.2.1 dX8_canEnd_12 (by decide) ?_
    refine lv_istore_n (lv' := [(2, .int 0), (0, .ref (G.2.2.2.2 + 404)), (1, .int a1)]) S.1 S.2.1 dX8_canEnd_13 rfl hl (by decide) rfl (fun ls hl => ?_)
    refine lv_iconst (v := 1) S.1 S.2.1 dX8_canEnd_14 (by decide) ?_
    refine lv_istore_n (lv' := [(3, .int 1), (2, .int 0), (0, .ref (G.2.2.2.2 + 404)), (1, .int a1)]) S.1 S.2.1 dX8_canEnd_15 rfl hl (by decide) rfl (fun ls hl => ?_)
    obtain ⟨o16, E1, E⟩ := cd_bE E
    refine L16 cd_fu 0 1 o16 H locs ls E1 hZ (lv_sub hl [0, 1, 2, 3] rfl) (fun H locs ls hZ hl => ?_)
    refine lv_iload_n S.1 S.2.1 dX8_canEnd_64 rfl (lv_at hl 1 rfl) ?_
    obtain ⟨z17, E⟩ := cd_ckE E
    exact hret _ _ _ _ _ _ z17 (congrArg (fun z => (z, h)) (Option.some.inj E)) hZ dX8_canEnd_65
  · have E := cd_tE c3 E
    refine lv_iconst (v := 1) S.1 S.2.1 dX8_canEnd_8 (by decide) ?_
    refine lv_goto (tgt := 13) S.1 S.2.1 dX8_canEnd_9 (by decide) ?_
    refine lv_istore_n (lv' := [(2, .int 1), (0, .ref (G.2.2.2.2 + 404)), (1, .int a1)]) S.1 S.2.1 dX8_canEnd_13 rfl hl (by decide) rfl (fun ls hl => ?_)
    refine lv_iconst (v := 1) S.1 S.2.1 dX8_canEnd_14 (by decide) ?_
    refine lv_istore_n (lv' := [(3, .int 1), (2, .int 1), (0, .ref (G.2.2.2.2 + 404)), (1, .int a1)]) S.1 S.2.1 dX8_canEnd_15 rfl hl (by decide) rfl (fun ls hl => ?_)
    obtain ⟨o18, E1, E⟩ := cd_bE E
    refine L16 cd_fu 1 1 o18 H locs ls E1 hZ (lv_sub hl [0, 1, 2, 3] rfl) (fun H locs ls hZ hl => ?_)
    refine lv_iload_n S.1 S.2.1 dX8_canEnd_64 rfl (lv_at hl 1 rfl) ?_
    obtain ⟨z19, E⟩ := cd_ckE E
    exact hret _ _ _ _ _ _ z19 (congrArg (fun z => (z, h)) (Option.some.inj E)) hZ dX8_canEnd_65
abbrev rm_X8_moves : Room := { frames := 0, cells := 0, slots := 0, locals := 0 }
theorem cd_v_X8_moves : cd_V yX8_moves cX8_moves 3 none 2 := ⟨cd_i_X8_moves, cd_e_X8_X8_moves, cd_n_X8, cd_c_X8_moves, by decide +kernel⟩
set_option maxHeartbeats 4000000 in
set_option maxRecDepth 100000 in
theorem c_X8_moves (l : Launch) (G : cd_G) (a1 : Int32) (a2 : Int32) (h : cd_Hp) (out : cd_Hp) (E : f_X8_moves a1 a2 h = some out) : cd_Mv l G yX8_moves (Cond.code yX8_moves cX8_moves 3 none :: cd_T) rm_X8_moves [.ref (G.2.2.2.2 + 404), .int a1, .int a2] h out := by
  refine cd_inv (by decide) (Nat.le_of_ble_eq_true rfl) ?_
  intro p e s m args below meth c Q ls H locs S hK hZ hl hret
  have hl : lv_has ls 3 [(0, .ref (G.2.2.2.2 + 404)), (1, .int a1), (2, .int a2)] := hl
  unfold f_X8_moves at E
  refine lv_aload_n S.1 S.2.1 dX8_moves_0 rfl (lv_at hl 0 rfl) ?_
  refine cd_get8 (v := .ref (G.2.2.2.2 + 405)) S hK hZ cd_this8 0 cd_f_X8_7 rfl dX8_moves_1 ?_
  refine lv_iload_n S.1 S.2.1 dX8_moves_4 rfl (lv_at hl 2 rfl) ?_
  refine lv_dup2_11 S.1 S.2.1 dX8_moves_5 rfl rfl ?_
  obtain ⟨z1, E⟩ := cd_ckE E
  refine cd_iald S hK hZ (cd_r8_0 cd_this8) z1 dX8_moves_6 ?_
  refine lv_aload_n S.1 S.2.1 dX8_moves_7 rfl (lv_at hl 0 rfl) ?_
  refine cd_get8 (v := .ref (G.2.2.2.2 + 405)) S hK hZ cd_this8 0 cd_f_X8_7 rfl dX8_moves_8 ?_
  refine lv_iload_n S.1 S.2.1 dX8_moves_11 rfl (lv_at hl 1 rfl) ?_
  obtain ⟨z2, E⟩ := cd_ckE E
  refine cd_iald S hK hZ (cd_r8_0 cd_this8) z2 dX8_moves_12 ?_
  refine lv_iadd S.1 S.2.1 dX8_moves_13 ?_
  obtain ⟨z3, E⟩ := cd_ckE E
  obtain ⟨h4, eh4, E⟩ := cd_nmE E
  refine cd_iast S hK hZ (cd_r8_0 cd_this8) z3 eh4 dX8_moves_14 (fun H locs hZ => ?_)
  refine lv_aload_n S.1 S.2.1 dX8_moves_15 rfl (lv_at hl 0 rfl) ?_
  refine cd_get8 (v := .ref (G.2.2.2.2 + 405)) S hK hZ cd_this8 0 cd_f_X8_7 rfl dX8_moves_16 ?_
  refine lv_iload_n S.1 S.2.1 dX8_moves_19 rfl (lv_at hl 1 rfl) ?_
  refine lv_iconst (v := 0) S.1 S.2.1 dX8_moves_20 (by decide) ?_
  obtain ⟨z5, E⟩ := cd_ckE E
  obtain ⟨h6, eh6, E⟩ := cd_nmE E
  refine cd_iast S hK hZ (cd_r8_0 cd_this8) z5 eh6 dX8_moves_21 (fun H locs hZ => ?_)
  exact hret _ _ _ _ _ (Option.some.inj E) hZ dX8_moves_22
abbrev rm_X8_exits : Room := { frames := 3, cells := 0, slots := 0, locals := 64 }
theorem cd_v_X8_exits : cd_V yX8_exits cX8_exits 6 (some .int) 1 := ⟨cd_i_X8_exits, cd_e_X8_X8_exits, cd_n_X8, cd_c_X8_exits, by decide +kernel⟩
set_option maxHeartbeats 4000000 in
set_option maxRecDepth 100000 in
theorem c_X8_exits (l : Launch) (G : cd_G) (a1 : Int32) (h : cd_Hp) (out : (Int32 × cd_Hp)) (E : f_X8_exits a1 h = some out) : cd_Mi l G yX8_exits (Cond.code yX8_exits cX8_exits 6 (some .int) :: cd_T) rm_X8_exits [.ref (G.2.2.2.2 + 404), .int a1] h out := by
  refine cd_ini (by decide) (Nat.le_of_ble_eq_true rfl) ?_
  intro p e s m args below meth c Q ls H locs S hK hZ hl hret
  have hl : lv_has ls 6 [(0, .ref (G.2.2.2.2 + 404)), (1, .int a1)] := hl
  have L114 : ∀ (p114_2 : Int32) (p114_3 : Int32), ∀ (n : Nat) (v114_5 : Int32) (h114_ : cd_Hp) (o : (Int32 × cd_Hp)) (H : Heap) (locs : List Loc) (ls : Array Slot), cd_lp (f_X8_exits_B114 a1 p114_2 p114_3) n (v114_5, h114_) = some o → cd_Z G h114_ s.heap H locs → lv_has ls 6 [(5, .int v114_5), (3, .int p114_3), (2, .int p114_2), (0, .ref (G.2.2.2.2 + 404)), (1, .int a1)] → (∀ (H : Heap) (locs : List Loc) (ls : Array Slot), cd_Z G o.2 s.heap H locs → lv_has ls 6 [(5, .int o.1), (3, .int p114_3), (2, .int p114_2), (0, .ref (G.2.2.2.2 + 404)), (1, .int a1)] → W p l e rm_X8_exits s m args below meth c H locs 0 0 Q (F0 m 149 ls [])) → W p l e rm_X8_exits s m args below meth c H locs 0 0 Q (F0 m 114 ls []) := by
    intro p114_2 p114_3
    intro n
    induction n with
    | zero => intro v114_5 h114_ o H locs ls E; exact nomatch (show (none : Option (Int32 × cd_Hp)) = some o from E)
    | succ n ih =>
      intro v114_5 h114_ o H locs ls E hZ hl hex
      have E : f_X8_exits_B114 a1 p114_2 p114_3 (cd_lp (f_X8_exits_B114 a1 p114_2 p114_3) n) (v114_5, h114_) = some o := E
      unfold f_X8_exits_B114 at E
      dsimp only at E
      refine lv_iload S.1 S.2.1 dX8_exits_114 (lv_at hl 0 rfl) ?_
      refine lv_aload_n S.1 S.2.1 dX8_exits_116 rfl (lv_at hl 3 rfl) ?_
      refine lv_iload_n S.1 S.2.1 dX8_exits_117 rfl (lv_at hl 1 rfl) ?_
      refine lv_iconst (v := 5) S.1 S.2.1 dX8_exits_118 (by decide) ?_
      obtain ⟨o24, E1, E⟩ := cd_bE E
      refine cd_cVi (As := [.int p114_3, .int 5]) S hK hZ hl.1 (c_X8_ofGroup l G p114_3 5 h114_ o24 E1) cd_v_X8_ofGroup cd_m_X8_63 ⟨Nat.le_of_ble_eq_true rfl, Nat.le_of_ble_eq_true rfl⟩ ⟨rfl, rfl⟩ (ci := 8) (by decide) rfl cd_this8 rfl rfl (Nat.le_of_ble_eq_true rfl) ⟨Nat.zero_le _, Nat.zero_le _⟩ dX8_exits_119 (fun H locs hZ => ?_)
      refine lv_icmp_ge (tgt := 149) S.1 S.2.1 dX8_exits_122 (by decide) (fun c26 => ?_) (fun c26 => ?_)
      · have E := cd_tE c26 E
        cases E
        exact hex H locs ls hZ (lv_sub hl [0, 1, 2, 3, 4] rfl)
      · have E := cd_fE c26 E
        refine lv_aload_n S.1 S.2.1 dX8_exits_125 rfl (lv_at hl 3 rfl) ?_
        refine lv_iload_n S.1 S.2.1 dX8_exits_126 rfl (lv_at hl 1 rfl) ?_
        refine lv_iload S.1 S.2.1 dX8_exits_127 (lv_at hl 0 rfl) ?_
        refine lv_iload_n S.1 S.2.1 dX8_exits_129 rfl (lv_at hl 4 rfl) ?_
        refine cd_cSi (As := [.int p114_3, .int v114_5, .int a1]) S hK hZ hl.1 (c_X8_countAt l G p114_3 v114_5 a1 h114_ _ rfl) cd_v_X8_countAt cd_m_X8_111 ⟨Nat.le_of_ble_eq_true rfl, Nat.le_of_ble_eq_true rfl⟩ ⟨rfl, rfl⟩ rfl rfl (Nat.le_of_ble_eq_true rfl) ⟨Nat.zero_le _, Nat.zero_le _⟩ dX8_exits_130 (fun H locs hZ => ?_)
        refine lv_iload_n S.1 S.2.1 dX8_exits_133 rfl (lv_at hl 1 rfl) ?_
        refine lv_iload S.1 S.2.1 dX8_exits_134 (lv_at hl 0 rfl) ?_
        refine lv_iload_n S.1 S.2.1 dX8_exits_136 rfl (lv_at hl 2 rfl) ?_
        refine cd_cSi (As := [.int p114_3, .int v114_5, .int p114_2]) S hK hZ hl.1 (c_X8_countAt l G p114_3 v114_5 p114_2 h114_ _ rfl) cd_v_X8_countAt cd_m_X8_111 ⟨Nat.le_of_ble_eq_true rfl, Nat.le_of_ble_eq_true rfl⟩ ⟨rfl, rfl⟩ rfl rfl (Nat.le_of_ble_eq_true rfl) ⟨Nat.zero_le _, Nat.zero_le _⟩ dX8_exits_137 (fun H locs hZ => ?_)
        obtain ⟨o29, E1, E⟩ := cd_bE E
        refine cd_cVv (As := [.int (f_X8_countAt p114_3 v114_5 a1), .int (f_X8_countAt p114_3 v114_5 p114_2)]) S hK hZ hl.1 (c_X8_moves l G (f_X8_countAt p114_3 v114_5 a1) (f_X8_countAt p114_3 v114_5 p114_2) h114_ o29 E1) cd_v_X8_moves cd_m_X8_107 ⟨Nat.le_of_ble_eq_true rfl, Nat.le_of_ble_eq_true rfl⟩ ⟨rfl, rfl⟩ (ci := 8) (by decide) rfl cd_this8 rfl rfl (Nat.le_of_ble_eq_true rfl) ⟨Nat.zero_le _, Nat.zero_le _⟩ dX8_exits_140 (fun H locs hZ => ?_)
        obtain ⟨x31, ex31, E⟩ := cd_nmE E
        refine lv_iinc (v := x31) (lv' := [(5, .int x31), (3, .int p114_3), (2, .int p114_2), (0, .ref (G.2.2.2.2 + 404)), (1, .int a1)]) S.1 S.2.1 dX8_exits_143 hl (k := 0) rfl (by rw [ex31]; rfl) (by decide) rfl (fun ls hl => ?_)
        refine lv_goto (tgt := 114) S.1 S.2.1 dX8_exits_146 (by decide) ?_
        exact ih x31 o29 o H locs ls E hZ (lv_sub hl [0, 1, 2, 3, 4] rfl) hex
  have L58 : ∀ (p58_2 : Int32), ∀ (n : Nat) (v58_3 : Int32) (h58_ : cd_Hp) (o : (Int32 × cd_Hp)) (H : Heap) (locs : List Loc) (ls : Array Slot), cd_lp (f_X8_exits_B58 a1 p58_2) n (v58_3, h58_) = some o → cd_Z G h58_ s.heap H locs → lv_has ls 6 [(3, .int v58_3), (2, .int p58_2), (0, .ref (G.2.2.2.2 + 404)), (1, .int a1)] → (∀ (H : Heap) (locs : List Loc) (ls : Array Slot), cd_Z G o.2 s.heap H locs → lv_has ls 6 [(3, .int o.1), (2, .int p58_2), (0, .ref (G.2.2.2.2 + 404)), (1, .int a1)] → W p l e rm_X8_exits s m args below meth c H locs 0 0 Q (F0 m 155 ls [])) → W p l e rm_X8_exits s m args below meth c H locs 0 0 Q (F0 m 58 ls []) := by
    intro p58_2
    intro n
    induction n with
    | zero => intro v58_3 h58_ o H locs ls E; exact nomatch (show (none : Option (Int32 × cd_Hp)) = some o from E)
    | succ n ih =>
      intro v58_3 h58_ o H locs ls E hZ hl hex
      have E : f_X8_exits_B58 a1 p58_2 (cd_lp (f_X8_exits_B58 a1 p58_2) n) (v58_3, h58_) = some o := E
      unfold f_X8_exits_B58 at E
      dsimp only at E
      refine lv_iload_n S.1 S.2.1 dX8_exits_58 rfl (lv_at hl 0 rfl) ?_
      refine lv_aload_n S.1 S.2.1 dX8_exits_59 rfl (lv_at hl 2 rfl) ?_
      refine cd_get8 (v := .ref (G.2.2.2.2 + 405)) S hK hZ cd_this8 0 cd_f_X8_7 rfl dX8_exits_60 ?_
      refine lv_bipush (v := 70) S.1 S.2.1 dX8_exits_63 (by decide) ?_
      refine cd_iald S hK hZ (cd_r8_0 cd_this8) (by decide) dX8_exits_65 ?_
      refine lv_icmp_ge (tgt := 155) S.1 S.2.1 dX8_exits_66 (by decide) (fun c17 => ?_) (fun c17 => ?_)
      · have E := cd_tE c17 E
        cases E
        exact hex H locs ls hZ (lv_sub hl [0, 1, 2, 3] rfl)
      · have E := cd_fE c17 E
        refine lv_iload_n S.1 S.2.1 dX8_exits_69 rfl (lv_at hl 0 rfl) ?_
        refine cd_cSi (As := [.int v58_3]) S hK hZ hl.1 (c_X8_groupAt l G v58_3 h58_ _ rfl) cd_v_X8_groupAt cd_m_X8_55 ⟨Nat.le_of_ble_eq_true rfl, Nat.le_of_ble_eq_true rfl⟩ ⟨rfl, rfl⟩ rfl rfl (Nat.le_of_ble_eq_true rfl) ⟨Nat.zero_le _, Nat.zero_le _⟩ dX8_exits_70 (fun H locs hZ => ?_)
        obtain ⟨x19, ex19, E⟩ := cd_nmE E
        refine cd_topi ex19 ?_
        refine lv_istore (lv' := [(4, .int x19), (3, .int v58_3), (2, .int p58_2), (0, .ref (G.2.2.2.2 + 404)), (1, .int a1)]) S.1 S.2.1 dX8_exits_73 hl (by decide) rfl (fun ls hl => ?_)
        refine lv_aload_n S.1 S.2.1 dX8_exits_75 rfl (lv_at hl 3 rfl) ?_
        refine lv_iload S.1 S.2.1 dX8_exits_76 (lv_at hl 0 rfl) ?_
        refine lv_bipush (v := 46) S.1 S.2.1 dX8_exits_78 (by decide) ?_
        refine lv_iadd S.1 S.2.1 dX8_exits_80 ?_
        refine lv_iload_n S.1 S.2.1 dX8_exits_81 rfl (lv_at hl 4 rfl) ?_
        refine lv_iadd S.1 S.2.1 dX8_exits_82 ?_
        refine lv_iload S.1 S.2.1 dX8_exits_83 (lv_at hl 0 rfl) ?_
        refine lv_bipush (v := 46) S.1 S.2.1 dX8_exits_85 (by decide) ?_
        refine lv_iadd S.1 S.2.1 dX8_exits_87 ?_
        refine lv_iload_n S.1 S.2.1 dX8_exits_88 rfl (lv_at hl 2 rfl) ?_
        refine lv_iadd S.1 S.2.1 dX8_exits_89 ?_
        obtain ⟨o20, E1, E⟩ := cd_bE E
        refine cd_cVv (As := [.int ((x19 + 46) + a1), .int ((x19 + 46) + p58_2)]) S hK hZ hl.1 (c_X8_moves l G ((x19 + 46) + a1) ((x19 + 46) + p58_2) h58_ o20 E1) cd_v_X8_moves cd_m_X8_107 ⟨Nat.le_of_ble_eq_true rfl, Nat.le_of_ble_eq_true rfl⟩ ⟨rfl, rfl⟩ (ci := 8) (by decide) rfl cd_this8 rfl rfl (Nat.le_of_ble_eq_true rfl) ⟨Nat.zero_le _, Nat.zero_le _⟩ dX8_exits_90 (fun H locs hZ => ?_)
        refine lv_aload_n S.1 S.2.1 dX8_exits_93 rfl (lv_at hl 3 rfl) ?_
        refine lv_iload S.1 S.2.1 dX8_exits_94 (lv_at hl 0 rfl) ?_
        refine lv_bipush (v := 52) S.1 S.2.1 dX8_exits_96 (by decide) ?_
        refine lv_iadd S.1 S.2.1 dX8_exits_98 ?_
        refine lv_iload_n S.1 S.2.1 dX8_exits_99 rfl (lv_at hl 4 rfl) ?_
        refine lv_iadd S.1 S.2.1 dX8_exits_100 ?_
        refine lv_iload S.1 S.2.1 dX8_exits_101 (lv_at hl 0 rfl) ?_
        refine lv_bipush (v := 52) S.1 S.2.1 dX8_exits_103 (by decide) ?_
        refine lv_iadd S.1 S.2.1 dX8_exits_105 ?_
        refine lv_iload_n S.1 S.2.1 dX8_exits_106 rfl (lv_at hl 2 rfl) ?_
        refine lv_iadd S.1 S.2.1 dX8_exits_107 ?_
        obtain ⟨o22, E1, E⟩ := cd_bE E
        refine cd_cVv (As := [.int ((x19 + 52) + a1), .int ((x19 + 52) + p58_2)]) S hK hZ hl.1 (c_X8_moves l G ((x19 + 52) + a1) ((x19 + 52) + p58_2) o20 o22 E1) cd_v_X8_moves cd_m_X8_107 ⟨Nat.le_of_ble_eq_true rfl, Nat.le_of_ble_eq_true rfl⟩ ⟨rfl, rfl⟩ (ci := 8) (by decide) rfl cd_this8 rfl rfl (Nat.le_of_ble_eq_true rfl) ⟨Nat.zero_le _, Nat.zero_le _⟩ dX8_exits_108 (fun H locs hZ => ?_)
        refine lv_iconst (v := 0) S.1 S.2.1 dX8_exits_111 (by decide) ?_
        refine lv_istore (lv' := [(5, .int 0), (4, .int x19), (3, .int v58_3), (2, .int p58_2), (0, .ref (G.2.2.2.2 + 404)), (1, .int a1)]) S.1 S.2.1 dX8_exits_112 hl (by decide) rfl (fun ls hl => ?_)
        obtain ⟨o32, E1, E⟩ := cd_bE E
        refine L114 p58_2 v58_3 cd_fu 0 o22 o32 H locs ls E1 hZ (lv_sub hl [0, 2, 3, 4, 5] rfl) (fun H locs ls hZ hl => ?_)
        obtain ⟨x33, ex33, E⟩ := cd_nmE E
        refine lv_iinc (v := x33) (lv' := [(3, .int x33), (5, .int o32.1), (2, .int p58_2), (0, .ref (G.2.2.2.2 + 404)), (1, .int a1)]) S.1 S.2.1 dX8_exits_149 hl (k := 1) rfl (by rw [ex33]; rfl) (by decide) rfl (fun ls hl => ?_)
        refine lv_goto (tgt := 58) S.1 S.2.1 dX8_exits_152 (by decide) ?_
        exact ih x33 o32.2 o H locs ls E hZ (lv_sub hl [0, 2, 3, 4] rfl) hex
  unfold f_X8_exits at E
  refine lv_aload_n S.1 S.2.1 dX8_exits_0 rfl (lv_at hl 0 rfl) ?_
  refine lv_iload_n S.1 S.2.1 dX8_exits_1 rfl (lv_at hl 1 rfl) ?_
  refine cd_cVz (As := [.int a1]) S hK hZ hl.1 (c_X8_isTask l G a1 h _ rfl) cd_v_X8_isTask cd_m_X8_86 ⟨Nat.le_of_ble_eq_true rfl, Nat.le_of_ble_eq_true rfl⟩ ⟨rfl, rfl⟩ (ci := 8) (by decide) rfl cd_this8 rfl rfl (Nat.le_of_ble_eq_true rfl) ⟨Nat.zero_le _, Nat.zero_le _⟩ dX8_exits_2 (fun H locs hZ b1 => ?_)
  refine lv_if_eq (tgt := 12) S.1 S.2.1 dX8_exits_5 (by decide) (fun c2 => ?_) (fun c2 => ?_)
  · have E := cd_tE c2 E
    refine lv_aload_n S.1 S.2.1 dX8_exits_12 rfl (lv_at hl 0 rfl) ?_
    obtain ⟨o3, E1, E⟩ := cd_nmE E
    refine cd_cVi (As := []) S hK hZ hl.1 (c_X8_bad l G  h o3 E1.symm) cd_v_X8_bad cd_m_X8_70 ⟨Nat.le_of_ble_eq_true rfl, Nat.le_of_ble_eq_true rfl⟩ ⟨rfl, rfl⟩ (ci := 8) (by decide) rfl cd_this8 rfl rfl (Nat.le_of_ble_eq_true rfl) ⟨Nat.zero_le _, Nat.zero_le _⟩ dX8_exits_13 (fun H locs hZ => ?_)
    exact hret _ _ _ _ _ _ (Option.some.inj E) hZ dX8_exits_16
  · have E := cd_fE c2 E
    refine lv_iload_n S.1 S.2.1 dX8_exits_8 rfl (lv_at hl 1 rfl) ?_
    refine lv_if_ne (tgt := 17) S.1 S.2.1 dX8_exits_9 (by decide) (fun c5 => ?_) (fun c5 => ?_)
    · have E := cd_fE c5 E
      refine lv_aload_n S.1 S.2.1 dX8_exits_17 rfl (lv_at hl 0 rfl) ?_
      refine lv_iload_n S.1 S.2.1 dX8_exits_18 rfl (lv_at hl 1 rfl) ?_
      obtain ⟨o6, E1, E⟩ := cd_bE E
      refine cd_cVz (As := [.int a1]) S hK hZ hl.1 (c_X8_canEnd l G a1 h o6 E1) cd_v_X8_canEnd cd_m_X8_104 ⟨Nat.le_of_ble_eq_true rfl, Nat.le_of_ble_eq_true rfl⟩ ⟨rfl, rfl⟩ (ci := 8) (by decide) rfl cd_this8 rfl rfl (Nat.le_of_ble_eq_true rfl) ⟨Nat.zero_le _, Nat.zero_le _⟩ dX8_exits_19 (fun H locs hZ b7 => ?_)
      refine lv_if_ne (tgt := 30) S.1 S.2.1 dX8_exits_22 (by decide) (fun c8 => ?_) (fun c8 => ?_)
      · have E := cd_fE c8 E
        refine lv_aload_n S.1 S.2.1 dX8_exits_30 rfl (lv_at hl 0 rfl) ?_
        obtain ⟨o9, E1, E⟩ := cd_bE E
        refine cd_cVv (As := []) S hK hZ hl.1 (c_X8_remembers l G  h o9 E1) cd_v_X8_remembers cd_m_X8_73 ⟨Nat.le_of_ble_eq_true rfl, Nat.le_of_ble_eq_true rfl⟩ ⟨rfl, rfl⟩ (ci := 8) (by decide) rfl cd_this8 rfl rfl (Nat.le_of_ble_eq_true rfl) ⟨Nat.zero_le _, Nat.zero_le _⟩ dX8_exits_31 (fun H locs hZ => ?_)
        refine lv_aload_n S.1 S.2.1 dX8_exits_34 rfl (lv_at hl 0 rfl) ?_
        refine cd_get8 (v := .ref (G.2.2.2.2 + 405)) S hK hZ cd_this8 0 cd_f_X8_7 rfl dX8_exits_35 ?_
        refine lv_iload_n S.1 S.2.1 dX8_exits_38 rfl (lv_at hl 1 rfl) ?_
        refine cd_cSi (As := [.int a1]) S hK hZ hl.1 (c_X8_taskAt l G a1 o9 _ rfl) cd_v_X8_taskAt cd_m_X8_67 ⟨Nat.le_of_ble_eq_true rfl, Nat.le_of_ble_eq_true rfl⟩ ⟨rfl, rfl⟩ rfl rfl (Nat.le_of_ble_eq_true rfl) ⟨Nat.zero_le _, Nat.zero_le _⟩ dX8_exits_39 (fun H locs hZ => ?_)
        obtain ⟨z12, E⟩ := cd_ckE E
        refine cd_iald S hK hZ (cd_r8_0 cd_this8) z12 dX8_exits_42 ?_
        obtain ⟨x13, ex13, E⟩ := cd_nmE E
        refine cd_topi ex13 ?_
        refine lv_istore_n (lv' := [(2, .int x13), (0, .ref (G.2.2.2.2 + 404)), (1, .int a1)]) S.1 S.2.1 dX8_exits_43 rfl hl (by decide) rfl (fun ls hl => ?_)
        refine lv_aload_n S.1 S.2.1 dX8_exits_44 rfl (lv_at hl 1 rfl) ?_
        refine cd_get8 (v := .ref (G.2.2.2.2 + 405)) S hK hZ cd_this8 0 cd_f_X8_7 rfl dX8_exits_45 ?_
        refine lv_iload_n S.1 S.2.1 dX8_exits_48 rfl (lv_at hl 2 rfl) ?_
        refine cd_cSi (As := [.int a1]) S hK hZ hl.1 (c_X8_taskAt l G a1 o9 _ rfl) cd_v_X8_taskAt cd_m_X8_67 ⟨Nat.le_of_ble_eq_true rfl, Nat.le_of_ble_eq_true rfl⟩ ⟨rfl, rfl⟩ rfl rfl (Nat.le_of_ble_eq_true rfl) ⟨Nat.zero_le _, Nat.zero_le _⟩ dX8_exits_49 (fun H locs hZ => ?_)
        refine lv_iconst (v := 1) S.1 S.2.1 dX8_exits_52 (by decide) ?_
        refine lv_iadd S.1 S.2.1 dX8_exits_53 ?_
        refine lv_iconst (v := 1) S.1 S.2.1 dX8_exits_54 (by decide) ?_
        obtain ⟨z15, E⟩ := cd_ckE E
        obtain ⟨h16, eh16, E⟩ := cd_nmE E
        refine cd_iast S hK hZ (cd_r8_0 cd_this8) z15 eh16 dX8_exits_55 (fun H locs hZ => ?_)
        refine lv_iconst (v := 0) S.1 S.2.1 dX8_exits_56 (by decide) ?_
        refine lv_istore_n (lv' := [(3, .int 0), (2, .int x13), (0, .ref (G.2.2.2.2 + 404)), (1, .int a1)]) S.1 S.2.1 dX8_exits_57 rfl hl (by decide) rfl (fun ls hl => ?_)
        obtain ⟨o34, E1, E⟩ := cd_bE E
        refine L58 x13 cd_fu 0 h16 o34 H locs ls E1 hZ (lv_sub hl [0, 1, 2, 3] rfl) (fun H locs ls hZ hl => ?_)
        refine lv_iload_n S.1 S.2.1 dX8_exits_155 rfl (lv_at hl 1 rfl) ?_
        exact hret _ _ _ _ _ _ (Option.some.inj E) hZ dX8_exits_156
      · have E := cd_tE c8 E
        refine lv_aload_n S.1 S.2.1 dX8_exits_25 rfl (lv_at hl 0 rfl) ?_
        obtain ⟨o35, E1, E⟩ := cd_nmE E
        refine cd_cVi (As := []) S hK hZ hl.1 (c_X8_no l G  h o35 E1.symm) cd_v_X8_no cd_m_X8_47 ⟨Nat.le_of_ble_eq_true rfl, Nat.le_of_ble_eq_true rfl⟩ ⟨rfl, rfl⟩ (ci := 8) (by decide) rfl cd_this8 rfl rfl (Nat.le_of_ble_eq_true rfl) ⟨Nat.zero_le _, Nat.zero_le _⟩ dX8_exits_26 (fun H locs hZ => ?_)
        exact hret _ _ _ _ _ _ (Option.some.inj E) hZ dX8_exits_29
    · have E := cd_tE c5 E
      refine lv_aload_n S.1 S.2.1 dX8_exits_12 rfl (lv_at hl 0 rfl) ?_
      obtain ⟨o37, E1, E⟩ := cd_nmE E
      refine cd_cVi (As := []) S hK hZ hl.1 (c_X8_bad l G  h o37 E1.symm) cd_v_X8_bad cd_m_X8_70 ⟨Nat.le_of_ble_eq_true rfl, Nat.le_of_ble_eq_true rfl⟩ ⟨rfl, rfl⟩ (ci := 8) (by decide) rfl cd_this8 rfl rfl (Nat.le_of_ble_eq_true rfl) ⟨Nat.zero_le _, Nat.zero_le _⟩ dX8_exits_13 (fun H locs hZ => ?_)
      exact hret _ _ _ _ _ _ (Option.some.inj E) hZ dX8_exits_16
abbrev rm_X8_canGroup : Room := { frames := 2, cells := 0, slots := 0, locals := 43 }
theorem cd_v_X8_canGroup : cd_V yX8_canGroup cX8_canGroup 6 (some .boolean) 5 := ⟨cd_i_X8_canGroup, cd_e_X8_X8_canGroup, cd_n_X8, cd_c_X8_canGroup, by decide +kernel⟩
set_option maxHeartbeats 4000000 in
set_option maxRecDepth 100000 in
theorem c_X8_canGroup (l : Launch) (G : cd_G) (a1 : Int32) (a2 : Int32) (a3 : Int32) (a4 : Int32) (a5 : Int32) (h : cd_Hp) (out : Int32) (E : f_X8_canGroup a1 a2 a3 a4 a5 h = out) : cd_Mz l G yX8_canGroup (Cond.code yX8_canGroup cX8_canGroup 6 (some .boolean) :: cd_T) rm_X8_canGroup [.ref (G.2.2.2.2 + 404), .int a1, .int a2, .int a3, .int a4, .int a5] h (out, h) := by
  refine cd_inz (by decide) (Nat.le_of_ble_eq_true rfl) ?_
  intro p e s m args below meth c Q ls H locs S hK hZ hl hret
  have hl : lv_has ls 6 [(0, .ref (G.2.2.2.2 + 404)), (1, .int a1), (2, .int a2), (3, .int a3), (4, .int a4), (5, .int a5)] := hl
  unfold f_X8_canGroup at E
  refine lv_aload_n S.1 S.2.1 dX8_canGroup_0 rfl (lv_at hl 0 rfl) ?_
  refine lv_iload_n S.1 S.2.1 dX8_canGroup_1 rfl (lv_at hl 1 rfl) ?_
  refine cd_cVz (As := [.int a1]) S hK hZ hl.1 (c_X8_isTask l G a1 h _ rfl) cd_v_X8_isTask cd_m_X8_86 ⟨Nat.le_of_ble_eq_true rfl, Nat.le_of_ble_eq_true rfl⟩ ⟨rfl, rfl⟩ (ci := 8) (by decide) rfl cd_this8 rfl rfl (Nat.le_of_ble_eq_true rfl) ⟨Nat.zero_le _, Nat.zero_le _⟩ dX8_canGroup_2 (fun H locs hZ b1 => ?_)
  refine lv_if_eq (tgt := 48) S.1 S.2.1 dX8_canGroup_5 (by decide) (fun c2 => ?_) (fun c2 => ?_)
  · have E := cd_tE c2 E
    refine lv_iconst (v := 0) S.1 S.2.1 dX8_canGroup_48 (by decide) ?_
    exact hret _ _ _ _ _ _ (by decide) (congrArg (fun z => (z, h)) (E)) hZ dX8_canGroup_49
  · have E := cd_fE c2 E
    refine lv_iload_n S.1 S.2.1 dX8_canGroup_8 rfl (lv_at hl 2 rfl) ?_
    refine lv_iconst (v := 1) S.1 S.2.1 dX8_canGroup_9 (by decide) ?_
    refine lv_iconst (v := 5) S.1 S.2.1 dX8_canGroup_10 (by decide) ?_
    refine cd_cSz (As := [.int a2, .int 1, .int 5]) S hK hZ hl.1 (c_X8_in l G a2 1 5 h _ rfl) cd_v_X8_in cd_m_X8_51 ⟨Nat.le_of_ble_eq_true rfl, Nat.le_of_ble_eq_true rfl⟩ ⟨rfl, rfl⟩ rfl rfl (Nat.le_of_ble_eq_true rfl) ⟨Nat.zero_le _, Nat.zero_le _⟩ dX8_canGroup_11 (fun H locs hZ b3 => ?_)
    refine lv_if_eq (tgt := 48) S.1 S.2.1 dX8_canGroup_14 (by decide) (fun c4 => ?_) (fun c4 => ?_)
    · have E := cd_tE c4 E
      refine lv_iconst (v := 0) S.1 S.2.1 dX8_canGroup_48 (by decide) ?_
      exact hret _ _ _ _ _ _ (by decide) (congrArg (fun z => (z, h)) (E)) hZ dX8_canGroup_49
    · have E := cd_fE c4 E
      refine lv_iload_n S.1 S.2.1 dX8_canGroup_17 rfl (lv_at hl 3 rfl) ?_
      refine lv_iconst (v := 0) S.1 S.2.1 dX8_canGroup_18 (by decide) ?_
      refine lv_iconst (v := 1) S.1 S.2.1 dX8_canGroup_19 (by decide) ?_
      refine cd_cSz (As := [.int a3, .int 0, .int 1]) S hK hZ hl.1 (c_X8_in l G a3 0 1 h _ rfl) cd_v_X8_in cd_m_X8_51 ⟨Nat.le_of_ble_eq_true rfl, Nat.le_of_ble_eq_true rfl⟩ ⟨rfl, rfl⟩ rfl rfl (Nat.le_of_ble_eq_true rfl) ⟨Nat.zero_le _, Nat.zero_le _⟩ dX8_canGroup_20 (fun H locs hZ b5 => ?_)
      refine lv_if_eq (tgt := 48) S.1 S.2.1 dX8_canGroup_23 (by decide) (fun c6 => ?_) (fun c6 => ?_)
      · have E := cd_tE c6 E
        refine lv_iconst (v := 0) S.1 S.2.1 dX8_canGroup_48 (by decide) ?_
        exact hret _ _ _ _ _ _ (by decide) (congrArg (fun z => (z, h)) (E)) hZ dX8_canGroup_49
      · have E := cd_fE c6 E
        refine lv_iload S.1 S.2.1 dX8_canGroup_26 (lv_at hl 4 rfl) ?_
        refine lv_iconst (v := 0) S.1 S.2.1 dX8_canGroup_28 (by decide) ?_
        refine lv_iconst (v := 1) S.1 S.2.1 dX8_canGroup_29 (by decide) ?_
        refine cd_cSz (As := [.int a4, .int 0, .int 1]) S hK hZ hl.1 (c_X8_in l G a4 0 1 h _ rfl) cd_v_X8_in cd_m_X8_51 ⟨Nat.le_of_ble_eq_true rfl, Nat.le_of_ble_eq_true rfl⟩ ⟨rfl, rfl⟩ rfl rfl (Nat.le_of_ble_eq_true rfl) ⟨Nat.zero_le _, Nat.zero_le _⟩ dX8_canGroup_30 (fun H locs hZ b7 => ?_)
        refine lv_if_eq (tgt := 48) S.1 S.2.1 dX8_canGroup_33 (by decide) (fun c8 => ?_) (fun c8 => ?_)
        · have E := cd_tE c8 E
          refine lv_iconst (v := 0) S.1 S.2.1 dX8_canGroup_48 (by decide) ?_
          exact hret _ _ _ _ _ _ (by decide) (congrArg (fun z => (z, h)) (E)) hZ dX8_canGroup_49
        · have E := cd_fE c8 E
          refine lv_iload S.1 S.2.1 dX8_canGroup_36 (lv_at hl 5 rfl) ?_
          refine cd_cSz (As := [.int a5]) S hK hZ hl.1 (c_X8_isKind l G a5 h _ rfl) cd_v_X8_isKind cd_m_X8_79 ⟨Nat.le_of_ble_eq_true rfl, Nat.le_of_ble_eq_true rfl⟩ ⟨rfl, rfl⟩ rfl rfl (Nat.le_of_ble_eq_true rfl) ⟨Nat.zero_le _, Nat.zero_le _⟩ dX8_canGroup_38 (fun H locs hZ b9 => ?_)
          refine lv_if_eq (tgt := 48) S.1 S.2.1 dX8_canGroup_41 (by decide) (fun c10 => ?_) (fun c10 => ?_)
          · have E := cd_tE c10 E
            refine lv_iconst (v := 0) S.1 S.2.1 dX8_canGroup_48 (by decide) ?_
            exact hret _ _ _ _ _ _ (by decide) (congrArg (fun z => (z, h)) (E)) hZ dX8_canGroup_49
          · have E := cd_fE c10 E
            refine lv_iconst (v := 1) S.1 S.2.1 dX8_canGroup_44 (by decide) ?_
            refine lv_goto (tgt := 49) S.1 S.2.1 dX8_canGroup_45 (by decide) ?_
            exact hret _ _ _ _ _ _ (by decide) (congrArg (fun z => (z, h)) (E)) hZ dX8_canGroup_49
abbrev rm_X8_addsEvent : Room := { frames := 2, cells := 0, slots := 0, locals := 42 }
theorem cd_v_X8_addsEvent : cd_V yX8_addsEvent cX8_addsEvent 5 (some .int) 2 := ⟨cd_i_X8_addsEvent, cd_e_X8_X8_addsEvent, cd_n_X8, cd_c_X8_addsEvent, by decide +kernel⟩
set_option maxHeartbeats 4000000 in
set_option maxRecDepth 100000 in
theorem c_X8_addsEvent (l : Launch) (G : cd_G) (a1 : Int32) (a2 : Int32) (h : cd_Hp) (out : (Int32 × cd_Hp)) (E : f_X8_addsEvent a1 a2 h = some out) : cd_Mi l G yX8_addsEvent (Cond.code yX8_addsEvent cX8_addsEvent 5 (some .int) :: cd_T) rm_X8_addsEvent [.ref (G.2.2.2.2 + 404), .int a1, .int a2] h out := by
  refine cd_ini (by decide) (Nat.le_of_ble_eq_true rfl) ?_
  intro p e s m args below meth c Q ls H locs S hK hZ hl hret
  have hl : lv_has ls 5 [(0, .ref (G.2.2.2.2 + 404)), (1, .int a1), (2, .int a2)] := hl
  unfold f_X8_addsEvent at E
  refine lv_aload_n S.1 S.2.1 dX8_addsEvent_0 rfl (lv_at hl 0 rfl) ?_
  refine lv_iload_n S.1 S.2.1 dX8_addsEvent_1 rfl (lv_at hl 1 rfl) ?_
  refine lv_iconst (v := 5) S.1 S.2.1 dX8_addsEvent_2 (by decide) ?_
  obtain ⟨o1, E1, E⟩ := cd_bE E
  refine cd_cVi (As := [.int a1, .int 5]) S hK hZ hl.1 (c_X8_ofGroup l G a1 5 h o1 E1) cd_v_X8_ofGroup cd_m_X8_63 ⟨Nat.le_of_ble_eq_true rfl, Nat.le_of_ble_eq_true rfl⟩ ⟨rfl, rfl⟩ (ci := 8) (by decide) rfl cd_this8 rfl rfl (Nat.le_of_ble_eq_true rfl) ⟨Nat.zero_le _, Nat.zero_le _⟩ dX8_addsEvent_3 (fun H locs hZ => ?_)
  refine lv_istore_n (lv' := [(3, .int o1), (0, .ref (G.2.2.2.2 + 404)), (1, .int a1), (2, .int a2)]) S.1 S.2.1 dX8_addsEvent_6 rfl hl (by decide) rfl (fun ls hl => ?_)
  refine lv_iload_n S.1 S.2.1 dX8_addsEvent_7 rfl (lv_at hl 2 rfl) ?_
  refine lv_iload_n S.1 S.2.1 dX8_addsEvent_8 rfl (lv_at hl 0 rfl) ?_
  refine cd_cSi (As := [.int a1, .int o1]) S hK hZ hl.1 (c_X8_eventAt l G a1 o1 h _ rfl) cd_v_X8_eventAt cd_m_X8_115 ⟨Nat.le_of_ble_eq_true rfl, Nat.le_of_ble_eq_true rfl⟩ ⟨rfl, rfl⟩ rfl rfl (Nat.le_of_ble_eq_true rfl) ⟨Nat.zero_le _, Nat.zero_le _⟩ dX8_addsEvent_9 (fun H locs hZ => ?_)
  obtain ⟨x4, ex4, E⟩ := cd_nmE E
  refine cd_topi ex4 ?_
  refine lv_istore (lv' := [(4, .int x4), (3, .int o1), (0, .ref (G.2.2.2.2 + 404)), (1, .int a1), (2, .int a2)]) S.1 S.2.1 dX8_addsEvent_12 hl (by decide) rfl (fun ls hl => ?_)
  refine lv_aload_n S.1 S.2.1 dX8_addsEvent_14 rfl (lv_at hl 2 rfl) ?_
  refine cd_get8 (v := .ref (G.2.2.2.2 + 405)) S hK hZ cd_this8 0 cd_f_X8_7 rfl dX8_addsEvent_15 ?_
  refine lv_iload S.1 S.2.1 dX8_addsEvent_18 (lv_at hl 0 rfl) ?_
  refine lv_iload_n S.1 S.2.1 dX8_addsEvent_20 rfl (lv_at hl 4 rfl) ?_
  obtain ⟨z5, E⟩ := cd_ckE E
  obtain ⟨h6, eh6, E⟩ := cd_nmE E
  refine cd_iast S hK hZ (cd_r8_0 cd_this8) z5 eh6 dX8_addsEvent_21 (fun H locs hZ => ?_)
  refine lv_aload_n S.1 S.2.1 dX8_addsEvent_22 rfl (lv_at hl 2 rfl) ?_
  refine cd_get8 (v := .ref (G.2.2.2.2 + 405)) S hK hZ cd_this8 0 cd_f_X8_7 rfl dX8_addsEvent_23 ?_
  refine lv_iload S.1 S.2.1 dX8_addsEvent_26 (lv_at hl 0 rfl) ?_
  refine lv_iconst (v := 1) S.1 S.2.1 dX8_addsEvent_28 (by decide) ?_
  refine lv_iadd S.1 S.2.1 dX8_addsEvent_29 ?_
  refine lv_iconst (v := 0) S.1 S.2.1 dX8_addsEvent_30 (by decide) ?_
  obtain ⟨z7, E⟩ := cd_ckE E
  obtain ⟨h8, eh8, E⟩ := cd_nmE E
  refine cd_iast S hK hZ (cd_r8_0 cd_this8) z7 eh8 dX8_addsEvent_31 (fun H locs hZ => ?_)
  refine lv_aload_n S.1 S.2.1 dX8_addsEvent_32 rfl (lv_at hl 2 rfl) ?_
  refine cd_get8 (v := .ref (G.2.2.2.2 + 405)) S hK hZ cd_this8 0 cd_f_X8_7 rfl dX8_addsEvent_33 ?_
  refine lv_iload S.1 S.2.1 dX8_addsEvent_36 (lv_at hl 0 rfl) ?_
  refine lv_iconst (v := 2) S.1 S.2.1 dX8_addsEvent_38 (by decide) ?_
  refine lv_iadd S.1 S.2.1 dX8_addsEvent_39 ?_
  refine lv_iconst (v := (-1)) S.1 S.2.1 dX8_addsEvent_40 (by decide) ?_
  obtain ⟨z9, E⟩ := cd_ckE E
  obtain ⟨h10, eh10, E⟩ := cd_nmE E
  refine cd_iast S hK hZ (cd_r8_0 cd_this8) z9 eh10 dX8_addsEvent_41 (fun H locs hZ => ?_)
  refine lv_aload_n S.1 S.2.1 dX8_addsEvent_42 rfl (lv_at hl 2 rfl) ?_
  refine cd_get8 (v := .ref (G.2.2.2.2 + 405)) S hK hZ cd_this8 0 cd_f_X8_7 rfl dX8_addsEvent_43 ?_
  refine lv_iload_n S.1 S.2.1 dX8_addsEvent_46 rfl (lv_at hl 3 rfl) ?_
  refine cd_cSi (As := [.int a1]) S hK hZ hl.1 (c_X8_groupAt l G a1 h10 _ rfl) cd_v_X8_groupAt cd_m_X8_55 ⟨Nat.le_of_ble_eq_true rfl, Nat.le_of_ble_eq_true rfl⟩ ⟨rfl, rfl⟩ rfl rfl (Nat.le_of_ble_eq_true rfl) ⟨Nat.zero_le _, Nat.zero_le _⟩ dX8_addsEvent_47 (fun H locs hZ => ?_)
  refine lv_iconst (v := 5) S.1 S.2.1 dX8_addsEvent_50 (by decide) ?_
  refine lv_iadd S.1 S.2.1 dX8_addsEvent_51 ?_
  refine lv_dup2_11 S.1 S.2.1 dX8_addsEvent_52 rfl rfl ?_
  obtain ⟨z12, E⟩ := cd_ckE E
  refine cd_iald S hK hZ (cd_r8_0 cd_this8) z12 dX8_addsEvent_53 ?_
  refine lv_iconst (v := 1) S.1 S.2.1 dX8_addsEvent_54 (by decide) ?_
  refine lv_iadd S.1 S.2.1 dX8_addsEvent_55 ?_
  obtain ⟨z13, E⟩ := cd_ckE E
  obtain ⟨h14, eh14, E⟩ := cd_nmE E
  refine cd_iast S hK hZ (cd_r8_0 cd_this8) z13 eh14 dX8_addsEvent_56 (fun H locs hZ => ?_)
  refine lv_iload_n S.1 S.2.1 dX8_addsEvent_57 rfl (lv_at hl 1 rfl) ?_
  exact hret _ _ _ _ _ _ (Option.some.inj E) hZ dX8_addsEvent_58
abbrev rm_X8_comesGroup : Room := { frames := 3, cells := 0, slots := 0, locals := 66 }
theorem cd_v_X8_comesGroup : cd_V yX8_comesGroup cX8_comesGroup 9 (some .int) 5 := ⟨cd_i_X8_comesGroup, cd_e_X8_X8_comesGroup, cd_n_X8, cd_c_X8_comesGroup, by decide +kernel⟩
set_option maxHeartbeats 4000000 in
set_option maxRecDepth 100000 in
theorem c_X8_comesGroup (l : Launch) (G : cd_G) (a1 : Int32) (a2 : Int32) (a3 : Int32) (a4 : Int32) (a5 : Int32) (h : cd_Hp) (out : (Int32 × cd_Hp)) (E : f_X8_comesGroup a1 a2 a3 a4 a5 h = some out) : cd_Mi l G yX8_comesGroup (Cond.code yX8_comesGroup cX8_comesGroup 9 (some .int) :: cd_T) rm_X8_comesGroup [.ref (G.2.2.2.2 + 404), .int a1, .int a2, .int a3, .int a4, .int a5] h out := by
  refine cd_ini (by decide) (Nat.le_of_ble_eq_true rfl) ?_
  intro p e s m args below meth c Q ls H locs S hK hZ hl hret
  have hl : lv_has ls 9 [(0, .ref (G.2.2.2.2 + 404)), (1, .int a1), (2, .int a2), (3, .int a3), (4, .int a4), (5, .int a5)] := hl
  have L19 : ∀ (p19_6 : Int32) (p19_7 : Int32), ∀ (n : Nat) (v19_8 : Int32) (h19_ : cd_Hp) (o : (Int32 × cd_Hp)) (H : Heap) (locs : List Loc) (ls : Array Slot), cd_lp (f_X8_comesGroup_B19 a1 a2 a3 a4 a5 p19_6 p19_7) n (v19_8, h19_) = some o → cd_Z G h19_ s.heap H locs → lv_has ls 9 [(8, .int v19_8), (7, .int p19_7), (6, .int p19_6), (0, .ref (G.2.2.2.2 + 404)), (1, .int a1), (2, .int a2), (3, .int a3), (4, .int a4), (5, .int a5)] → (∀ (H : Heap) (locs : List Loc) (ls : Array Slot), cd_Z G o.2 s.heap H locs → lv_has ls 9 [(8, .int o.1), (7, .int p19_7), (6, .int p19_6), (0, .ref (G.2.2.2.2 + 404)), (1, .int a1), (2, .int a2), (3, .int a3), (4, .int a4), (5, .int a5)] → W p l e rm_X8_comesGroup s m args below meth c H locs 0 0 Q (F0 m 43 ls [])) → W p l e rm_X8_comesGroup s m args below meth c H locs 0 0 Q (F0 m 19 ls []) := by
    intro p19_6 p19_7
    intro n
    induction n with
    | zero => intro v19_8 h19_ o H locs ls E; exact nomatch (show (none : Option (Int32 × cd_Hp)) = some o from E)
    | succ n ih =>
      intro v19_8 h19_ o H locs ls E hZ hl hex
      have E : f_X8_comesGroup_B19 a1 a2 a3 a4 a5 p19_6 p19_7 (cd_lp (f_X8_comesGroup_B19 a1 a2 a3 a4 a5 p19_6 p19_7) n) (v19_8, h19_) = some o := E
      unfold f_X8_comesGroup_B19 at E
      dsimp only at E
      refine lv_iload S.1 S.2.1 dX8_comesGroup_19 (lv_at hl 0 rfl) ?_
      refine lv_bipush (v := 58) S.1 S.2.1 dX8_comesGroup_21 (by decide) ?_
      refine lv_icmp_ge (tgt := 43) S.1 S.2.1 dX8_comesGroup_23 (by decide) (fun c4 => ?_) (fun c4 => ?_)
      · have E := cd_tE c4 E
        cases E
        exact hex H locs ls hZ (lv_sub hl [0, 1, 2, 3, 4, 5, 6, 7, 8] rfl)
      · have E := cd_fE c4 E
        refine lv_aload_n S.1 S.2.1 dX8_comesGroup_26 rfl (lv_at hl 3 rfl) ?_
        refine cd_get8 (v := .ref (G.2.2.2.2 + 405)) S hK hZ cd_this8 0 cd_f_X8_7 rfl dX8_comesGroup_27 ?_
        refine lv_iload S.1 S.2.1 dX8_comesGroup_30 (lv_at hl 1 rfl) ?_
        refine lv_iload S.1 S.2.1 dX8_comesGroup_32 (lv_at hl 0 rfl) ?_
        refine lv_iadd S.1 S.2.1 dX8_comesGroup_34 ?_
        refine lv_iconst (v := 0) S.1 S.2.1 dX8_comesGroup_35 (by decide) ?_
        obtain ⟨z5, E⟩ := cd_ckE E
        obtain ⟨h6, eh6, E⟩ := cd_nmE E
        refine cd_iast S hK hZ (cd_r8_0 cd_this8) z5 eh6 dX8_comesGroup_36 (fun H locs hZ => ?_)
        obtain ⟨x7, ex7, E⟩ := cd_nmE E
        refine lv_iinc (v := x7) (lv' := [(8, .int x7), (7, .int p19_7), (6, .int p19_6), (0, .ref (G.2.2.2.2 + 404)), (1, .int a1), (2, .int a2), (3, .int a3), (4, .int a4), (5, .int a5)]) S.1 S.2.1 dX8_comesGroup_37 hl (k := 0) rfl (by rw [ex7]; rfl) (by decide) rfl (fun ls hl => ?_)
        refine lv_goto (tgt := 19) S.1 S.2.1 dX8_comesGroup_40 (by decide) ?_
        exact ih x7 h6 o H locs ls E hZ (lv_sub hl [0, 1, 2, 3, 4, 5, 6, 7, 8] rfl) hex
  unfold f_X8_comesGroup at E
  refine lv_aload_n S.1 S.2.1 dX8_comesGroup_0 rfl (lv_at hl 0 rfl) ?_
  refine cd_get8 (v := .ref (G.2.2.2.2 + 405)) S hK hZ cd_this8 0 cd_f_X8_7 rfl dX8_comesGroup_1 ?_
  refine lv_bipush (v := 70) S.1 S.2.1 dX8_comesGroup_4 (by decide) ?_
  refine cd_iald S hK hZ (cd_r8_0 cd_this8) (by decide) dX8_comesGroup_6 ?_
  obtain ⟨x1, ex1, E⟩ := cd_nmE E
  refine cd_topi ex1 ?_
  refine lv_istore (lv' := [(6, .int x1), (0, .ref (G.2.2.2.2 + 404)), (1, .int a1), (2, .int a2), (3, .int a3), (4, .int a4), (5, .int a5)]) S.1 S.2.1 dX8_comesGroup_7 hl (by decide) rfl (fun ls hl => ?_)
  refine lv_iload S.1 S.2.1 dX8_comesGroup_9 (lv_at hl 0 rfl) ?_
  refine cd_cSi (As := [.int x1]) S hK hZ hl.1 (c_X8_groupAt l G x1 h _ rfl) cd_v_X8_groupAt cd_m_X8_55 ⟨Nat.le_of_ble_eq_true rfl, Nat.le_of_ble_eq_true rfl⟩ ⟨rfl, rfl⟩ rfl rfl (Nat.le_of_ble_eq_true rfl) ⟨Nat.zero_le _, Nat.zero_le _⟩ dX8_comesGroup_11 (fun H locs hZ => ?_)
  obtain ⟨x3, ex3, E⟩ := cd_nmE E
  refine cd_topi ex3 ?_
  refine lv_istore (lv' := [(7, .int x3), (6, .int x1), (0, .ref (G.2.2.2.2 + 404)), (1, .int a1), (2, .int a2), (3, .int a3), (4, .int a4), (5, .int a5)]) S.1 S.2.1 dX8_comesGroup_14 hl (by decide) rfl (fun ls hl => ?_)
  refine lv_iconst (v := 0) S.1 S.2.1 dX8_comesGroup_16 (by decide) ?_
  refine lv_istore (lv' := [(8, .int 0), (7, .int x3), (6, .int x1), (0, .ref (G.2.2.2.2 + 404)), (1, .int a1), (2, .int a2), (3, .int a3), (4, .int a4), (5, .int a5)]) S.1 S.2.1 dX8_comesGroup_17 hl (by decide) rfl (fun ls hl => ?_)
  obtain ⟨o8, E1, E⟩ := cd_bE E
  refine L19 x1 x3 cd_fu 0 h o8 H locs ls E1 hZ (lv_sub hl [0, 1, 2, 3, 4, 5, 6, 7, 8] rfl) (fun H locs ls hZ hl => ?_)
  refine lv_aload_n S.1 S.2.1 dX8_comesGroup_43 rfl (lv_at hl 3 rfl) ?_
  refine cd_get8 (v := .ref (G.2.2.2.2 + 405)) S hK hZ cd_this8 0 cd_f_X8_7 rfl dX8_comesGroup_44 ?_
  refine lv_iload S.1 S.2.1 dX8_comesGroup_47 (lv_at hl 1 rfl) ?_
  refine lv_iload_n S.1 S.2.1 dX8_comesGroup_49 rfl (lv_at hl 4 rfl) ?_
  obtain ⟨z9, E⟩ := cd_ckE E
  obtain ⟨h10, eh10, E⟩ := cd_nmE E
  refine cd_iast S hK hZ (cd_r8_0 cd_this8) z9 eh10 dX8_comesGroup_50 (fun H locs hZ => ?_)
  refine lv_aload_n S.1 S.2.1 dX8_comesGroup_51 rfl (lv_at hl 3 rfl) ?_
  refine cd_get8 (v := .ref (G.2.2.2.2 + 405)) S hK hZ cd_this8 0 cd_f_X8_7 rfl dX8_comesGroup_52 ?_
  refine lv_iload S.1 S.2.1 dX8_comesGroup_55 (lv_at hl 1 rfl) ?_
  refine lv_iconst (v := 1) S.1 S.2.1 dX8_comesGroup_57 (by decide) ?_
  refine lv_iadd S.1 S.2.1 dX8_comesGroup_58 ?_
  refine lv_iload_n S.1 S.2.1 dX8_comesGroup_59 rfl (lv_at hl 5 rfl) ?_
  obtain ⟨z11, E⟩ := cd_ckE E
  obtain ⟨h12, eh12, E⟩ := cd_nmE E
  refine cd_iast S hK hZ (cd_r8_0 cd_this8) z11 eh12 dX8_comesGroup_60 (fun H locs hZ => ?_)
  refine lv_aload_n S.1 S.2.1 dX8_comesGroup_61 rfl (lv_at hl 3 rfl) ?_
  refine cd_get8 (v := .ref (G.2.2.2.2 + 405)) S hK hZ cd_this8 0 cd_f_X8_7 rfl dX8_comesGroup_62 ?_
  refine lv_iload S.1 S.2.1 dX8_comesGroup_65 (lv_at hl 1 rfl) ?_
  refine lv_iconst (v := 2) S.1 S.2.1 dX8_comesGroup_67 (by decide) ?_
  refine lv_iadd S.1 S.2.1 dX8_comesGroup_68 ?_
  refine lv_iload_n S.1 S.2.1 dX8_comesGroup_69 rfl (lv_at hl 6 rfl) ?_
  obtain ⟨z13, E⟩ := cd_ckE E
  obtain ⟨h14, eh14, E⟩ := cd_nmE E
  refine cd_iast S hK hZ (cd_r8_0 cd_this8) z13 eh14 dX8_comesGroup_70 (fun H locs hZ => ?_)
  refine lv_aload_n S.1 S.2.1 dX8_comesGroup_71 rfl (lv_at hl 3 rfl) ?_
  refine cd_get8 (v := .ref (G.2.2.2.2 + 405)) S hK hZ cd_this8 0 cd_f_X8_7 rfl dX8_comesGroup_72 ?_
  refine lv_iload S.1 S.2.1 dX8_comesGroup_75 (lv_at hl 1 rfl) ?_
  refine lv_iconst (v := 3) S.1 S.2.1 dX8_comesGroup_77 (by decide) ?_
  refine lv_iadd S.1 S.2.1 dX8_comesGroup_78 ?_
  refine lv_iload S.1 S.2.1 dX8_comesGroup_79 (lv_at hl 7 rfl) ?_
  obtain ⟨z15, E⟩ := cd_ckE E
  obtain ⟨h16, eh16, E⟩ := cd_nmE E
  refine cd_iast S hK hZ (cd_r8_0 cd_this8) z15 eh16 dX8_comesGroup_81 (fun H locs hZ => ?_)
  refine lv_aload_n S.1 S.2.1 dX8_comesGroup_82 rfl (lv_at hl 3 rfl) ?_
  refine cd_get8 (v := .ref (G.2.2.2.2 + 405)) S hK hZ cd_this8 0 cd_f_X8_7 rfl dX8_comesGroup_83 ?_
  refine lv_iload S.1 S.2.1 dX8_comesGroup_86 (lv_at hl 1 rfl) ?_
  refine lv_iconst (v := 4) S.1 S.2.1 dX8_comesGroup_88 (by decide) ?_
  refine lv_iadd S.1 S.2.1 dX8_comesGroup_89 ?_
  refine lv_iconst (v := 1) S.1 S.2.1 dX8_comesGroup_90 (by decide) ?_
  obtain ⟨z17, E⟩ := cd_ckE E
  obtain ⟨h18, eh18, E⟩ := cd_nmE E
  refine cd_iast S hK hZ (cd_r8_0 cd_this8) z17 eh18 dX8_comesGroup_91 (fun H locs hZ => ?_)
  refine lv_aload_n S.1 S.2.1 dX8_comesGroup_92 rfl (lv_at hl 3 rfl) ?_
  refine cd_get8 (v := .ref (G.2.2.2.2 + 405)) S hK hZ cd_this8 0 cd_f_X8_7 rfl dX8_comesGroup_93 ?_
  refine lv_bipush (v := 70) S.1 S.2.1 dX8_comesGroup_96 (by decide) ?_
  refine lv_dup2_11 S.1 S.2.1 dX8_comesGroup_98 rfl rfl ?_
  refine cd_iald S hK hZ (cd_r8_0 cd_this8) (by decide) dX8_comesGroup_99 ?_
  refine lv_iconst (v := 1) S.1 S.2.1 dX8_comesGroup_100 (by decide) ?_
  refine lv_iadd S.1 S.2.1 dX8_comesGroup_101 ?_
  obtain ⟨h19, eh19, E⟩ := cd_nmE E
  refine cd_iast S hK hZ (cd_r8_0 cd_this8) (by decide) eh19 dX8_comesGroup_102 (fun H locs hZ => ?_)
  refine lv_iload_n S.1 S.2.1 dX8_comesGroup_103 rfl (lv_at hl 6 rfl) ?_
  refine lv_if_ne (tgt := 138) S.1 S.2.1 dX8_comesGroup_104 (by decide) (fun c20 => ?_) (fun c20 => ?_)
  · have E := cd_fE c20 E
    refine lv_aload_n S.1 S.2.1 dX8_comesGroup_138 rfl (lv_at hl 3 rfl) ?_
    refine lv_iload S.1 S.2.1 dX8_comesGroup_139 (lv_at hl 2 rfl) ?_
    refine lv_iload S.1 S.2.1 dX8_comesGroup_141 (lv_at hl 8 rfl) ?_
    obtain ⟨o21, E1, E⟩ := cd_bE E
    refine cd_cVi (As := [.int x1, .int a5]) S hK hZ hl.1 (c_X8_addsEvent l G x1 a5 h19 o21 E1) cd_v_X8_addsEvent cd_m_X8_118 ⟨Nat.le_of_ble_eq_true rfl, Nat.le_of_ble_eq_true rfl⟩ ⟨rfl, rfl⟩ (ci := 8) (by decide) rfl cd_this8 rfl rfl (Nat.le_of_ble_eq_true rfl) ⟨Nat.zero_le _, Nat.zero_le _⟩ dX8_comesGroup_143 (fun H locs hZ => ?_)
    refine lv_if_ge (tgt := 153) S.1 S.2.1 dX8_comesGroup_146 (by decide) (fun c23 => ?_) (fun c23 => ?_)
    · have E := cd_tE c23 E
      refine lv_iload S.1 S.2.1 dX8_comesGroup_153 (lv_at hl 2 rfl) ?_
      exact hret _ _ _ _ _ _ (Option.some.inj E) hZ dX8_comesGroup_155
    · have E := cd_fE c23 E
      refine lv_iconst (v := (-1)) S.1 S.2.1 dX8_comesGroup_149 (by decide) ?_
      refine lv_goto (tgt := 155) S.1 S.2.1 dX8_comesGroup_150 (by decide) ?_
      exact hret _ _ _ _ _ _ (Option.some.inj E) hZ dX8_comesGroup_155
  · have E := cd_tE c20 E
    refine lv_aload_n S.1 S.2.1 dX8_comesGroup_107 rfl (lv_at hl 3 rfl) ?_
    refine cd_get8 (v := .ref (G.2.2.2.2 + 405)) S hK hZ cd_this8 0 cd_f_X8_7 rfl dX8_comesGroup_108 ?_
    refine lv_sipush (v := 419) S.1 S.2.1 dX8_comesGroup_111 (by decide) ?_
    refine lv_dup2_11 S.1 S.2.1 dX8_comesGroup_114 rfl rfl ?_
    refine cd_iald S hK hZ (cd_r8_0 cd_this8) (by decide) dX8_comesGroup_115 ?_
    refine lv_iconst (v := 1) S.1 S.2.1 dX8_comesGroup_116 (by decide) ?_
    refine lv_iadd S.1 S.2.1 dX8_comesGroup_117 ?_
    obtain ⟨h24, eh24, E⟩ := cd_nmE E
    refine cd_iast S hK hZ (cd_r8_0 cd_this8) (by decide) eh24 dX8_comesGroup_118 (fun H locs hZ => ?_)
    refine lv_aload_n S.1 S.2.1 dX8_comesGroup_119 rfl (lv_at hl 3 rfl) ?_
    refine cd_get8 (v := .ref (G.2.2.2.2 + 405)) S hK hZ cd_this8 0 cd_f_X8_7 rfl dX8_comesGroup_120 ?_
    refine lv_sipush (v := 419) S.1 S.2.1 dX8_comesGroup_123 (by decide) ?_
    refine lv_aload_n S.1 S.2.1 dX8_comesGroup_126 rfl (lv_at hl 3 rfl) ?_
    refine cd_get8 (v := .ref (G.2.2.2.2 + 405)) S hK hZ cd_this8 0 cd_f_X8_7 rfl dX8_comesGroup_127 ?_
    refine lv_sipush (v := 419) S.1 S.2.1 dX8_comesGroup_130 (by decide) ?_
    refine cd_iald S hK hZ (cd_r8_0 cd_this8) (by decide) dX8_comesGroup_133 ?_
    refine lv_iadd S.1 S.2.1 dX8_comesGroup_134 ?_
    refine lv_iload S.1 S.2.1 dX8_comesGroup_135 (lv_at hl 2 rfl) ?_
    obtain ⟨z25, E⟩ := cd_ckE E
    obtain ⟨h26, eh26, E⟩ := cd_nmE E
    refine cd_iast S hK hZ (cd_r8_0 cd_this8) z25 eh26 dX8_comesGroup_137 (fun H locs hZ => ?_)
    refine lv_aload_n S.1 S.2.1 dX8_comesGroup_138 rfl (lv_at hl 3 rfl) ?_
    refine lv_iload S.1 S.2.1 dX8_comesGroup_139 (lv_at hl 2 rfl) ?_
    refine lv_iload S.1 S.2.1 dX8_comesGroup_141 (lv_at hl 8 rfl) ?_
    obtain ⟨o27, E1, E⟩ := cd_bE E
    refine cd_cVi (As := [.int x1, .int a5]) S hK hZ hl.1 (c_X8_addsEvent l G x1 a5 h26 o27 E1) cd_v_X8_addsEvent cd_m_X8_118 ⟨Nat.le_of_ble_eq_true rfl, Nat.le_of_ble_eq_true rfl⟩ ⟨rfl, rfl⟩ (ci := 8) (by decide) rfl cd_this8 rfl rfl (Nat.le_of_ble_eq_true rfl) ⟨Nat.zero_le _, Nat.zero_le _⟩ dX8_comesGroup_143 (fun H locs hZ => ?_)
    refine lv_if_ge (tgt := 153) S.1 S.2.1 dX8_comesGroup_146 (by decide) (fun c29 => ?_) (fun c29 => ?_)
    · have E := cd_tE c29 E
      refine lv_iload S.1 S.2.1 dX8_comesGroup_153 (lv_at hl 2 rfl) ?_
      exact hret _ _ _ _ _ _ (Option.some.inj E) hZ dX8_comesGroup_155
    · have E := cd_fE c29 E
      refine lv_iconst (v := (-1)) S.1 S.2.1 dX8_comesGroup_149 (by decide) ?_
      refine lv_goto (tgt := 155) S.1 S.2.1 dX8_comesGroup_150 (by decide) ?_
      exact hret _ _ _ _ _ _ (Option.some.inj E) hZ dX8_comesGroup_155
abbrev rm_X8_group : Room := { frames := 4, cells := 0, slots := 0, locals := 94 }
theorem cd_v_X8_group : cd_V yX8_group cX8_group 6 (some .int) 5 := ⟨cd_i_X8_group, cd_e_X8_X8_group, cd_n_X8, cd_c_X8_group, by decide +kernel⟩
set_option maxHeartbeats 4000000 in
set_option maxRecDepth 100000 in
theorem c_X8_group (l : Launch) (G : cd_G) (a1 : Int32) (a2 : Int32) (a3 : Int32) (a4 : Int32) (a5 : Int32) (h : cd_Hp) (out : (Int32 × cd_Hp)) (E : f_X8_group a1 a2 a3 a4 a5 h = some out) : cd_Mi l G yX8_group (Cond.code yX8_group cX8_group 6 (some .int) :: cd_T) rm_X8_group [.ref (G.2.2.2.2 + 404), .int a1, .int a2, .int a3, .int a4, .int a5] h out := by
  refine cd_ini (by decide) (Nat.le_of_ble_eq_true rfl) ?_
  intro p e s m args below meth c Q ls H locs S hK hZ hl hret
  have hl : lv_has ls 6 [(0, .ref (G.2.2.2.2 + 404)), (1, .int a1), (2, .int a2), (3, .int a3), (4, .int a4), (5, .int a5)] := hl
  unfold f_X8_group at E
  refine lv_aload_n S.1 S.2.1 dX8_group_0 rfl (lv_at hl 0 rfl) ?_
  refine lv_iload_n S.1 S.2.1 dX8_group_1 rfl (lv_at hl 1 rfl) ?_
  refine lv_iload_n S.1 S.2.1 dX8_group_2 rfl (lv_at hl 2 rfl) ?_
  refine lv_iload_n S.1 S.2.1 dX8_group_3 rfl (lv_at hl 3 rfl) ?_
  refine lv_iload S.1 S.2.1 dX8_group_4 (lv_at hl 4 rfl) ?_
  refine lv_iload S.1 S.2.1 dX8_group_6 (lv_at hl 5 rfl) ?_
  refine cd_cVz (As := [.int a1, .int a2, .int a3, .int a4, .int a5]) S hK hZ hl.1 (c_X8_canGroup l G a1 a2 a3 a4 a5 h _ rfl) cd_v_X8_canGroup cd_m_X8_121 ⟨Nat.le_of_ble_eq_true rfl, Nat.le_of_ble_eq_true rfl⟩ ⟨rfl, rfl⟩ (ci := 8) (by decide) rfl cd_this8 rfl rfl (Nat.le_of_ble_eq_true rfl) ⟨Nat.zero_le _, Nat.zero_le _⟩ dX8_group_8 (fun H locs hZ b1 => ?_)
  refine lv_if_ne (tgt := 19) S.1 S.2.1 dX8_group_11 (by decide) (fun c2 => ?_) (fun c2 => ?_)
  · have E := cd_fE c2 E
    refine lv_aload_n S.1 S.2.1 dX8_group_19 rfl (lv_at hl 0 rfl) ?_
    refine cd_get8 (v := .ref (G.2.2.2.2 + 405)) S hK hZ cd_this8 0 cd_f_X8_7 rfl dX8_group_20 ?_
    refine lv_bipush (v := 70) S.1 S.2.1 dX8_group_23 (by decide) ?_
    refine cd_iald S hK hZ (cd_r8_0 cd_this8) (by decide) dX8_group_25 ?_
    refine lv_bipush (v := 6) S.1 S.2.1 dX8_group_26 (by decide) ?_
    refine lv_icmp_ne (tgt := 36) S.1 S.2.1 dX8_group_28 (by decide) (fun c3 => ?_) (fun c3 => ?_)
    · have E := cd_fE c3 E
      refine lv_aload_n S.1 S.2.1 dX8_group_36 rfl (lv_at hl 0 rfl) ?_
      obtain ⟨o4, E1, E⟩ := cd_bE E
      refine cd_cVv (As := []) S hK hZ hl.1 (c_X8_remembers l G  h o4 E1) cd_v_X8_remembers cd_m_X8_73 ⟨Nat.le_of_ble_eq_true rfl, Nat.le_of_ble_eq_true rfl⟩ ⟨rfl, rfl⟩ (ci := 8) (by decide) rfl cd_this8 rfl rfl (Nat.le_of_ble_eq_true rfl) ⟨Nat.zero_le _, Nat.zero_le _⟩ dX8_group_37 (fun H locs hZ => ?_)
      refine lv_aload_n S.1 S.2.1 dX8_group_40 rfl (lv_at hl 0 rfl) ?_
      refine lv_iload_n S.1 S.2.1 dX8_group_41 rfl (lv_at hl 1 rfl) ?_
      refine lv_iload_n S.1 S.2.1 dX8_group_42 rfl (lv_at hl 2 rfl) ?_
      refine lv_iload_n S.1 S.2.1 dX8_group_43 rfl (lv_at hl 3 rfl) ?_
      refine lv_iload S.1 S.2.1 dX8_group_44 (lv_at hl 4 rfl) ?_
      refine lv_iload S.1 S.2.1 dX8_group_46 (lv_at hl 5 rfl) ?_
      obtain ⟨o6, E1, E⟩ := cd_bE E
      refine cd_cVi (As := [.int a1, .int a2, .int a3, .int a4, .int a5]) S hK hZ hl.1 (c_X8_comesGroup l G a1 a2 a3 a4 a5 o4 o6 E1) cd_v_X8_comesGroup cd_m_X8_125 ⟨Nat.le_of_ble_eq_true rfl, Nat.le_of_ble_eq_true rfl⟩ ⟨rfl, rfl⟩ (ci := 8) (by decide) rfl cd_this8 rfl rfl (Nat.le_of_ble_eq_true rfl) ⟨Nat.zero_le _, Nat.zero_le _⟩ dX8_group_48 (fun H locs hZ => ?_)
      exact hret _ _ _ _ _ _ (Option.some.inj E) hZ dX8_group_51
    · have E := cd_tE c3 E
      refine lv_aload_n S.1 S.2.1 dX8_group_31 rfl (lv_at hl 0 rfl) ?_
      obtain ⟨o8, E1, E⟩ := cd_nmE E
      refine cd_cVi (As := []) S hK hZ hl.1 (c_X8_full l G  h o8 E1.symm) cd_v_X8_full cd_m_X8_98 ⟨Nat.le_of_ble_eq_true rfl, Nat.le_of_ble_eq_true rfl⟩ ⟨rfl, rfl⟩ (ci := 8) (by decide) rfl cd_this8 rfl rfl (Nat.le_of_ble_eq_true rfl) ⟨Nat.zero_le _, Nat.zero_le _⟩ dX8_group_32 (fun H locs hZ => ?_)
      exact hret _ _ _ _ _ _ (Option.some.inj E) hZ dX8_group_35
  · have E := cd_tE c2 E
    refine lv_aload_n S.1 S.2.1 dX8_group_14 rfl (lv_at hl 0 rfl) ?_
    obtain ⟨o10, E1, E⟩ := cd_nmE E
    refine cd_cVi (As := []) S hK hZ hl.1 (c_X8_bad l G  h o10 E1.symm) cd_v_X8_bad cd_m_X8_70 ⟨Nat.le_of_ble_eq_true rfl, Nat.le_of_ble_eq_true rfl⟩ ⟨rfl, rfl⟩ (ci := 8) (by decide) rfl cd_this8 rfl rfl (Nat.le_of_ble_eq_true rfl) ⟨Nat.zero_le _, Nat.zero_le _⟩ dX8_group_15 (fun H locs hZ => ?_)
    exact hret _ _ _ _ _ _ (Option.some.inj E) hZ dX8_group_18
abbrev rm_X8_event : Room := { frames := 3, cells := 0, slots := 0, locals := 66 }
theorem cd_v_X8_event : cd_V yX8_event cX8_event 3 (some .int) 2 := ⟨cd_i_X8_event, cd_e_X8_X8_event, cd_n_X8, cd_c_X8_event, by decide +kernel⟩
set_option maxHeartbeats 4000000 in
set_option maxRecDepth 100000 in
theorem c_X8_event (l : Launch) (G : cd_G) (a1 : Int32) (a2 : Int32) (h : cd_Hp) (out : (Int32 × cd_Hp)) (E : f_X8_event a1 a2 h = some out) : cd_Mi l G yX8_event (Cond.code yX8_event cX8_event 3 (some .int) :: cd_T) rm_X8_event [.ref (G.2.2.2.2 + 404), .int a1, .int a2] h out := by
  refine cd_ini (by decide) (Nat.le_of_ble_eq_true rfl) ?_
  intro p e s m args below meth c Q ls H locs S hK hZ hl hret
  have hl : lv_has ls 3 [(0, .ref (G.2.2.2.2 + 404)), (1, .int a1), (2, .int a2)] := hl
  unfold f_X8_event at E
  refine lv_aload_n S.1 S.2.1 dX8_event_0 rfl (lv_at hl 0 rfl) ?_
  refine lv_iload_n S.1 S.2.1 dX8_event_1 rfl (lv_at hl 1 rfl) ?_
  refine cd_cVz (As := [.int a1]) S hK hZ hl.1 (c_X8_isGroup l G a1 h _ rfl) cd_v_X8_isGroup cd_m_X8_59 ⟨Nat.le_of_ble_eq_true rfl, Nat.le_of_ble_eq_true rfl⟩ ⟨rfl, rfl⟩ (ci := 8) (by decide) rfl cd_this8 rfl rfl (Nat.le_of_ble_eq_true rfl) ⟨Nat.zero_le _, Nat.zero_le _⟩ dX8_event_2 (fun H locs hZ b1 => ?_)
  refine lv_if_eq (tgt := 15) S.1 S.2.1 dX8_event_5 (by decide) (fun c2 => ?_) (fun c2 => ?_)
  · have E := cd_tE c2 E
    refine lv_aload_n S.1 S.2.1 dX8_event_15 rfl (lv_at hl 0 rfl) ?_
    obtain ⟨o3, E1, E⟩ := cd_nmE E
    refine cd_cVi (As := []) S hK hZ hl.1 (c_X8_bad l G  h o3 E1.symm) cd_v_X8_bad cd_m_X8_70 ⟨Nat.le_of_ble_eq_true rfl, Nat.le_of_ble_eq_true rfl⟩ ⟨rfl, rfl⟩ (ci := 8) (by decide) rfl cd_this8 rfl rfl (Nat.le_of_ble_eq_true rfl) ⟨Nat.zero_le _, Nat.zero_le _⟩ dX8_event_16 (fun H locs hZ => ?_)
    exact hret _ _ _ _ _ _ (Option.some.inj E) hZ dX8_event_19
  · have E := cd_fE c2 E
    refine lv_iload_n S.1 S.2.1 dX8_event_8 rfl (lv_at hl 2 rfl) ?_
    refine cd_cSz (As := [.int a2]) S hK hZ hl.1 (c_X8_isKind l G a2 h _ rfl) cd_v_X8_isKind cd_m_X8_79 ⟨Nat.le_of_ble_eq_true rfl, Nat.le_of_ble_eq_true rfl⟩ ⟨rfl, rfl⟩ rfl rfl (Nat.le_of_ble_eq_true rfl) ⟨Nat.zero_le _, Nat.zero_le _⟩ dX8_event_9 (fun H locs hZ b5 => ?_)
    refine lv_if_ne (tgt := 20) S.1 S.2.1 dX8_event_12 (by decide) (fun c6 => ?_) (fun c6 => ?_)
    · have E := cd_fE c6 E
      refine lv_aload_n S.1 S.2.1 dX8_event_20 rfl (lv_at hl 0 rfl) ?_
      refine lv_iload_n S.1 S.2.1 dX8_event_21 rfl (lv_at hl 1 rfl) ?_
      refine lv_iconst (v := 5) S.1 S.2.1 dX8_event_22 (by decide) ?_
      obtain ⟨o7, E1, E⟩ := cd_bE E
      refine cd_cVi (As := [.int a1, .int 5]) S hK hZ hl.1 (c_X8_ofGroup l G a1 5 h o7 E1) cd_v_X8_ofGroup cd_m_X8_63 ⟨Nat.le_of_ble_eq_true rfl, Nat.le_of_ble_eq_true rfl⟩ ⟨rfl, rfl⟩ (ci := 8) (by decide) rfl cd_this8 rfl rfl (Nat.le_of_ble_eq_true rfl) ⟨Nat.zero_le _, Nat.zero_le _⟩ dX8_event_23 (fun H locs hZ => ?_)
      refine lv_iconst (v := 4) S.1 S.2.1 dX8_event_26 (by decide) ?_
      refine lv_icmp_ne (tgt := 35) S.1 S.2.1 dX8_event_27 (by decide) (fun c9 => ?_) (fun c9 => ?_)
      · have E := cd_fE c9 E
        refine lv_aload_n S.1 S.2.1 dX8_event_35 rfl (lv_at hl 0 rfl) ?_
        obtain ⟨o10, E1, E⟩ := cd_bE E
        refine cd_cVv (As := []) S hK hZ hl.1 (c_X8_remembers l G  h o10 E1) cd_v_X8_remembers cd_m_X8_73 ⟨Nat.le_of_ble_eq_true rfl, Nat.le_of_ble_eq_true rfl⟩ ⟨rfl, rfl⟩ (ci := 8) (by decide) rfl cd_this8 rfl rfl (Nat.le_of_ble_eq_true rfl) ⟨Nat.zero_le _, Nat.zero_le _⟩ dX8_event_36 (fun H locs hZ => ?_)
        refine lv_aload_n S.1 S.2.1 dX8_event_39 rfl (lv_at hl 0 rfl) ?_
        refine lv_iload_n S.1 S.2.1 dX8_event_40 rfl (lv_at hl 1 rfl) ?_
        refine lv_iload_n S.1 S.2.1 dX8_event_41 rfl (lv_at hl 2 rfl) ?_
        obtain ⟨o12, E1, E⟩ := cd_bE E
        refine cd_cVi (As := [.int a1, .int a2]) S hK hZ hl.1 (c_X8_addsEvent l G a1 a2 o10 o12 E1) cd_v_X8_addsEvent cd_m_X8_118 ⟨Nat.le_of_ble_eq_true rfl, Nat.le_of_ble_eq_true rfl⟩ ⟨rfl, rfl⟩ (ci := 8) (by decide) rfl cd_this8 rfl rfl (Nat.le_of_ble_eq_true rfl) ⟨Nat.zero_le _, Nat.zero_le _⟩ dX8_event_42 (fun H locs hZ => ?_)
        exact hret _ _ _ _ _ _ (Option.some.inj E) hZ dX8_event_45
      · have E := cd_tE c9 E
        refine lv_aload_n S.1 S.2.1 dX8_event_30 rfl (lv_at hl 0 rfl) ?_
        obtain ⟨o14, E1, E⟩ := cd_nmE E
        refine cd_cVi (As := []) S hK hZ hl.1 (c_X8_full l G  h o14 E1.symm) cd_v_X8_full cd_m_X8_98 ⟨Nat.le_of_ble_eq_true rfl, Nat.le_of_ble_eq_true rfl⟩ ⟨rfl, rfl⟩ (ci := 8) (by decide) rfl cd_this8 rfl rfl (Nat.le_of_ble_eq_true rfl) ⟨Nat.zero_le _, Nat.zero_le _⟩ dX8_event_31 (fun H locs hZ => ?_)
        exact hret _ _ _ _ _ _ (Option.some.inj E) hZ dX8_event_34
    · have E := cd_tE c6 E
      refine lv_aload_n S.1 S.2.1 dX8_event_15 rfl (lv_at hl 0 rfl) ?_
      obtain ⟨o16, E1, E⟩ := cd_nmE E
      refine cd_cVi (As := []) S hK hZ hl.1 (c_X8_bad l G  h o16 E1.symm) cd_v_X8_bad cd_m_X8_70 ⟨Nat.le_of_ble_eq_true rfl, Nat.le_of_ble_eq_true rfl⟩ ⟨rfl, rfl⟩ (ci := 8) (by decide) rfl cd_this8 rfl rfl (Nat.le_of_ble_eq_true rfl) ⟨Nat.zero_le _, Nat.zero_le _⟩ dX8_event_16 (fun H locs hZ => ?_)
      exact hret _ _ _ _ _ _ (Option.some.inj E) hZ dX8_event_19
abbrev rm_X8_periods : Room := { frames := 2, cells := 0, slots := 0, locals := 43 }
theorem cd_v_X8_periods : cd_V yX8_periods cX8_periods 3 (some .int) 2 := ⟨cd_i_X8_periods, cd_e_X8_X8_periods, cd_n_X8, cd_c_X8_periods, by decide +kernel⟩
set_option maxHeartbeats 4000000 in
set_option maxRecDepth 100000 in
theorem c_X8_periods (l : Launch) (G : cd_G) (a1 : Int32) (a2 : Int32) (h : cd_Hp) (out : (Int32 × cd_Hp)) (E : f_X8_periods a1 a2 h = some out) : cd_Mi l G yX8_periods (Cond.code yX8_periods cX8_periods 3 (some .int) :: cd_T) rm_X8_periods [.ref (G.2.2.2.2 + 404), .int a1, .int a2] h out := by
  refine cd_ini (by decide) (Nat.le_of_ble_eq_true rfl) ?_
  intro p e s m args below meth c Q ls H locs S hK hZ hl hret
  have hl : lv_has ls 3 [(0, .ref (G.2.2.2.2 + 404)), (1, .int a1), (2, .int a2)] := hl
  unfold f_X8_periods at E
  refine lv_aload_n S.1 S.2.1 dX8_periods_0 rfl (lv_at hl 0 rfl) ?_
  refine lv_iload_n S.1 S.2.1 dX8_periods_1 rfl (lv_at hl 1 rfl) ?_
  refine cd_cVz (As := [.int a1]) S hK hZ hl.1 (c_X8_isGroup l G a1 h _ rfl) cd_v_X8_isGroup cd_m_X8_59 ⟨Nat.le_of_ble_eq_true rfl, Nat.le_of_ble_eq_true rfl⟩ ⟨rfl, rfl⟩ (ci := 8) (by decide) rfl cd_this8 rfl rfl (Nat.le_of_ble_eq_true rfl) ⟨Nat.zero_le _, Nat.zero_le _⟩ dX8_periods_2 (fun H locs hZ b1 => ?_)
  refine lv_if_eq (tgt := 24) S.1 S.2.1 dX8_periods_5 (by decide) (fun c2 => ?_) (fun c2 => ?_)
  · have E := cd_tE c2 E
    refine lv_aload_n S.1 S.2.1 dX8_periods_24 rfl (lv_at hl 0 rfl) ?_
    obtain ⟨o3, E1, E⟩ := cd_nmE E
    refine cd_cVi (As := []) S hK hZ hl.1 (c_X8_bad l G  h o3 E1.symm) cd_v_X8_bad cd_m_X8_70 ⟨Nat.le_of_ble_eq_true rfl, Nat.le_of_ble_eq_true rfl⟩ ⟨rfl, rfl⟩ (ci := 8) (by decide) rfl cd_this8 rfl rfl (Nat.le_of_ble_eq_true rfl) ⟨Nat.zero_le _, Nat.zero_le _⟩ dX8_periods_25 (fun H locs hZ => ?_)
    exact hret _ _ _ _ _ _ (Option.some.inj E) hZ dX8_periods_28
  · have E := cd_fE c2 E
    refine lv_iload_n S.1 S.2.1 dX8_periods_8 rfl (lv_at hl 2 rfl) ?_
    refine lv_if_eq (tgt := 29) S.1 S.2.1 dX8_periods_9 (by decide) (fun c5 => ?_) (fun c5 => ?_)
    · have E := cd_tE c5 E
      refine lv_aload_n S.1 S.2.1 dX8_periods_29 rfl (lv_at hl 0 rfl) ?_
      obtain ⟨o6, E1, E⟩ := cd_bE E
      refine cd_cVv (As := []) S hK hZ hl.1 (c_X8_remembers l G  h o6 E1) cd_v_X8_remembers cd_m_X8_73 ⟨Nat.le_of_ble_eq_true rfl, Nat.le_of_ble_eq_true rfl⟩ ⟨rfl, rfl⟩ (ci := 8) (by decide) rfl cd_this8 rfl rfl (Nat.le_of_ble_eq_true rfl) ⟨Nat.zero_le _, Nat.zero_le _⟩ dX8_periods_30 (fun H locs hZ => ?_)
      refine lv_aload_n S.1 S.2.1 dX8_periods_33 rfl (lv_at hl 0 rfl) ?_
      refine cd_get8 (v := .ref (G.2.2.2.2 + 405)) S hK hZ cd_this8 0 cd_f_X8_7 rfl dX8_periods_34 ?_
      refine lv_iload_n S.1 S.2.1 dX8_periods_37 rfl (lv_at hl 1 rfl) ?_
      refine cd_cSi (As := [.int a1]) S hK hZ hl.1 (c_X8_groupAt l G a1 o6 _ rfl) cd_v_X8_groupAt cd_m_X8_55 ⟨Nat.le_of_ble_eq_true rfl, Nat.le_of_ble_eq_true rfl⟩ ⟨rfl, rfl⟩ rfl rfl (Nat.le_of_ble_eq_true rfl) ⟨Nat.zero_le _, Nat.zero_le _⟩ dX8_periods_38 (fun H locs hZ => ?_)
      refine lv_bipush (v := 8) S.1 S.2.1 dX8_periods_41 (by decide) ?_
      refine lv_iadd S.1 S.2.1 dX8_periods_43 ?_
      refine lv_iconst (v := 0) S.1 S.2.1 dX8_periods_44 (by decide) ?_
      obtain ⟨z9, E⟩ := cd_ckE E
      obtain ⟨h10, eh10, E⟩ := cd_nmE E
      refine cd_iast S hK hZ (cd_r8_0 cd_this8) z9 eh10 dX8_periods_45 (fun H locs hZ => ?_)
      refine lv_aload_n S.1 S.2.1 dX8_periods_46 rfl (lv_at hl 0 rfl) ?_
      refine lv_iload_n S.1 S.2.1 dX8_periods_47 rfl (lv_at hl 1 rfl) ?_
      refine cd_cSi (As := [.int a1]) S hK hZ hl.1 (c_X8_groupAt l G a1 h10 _ rfl) cd_v_X8_groupAt cd_m_X8_55 ⟨Nat.le_of_ble_eq_true rfl, Nat.le_of_ble_eq_true rfl⟩ ⟨rfl, rfl⟩ rfl rfl (Nat.le_of_ble_eq_true rfl) ⟨Nat.zero_le _, Nat.zero_le _⟩ dX8_periods_48 (fun H locs hZ => ?_)
      refine lv_bipush (v := 7) S.1 S.2.1 dX8_periods_51 (by decide) ?_
      refine lv_iadd S.1 S.2.1 dX8_periods_53 ?_
      refine lv_iload_n S.1 S.2.1 dX8_periods_54 rfl (lv_at hl 2 rfl) ?_
      obtain ⟨o12, E1, E⟩ := cd_bE E
      refine cd_cVi (As := [.int ((f_X8_groupAt a1) + 7), .int a2]) S hK hZ hl.1 (c_X8_exchanges l G ((f_X8_groupAt a1) + 7) a2 h10 o12 E1) cd_v_X8_exchanges cd_m_X8_76 ⟨Nat.le_of_ble_eq_true rfl, Nat.le_of_ble_eq_true rfl⟩ ⟨rfl, rfl⟩ (ci := 8) (by decide) rfl cd_this8 rfl rfl (Nat.le_of_ble_eq_true rfl) ⟨Nat.zero_le _, Nat.zero_le _⟩ dX8_periods_55 (fun H locs hZ => ?_)
      exact hret _ _ _ _ _ _ (Option.some.inj E) hZ dX8_periods_58
    · have E := cd_fE c5 E
      refine lv_iload_n S.1 S.2.1 dX8_periods_12 rfl (lv_at hl 2 rfl) ?_
      refine lv_bipush (v := 30) S.1 S.2.1 dX8_periods_13 (by decide) ?_
      refine lv_sipush (v := 200) S.1 S.2.1 dX8_periods_15 (by decide) ?_
      refine cd_cSz (As := [.int a2, .int 30, .int 200]) S hK hZ hl.1 (c_X8_in l G a2 30 200 h _ rfl) cd_v_X8_in cd_m_X8_51 ⟨Nat.le_of_ble_eq_true rfl, Nat.le_of_ble_eq_true rfl⟩ ⟨rfl, rfl⟩ rfl rfl (Nat.le_of_ble_eq_true rfl) ⟨Nat.zero_le _, Nat.zero_le _⟩ dX8_periods_18 (fun H locs hZ b14 => ?_)
      refine lv_if_ne (tgt := 29) S.1 S.2.1 dX8_periods_21 (by decide) (fun c15 => ?_) (fun c15 => ?_)
      · have E := cd_fE c15 E
        refine lv_aload_n S.1 S.2.1 dX8_periods_29 rfl (lv_at hl 0 rfl) ?_
        obtain ⟨o16, E1, E⟩ := cd_bE E
        refine cd_cVv (As := []) S hK hZ hl.1 (c_X8_remembers l G  h o16 E1) cd_v_X8_remembers cd_m_X8_73 ⟨Nat.le_of_ble_eq_true rfl, Nat.le_of_ble_eq_true rfl⟩ ⟨rfl, rfl⟩ (ci := 8) (by decide) rfl cd_this8 rfl rfl (Nat.le_of_ble_eq_true rfl) ⟨Nat.zero_le _, Nat.zero_le _⟩ dX8_periods_30 (fun H locs hZ => ?_)
        refine lv_aload_n S.1 S.2.1 dX8_periods_33 rfl (lv_at hl 0 rfl) ?_
        refine cd_get8 (v := .ref (G.2.2.2.2 + 405)) S hK hZ cd_this8 0 cd_f_X8_7 rfl dX8_periods_34 ?_
        refine lv_iload_n S.1 S.2.1 dX8_periods_37 rfl (lv_at hl 1 rfl) ?_
        refine cd_cSi (As := [.int a1]) S hK hZ hl.1 (c_X8_groupAt l G a1 o16 _ rfl) cd_v_X8_groupAt cd_m_X8_55 ⟨Nat.le_of_ble_eq_true rfl, Nat.le_of_ble_eq_true rfl⟩ ⟨rfl, rfl⟩ rfl rfl (Nat.le_of_ble_eq_true rfl) ⟨Nat.zero_le _, Nat.zero_le _⟩ dX8_periods_38 (fun H locs hZ => ?_)
        refine lv_bipush (v := 8) S.1 S.2.1 dX8_periods_41 (by decide) ?_
        refine lv_iadd S.1 S.2.1 dX8_periods_43 ?_
        refine lv_iconst (v := 0) S.1 S.2.1 dX8_periods_44 (by decide) ?_
        obtain ⟨z19, E⟩ := cd_ckE E
        obtain ⟨h20, eh20, E⟩ := cd_nmE E
        refine cd_iast S hK hZ (cd_r8_0 cd_this8) z19 eh20 dX8_periods_45 (fun H locs hZ => ?_)
        refine lv_aload_n S.1 S.2.1 dX8_periods_46 rfl (lv_at hl 0 rfl) ?_
        refine lv_iload_n S.1 S.2.1 dX8_periods_47 rfl (lv_at hl 1 rfl) ?_
        refine cd_cSi (As := [.int a1]) S hK hZ hl.1 (c_X8_groupAt l G a1 h20 _ rfl) cd_v_X8_groupAt cd_m_X8_55 ⟨Nat.le_of_ble_eq_true rfl, Nat.le_of_ble_eq_true rfl⟩ ⟨rfl, rfl⟩ rfl rfl (Nat.le_of_ble_eq_true rfl) ⟨Nat.zero_le _, Nat.zero_le _⟩ dX8_periods_48 (fun H locs hZ => ?_)
        refine lv_bipush (v := 7) S.1 S.2.1 dX8_periods_51 (by decide) ?_
        refine lv_iadd S.1 S.2.1 dX8_periods_53 ?_
        refine lv_iload_n S.1 S.2.1 dX8_periods_54 rfl (lv_at hl 2 rfl) ?_
        obtain ⟨o22, E1, E⟩ := cd_bE E
        refine cd_cVi (As := [.int ((f_X8_groupAt a1) + 7), .int a2]) S hK hZ hl.1 (c_X8_exchanges l G ((f_X8_groupAt a1) + 7) a2 h20 o22 E1) cd_v_X8_exchanges cd_m_X8_76 ⟨Nat.le_of_ble_eq_true rfl, Nat.le_of_ble_eq_true rfl⟩ ⟨rfl, rfl⟩ (ci := 8) (by decide) rfl cd_this8 rfl rfl (Nat.le_of_ble_eq_true rfl) ⟨Nat.zero_le _, Nat.zero_le _⟩ dX8_periods_55 (fun H locs hZ => ?_)
        exact hret _ _ _ _ _ _ (Option.some.inj E) hZ dX8_periods_58
      · have E := cd_tE c15 E
        refine lv_aload_n S.1 S.2.1 dX8_periods_24 rfl (lv_at hl 0 rfl) ?_
        obtain ⟨o24, E1, E⟩ := cd_nmE E
        refine cd_cVi (As := []) S hK hZ hl.1 (c_X8_bad l G  h o24 E1.symm) cd_v_X8_bad cd_m_X8_70 ⟨Nat.le_of_ble_eq_true rfl, Nat.le_of_ble_eq_true rfl⟩ ⟨rfl, rfl⟩ (ci := 8) (by decide) rfl cd_this8 rfl rfl (Nat.le_of_ble_eq_true rfl) ⟨Nat.zero_le _, Nat.zero_le _⟩ dX8_periods_25 (fun H locs hZ => ?_)
        exact hret _ _ _ _ _ _ (Option.some.inj E) hZ dX8_periods_28
abbrev rm_X8_skids : Room := { frames := 1, cells := 0, slots := 0, locals := 23 }
theorem cd_v_X8_skids : cd_V yX8_skids cX8_skids 2 (some .int) 1 := ⟨cd_i_X8_skids, cd_e_X8_X8_skids, cd_n_X8, cd_c_X8_skids, by decide +kernel⟩
set_option maxHeartbeats 4000000 in
set_option maxRecDepth 100000 in
theorem c_X8_skids (l : Launch) (G : cd_G) (a1 : Int32) (h : cd_Hp) (out : (Int32 × cd_Hp)) (E : f_X8_skids a1 h = some out) : cd_Mi l G yX8_skids (Cond.code yX8_skids cX8_skids 2 (some .int) :: cd_T) rm_X8_skids [.ref (G.2.2.2.2 + 404), .int a1] h out := by
  refine cd_ini (by decide) (Nat.le_of_ble_eq_true rfl) ?_
  intro p e s m args below meth c Q ls H locs S hK hZ hl hret
  have hl : lv_has ls 2 [(0, .ref (G.2.2.2.2 + 404)), (1, .int a1)] := hl
  unfold f_X8_skids at E
  refine lv_iload_n S.1 S.2.1 dX8_skids_0 rfl (lv_at hl 1 rfl) ?_
  refine lv_iconst (v := 0) S.1 S.2.1 dX8_skids_1 (by decide) ?_
  refine lv_iconst (v := 3) S.1 S.2.1 dX8_skids_2 (by decide) ?_
  refine cd_cSz (As := [.int a1, .int 0, .int 3]) S hK hZ hl.1 (c_X8_in l G a1 0 3 h _ rfl) cd_v_X8_in cd_m_X8_51 ⟨Nat.le_of_ble_eq_true rfl, Nat.le_of_ble_eq_true rfl⟩ ⟨rfl, rfl⟩ rfl rfl (Nat.le_of_ble_eq_true rfl) ⟨Nat.zero_le _, Nat.zero_le _⟩ dX8_skids_3 (fun H locs hZ b1 => ?_)
  refine lv_if_ne (tgt := 14) S.1 S.2.1 dX8_skids_6 (by decide) (fun c2 => ?_) (fun c2 => ?_)
  · have E := cd_fE c2 E
    refine lv_aload_n S.1 S.2.1 dX8_skids_14 rfl (lv_at hl 0 rfl) ?_
    obtain ⟨o3, E1, E⟩ := cd_bE E
    refine cd_cVv (As := []) S hK hZ hl.1 (c_X8_remembers l G  h o3 E1) cd_v_X8_remembers cd_m_X8_73 ⟨Nat.le_of_ble_eq_true rfl, Nat.le_of_ble_eq_true rfl⟩ ⟨rfl, rfl⟩ (ci := 8) (by decide) rfl cd_this8 rfl rfl (Nat.le_of_ble_eq_true rfl) ⟨Nat.zero_le _, Nat.zero_le _⟩ dX8_skids_15 (fun H locs hZ => ?_)
    refine lv_aload_n S.1 S.2.1 dX8_skids_18 rfl (lv_at hl 0 rfl) ?_
    refine lv_sipush (v := 427) S.1 S.2.1 dX8_skids_19 (by decide) ?_
    refine lv_iload_n S.1 S.2.1 dX8_skids_22 rfl (lv_at hl 1 rfl) ?_
    obtain ⟨o5, E1, E⟩ := cd_bE E
    refine cd_cVi (As := [.int 427, .int a1]) S hK hZ hl.1 (c_X8_exchanges l G 427 a1 o3 o5 E1) cd_v_X8_exchanges cd_m_X8_76 ⟨Nat.le_of_ble_eq_true rfl, Nat.le_of_ble_eq_true rfl⟩ ⟨rfl, rfl⟩ (ci := 8) (by decide) rfl cd_this8 rfl rfl (Nat.le_of_ble_eq_true rfl) ⟨Nat.zero_le _, Nat.zero_le _⟩ dX8_skids_23 (fun H locs hZ => ?_)
    exact hret _ _ _ _ _ _ (Option.some.inj E) hZ dX8_skids_26
  · have E := cd_tE c2 E
    refine lv_aload_n S.1 S.2.1 dX8_skids_9 rfl (lv_at hl 0 rfl) ?_
    obtain ⟨o7, E1, E⟩ := cd_nmE E
    refine cd_cVi (As := []) S hK hZ hl.1 (c_X8_bad l G  h o7 E1.symm) cd_v_X8_bad cd_m_X8_70 ⟨Nat.le_of_ble_eq_true rfl, Nat.le_of_ble_eq_true rfl⟩ ⟨rfl, rfl⟩ (ci := 8) (by decide) rfl cd_this8 rfl rfl (Nat.le_of_ble_eq_true rfl) ⟨Nat.zero_le _, Nat.zero_le _⟩ dX8_skids_10 (fun H locs hZ => ?_)
    exact hret _ _ _ _ _ _ (Option.some.inj E) hZ dX8_skids_13
abbrev rm_X8_lives : Room := { frames := 2, cells := 0, slots := 0, locals := 43 }
theorem cd_v_X8_lives : cd_V yX8_lives cX8_lives 3 (some .int) 2 := ⟨cd_i_X8_lives, cd_e_X8_X8_lives, cd_n_X8, cd_c_X8_lives, by decide +kernel⟩
set_option maxHeartbeats 4000000 in
set_option maxRecDepth 100000 in
theorem c_X8_lives (l : Launch) (G : cd_G) (a1 : Int32) (a2 : Int32) (h : cd_Hp) (out : (Int32 × cd_Hp)) (E : f_X8_lives a1 a2 h = some out) : cd_Mi l G yX8_lives (Cond.code yX8_lives cX8_lives 3 (some .int) :: cd_T) rm_X8_lives [.ref (G.2.2.2.2 + 404), .int a1, .int a2] h out := by
  refine cd_ini (by decide) (Nat.le_of_ble_eq_true rfl) ?_
  intro p e s m args below meth c Q ls H locs S hK hZ hl hret
  have hl : lv_has ls 3 [(0, .ref (G.2.2.2.2 + 404)), (1, .int a1), (2, .int a2)] := hl
  unfold f_X8_lives at E
  refine lv_aload_n S.1 S.2.1 dX8_lives_0 rfl (lv_at hl 0 rfl) ?_
  refine lv_iload_n S.1 S.2.1 dX8_lives_1 rfl (lv_at hl 1 rfl) ?_
  refine cd_cVz (As := [.int a1]) S hK hZ hl.1 (c_X8_isGroup l G a1 h _ rfl) cd_v_X8_isGroup cd_m_X8_59 ⟨Nat.le_of_ble_eq_true rfl, Nat.le_of_ble_eq_true rfl⟩ ⟨rfl, rfl⟩ (ci := 8) (by decide) rfl cd_this8 rfl rfl (Nat.le_of_ble_eq_true rfl) ⟨Nat.zero_le _, Nat.zero_le _⟩ dX8_lives_2 (fun H locs hZ b1 => ?_)
  refine lv_if_eq (tgt := 17) S.1 S.2.1 dX8_lives_5 (by decide) (fun c2 => ?_) (fun c2 => ?_)
  · have E := cd_tE c2 E
    refine lv_aload_n S.1 S.2.1 dX8_lives_17 rfl (lv_at hl 0 rfl) ?_
    obtain ⟨o3, E1, E⟩ := cd_nmE E
    refine cd_cVi (As := []) S hK hZ hl.1 (c_X8_bad l G  h o3 E1.symm) cd_v_X8_bad cd_m_X8_70 ⟨Nat.le_of_ble_eq_true rfl, Nat.le_of_ble_eq_true rfl⟩ ⟨rfl, rfl⟩ (ci := 8) (by decide) rfl cd_this8 rfl rfl (Nat.le_of_ble_eq_true rfl) ⟨Nat.zero_le _, Nat.zero_le _⟩ dX8_lives_18 (fun H locs hZ => ?_)
    exact hret _ _ _ _ _ _ (Option.some.inj E) hZ dX8_lives_21
  · have E := cd_fE c2 E
    refine lv_iload_n S.1 S.2.1 dX8_lives_8 rfl (lv_at hl 2 rfl) ?_
    refine lv_iconst (v := 0) S.1 S.2.1 dX8_lives_9 (by decide) ?_
    refine lv_iconst (v := 1) S.1 S.2.1 dX8_lives_10 (by decide) ?_
    refine cd_cSz (As := [.int a2, .int 0, .int 1]) S hK hZ hl.1 (c_X8_in l G a2 0 1 h _ rfl) cd_v_X8_in cd_m_X8_51 ⟨Nat.le_of_ble_eq_true rfl, Nat.le_of_ble_eq_true rfl⟩ ⟨rfl, rfl⟩ rfl rfl (Nat.le_of_ble_eq_true rfl) ⟨Nat.zero_le _, Nat.zero_le _⟩ dX8_lives_11 (fun H locs hZ b5 => ?_)
    refine lv_if_ne (tgt := 22) S.1 S.2.1 dX8_lives_14 (by decide) (fun c6 => ?_) (fun c6 => ?_)
    · have E := cd_fE c6 E
      refine lv_aload_n S.1 S.2.1 dX8_lives_22 rfl (lv_at hl 0 rfl) ?_
      obtain ⟨o7, E1, E⟩ := cd_bE E
      refine cd_cVv (As := []) S hK hZ hl.1 (c_X8_remembers l G  h o7 E1) cd_v_X8_remembers cd_m_X8_73 ⟨Nat.le_of_ble_eq_true rfl, Nat.le_of_ble_eq_true rfl⟩ ⟨rfl, rfl⟩ (ci := 8) (by decide) rfl cd_this8 rfl rfl (Nat.le_of_ble_eq_true rfl) ⟨Nat.zero_le _, Nat.zero_le _⟩ dX8_lives_23 (fun H locs hZ => ?_)
      refine lv_aload_n S.1 S.2.1 dX8_lives_26 rfl (lv_at hl 0 rfl) ?_
      refine lv_iload_n S.1 S.2.1 dX8_lives_27 rfl (lv_at hl 1 rfl) ?_
      refine cd_cSi (As := [.int a1]) S hK hZ hl.1 (c_X8_groupAt l G a1 o7 _ rfl) cd_v_X8_groupAt cd_m_X8_55 ⟨Nat.le_of_ble_eq_true rfl, Nat.le_of_ble_eq_true rfl⟩ ⟨rfl, rfl⟩ rfl rfl (Nat.le_of_ble_eq_true rfl) ⟨Nat.zero_le _, Nat.zero_le _⟩ dX8_lives_28 (fun H locs hZ => ?_)
      refine lv_iconst (v := 4) S.1 S.2.1 dX8_lives_31 (by decide) ?_
      refine lv_iadd S.1 S.2.1 dX8_lives_32 ?_
      refine lv_iload_n S.1 S.2.1 dX8_lives_33 rfl (lv_at hl 2 rfl) ?_
      obtain ⟨o10, E1, E⟩ := cd_bE E
      refine cd_cVi (As := [.int ((f_X8_groupAt a1) + 4), .int a2]) S hK hZ hl.1 (c_X8_exchanges l G ((f_X8_groupAt a1) + 4) a2 o7 o10 E1) cd_v_X8_exchanges cd_m_X8_76 ⟨Nat.le_of_ble_eq_true rfl, Nat.le_of_ble_eq_true rfl⟩ ⟨rfl, rfl⟩ (ci := 8) (by decide) rfl cd_this8 rfl rfl (Nat.le_of_ble_eq_true rfl) ⟨Nat.zero_le _, Nat.zero_le _⟩ dX8_lives_34 (fun H locs hZ => ?_)
      exact hret _ _ _ _ _ _ (Option.some.inj E) hZ dX8_lives_37
    · have E := cd_tE c6 E
      refine lv_aload_n S.1 S.2.1 dX8_lives_17 rfl (lv_at hl 0 rfl) ?_
      obtain ⟨o12, E1, E⟩ := cd_nmE E
      refine cd_cVi (As := []) S hK hZ hl.1 (c_X8_bad l G  h o12 E1.symm) cd_v_X8_bad cd_m_X8_70 ⟨Nat.le_of_ble_eq_true rfl, Nat.le_of_ble_eq_true rfl⟩ ⟨rfl, rfl⟩ (ci := 8) (by decide) rfl cd_this8 rfl rfl (Nat.le_of_ble_eq_true rfl) ⟨Nat.zero_le _, Nat.zero_le _⟩ dX8_lives_18 (fun H locs hZ => ?_)
      exact hret _ _ _ _ _ _ (Option.some.inj E) hZ dX8_lives_21
abbrev rm_X8_isOf : Room := { frames := 2, cells := 0, slots := 0, locals := 42 }
theorem cd_v_X8_isOf : cd_V yX8_isOf cX8_isOf 6 (some .boolean) 2 := ⟨cd_i_X8_isOf, cd_e_X8_X8_isOf, cd_n_X8, cd_c_X8_isOf, by decide +kernel⟩
set_option maxHeartbeats 4000000 in
set_option maxRecDepth 100000 in
theorem c_X8_isOf (l : Launch) (G : cd_G) (a1 : Int32) (a2 : Int32) (h : cd_Hp) (out : Int32) (E : f_X8_isOf a1 a2 h = some out) : cd_Mz l G yX8_isOf (Cond.code yX8_isOf cX8_isOf 6 (some .boolean) :: cd_T) rm_X8_isOf [.ref (G.2.2.2.2 + 404), .int a1, .int a2] h (out, h) := by
  refine cd_inz (by decide) (Nat.le_of_ble_eq_true rfl) ?_
  intro p e s m args below meth c Q ls H locs S hK hZ hl hret
  have hl : lv_has ls 6 [(0, .ref (G.2.2.2.2 + 404)), (1, .int a1), (2, .int a2)] := hl
  have L30 : ∀ (p30_3 : Int32), ∀ (n : Nat) (v30_4 : Int32) (v30_5 : Int32) (o : (Int32 × Int32)) (H : Heap) (locs : List Loc) (ls : Array Slot), cd_lp (f_X8_isOf_B30 a1 a2 p30_3 h) n (v30_4, v30_5) = some o → cd_Z G h s.heap H locs → lv_has ls 6 [(5, .int v30_5), (4, .int v30_4), (3, .int p30_3), (0, .ref (G.2.2.2.2 + 404)), (1, .int a1), (2, .int a2)] → (∀ (H : Heap) (locs : List Loc) (ls : Array Slot), cd_Z G h s.heap H locs → lv_has ls 6 [(5, .int o.2), (4, .int o.1), (3, .int p30_3), (0, .ref (G.2.2.2.2 + 404)), (1, .int a1), (2, .int a2)] → W p l e rm_X8_isOf s m args below meth c H locs 0 0 Q (F0 m 79 ls [])) → W p l e rm_X8_isOf s m args below meth c H locs 0 0 Q (F0 m 30 ls []) := by
    intro p30_3
    intro n
    induction n with
    | zero => intro v30_4 v30_5 o H locs ls E; exact nomatch (show (none : Option (Int32 × Int32)) = some o from E)
    | succ n ih =>
      intro v30_4 v30_5 o H locs ls E hZ hl hex
      have E : f_X8_isOf_B30 a1 a2 p30_3 h (cd_lp (f_X8_isOf_B30 a1 a2 p30_3 h) n) (v30_4, v30_5) = some o := E
      unfold f_X8_isOf_B30 at E
      dsimp only at E
      refine lv_iload S.1 S.2.1 dX8_isOf_30 (lv_at hl 0 rfl) ?_
      refine lv_iconst (v := (-1)) S.1 S.2.1 dX8_isOf_32 (by decide) ?_
      refine lv_icmp_eq (tgt := 79) S.1 S.2.1 dX8_isOf_33 (by decide) (fun c7 => ?_) (fun c7 => ?_)
      · have E := cd_tE c7 E
        cases E
        exact hex H locs ls hZ (lv_sub hl [0, 1, 2, 3, 4, 5] rfl)
      · have E := cd_fE c7 E
        refine lv_iload S.1 S.2.1 dX8_isOf_36 (lv_at hl 1 rfl) ?_
        refine lv_if_ne (tgt := 57) S.1 S.2.1 dX8_isOf_38 (by decide) (fun c8 => ?_) (fun c8 => ?_)
        · have E := cd_fE c8 E
          refine lv_iconst (v := 1) S.1 S.2.1 dX8_isOf_57 (by decide) ?_
          refine lv_goto (tgt := 62) S.1 S.2.1 dX8_isOf_58 (by decide) ?_
          refine lv_istore (lv' := [(4, .int 1), (5, .int v30_5), (3, .int p30_3), (0, .ref (G.2.2.2.2 + 404)), (1, .int a1), (2, .int a2)]) S.1 S.2.1 dX8_isOf_62 hl (by decide) rfl (fun ls hl => ?_)
          refine lv_aload_n S.1 S.2.1 dX8_isOf_64 rfl (lv_at hl 3 rfl) ?_
          refine cd_get8 (v := .ref (G.2.2.2.2 + 405)) S hK hZ cd_this8 0 cd_f_X8_7 rfl dX8_isOf_65 ?_
          refine lv_iload S.1 S.2.1 dX8_isOf_68 (lv_at hl 1 rfl) ?_
          refine cd_cSi (As := [.int v30_5]) S hK hZ hl.1 (c_X8_taskAt l G v30_5 h _ rfl) cd_v_X8_taskAt cd_m_X8_67 ⟨Nat.le_of_ble_eq_true rfl, Nat.le_of_ble_eq_true rfl⟩ ⟨rfl, rfl⟩ rfl rfl (Nat.le_of_ble_eq_true rfl) ⟨Nat.zero_le _, Nat.zero_le _⟩ dX8_isOf_70 (fun H locs hZ => ?_)
          obtain ⟨z10, E⟩ := cd_ckE E
          refine cd_iald S hK hZ (cd_r8_0 cd_this8) z10 dX8_isOf_73 ?_
          obtain ⟨x11, ex11, E⟩ := cd_nmE E
          refine cd_topi ex11 ?_
          refine lv_istore (lv' := [(5, .int x11), (4, .int 1), (3, .int p30_3), (0, .ref (G.2.2.2.2 + 404)), (1, .int a1), (2, .int a2)]) S.1 S.2.1 dX8_isOf_74 hl (by decide) rfl (fun ls hl => ?_)
          refine lv_goto (tgt := 30) S.1 S.2.1 dX8_isOf_76 (by decide) ?_
          exact ih 1 x11 o H locs ls E hZ (lv_sub hl [0, 1, 2, 3, 4, 5] rfl) hex
        · have E := cd_tE c8 E
          refine lv_aload_n S.1 S.2.1 dX8_isOf_41 rfl (lv_at hl 3 rfl) ?_
          refine lv_iload_n S.1 S.2.1 dX8_isOf_42 rfl (lv_at hl 4 rfl) ?_
          refine lv_iconst (v := 3) S.1 S.2.1 dX8_isOf_43 (by decide) ?_
          obtain ⟨o12, E1, E⟩ := cd_bE E
          refine cd_cVi (As := [.int a1, .int 3]) S hK hZ hl.1 (c_X8_ofGroup l G a1 3 h o12 E1) cd_v_X8_ofGroup cd_m_X8_63 ⟨Nat.le_of_ble_eq_true rfl, Nat.le_of_ble_eq_true rfl⟩ ⟨rfl, rfl⟩ (ci := 8) (by decide) rfl cd_this8 rfl rfl (Nat.le_of_ble_eq_true rfl) ⟨Nat.zero_le _, Nat.zero_le _⟩ dX8_isOf_44 (fun H locs hZ => ?_)
          refine lv_iconst (v := 1) S.1 S.2.1 dX8_isOf_47 (by decide) ?_
          refine lv_icmp_ne (tgt := 61) S.1 S.2.1 dX8_isOf_48 (by decide) (fun c14 => ?_) (fun c14 => ?_)
          · have E := cd_fE c14 E
            refine lv_iconst (v := 0) S.1 S.2.1 dX8_isOf_61 (by decide) ?_
            refine lv_istore (lv' := [(4, .int 0), (5, .int v30_5), (3, .int p30_3), (0, .ref (G.2.2.2.2 + 404)), (1, .int a1), (2, .int a2)]) S.1 S.2.1 dX8_isOf_62 hl (by decide) rfl (fun ls hl => ?_)
            refine lv_aload_n S.1 S.2.1 dX8_isOf_64 rfl (lv_at hl 3 rfl) ?_
            refine cd_get8 (v := .ref (G.2.2.2.2 + 405)) S hK hZ cd_this8 0 cd_f_X8_7 rfl dX8_isOf_65 ?_
            refine lv_iload S.1 S.2.1 dX8_isOf_68 (lv_at hl 1 rfl) ?_
            refine cd_cSi (As := [.int v30_5]) S hK hZ hl.1 (c_X8_taskAt l G v30_5 h _ rfl) cd_v_X8_taskAt cd_m_X8_67 ⟨Nat.le_of_ble_eq_true rfl, Nat.le_of_ble_eq_true rfl⟩ ⟨rfl, rfl⟩ rfl rfl (Nat.le_of_ble_eq_true rfl) ⟨Nat.zero_le _, Nat.zero_le _⟩ dX8_isOf_70 (fun H locs hZ => ?_)
            obtain ⟨z16, E⟩ := cd_ckE E
            refine cd_iald S hK hZ (cd_r8_0 cd_this8) z16 dX8_isOf_73 ?_
            obtain ⟨x17, ex17, E⟩ := cd_nmE E
            refine cd_topi ex17 ?_
            refine lv_istore (lv' := [(5, .int x17), (4, .int 0), (3, .int p30_3), (0, .ref (G.2.2.2.2 + 404)), (1, .int a1), (2, .int a2)]) S.1 S.2.1 dX8_isOf_74 hl (by decide) rfl (fun ls hl => ?_)
            refine lv_goto (tgt := 30) S.1 S.2.1 dX8_isOf_76 (by decide) ?_
            exact ih 0 x17 o H locs ls E hZ (lv_sub hl [0, 1, 2, 3, 4, 5] rfl) hex
          · have E := cd_tE c14 E
            refine lv_iload S.1 S.2.1 dX8_isOf_51 (lv_at hl 0 rfl) ?_
            refine lv_iload_n S.1 S.2.1 dX8_isOf_53 rfl (lv_at hl 2 rfl) ?_
            refine lv_icmp_ne (tgt := 61) S.1 S.2.1 dX8_isOf_54 (by decide) (fun c18 => ?_) (fun c18 => ?_)
            · have E := cd_fE c18 E
              refine lv_iconst (v := 0) S.1 S.2.1 dX8_isOf_61 (by decide) ?_
              refine lv_istore (lv' := [(4, .int 0), (5, .int v30_5), (3, .int p30_3), (0, .ref (G.2.2.2.2 + 404)), (1, .int a1), (2, .int a2)]) S.1 S.2.1 dX8_isOf_62 hl (by decide) rfl (fun ls hl => ?_)
              refine lv_aload_n S.1 S.2.1 dX8_isOf_64 rfl (lv_at hl 3 rfl) ?_
              refine cd_get8 (v := .ref (G.2.2.2.2 + 405)) S hK hZ cd_this8 0 cd_f_X8_7 rfl dX8_isOf_65 ?_
              refine lv_iload S.1 S.2.1 dX8_isOf_68 (lv_at hl 1 rfl) ?_
              refine cd_cSi (As := [.int v30_5]) S hK hZ hl.1 (c_X8_taskAt l G v30_5 h _ rfl) cd_v_X8_taskAt cd_m_X8_67 ⟨Nat.le_of_ble_eq_true rfl, Nat.le_of_ble_eq_true rfl⟩ ⟨rfl, rfl⟩ rfl rfl (Nat.le_of_ble_eq_true rfl) ⟨Nat.zero_le _, Nat.zero_le _⟩ dX8_isOf_70 (fun H locs hZ => ?_)
              obtain ⟨z20, E⟩ := cd_ckE E
              refine cd_iald S hK hZ (cd_r8_0 cd_this8) z20 dX8_isOf_73 ?_
              obtain ⟨x21, ex21, E⟩ := cd_nmE E
              refine cd_topi ex21 ?_
              refine lv_istore (lv' := [(5, .int x21), (4, .int 0), (3, .int p30_3), (0, .ref (G.2.2.2.2 + 404)), (1, .int a1), (2, .int a2)]) S.1 S.2.1 dX8_isOf_74 hl (by decide) rfl (fun ls hl => ?_)
              refine lv_goto (tgt := 30) S.1 S.2.1 dX8_isOf_76 (by decide) ?_
              exact ih 0 x21 o H locs ls E hZ (lv_sub hl [0, 1, 2, 3, 4, 5] rfl) hex
            · have E := cd_tE c18 E
              refine lv_iconst (v := 1) S.1 S.2.1 dX8_isOf_57 (by decide) ?_
              refine lv_goto (tgt := 62) S.1 S.2.1 dX8_isOf_58 (by decide) ?_
              refine lv_istore (lv' := [(4, .int 1), (5, .int v30_5), (3, .int p30_3), (0, .ref (G.2.2.2.2 + 404)), (1, .int a1), (2, .int a2)]) S.1 S.2.1 dX8_isOf_62 hl (by decide) rfl (fun ls hl => ?_)
              refine lv_aload_n S.1 S.2.1 dX8_isOf_64 rfl (lv_at hl 3 rfl) ?_
              refine cd_get8 (v := .ref (G.2.2.2.2 + 405)) S hK hZ cd_this8 0 cd_f_X8_7 rfl dX8_isOf_65 ?_
              refine lv_iload S.1 S.2.1 dX8_isOf_68 (lv_at hl 1 rfl) ?_
              refine cd_cSi (As := [.int v30_5]) S hK hZ hl.1 (c_X8_taskAt l G v30_5 h _ rfl) cd_v_X8_taskAt cd_m_X8_67 ⟨Nat.le_of_ble_eq_true rfl, Nat.le_of_ble_eq_true rfl⟩ ⟨rfl, rfl⟩ rfl rfl (Nat.le_of_ble_eq_true rfl) ⟨Nat.zero_le _, Nat.zero_le _⟩ dX8_isOf_70 (fun H locs hZ => ?_)
              obtain ⟨z23, E⟩ := cd_ckE E
              refine cd_iald S hK hZ (cd_r8_0 cd_this8) z23 dX8_isOf_73 ?_
              obtain ⟨x24, ex24, E⟩ := cd_nmE E
              refine cd_topi ex24 ?_
              refine lv_istore (lv' := [(5, .int x24), (4, .int 1), (3, .int p30_3), (0, .ref (G.2.2.2.2 + 404)), (1, .int a1), (2, .int a2)]) S.1 S.2.1 dX8_isOf_74 hl (by decide) rfl (fun ls hl => ?_)
              refine lv_goto (tgt := 30) S.1 S.2.1 dX8_isOf_76 (by decide) ?_
              exact ih 1 x24 o H locs ls E hZ (lv_sub hl [0, 1, 2, 3, 4, 5] rfl) hex
  unfold f_X8_isOf at E
  refine lv_aload_n S.1 S.2.1 dX8_isOf_0 rfl (lv_at hl 0 rfl) ?_
  refine lv_iload_n S.1 S.2.1 dX8_isOf_1 rfl (lv_at hl 1 rfl) ?_
  refine lv_iconst (v := 0) S.1 S.2.1 dX8_isOf_2 (by decide) ?_
  obtain ⟨o1, E1, E⟩ := cd_bE E
  refine cd_cVi (As := [.int a1, .int 0]) S hK hZ hl.1 (c_X8_ofGroup l G a1 0 h o1 E1) cd_v_X8_ofGroup cd_m_X8_63 ⟨Nat.le_of_ble_eq_true rfl, Nat.le_of_ble_eq_true rfl⟩ ⟨rfl, rfl⟩ (ci := 8) (by decide) rfl cd_this8 rfl rfl (Nat.le_of_ble_eq_true rfl) ⟨Nat.zero_le _, Nat.zero_le _⟩ dX8_isOf_3 (fun H locs hZ => ?_)
  refine lv_istore_n (lv' := [(3, .int o1), (0, .ref (G.2.2.2.2 + 404)), (1, .int a1), (2, .int a2)]) S.1 S.2.1 dX8_isOf_6 rfl hl (by decide) rfl (fun ls hl => ?_)
  refine lv_iload_n S.1 S.2.1 dX8_isOf_7 rfl (lv_at hl 0 rfl) ?_
  refine lv_iload_n S.1 S.2.1 dX8_isOf_8 rfl (lv_at hl 3 rfl) ?_
  refine lv_icmp_ne (tgt := 16) S.1 S.2.1 dX8_isOf_9 (by decide) (fun c3 => ?_) (fun c3 => ?_)
  · have E := cd_fE c3 E
    refine lv_iconst (v := 0) S.1 S.2.1 dX8_isOf_16 (by decide) ?_
    refine lv_istore (lv' := [(4, .int 0), (3, .int o1), (0, .ref (G.2.2.2.2 + 404)), (1, .int a1), (2, .int a2)]) S.1 S.2.1 dX8_isOf_17 hl (by decide) rfl (fun ls hl => ?_)
    refine lv_aload_n S.1 S.2.1 dX8_isOf_19 rfl (lv_at hl 2 rfl) ?_
    refine cd_get8 (v := .ref (G.2.2.2.2 + 405)) S hK hZ cd_this8 0 cd_f_X8_7 rfl dX8_isOf_20 ?_
    refine lv_iload_n S.1 S.2.1 dX8_isOf_23 rfl (lv_at hl 4 rfl) ?_
    refine cd_cSi (As := [.int a2]) S hK hZ hl.1 (c_X8_taskAt l G a2 h _ rfl) cd_v_X8_taskAt cd_m_X8_67 ⟨Nat.le_of_ble_eq_true rfl, Nat.le_of_ble_eq_true rfl⟩ ⟨rfl, rfl⟩ rfl rfl (Nat.le_of_ble_eq_true rfl) ⟨Nat.zero_le _, Nat.zero_le _⟩ dX8_isOf_24 (fun H locs hZ => ?_)
    obtain ⟨z5, E⟩ := cd_ckE E
    refine cd_iald S hK hZ (cd_r8_0 cd_this8) z5 dX8_isOf_27 ?_
    obtain ⟨x6, ex6, E⟩ := cd_nmE E
    refine cd_topi ex6 ?_
    refine lv_istore (lv' := [(5, .int x6), (4, .int 0), (3, .int o1), (0, .ref (G.2.2.2.2 + 404)), (1, .int a1), (2, .int a2)]) S.1 S.2.1 dX8_isOf_28 hl (by decide) rfl (fun ls hl => ?_)
    obtain ⟨o25, E1, E⟩ := cd_bE E
    refine L30 o1 cd_fu 0 x6 o25 H locs ls E1 hZ (lv_sub hl [0, 1, 2, 3, 4, 5] rfl) (fun H locs ls hZ hl => ?_)
    refine lv_iload S.1 S.2.1 dX8_isOf_79 (lv_at hl 1 rfl) ?_
    obtain ⟨z26, E⟩ := cd_ckE E
    exact hret _ _ _ _ _ _ z26 (congrArg (fun z => (z, h)) (Option.some.inj E)) hZ dX8_isOf_81
  · have E := cd_tE c3 E
    refine lv_iconst (v := 1) S.1 S.2.1 dX8_isOf_12 (by decide) ?_
    refine lv_goto (tgt := 17) S.1 S.2.1 dX8_isOf_13 (by decide) ?_
    refine lv_istore (lv' := [(4, .int 1), (3, .int o1), (0, .ref (G.2.2.2.2 + 404)), (1, .int a1), (2, .int a2)]) S.1 S.2.1 dX8_isOf_17 hl (by decide) rfl (fun ls hl => ?_)
    refine lv_aload_n S.1 S.2.1 dX8_isOf_19 rfl (lv_at hl 2 rfl) ?_
    refine cd_get8 (v := .ref (G.2.2.2.2 + 405)) S hK hZ cd_this8 0 cd_f_X8_7 rfl dX8_isOf_20 ?_
    refine lv_iload_n S.1 S.2.1 dX8_isOf_23 rfl (lv_at hl 4 rfl) ?_
    refine cd_cSi (As := [.int a2]) S hK hZ hl.1 (c_X8_taskAt l G a2 h _ rfl) cd_v_X8_taskAt cd_m_X8_67 ⟨Nat.le_of_ble_eq_true rfl, Nat.le_of_ble_eq_true rfl⟩ ⟨rfl, rfl⟩ rfl rfl (Nat.le_of_ble_eq_true rfl) ⟨Nat.zero_le _, Nat.zero_le _⟩ dX8_isOf_24 (fun H locs hZ => ?_)
    obtain ⟨z28, E⟩ := cd_ckE E
    refine cd_iald S hK hZ (cd_r8_0 cd_this8) z28 dX8_isOf_27 ?_
    obtain ⟨x29, ex29, E⟩ := cd_nmE E
    refine cd_topi ex29 ?_
    refine lv_istore (lv' := [(5, .int x29), (4, .int 1), (3, .int o1), (0, .ref (G.2.2.2.2 + 404)), (1, .int a1), (2, .int a2)]) S.1 S.2.1 dX8_isOf_28 hl (by decide) rfl (fun ls hl => ?_)
    obtain ⟨o30, E1, E⟩ := cd_bE E
    refine L30 o1 cd_fu 1 x29 o30 H locs ls E1 hZ (lv_sub hl [0, 1, 2, 3, 4, 5] rfl) (fun H locs ls hZ hl => ?_)
    refine lv_iload S.1 S.2.1 dX8_isOf_79 (lv_at hl 1 rfl) ?_
    obtain ⟨z31, E⟩ := cd_ckE E
    exact hret _ _ _ _ _ _ z31 (congrArg (fun z => (z, h)) (Option.some.inj E)) hZ dX8_isOf_81
abbrev rm_X8_watchers : Room := { frames := 3, cells := 0, slots := 0, locals := 67 }
theorem cd_v_X8_watchers : cd_V yX8_watchers cX8_watchers 4 (some .int) 1 := ⟨cd_i_X8_watchers, cd_e_X8_X8_watchers, cd_n_X8, cd_c_X8_watchers, by decide +kernel⟩
set_option maxHeartbeats 4000000 in
set_option maxRecDepth 100000 in
theorem c_X8_watchers (l : Launch) (G : cd_G) (a1 : Int32) (h : cd_Hp) (out : Int32) (E : f_X8_watchers a1 h = some out) : cd_Mi l G yX8_watchers (Cond.code yX8_watchers cX8_watchers 4 (some .int) :: cd_T) rm_X8_watchers [.ref (G.2.2.2.2 + 404), .int a1] h (out, h) := by
  refine cd_ini (by decide) (Nat.le_of_ble_eq_true rfl) ?_
  intro p e s m args below meth c Q ls H locs S hK hZ hl hret
  have hl : lv_has ls 4 [(0, .ref (G.2.2.2.2 + 404)), (1, .int a1)] := hl
  have L4 : ∀ (n : Nat) (v4_2 : Int32) (v4_3 : Int32) (o : (Int32 × Int32)) (H : Heap) (locs : List Loc) (ls : Array Slot), cd_lp (f_X8_watchers_B4 a1 h) n (v4_2, v4_3) = some o → cd_Z G h s.heap H locs → lv_has ls 4 [(3, .int v4_3), (2, .int v4_2), (0, .ref (G.2.2.2.2 + 404)), (1, .int a1)] → (∀ (H : Heap) (locs : List Loc) (ls : Array Slot), cd_Z G h s.heap H locs → lv_has ls 4 [(3, .int o.2), (2, .int o.1), (0, .ref (G.2.2.2.2 + 404)), (1, .int a1)] → W p l e rm_X8_watchers s m args below meth c H locs 0 0 Q (F0 m 50 ls [])) → W p l e rm_X8_watchers s m args below meth c H locs 0 0 Q (F0 m 4 ls []) := by
    intro n
    induction n with
    | zero => intro v4_2 v4_3 o H locs ls E; exact nomatch (show (none : Option (Int32 × Int32)) = some o from E)
    | succ n ih =>
      intro v4_2 v4_3 o H locs ls E hZ hl hex
      have E : f_X8_watchers_B4 a1 h (cd_lp (f_X8_watchers_B4 a1 h) n) (v4_2, v4_3) = some o := E
      unfold f_X8_watchers_B4 at E
      dsimp only at E
      refine lv_iload_n S.1 S.2.1 dX8_watchers_4 rfl (lv_at hl 0 rfl) ?_
      refine lv_aload_n S.1 S.2.1 dX8_watchers_5 rfl (lv_at hl 2 rfl) ?_
      refine cd_get8 (v := .ref (G.2.2.2.2 + 405)) S hK hZ cd_this8 0 cd_f_X8_7 rfl dX8_watchers_6 ?_
      refine lv_bipush (v := 70) S.1 S.2.1 dX8_watchers_9 (by decide) ?_
      refine cd_iald S hK hZ (cd_r8_0 cd_this8) (by decide) dX8_watchers_11 ?_
      refine lv_icmp_ge (tgt := 50) S.1 S.2.1 dX8_watchers_12 (by decide) (fun c1 => ?_) (fun c1 => ?_)
      · have E := cd_tE c1 E
        cases E
        exact hex H locs ls hZ (lv_sub hl [0, 1, 2, 3] rfl)
      · have E := cd_fE c1 E
        refine lv_iload_n S.1 S.2.1 dX8_watchers_15 rfl (lv_at hl 1 rfl) ?_
        refine lv_aload_n S.1 S.2.1 dX8_watchers_16 rfl (lv_at hl 2 rfl) ?_
        refine lv_iload_n S.1 S.2.1 dX8_watchers_17 rfl (lv_at hl 0 rfl) ?_
        refine lv_iconst (v := 4) S.1 S.2.1 dX8_watchers_18 (by decide) ?_
        obtain ⟨o2, E1, E⟩ := cd_bE E
        refine cd_cVi (As := [.int v4_3, .int 4]) S hK hZ hl.1 (c_X8_ofGroup l G v4_3 4 h o2 E1) cd_v_X8_ofGroup cd_m_X8_63 ⟨Nat.le_of_ble_eq_true rfl, Nat.le_of_ble_eq_true rfl⟩ ⟨rfl, rfl⟩ (ci := 8) (by decide) rfl cd_this8 rfl rfl (Nat.le_of_ble_eq_true rfl) ⟨Nat.zero_le _, Nat.zero_le _⟩ dX8_watchers_19 (fun H locs hZ => ?_)
        refine lv_iconst (v := 1) S.1 S.2.1 dX8_watchers_22 (by decide) ?_
        refine lv_icmp_ne (tgt := 41) S.1 S.2.1 dX8_watchers_23 (by decide) (fun c4 => ?_) (fun c4 => ?_)
        · have E := cd_fE c4 E
          refine lv_iconst (v := 0) S.1 S.2.1 dX8_watchers_41 (by decide) ?_
          refine lv_ior S.1 S.2.1 dX8_watchers_42 ?_
          obtain ⟨x5, ex5, E⟩ := cd_nmE E
          refine cd_topi ex5 ?_
          refine lv_istore_n (lv' := [(2, .int x5), (3, .int v4_3), (0, .ref (G.2.2.2.2 + 404)), (1, .int a1)]) S.1 S.2.1 dX8_watchers_43 rfl hl (by decide) rfl (fun ls hl => ?_)
          obtain ⟨x6, ex6, E⟩ := cd_nmE E
          refine lv_iinc (v := x6) (lv' := [(3, .int x6), (2, .int x5), (0, .ref (G.2.2.2.2 + 404)), (1, .int a1)]) S.1 S.2.1 dX8_watchers_44 hl (k := 1) rfl (by rw [ex6]; rfl) (by decide) rfl (fun ls hl => ?_)
          refine lv_goto (tgt := 4) S.1 S.2.1 dX8_watchers_47 (by decide) ?_
          exact ih x5 x6 o H locs ls E hZ (lv_sub hl [0, 1, 2, 3] rfl) hex
        · have E := cd_tE c4 E
          refine lv_aload_n S.1 S.2.1 dX8_watchers_26 rfl (lv_at hl 2 rfl) ?_
          refine lv_iload_n S.1 S.2.1 dX8_watchers_27 rfl (lv_at hl 0 rfl) ?_
          refine lv_iload_n S.1 S.2.1 dX8_watchers_28 rfl (lv_at hl 3 rfl) ?_
          obtain ⟨o7, E1, E⟩ := cd_bE E
          refine cd_cVz (As := [.int v4_3, .int a1]) S hK hZ hl.1 (c_X8_isOf l G v4_3 a1 h o7 E1) cd_v_X8_isOf cd_m_X8_129 ⟨Nat.le_of_ble_eq_true rfl, Nat.le_of_ble_eq_true rfl⟩ ⟨rfl, rfl⟩ (ci := 8) (by decide) rfl cd_this8 rfl rfl (Nat.le_of_ble_eq_true rfl) ⟨Nat.zero_le _, Nat.zero_le _⟩ dX8_watchers_29 (fun H locs hZ b8 => ?_)
          refine lv_if_eq (tgt := 41) S.1 S.2.1 dX8_watchers_32 (by decide) (fun c9 => ?_) (fun c9 => ?_)
          · have E := cd_tE c9 E
            refine lv_iconst (v := 0) S.1 S.2.1 dX8_watchers_41 (by decide) ?_
            refine lv_ior S.1 S.2.1 dX8_watchers_42 ?_
            obtain ⟨x10, ex10, E⟩ := cd_nmE E
            refine cd_topi ex10 ?_
            refine lv_istore_n (lv' := [(2, .int x10), (3, .int v4_3), (0, .ref (G.2.2.2.2 + 404)), (1, .int a1)]) S.1 S.2.1 dX8_watchers_43 rfl hl (by decide) rfl (fun ls hl => ?_)
            obtain ⟨x11, ex11, E⟩ := cd_nmE E
            refine lv_iinc (v := x11) (lv' := [(3, .int x11), (2, .int x10), (0, .ref (G.2.2.2.2 + 404)), (1, .int a1)]) S.1 S.2.1 dX8_watchers_44 hl (k := 1) rfl (by rw [ex11]; rfl) (by decide) rfl (fun ls hl => ?_)
            refine lv_goto (tgt := 4) S.1 S.2.1 dX8_watchers_47 (by decide) ?_
            exact ih x10 x11 o H locs ls E hZ (lv_sub hl [0, 1, 2, 3] rfl) hex
          · have E := cd_fE c9 E
            refine lv_iconst (v := 1) S.1 S.2.1 dX8_watchers_35 (by decide) ?_
            refine lv_iload_n S.1 S.2.1 dX8_watchers_36 rfl (lv_at hl 0 rfl) ?_
            refine lv_ishl S.1 S.2.1 dX8_watchers_37 ?_
            refine lv_goto (tgt := 42) S.1 S.2.1 dX8_watchers_38 (by decide) ?_
            refine lv_ior S.1 S.2.1 dX8_watchers_42 ?_
            obtain ⟨x12, ex12, E⟩ := cd_nmE E
            refine cd_topi ex12 ?_
            refine lv_istore_n (lv' := [(2, .int x12), (3, .int v4_3), (0, .ref (G.2.2.2.2 + 404)), (1, .int a1)]) S.1 S.2.1 dX8_watchers_43 rfl hl (by decide) rfl (fun ls hl => ?_)
            obtain ⟨x13, ex13, E⟩ := cd_nmE E
            refine lv_iinc (v := x13) (lv' := [(3, .int x13), (2, .int x12), (0, .ref (G.2.2.2.2 + 404)), (1, .int a1)]) S.1 S.2.1 dX8_watchers_44 hl (k := 1) rfl (by rw [ex13]; rfl) (by decide) rfl (fun ls hl => ?_)
            refine lv_goto (tgt := 4) S.1 S.2.1 dX8_watchers_47 (by decide) ?_
            exact ih x12 x13 o H locs ls E hZ (lv_sub hl [0, 1, 2, 3] rfl) hex
  unfold f_X8_watchers at E
  refine lv_iconst (v := 0) S.1 S.2.1 dX8_watchers_0 (by decide) ?_
  refine lv_istore_n (lv' := [(2, .int 0), (0, .ref (G.2.2.2.2 + 404)), (1, .int a1)]) S.1 S.2.1 dX8_watchers_1 rfl hl (by decide) rfl (fun ls hl => ?_)
  refine lv_iconst (v := 0) S.1 S.2.1 dX8_watchers_2 (by decide) ?_
  refine lv_istore_n (lv' := [(3, .int 0), (2, .int 0), (0, .ref (G.2.2.2.2 + 404)), (1, .int a1)]) S.1 S.2.1 dX8_watchers_3 rfl hl (by decide) rfl (fun ls hl => ?_)
  obtain ⟨o14, E1, E⟩ := cd_bE E
  refine L4 cd_fu 0 0 o14 H locs ls E1 hZ (lv_sub hl [0, 1, 2, 3] rfl) (fun H locs ls hZ hl => ?_)
  refine lv_iload_n S.1 S.2.1 dX8_watchers_50 rfl (lv_at hl 1 rfl) ?_
  exact hret _ _ _ _ _ _ (congrArg (fun z => (z, h)) (Option.some.inj E)) hZ dX8_watchers_51
abbrev rm_X8_isRow : Room := { frames := 1, cells := 0, slots := 0, locals := 21 }
theorem cd_v_X8_isRow : cd_V yX8_isRow cX8_isRow 7 (some .boolean) 1 := ⟨cd_i_X8_isRow, cd_e_X8_X8_isRow, cd_n_X8, cd_c_X8_isRow, by decide +kernel⟩
set_option maxHeartbeats 4000000 in
set_option maxRecDepth 100000 in
theorem c_X8_isRow (l : Launch) (G : cd_G) (a1 : Int32) (h : cd_Hp) (out : (Int32 × cd_Hp)) (E : f_X8_isRow a1 h = some out) : cd_Mz l G yX8_isRow (Cond.code yX8_isRow cX8_isRow 7 (some .boolean) :: cd_T) rm_X8_isRow [.ref (G.2.2.2.2 + 404), .int a1] h out := by
  refine cd_inz (by decide) (Nat.le_of_ble_eq_true rfl) ?_
  intro p e s m args below meth c Q ls H locs S hK hZ hl hret
  have hl : lv_has ls 7 [(0, .ref (G.2.2.2.2 + 404)), (1, .int a1)] := hl
  have L15 : ∀ (n : Nat) (v15_2 : Int32) (v15_3 : Int32) (v15_4 : Int32) (v15_5 : Int32) (h15_ : cd_Hp) (o : (Int32 × Int32 × Int32 × Int32 × cd_Hp)) (H : Heap) (locs : List Loc) (ls : Array Slot), cd_lp (f_X8_isRow_B15 a1) n (v15_2, v15_3, v15_4, v15_5, h15_) = some o → cd_Z G h15_ s.heap H locs → lv_has ls 7 [(5, .int v15_5), (4, .int v15_4), (3, .int v15_3), (2, .int v15_2), (0, .ref (G.2.2.2.2 + 404)), (1, .int a1)] → (∀ (H : Heap) (locs : List Loc) (ls : Array Slot), cd_Z G o.2.2.2.2 s.heap H locs → lv_has ls 7 [(5, .int o.2.2.2.1), (4, .int o.2.2.1), (3, .int o.2.1), (2, .int o.1), (0, .ref (G.2.2.2.2 + 404)), (1, .int a1)] → W p l e rm_X8_isRow s m args below meth c H locs 0 0 Q (F0 m 105 ls [])) → W p l e rm_X8_isRow s m args below meth c H locs 0 0 Q (F0 m 15 ls []) := by
    intro n
    induction n with
    | zero => intro v15_2 v15_3 v15_4 v15_5 h15_ o H locs ls E; exact nomatch (show (none : Option (Int32 × Int32 × Int32 × Int32 × cd_Hp)) = some o from E)
    | succ n ih =>
      intro v15_2 v15_3 v15_4 v15_5 h15_ o H locs ls E hZ hl hex
      have E : f_X8_isRow_B15 a1 (cd_lp (f_X8_isRow_B15 a1) n) (v15_2, v15_3, v15_4, v15_5, h15_) = some o := E
      unfold f_X8_isRow_B15 at E
      dsimp only at E
      refine lv_iload S.1 S.2.1 dX8_isRow_15 (lv_at hl 0 rfl) ?_
      refine lv_if_lt (tgt := 105) S.1 S.2.1 dX8_isRow_17 (by decide) (fun c2 => ?_) (fun c2 => ?_)
      · have E := cd_tE c2 E
        cases E
        exact hex H locs ls hZ (lv_sub hl [0, 1, 2, 3, 4, 5] rfl)
      · have E := cd_fE c2 E
        refine lv_iload_n S.1 S.2.1 dX8_isRow_20 rfl (lv_at hl 3 rfl) ?_
        refine lv_iconst (v := 4) S.1 S.2.1 dX8_isRow_21 (by decide) ?_
        refine lv_irem S.1 S.2.1 dX8_isRow_22 (by decide) ?_
        obtain ⟨x3, ex3, E⟩ := cd_nmE E
        refine cd_topi ex3 ?_
        refine lv_istore (lv' := [(6, .int x3), (5, .int v15_5), (4, .int v15_4), (3, .int v15_3), (2, .int v15_2), (0, .ref (G.2.2.2.2 + 404)), (1, .int a1)]) S.1 S.2.1 dX8_isRow_23 hl (by decide) rfl (fun ls hl => ?_)
        refine lv_iload_n S.1 S.2.1 dX8_isRow_25 rfl (lv_at hl 4 rfl) ?_
        refine lv_iconst (v := 4) S.1 S.2.1 dX8_isRow_26 (by decide) ?_
        refine lv_idiv S.1 S.2.1 dX8_isRow_27 (by decide) ?_
        obtain ⟨x4, ex4, E⟩ := cd_nmE E
        refine cd_topi ex4 ?_
        refine lv_istore_n (lv' := [(2, .int x4), (6, .int x3), (5, .int v15_5), (4, .int v15_4), (3, .int v15_3), (0, .ref (G.2.2.2.2 + 404)), (1, .int a1)]) S.1 S.2.1 dX8_isRow_28 rfl hl (by decide) rfl (fun ls hl => ?_)
        refine lv_aload_n S.1 S.2.1 dX8_isRow_29 rfl (lv_at hl 5 rfl) ?_
        refine cd_get8 (v := .ref (G.2.2.2.2 + 412)) S hK hZ cd_this8 10 cd_f_X8_31 rfl dX8_isRow_30 ?_
        refine lv_iload S.1 S.2.1 dX8_isRow_33 (lv_at hl 2 rfl) ?_
        refine lv_iload S.1 S.2.1 dX8_isRow_35 (lv_at hl 1 rfl) ?_
        obtain ⟨z5, E⟩ := cd_ckE E
        obtain ⟨h6, eh6, E⟩ := cd_nmE E
        refine cd_iast S hK hZ (cd_r8_10 cd_this8) z5 eh6 dX8_isRow_37 (fun H locs hZ => ?_)
        refine lv_iload S.1 S.2.1 dX8_isRow_38 (lv_at hl 3 rfl) ?_
        refine lv_if_eq (tgt := 89) S.1 S.2.1 dX8_isRow_40 (by decide) (fun c7 => ?_) (fun c7 => ?_)
        · have E := cd_tE c7 E
          refine lv_iconst (v := 0) S.1 S.2.1 dX8_isRow_89 (by decide) ?_
          refine lv_istore (lv' := [(4, .int 0), (2, .int x4), (6, .int x3), (5, .int v15_5), (3, .int v15_3), (0, .ref (G.2.2.2.2 + 404)), (1, .int a1)]) S.1 S.2.1 dX8_isRow_90 hl (by decide) rfl (fun ls hl => ?_)
          refine lv_iload_n S.1 S.2.1 dX8_isRow_92 rfl (lv_at hl 4 rfl) ?_
          refine lv_iconst (v := 1) S.1 S.2.1 dX8_isRow_93 (by decide) ?_
          refine lv_iload S.1 S.2.1 dX8_isRow_94 (lv_at hl 2 rfl) ?_
          refine lv_ishl S.1 S.2.1 dX8_isRow_96 ?_
          refine lv_ior S.1 S.2.1 dX8_isRow_97 ?_
          obtain ⟨x8, ex8, E⟩ := cd_nmE E
          refine cd_topi ex8 ?_
          refine lv_istore_n (lv' := [(3, .int x8), (4, .int 0), (2, .int x4), (6, .int x3), (5, .int v15_5), (0, .ref (G.2.2.2.2 + 404)), (1, .int a1)]) S.1 S.2.1 dX8_isRow_98 rfl hl (by decide) rfl (fun ls hl => ?_)
          obtain ⟨x9, ex9, E⟩ := cd_nmE E
          refine lv_iinc (v := x9) (lv' := [(5, .int x9), (3, .int x8), (4, .int 0), (2, .int x4), (6, .int x3), (0, .ref (G.2.2.2.2 + 404)), (1, .int a1)]) S.1 S.2.1 dX8_isRow_99 hl (k := 4) rfl (by rw [ex9]; rfl) (by decide) rfl (fun ls hl => ?_)
          refine lv_goto (tgt := 15) S.1 S.2.1 dX8_isRow_102 (by decide) ?_
          exact ih x4 x8 0 x9 h6 o H locs ls E hZ (lv_sub hl [0, 2, 1, 3, 5, 6] rfl) hex
        · have E := cd_fE c7 E
          refine lv_iload S.1 S.2.1 dX8_isRow_43 (lv_at hl 1 rfl) ?_
          refine lv_aload_n S.1 S.2.1 dX8_isRow_45 rfl (lv_at hl 5 rfl) ?_
          refine cd_get8 (v := .ref (G.2.2.2.2 + 405)) S hK hZ cd_this8 0 cd_f_X8_7 rfl dX8_isRow_46 ?_
          refine lv_iconst (v := 0) S.1 S.2.1 dX8_isRow_49 (by decide) ?_
          refine cd_iald S hK hZ (cd_r8_0 cd_this8) (by decide) dX8_isRow_50 ?_
          refine lv_icmp_ge (tgt := 89) S.1 S.2.1 dX8_isRow_51 (by decide) (fun c10 => ?_) (fun c10 => ?_)
          · have E := cd_tE c10 E
            refine lv_iconst (v := 0) S.1 S.2.1 dX8_isRow_89 (by decide) ?_
            refine lv_istore (lv' := [(4, .int 0), (2, .int x4), (6, .int x3), (5, .int v15_5), (3, .int v15_3), (0, .ref (G.2.2.2.2 + 404)), (1, .int a1)]) S.1 S.2.1 dX8_isRow_90 hl (by decide) rfl (fun ls hl => ?_)
            refine lv_iload_n S.1 S.2.1 dX8_isRow_92 rfl (lv_at hl 4 rfl) ?_
            refine lv_iconst (v := 1) S.1 S.2.1 dX8_isRow_93 (by decide) ?_
            refine lv_iload S.1 S.2.1 dX8_isRow_94 (lv_at hl 2 rfl) ?_
            refine lv_ishl S.1 S.2.1 dX8_isRow_96 ?_
            refine lv_ior S.1 S.2.1 dX8_isRow_97 ?_
            obtain ⟨x11, ex11, E⟩ := cd_nmE E
            refine cd_topi ex11 ?_
            refine lv_istore_n (lv' := [(3, .int x11), (4, .int 0), (2, .int x4), (6, .int x3), (5, .int v15_5), (0, .ref (G.2.2.2.2 + 404)), (1, .int a1)]) S.1 S.2.1 dX8_isRow_98 rfl hl (by decide) rfl (fun ls hl => ?_)
            obtain ⟨x12, ex12, E⟩ := cd_nmE E
            refine lv_iinc (v := x12) (lv' := [(5, .int x12), (3, .int x11), (4, .int 0), (2, .int x4), (6, .int x3), (0, .ref (G.2.2.2.2 + 404)), (1, .int a1)]) S.1 S.2.1 dX8_isRow_99 hl (k := 4) rfl (by rw [ex12]; rfl) (by decide) rfl (fun ls hl => ?_)
            refine lv_goto (tgt := 15) S.1 S.2.1 dX8_isRow_102 (by decide) ?_
            exact ih x4 x11 0 x12 h6 o H locs ls E hZ (lv_sub hl [0, 2, 1, 3, 5, 6] rfl) hex
          · have E := cd_fE c10 E
            refine lv_aload_n S.1 S.2.1 dX8_isRow_54 rfl (lv_at hl 5 rfl) ?_
            refine cd_get8 (v := .ref (G.2.2.2.2 + 405)) S hK hZ cd_this8 0 cd_f_X8_7 rfl dX8_isRow_55 ?_
            refine lv_iconst (v := 1) S.1 S.2.1 dX8_isRow_58 (by decide) ?_
            refine lv_aload_n S.1 S.2.1 dX8_isRow_59 rfl (lv_at hl 5 rfl) ?_
            refine cd_get8 (v := .ref (G.2.2.2.2 + 410)) S hK hZ cd_this8 7 cd_f_X8_25 rfl dX8_isRow_60 ?_
            refine lv_iload S.1 S.2.1 dX8_isRow_63 (lv_at hl 2 rfl) ?_
            obtain ⟨z13, E⟩ := cd_ckE E
            refine cd_iald S hK hZ (cd_r8_7 cd_this8) z13 dX8_isRow_65 ?_
            refine lv_iadd S.1 S.2.1 dX8_isRow_66 ?_
            obtain ⟨z14, E⟩ := cd_ckE E
            refine cd_iald S hK hZ (cd_r8_0 cd_this8) z14 dX8_isRow_67 ?_
            refine lv_iload S.1 S.2.1 dX8_isRow_68 (lv_at hl 1 rfl) ?_
            refine cd_cSz (As := [.int (cd_g h6 405 ((1 + (cd_g h6 410 (v15_5.toNatClampNeg))).toNatClampNeg)), .int x3]) S hK hZ hl.1 (c_X8_has l G (cd_g h6 405 ((1 + (cd_g h6 410 (v15_5.toNatClampNeg))).toNatClampNeg)) x3 h6 _ rfl) cd_v_X8_has cd_m_X8_135 ⟨Nat.le_of_ble_eq_true rfl, Nat.le_of_ble_eq_true rfl⟩ ⟨rfl, rfl⟩ rfl rfl (Nat.le_of_ble_eq_true rfl) ⟨Nat.zero_le _, Nat.zero_le _⟩ dX8_isRow_70 (fun H locs hZ b15 => ?_)
            refine lv_if_eq (tgt := 89) S.1 S.2.1 dX8_isRow_73 (by decide) (fun c16 => ?_) (fun c16 => ?_)
            · have E := cd_tE c16 E
              refine lv_iconst (v := 0) S.1 S.2.1 dX8_isRow_89 (by decide) ?_
              refine lv_istore (lv' := [(4, .int 0), (2, .int x4), (6, .int x3), (5, .int v15_5), (3, .int v15_3), (0, .ref (G.2.2.2.2 + 404)), (1, .int a1)]) S.1 S.2.1 dX8_isRow_90 hl (by decide) rfl (fun ls hl => ?_)
              refine lv_iload_n S.1 S.2.1 dX8_isRow_92 rfl (lv_at hl 4 rfl) ?_
              refine lv_iconst (v := 1) S.1 S.2.1 dX8_isRow_93 (by decide) ?_
              refine lv_iload S.1 S.2.1 dX8_isRow_94 (lv_at hl 2 rfl) ?_
              refine lv_ishl S.1 S.2.1 dX8_isRow_96 ?_
              refine lv_ior S.1 S.2.1 dX8_isRow_97 ?_
              obtain ⟨x17, ex17, E⟩ := cd_nmE E
              refine cd_topi ex17 ?_
              refine lv_istore_n (lv' := [(3, .int x17), (4, .int 0), (2, .int x4), (6, .int x3), (5, .int v15_5), (0, .ref (G.2.2.2.2 + 404)), (1, .int a1)]) S.1 S.2.1 dX8_isRow_98 rfl hl (by decide) rfl (fun ls hl => ?_)
              obtain ⟨x18, ex18, E⟩ := cd_nmE E
              refine lv_iinc (v := x18) (lv' := [(5, .int x18), (3, .int x17), (4, .int 0), (2, .int x4), (6, .int x3), (0, .ref (G.2.2.2.2 + 404)), (1, .int a1)]) S.1 S.2.1 dX8_isRow_99 hl (k := 4) rfl (by rw [ex18]; rfl) (by decide) rfl (fun ls hl => ?_)
              refine lv_goto (tgt := 15) S.1 S.2.1 dX8_isRow_102 (by decide) ?_
              exact ih x4 x17 0 x18 h6 o H locs ls E hZ (lv_sub hl [0, 2, 1, 3, 5, 6] rfl) hex
            · have E := cd_fE c16 E
              refine lv_iload_n S.1 S.2.1 dX8_isRow_76 rfl (lv_at hl 4 rfl) ?_
              refine lv_iload S.1 S.2.1 dX8_isRow_77 (lv_at hl 1 rfl) ?_
              refine cd_cSz (As := [.int v15_3, .int x3]) S hK hZ hl.1 (c_X8_has l G v15_3 x3 h6 _ rfl) cd_v_X8_has cd_m_X8_135 ⟨Nat.le_of_ble_eq_true rfl, Nat.le_of_ble_eq_true rfl⟩ ⟨rfl, rfl⟩ rfl rfl (Nat.le_of_ble_eq_true rfl) ⟨Nat.zero_le _, Nat.zero_le _⟩ dX8_isRow_79 (fun H locs hZ b19 => ?_)
              refine lv_if_ne (tgt := 89) S.1 S.2.1 dX8_isRow_82 (by decide) (fun c20 => ?_) (fun c20 => ?_)
              · have E := cd_fE c20 E
                refine lv_iconst (v := 0) S.1 S.2.1 dX8_isRow_89 (by decide) ?_
                refine lv_istore (lv' := [(4, .int 0), (2, .int x4), (6, .int x3), (5, .int v15_5), (3, .int v15_3), (0, .ref (G.2.2.2.2 + 404)), (1, .int a1)]) S.1 S.2.1 dX8_isRow_90 hl (by decide) rfl (fun ls hl => ?_)
                refine lv_iload_n S.1 S.2.1 dX8_isRow_92 rfl (lv_at hl 4 rfl) ?_
                refine lv_iconst (v := 1) S.1 S.2.1 dX8_isRow_93 (by decide) ?_
                refine lv_iload S.1 S.2.1 dX8_isRow_94 (lv_at hl 2 rfl) ?_
                refine lv_ishl S.1 S.2.1 dX8_isRow_96 ?_
                refine lv_ior S.1 S.2.1 dX8_isRow_97 ?_
                obtain ⟨x21, ex21, E⟩ := cd_nmE E
                refine cd_topi ex21 ?_
                refine lv_istore_n (lv' := [(3, .int x21), (4, .int 0), (2, .int x4), (6, .int x3), (5, .int v15_5), (0, .ref (G.2.2.2.2 + 404)), (1, .int a1)]) S.1 S.2.1 dX8_isRow_98 rfl hl (by decide) rfl (fun ls hl => ?_)
                obtain ⟨x22, ex22, E⟩ := cd_nmE E
                refine lv_iinc (v := x22) (lv' := [(5, .int x22), (3, .int x21), (4, .int 0), (2, .int x4), (6, .int x3), (0, .ref (G.2.2.2.2 + 404)), (1, .int a1)]) S.1 S.2.1 dX8_isRow_99 hl (k := 4) rfl (by rw [ex22]; rfl) (by decide) rfl (fun ls hl => ?_)
                refine lv_goto (tgt := 15) S.1 S.2.1 dX8_isRow_102 (by decide) ?_
                exact ih x4 x21 0 x22 h6 o H locs ls E hZ (lv_sub hl [0, 2, 1, 3, 5, 6] rfl) hex
              · have E := cd_tE c20 E
                refine lv_iconst (v := 1) S.1 S.2.1 dX8_isRow_85 (by decide) ?_
                refine lv_goto (tgt := 90) S.1 S.2.1 dX8_isRow_86 (by decide) ?_
                refine lv_istore (lv' := [(4, .int 1), (2, .int x4), (6, .int x3), (5, .int v15_5), (3, .int v15_3), (0, .ref (G.2.2.2.2 + 404)), (1, .int a1)]) S.1 S.2.1 dX8_isRow_90 hl (by decide) rfl (fun ls hl => ?_)
                refine lv_iload_n S.1 S.2.1 dX8_isRow_92 rfl (lv_at hl 4 rfl) ?_
                refine lv_iconst (v := 1) S.1 S.2.1 dX8_isRow_93 (by decide) ?_
                refine lv_iload S.1 S.2.1 dX8_isRow_94 (lv_at hl 2 rfl) ?_
                refine lv_ishl S.1 S.2.1 dX8_isRow_96 ?_
                refine lv_ior S.1 S.2.1 dX8_isRow_97 ?_
                obtain ⟨x23, ex23, E⟩ := cd_nmE E
                refine cd_topi ex23 ?_
                refine lv_istore_n (lv' := [(3, .int x23), (4, .int 1), (2, .int x4), (6, .int x3), (5, .int v15_5), (0, .ref (G.2.2.2.2 + 404)), (1, .int a1)]) S.1 S.2.1 dX8_isRow_98 rfl hl (by decide) rfl (fun ls hl => ?_)
                obtain ⟨x24, ex24, E⟩ := cd_nmE E
                refine lv_iinc (v := x24) (lv' := [(5, .int x24), (3, .int x23), (4, .int 1), (2, .int x4), (6, .int x3), (0, .ref (G.2.2.2.2 + 404)), (1, .int a1)]) S.1 S.2.1 dX8_isRow_99 hl (k := 4) rfl (by rw [ex24]; rfl) (by decide) rfl (fun ls hl => ?_)
                refine lv_goto (tgt := 15) S.1 S.2.1 dX8_isRow_102 (by decide) ?_
                exact ih x4 x23 1 x24 h6 o H locs ls E hZ (lv_sub hl [0, 2, 1, 3, 5, 6] rfl) hex
  unfold f_X8_isRow at E
  refine lv_iload_n S.1 S.2.1 dX8_isRow_0 rfl (lv_at hl 1 rfl) ?_
  refine lv_istore_n (lv' := [(2, .int a1), (0, .ref (G.2.2.2.2 + 404)), (1, .int a1)]) S.1 S.2.1 dX8_isRow_1 rfl hl (by decide) rfl (fun ls hl => ?_)
  refine lv_iconst (v := 0) S.1 S.2.1 dX8_isRow_2 (by decide) ?_
  refine lv_istore_n (lv' := [(3, .int 0), (2, .int a1), (0, .ref (G.2.2.2.2 + 404)), (1, .int a1)]) S.1 S.2.1 dX8_isRow_3 rfl hl (by decide) rfl (fun ls hl => ?_)
  refine lv_iconst (v := 1) S.1 S.2.1 dX8_isRow_4 (by decide) ?_
  refine lv_istore (lv' := [(4, .int 1), (3, .int 0), (2, .int a1), (0, .ref (G.2.2.2.2 + 404)), (1, .int a1)]) S.1 S.2.1 dX8_isRow_5 hl (by decide) rfl (fun ls hl => ?_)
  refine lv_aload_n S.1 S.2.1 dX8_isRow_7 rfl (lv_at hl 3 rfl) ?_
  refine cd_get8 (v := .int (cd_g h 404 9)) S hK hZ cd_this8 9 cd_f_X8_132 rfl dX8_isRow_8 ?_
  refine lv_iconst (v := 1) S.1 S.2.1 dX8_isRow_11 (by decide) ?_
  refine lv_isub S.1 S.2.1 dX8_isRow_12 ?_
  obtain ⟨x1, ex1, E⟩ := cd_nmE E
  refine cd_topi ex1 ?_
  refine lv_istore (lv' := [(5, .int x1), (4, .int 1), (3, .int 0), (2, .int a1), (0, .ref (G.2.2.2.2 + 404)), (1, .int a1)]) S.1 S.2.1 dX8_isRow_13 hl (by decide) rfl (fun ls hl => ?_)
  obtain ⟨o25, E1, E⟩ := cd_bE E
  refine L15 cd_fu a1 0 1 x1 h o25 H locs ls E1 hZ (lv_sub hl [0, 1, 2, 3, 4, 5] rfl) (fun H locs ls hZ hl => ?_)
  refine lv_iload S.1 S.2.1 dX8_isRow_105 (lv_at hl 1 rfl) ?_
  obtain ⟨z26, E⟩ := cd_ckE E
  exact hret _ _ _ _ _ _ z26 (Option.some.inj E) hZ dX8_isRow_107
abbrev rm_X8_canSit : Room := { frames := 2, cells := 0, slots := 0, locals := 47 }
theorem cd_v_X8_canSit : cd_V yX8_canSit cX8_canSit 3 (some .boolean) 0 := ⟨cd_i_X8_canSit, cd_e_X8_X8_canSit, cd_n_X8, cd_c_X8_canSit, by decide +kernel⟩
set_option maxHeartbeats 4000000 in
set_option maxRecDepth 100000 in
theorem c_X8_canSit (l : Launch) (G : cd_G)  (h : cd_Hp) (out : (Int32 × cd_Hp)) (E : f_X8_canSit h = some out) : cd_Mz l G yX8_canSit (Cond.code yX8_canSit cX8_canSit 3 (some .boolean) :: cd_T) rm_X8_canSit [.ref (G.2.2.2.2 + 404)] h out := by
  refine cd_inz (by decide) (Nat.le_of_ble_eq_true rfl) ?_
  intro p e s m args below meth c Q ls H locs S hK hZ hl hret
  have hl : lv_has ls 3 [(0, .ref (G.2.2.2.2 + 404))] := hl
  have L4 : ∀ (h4_ : cd_Hp), ∀ (n : Nat) (v4_1 : Int32) (v4_2 : Int32) (o : (Int32 × Int32)) (H : Heap) (locs : List Loc) (ls : Array Slot), cd_lp (f_X8_canSit_B4 h4_) n (v4_1, v4_2) = some o → cd_Z G h4_ s.heap H locs → lv_has ls 3 [(2, .int v4_2), (1, .int v4_1), (0, .ref (G.2.2.2.2 + 404))] → (∀ (H : Heap) (locs : List Loc) (ls : Array Slot), cd_Z G h4_ s.heap H locs → lv_has ls 3 [(2, .int o.2), (1, .int o.1), (0, .ref (G.2.2.2.2 + 404))] → W p l e rm_X8_canSit s m args below meth c H locs 0 0 Q (F0 m 22 ls [])) → W p l e rm_X8_canSit s m args below meth c H locs 0 0 Q (F0 m 4 ls []) := by
    intro h4_
    intro n
    induction n with
    | zero => intro v4_1 v4_2 o H locs ls E; exact nomatch (show (none : Option (Int32 × Int32)) = some o from E)
    | succ n ih =>
      intro v4_1 v4_2 o H locs ls E hZ hl hex
      have E : f_X8_canSit_B4 h4_ (cd_lp (f_X8_canSit_B4 h4_) n) (v4_1, v4_2) = some o := E
      unfold f_X8_canSit_B4 at E
      dsimp only at E
      refine lv_iload_n S.1 S.2.1 dX8_canSit_4 rfl (lv_at hl 0 rfl) ?_
      refine lv_aload_n S.1 S.2.1 dX8_canSit_5 rfl (lv_at hl 2 rfl) ?_
      refine cd_get8 (v := .int (cd_g h4_ 404 9)) S hK hZ cd_this8 9 cd_f_X8_132 rfl dX8_canSit_6 ?_
      refine lv_icmp_ge (tgt := 22) S.1 S.2.1 dX8_canSit_9 (by decide) (fun c1 => ?_) (fun c1 => ?_)
      · have E := cd_tE c1 E
        cases E
        exact hex H locs ls hZ (lv_sub hl [0, 1, 2] rfl)
      · have E := cd_fE c1 E
        refine lv_iload_n S.1 S.2.1 dX8_canSit_12 rfl (lv_at hl 1 rfl) ?_
        refine lv_iconst (v := 4) S.1 S.2.1 dX8_canSit_13 (by decide) ?_
        refine lv_imul S.1 S.2.1 dX8_canSit_14 ?_
        obtain ⟨x2, ex2, E⟩ := cd_nmE E
        refine cd_topi ex2 ?_
        refine lv_istore_n (lv' := [(1, .int x2), (2, .int v4_2), (0, .ref (G.2.2.2.2 + 404))]) S.1 S.2.1 dX8_canSit_15 rfl hl (by decide) rfl (fun ls hl => ?_)
        obtain ⟨x3, ex3, E⟩ := cd_nmE E
        refine lv_iinc (v := x3) (lv' := [(2, .int x3), (1, .int x2), (0, .ref (G.2.2.2.2 + 404))]) S.1 S.2.1 dX8_canSit_16 hl (k := 1) rfl (by rw [ex3]; rfl) (by decide) rfl (fun ls hl => ?_)
        refine lv_goto (tgt := 4) S.1 S.2.1 dX8_canSit_19 (by decide) ?_
        exact ih x2 x3 o H locs ls E hZ (lv_sub hl [0, 1, 2] rfl) hex
  have L24 : ∀ (p24_1 : Int32), ∀ (n : Nat) (v24_2 : Int32) (h24_ : cd_Hp) (o : ((Int32 × cd_Hp) ⊕ (Int32 × cd_Hp))) (H : Heap) (locs : List Loc) (ls : Array Slot), cd_lp (f_X8_canSit_B24 p24_1) n (v24_2, h24_) = some o → cd_Z G h24_ s.heap H locs → lv_has ls 3 [(2, .int v24_2), (1, .int p24_1), (0, .ref (G.2.2.2.2 + 404))] → (∀ x, o = .inl x → x = out) → (∀ st, o = .inr st → ∀ (H : Heap) (locs : List Loc) (ls : Array Slot), cd_Z G st.2 s.heap H locs → lv_has ls 3 [(2, .int st.1), (1, .int p24_1), (0, .ref (G.2.2.2.2 + 404))] → W p l e rm_X8_canSit s m args below meth c H locs 0 0 Q (F0 m 45 ls [])) → W p l e rm_X8_canSit s m args below meth c H locs 0 0 Q (F0 m 24 ls []) := by
    intro p24_1
    intro n
    induction n with
    | zero => intro v24_2 h24_ o H locs ls E; exact nomatch (show (none : Option ((Int32 × cd_Hp) ⊕ (Int32 × cd_Hp))) = some o from E)
    | succ n ih =>
      intro v24_2 h24_ o H locs ls E hZ hl hin hex
      have E : f_X8_canSit_B24 p24_1 (cd_lp (f_X8_canSit_B24 p24_1) n) (v24_2, h24_) = some o := E
      unfold f_X8_canSit_B24 at E
      dsimp only at E
      refine lv_iload_n S.1 S.2.1 dX8_canSit_24 rfl (lv_at hl 0 rfl) ?_
      refine lv_iload_n S.1 S.2.1 dX8_canSit_25 rfl (lv_at hl 1 rfl) ?_
      refine lv_icmp_ge (tgt := 45) S.1 S.2.1 dX8_canSit_26 (by decide) (fun c5 => ?_) (fun c5 => ?_)
      · have E := cd_tE c5 E
        cases E
        exact hex _ rfl H locs ls hZ (lv_sub hl [0, 1, 2] rfl)
      · have E := cd_fE c5 E
        refine lv_aload_n S.1 S.2.1 dX8_canSit_29 rfl (lv_at hl 2 rfl) ?_
        refine lv_iload_n S.1 S.2.1 dX8_canSit_30 rfl (lv_at hl 0 rfl) ?_
        obtain ⟨o6, E1, E⟩ := cd_bE E
        refine cd_cVz (As := [.int v24_2]) S hK hZ hl.1 (c_X8_isRow l G v24_2 h24_ o6 E1) cd_v_X8_isRow cd_m_X8_138 ⟨Nat.le_of_ble_eq_true rfl, Nat.le_of_ble_eq_true rfl⟩ ⟨rfl, rfl⟩ (ci := 8) (by decide) rfl cd_this8 rfl rfl (Nat.le_of_ble_eq_true rfl) ⟨Nat.zero_le _, Nat.zero_le _⟩ dX8_canSit_31 (fun H locs hZ b7 => ?_)
        refine lv_if_eq (tgt := 39) S.1 S.2.1 dX8_canSit_34 (by decide) (fun c8 => ?_) (fun c8 => ?_)
        · have E := cd_tE c8 E
          obtain ⟨x9, ex9, E⟩ := cd_nmE E
          refine lv_iinc (v := x9) (lv' := [(2, .int x9), (1, .int p24_1), (0, .ref (G.2.2.2.2 + 404))]) S.1 S.2.1 dX8_canSit_39 hl (k := 0) rfl (by rw [ex9]; rfl) (by decide) rfl (fun ls hl => ?_)
          refine lv_goto (tgt := 24) S.1 S.2.1 dX8_canSit_42 (by decide) ?_
          exact ih x9 o6.2 o H locs ls E hZ (lv_sub hl [0, 1, 2] rfl) hin hex
        · have E := cd_fE c8 E
          refine lv_iconst (v := 1) S.1 S.2.1 dX8_canSit_37 (by decide) ?_
          cases E
          exact hret _ _ _ _ _ _ (by decide) (hin _ rfl) hZ dX8_canSit_38
  unfold f_X8_canSit at E
  refine lv_iconst (v := 1) S.1 S.2.1 dX8_canSit_0 (by decide) ?_
  refine lv_istore_n (lv' := [(1, .int 1), (0, .ref (G.2.2.2.2 + 404))]) S.1 S.2.1 dX8_canSit_1 rfl hl (by decide) rfl (fun ls hl => ?_)
  refine lv_iconst (v := 0) S.1 S.2.1 dX8_canSit_2 (by decide) ?_
  refine lv_istore_n (lv' := [(2, .int 0), (1, .int 1), (0, .ref (G.2.2.2.2 + 404))]) S.1 S.2.1 dX8_canSit_3 rfl hl (by decide) rfl (fun ls hl => ?_)
  obtain ⟨o4, E1, E⟩ := cd_bE E
  refine L4 h cd_fu 1 0 o4 H locs ls E1 hZ (lv_sub hl [0, 1, 2] rfl) (fun H locs ls hZ hl => ?_)
  refine lv_iconst (v := 0) S.1 S.2.1 dX8_canSit_22 (by decide) ?_
  refine lv_istore_n (lv' := [(2, .int 0), (1, .int o4.1), (0, .ref (G.2.2.2.2 + 404))]) S.1 S.2.1 dX8_canSit_23 rfl hl (by decide) rfl (fun ls hl => ?_)
  obtain ⟨o10, E1, EL, ER⟩ := cd_b2E E
  refine L24 o4.1 cd_fu 0 h o10 H locs ls E1 hZ (lv_sub hl [0, 1, 2] rfl) EL (fun st11 hst H locs ls hZ hl => ?_)
  have E := ER st11 hst
  refine lv_iconst (v := 0) S.1 S.2.1 dX8_canSit_45 (by decide) ?_
  exact hret _ _ _ _ _ _ (by decide) (Option.some.inj E) hZ dX8_canSit_46
abbrev rm_X8_isJoined : Room := { frames := 3, cells := 0, slots := 0, locals := 69 }
theorem cd_v_X8_isJoined : cd_V yX8_isJoined cX8_isJoined 4 (some .boolean) 1 := ⟨cd_i_X8_isJoined, cd_e_X8_X8_isJoined, cd_n_X8, cd_c_X8_isJoined, by decide +kernel⟩
set_option maxHeartbeats 4000000 in
set_option maxRecDepth 100000 in
theorem c_X8_isJoined (l : Launch) (G : cd_G) (a1 : Int32) (h : cd_Hp) (out : (Int32 × cd_Hp)) (E : f_X8_isJoined a1 h = some out) : cd_Mz l G yX8_isJoined (Cond.code yX8_isJoined cX8_isJoined 4 (some .boolean) :: cd_T) rm_X8_isJoined [.ref (G.2.2.2.2 + 404), .int a1] h out := by
  refine cd_inz (by decide) (Nat.le_of_ble_eq_true rfl) ?_
  intro p e s m args below meth c Q ls H locs S hK hZ hl hret
  have hl : lv_has ls 4 [(0, .ref (G.2.2.2.2 + 404)), (1, .int a1)] := hl
  have L26 : ∀ (p26_2 : Int32), ∀ (n : Nat) (v26_3 : Int32) (h26_ : cd_Hp) (o : (Int32 × cd_Hp)) (H : Heap) (locs : List Loc) (ls : Array Slot), cd_lp (f_X8_isJoined_B26 a1 p26_2) n (v26_3, h26_) = some o → cd_Z G h26_ s.heap H locs → lv_has ls 4 [(3, .int v26_3), (2, .int p26_2), (0, .ref (G.2.2.2.2 + 404)), (1, .int a1)] → (∀ (H : Heap) (locs : List Loc) (ls : Array Slot), cd_Z G o.2 s.heap H locs → lv_has ls 4 [(3, .int o.1), (2, .int p26_2), (0, .ref (G.2.2.2.2 + 404)), (1, .int a1)] → W p l e rm_X8_isJoined s m args below meth c H locs 0 0 Q (F0 m 74 ls [])) → W p l e rm_X8_isJoined s m args below meth c H locs 0 0 Q (F0 m 26 ls []) := by
    intro p26_2
    intro n
    induction n with
    | zero => intro v26_3 h26_ o H locs ls E; exact nomatch (show (none : Option (Int32 × cd_Hp)) = some o from E)
    | succ n ih =>
      intro v26_3 h26_ o H locs ls E hZ hl hex
      have E : f_X8_isJoined_B26 a1 p26_2 (cd_lp (f_X8_isJoined_B26 a1 p26_2) n) (v26_3, h26_) = some o := E
      unfold f_X8_isJoined_B26 at E
      dsimp only at E
      refine lv_iload_n S.1 S.2.1 dX8_isJoined_26 rfl (lv_at hl 0 rfl) ?_
      refine lv_iload_n S.1 S.2.1 dX8_isJoined_27 rfl (lv_at hl 1 rfl) ?_
      refine lv_icmp_ge (tgt := 74) S.1 S.2.1 dX8_isJoined_28 (by decide) (fun c4 => ?_) (fun c4 => ?_)
      · have E := cd_tE c4 E
        cases E
        exact hex H locs ls hZ (lv_sub hl [0, 1, 2, 3] rfl)
      · have E := cd_fE c4 E
        refine lv_aload_n S.1 S.2.1 dX8_isJoined_31 rfl (lv_at hl 2 rfl) ?_
        refine cd_get8 (v := .ref (G.2.2.2.2 + 411)) S hK hZ cd_this8 8 cd_f_X8_28 rfl dX8_isJoined_32 ?_
        refine lv_aload_n S.1 S.2.1 dX8_isJoined_35 rfl (lv_at hl 2 rfl) ?_
        refine cd_get8 (v := .int (cd_g h26_ 404 9)) S hK hZ cd_this8 9 cd_f_X8_132 rfl dX8_isJoined_36 ?_
        refine lv_iload_n S.1 S.2.1 dX8_isJoined_39 rfl (lv_at hl 0 rfl) ?_
        refine lv_iadd S.1 S.2.1 dX8_isJoined_40 ?_
        refine lv_iload_n S.1 S.2.1 dX8_isJoined_41 rfl (lv_at hl 3 rfl) ?_
        refine lv_iload_n S.1 S.2.1 dX8_isJoined_42 rfl (lv_at hl 0 rfl) ?_
        refine cd_cSi (As := [.int a1, .int v26_3]) S hK hZ hl.1 (c_X8_eventAt l G a1 v26_3 h26_ _ rfl) cd_v_X8_eventAt cd_m_X8_115 ⟨Nat.le_of_ble_eq_true rfl, Nat.le_of_ble_eq_true rfl⟩ ⟨rfl, rfl⟩ rfl rfl (Nat.le_of_ble_eq_true rfl) ⟨Nat.zero_le _, Nat.zero_le _⟩ dX8_isJoined_43 (fun H locs hZ => ?_)
        obtain ⟨z6, E⟩ := cd_ckE E
        obtain ⟨h7, eh7, E⟩ := cd_nmE E
        refine cd_iast S hK hZ (cd_r8_8 cd_this8) z6 eh7 dX8_isJoined_46 (fun H locs hZ => ?_)
        refine lv_aload_n S.1 S.2.1 dX8_isJoined_47 rfl (lv_at hl 2 rfl) ?_
        refine cd_get8 (v := .ref (G.2.2.2.2 + 410)) S hK hZ cd_this8 7 cd_f_X8_25 rfl dX8_isJoined_48 ?_
        refine lv_aload_n S.1 S.2.1 dX8_isJoined_51 rfl (lv_at hl 2 rfl) ?_
        refine cd_get8 (v := .int (cd_g h7 404 9)) S hK hZ cd_this8 9 cd_f_X8_132 rfl dX8_isJoined_52 ?_
        refine lv_iload_n S.1 S.2.1 dX8_isJoined_55 rfl (lv_at hl 0 rfl) ?_
        refine lv_iadd S.1 S.2.1 dX8_isJoined_56 ?_
        refine lv_aload_n S.1 S.2.1 dX8_isJoined_57 rfl (lv_at hl 2 rfl) ?_
        refine cd_get8 (v := .ref (G.2.2.2.2 + 405)) S hK hZ cd_this8 0 cd_f_X8_7 rfl dX8_isJoined_58 ?_
        refine lv_iload_n S.1 S.2.1 dX8_isJoined_61 rfl (lv_at hl 3 rfl) ?_
        refine lv_iload_n S.1 S.2.1 dX8_isJoined_62 rfl (lv_at hl 0 rfl) ?_
        refine cd_cSi (As := [.int a1, .int v26_3]) S hK hZ hl.1 (c_X8_eventAt l G a1 v26_3 h7 _ rfl) cd_v_X8_eventAt cd_m_X8_115 ⟨Nat.le_of_ble_eq_true rfl, Nat.le_of_ble_eq_true rfl⟩ ⟨rfl, rfl⟩ rfl rfl (Nat.le_of_ble_eq_true rfl) ⟨Nat.zero_le _, Nat.zero_le _⟩ dX8_isJoined_63 (fun H locs hZ => ?_)
        obtain ⟨z9, E⟩ := cd_ckE E
        refine cd_iald S hK hZ (cd_r8_0 cd_this8) z9 dX8_isJoined_66 ?_
        obtain ⟨z10, E⟩ := cd_ckE E
        obtain ⟨h11, eh11, E⟩ := cd_nmE E
        refine cd_iast S hK hZ (cd_r8_7 cd_this8) z10 eh11 dX8_isJoined_67 (fun H locs hZ => ?_)
        obtain ⟨x12, ex12, E⟩ := cd_nmE E
        refine lv_iinc (v := x12) (lv' := [(3, .int x12), (2, .int p26_2), (0, .ref (G.2.2.2.2 + 404)), (1, .int a1)]) S.1 S.2.1 dX8_isJoined_68 hl (k := 0) rfl (by rw [ex12]; rfl) (by decide) rfl (fun ls hl => ?_)
        refine lv_goto (tgt := 26) S.1 S.2.1 dX8_isJoined_71 (by decide) ?_
        exact ih x12 h11 o H locs ls E hZ (lv_sub hl [0, 1, 2, 3] rfl) hex
  unfold f_X8_isJoined at E
  refine lv_aload_n S.1 S.2.1 dX8_isJoined_0 rfl (lv_at hl 0 rfl) ?_
  refine lv_iload_n S.1 S.2.1 dX8_isJoined_1 rfl (lv_at hl 1 rfl) ?_
  refine lv_iconst (v := 5) S.1 S.2.1 dX8_isJoined_2 (by decide) ?_
  obtain ⟨o1, E1, E⟩ := cd_bE E
  refine cd_cVi (As := [.int a1, .int 5]) S hK hZ hl.1 (c_X8_ofGroup l G a1 5 h o1 E1) cd_v_X8_ofGroup cd_m_X8_63 ⟨Nat.le_of_ble_eq_true rfl, Nat.le_of_ble_eq_true rfl⟩ ⟨rfl, rfl⟩ (ci := 8) (by decide) rfl cd_this8 rfl rfl (Nat.le_of_ble_eq_true rfl) ⟨Nat.zero_le _, Nat.zero_le _⟩ dX8_isJoined_3 (fun H locs hZ => ?_)
  refine lv_istore_n (lv' := [(2, .int o1), (0, .ref (G.2.2.2.2 + 404)), (1, .int a1)]) S.1 S.2.1 dX8_isJoined_6 rfl hl (by decide) rfl (fun ls hl => ?_)
  refine lv_aload_n S.1 S.2.1 dX8_isJoined_7 rfl (lv_at hl 1 rfl) ?_
  refine cd_get8 (v := .int (cd_g h 404 9)) S hK hZ cd_this8 9 cd_f_X8_132 rfl dX8_isJoined_8 ?_
  refine lv_iload_n S.1 S.2.1 dX8_isJoined_11 rfl (lv_at hl 0 rfl) ?_
  refine lv_iadd S.1 S.2.1 dX8_isJoined_12 ?_
  refine lv_aload_n S.1 S.2.1 dX8_isJoined_13 rfl (lv_at hl 1 rfl) ?_
  refine cd_get8 (v := .ref (G.2.2.2.2 + 405)) S hK hZ cd_this8 0 cd_f_X8_7 rfl dX8_isJoined_14 ?_
  refine lv_iconst (v := 0) S.1 S.2.1 dX8_isJoined_17 (by decide) ?_
  refine cd_iald S hK hZ (cd_r8_0 cd_this8) (by decide) dX8_isJoined_18 ?_
  refine lv_icmp_le (tgt := 24) S.1 S.2.1 dX8_isJoined_19 (by decide) (fun c3 => ?_) (fun c3 => ?_)
  · have E := cd_tE c3 E
    refine lv_iconst (v := 0) S.1 S.2.1 dX8_isJoined_24 (by decide) ?_
    refine lv_istore_n (lv' := [(3, .int 0), (2, .int o1), (0, .ref (G.2.2.2.2 + 404)), (1, .int a1)]) S.1 S.2.1 dX8_isJoined_25 rfl hl (by decide) rfl (fun ls hl => ?_)
    obtain ⟨o13, E1, E⟩ := cd_bE E
    refine L26 o1 cd_fu 0 h o13 H locs ls E1 hZ (lv_sub hl [0, 1, 2, 3] rfl) (fun H locs ls hZ hl => ?_)
    refine lv_aload_n S.1 S.2.1 dX8_isJoined_74 rfl (lv_at hl 2 rfl) ?_
    refine lv_dup S.1 S.2.1 dX8_isJoined_75 rfl ?_
    refine cd_get8 (v := .int (cd_g o13.2 404 9)) S hK hZ cd_this8 9 cd_f_X8_132 rfl dX8_isJoined_76 ?_
    refine lv_iload_n S.1 S.2.1 dX8_isJoined_79 rfl (lv_at hl 1 rfl) ?_
    refine lv_iadd S.1 S.2.1 dX8_isJoined_80 ?_
    obtain ⟨h14, eh14, E⟩ := cd_nmE E
    refine cd_put8_9 S hK hZ cd_this8 cd_f_X8_132 eh14 dX8_isJoined_81 (fun H locs hZ => ?_)
    refine lv_aload_n S.1 S.2.1 dX8_isJoined_84 rfl (lv_at hl 2 rfl) ?_
    obtain ⟨o15, E1, E⟩ := cd_bE E
    refine cd_cVz (As := []) S hK hZ hl.1 (c_X8_canSit l G  h14 o15 E1) cd_v_X8_canSit cd_m_X8_141 ⟨Nat.le_of_ble_eq_true rfl, Nat.le_of_ble_eq_true rfl⟩ ⟨rfl, rfl⟩ (ci := 8) (by decide) rfl cd_this8 rfl rfl (Nat.le_of_ble_eq_true rfl) ⟨Nat.zero_le _, Nat.zero_le _⟩ dX8_isJoined_85 (fun H locs hZ b16 => ?_)
    refine lv_istore_n (lv' := [(3, .int o15.1), (2, .int o1), (0, .ref (G.2.2.2.2 + 404)), (1, .int a1)]) S.1 S.2.1 dX8_isJoined_88 rfl hl (by decide) rfl (fun ls hl => ?_)
    refine lv_aload_n S.1 S.2.1 dX8_isJoined_89 rfl (lv_at hl 2 rfl) ?_
    refine lv_dup S.1 S.2.1 dX8_isJoined_90 rfl ?_
    refine cd_get8 (v := .int (cd_g o15.2 404 9)) S hK hZ cd_this8 9 cd_f_X8_132 rfl dX8_isJoined_91 ?_
    refine lv_iload_n S.1 S.2.1 dX8_isJoined_94 rfl (lv_at hl 0 rfl) ?_
    refine lv_if_eq (tgt := 102) S.1 S.2.1 dX8_isJoined_95 (by decide) (fun c17 => ?_) (fun c17 => ?_)
    · have E := cd_tE c17 E
      refine lv_iload_n S.1 S.2.1 dX8_isJoined_102 rfl (lv_at hl 1 rfl) ?_
      refine lv_isub S.1 S.2.1 dX8_isJoined_103 ?_
      obtain ⟨h18, eh18, E⟩ := cd_nmE E
      refine cd_put8_9 S hK hZ cd_this8 cd_f_X8_132 eh18 dX8_isJoined_104 (fun H locs hZ => ?_)
      refine lv_iload_n S.1 S.2.1 dX8_isJoined_107 rfl (lv_at hl 0 rfl) ?_
      obtain ⟨z19, E⟩ := cd_ckE E
      exact hret _ _ _ _ _ _ z19 (Option.some.inj E) hZ dX8_isJoined_108
    · have E := cd_fE c17 E
      refine lv_iconst (v := 0) S.1 S.2.1 dX8_isJoined_98 (by decide) ?_
      refine lv_goto (tgt := 103) S.1 S.2.1 dX8_isJoined_99 (by decide) ?_
      refine lv_isub S.1 S.2.1 dX8_isJoined_103 ?_
      obtain ⟨h20, eh20, E⟩ := cd_nmE E
      refine cd_put8_9 S hK hZ cd_this8 cd_f_X8_132 eh20 dX8_isJoined_104 (fun H locs hZ => ?_)
      refine lv_iload_n S.1 S.2.1 dX8_isJoined_107 rfl (lv_at hl 0 rfl) ?_
      obtain ⟨z21, E⟩ := cd_ckE E
      exact hret _ _ _ _ _ _ z21 (Option.some.inj E) hZ dX8_isJoined_108
  · have E := cd_fE c3 E
    refine lv_iconst (v := 0) S.1 S.2.1 dX8_isJoined_22 (by decide) ?_
    exact hret _ _ _ _ _ _ (by decide) (Option.some.inj E) hZ dX8_isJoined_23
