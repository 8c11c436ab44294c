-- CONTRACTS (written by wip/whole/gen.py): X8_clears X8_joins X8_counts X8_samplesCome X8_tellsOne X8_tellsDue X8_turns X8_goes X8_isRun X8_runs X8_aboutTask X8_task X8_placeOf X8_aboutGroup
abbrev rm_X8_clears : Room := { frames := 2, cells := 0, slots := 0, locals := 42 }
theorem cd_v_X8_clears : cd_V yX8_clears cX8_clears 3 none 0 := ⟨cd_i_X8_clears, cd_e_X8_X8_clears, cd_n_X8, cd_c_X8_clears, by decide +kernel⟩
set_option maxHeartbeats 4000000 in
set_option maxRecDepth 100000 in
theorem c_X8_clears (l : Launch) (G : cd_G)  (h : cd_Hp) (out : cd_Hp) (E : f_X8_clears h = some out) : cd_Mv l G yX8_clears (Cond.code yX8_clears cX8_clears 3 none :: cd_T) rm_X8_clears [.ref (G.2.2.2.2 + 404)] h out := by
  refine cd_inv (by decide) (Nat.le_of_ble_eq_true rfl) ?_
  intro p e s m args below meth c Q ls H locs S hK hZ hl hret
  have hl : lv_has ls 3 [(0, .ref (G.2.2.2.2 + 404))] := hl
  have L33 : ∀ (p33_1 : Int32), ∀ (n : Nat) (v33_2 : Int32) (h33_ : cd_Hp) (o : (Int32 × cd_Hp)) (H : Heap) (locs : List Loc) (ls : Array Slot), cd_lp (f_X8_clears_B33 p33_1) n (v33_2, h33_) = some o → cd_Z G h33_ s.heap H locs → lv_has ls 3 [(2, .int v33_2), (1, .int p33_1), (0, .ref (G.2.2.2.2 + 404))] → (∀ (H : Heap) (locs : List Loc) (ls : Array Slot), cd_Z G o.2 s.heap H locs → lv_has ls 3 [(2, .int o.1), (1, .int p33_1), (0, .ref (G.2.2.2.2 + 404))] → W p l e rm_X8_clears s m args below meth c H locs 0 0 Q (F0 m 62 ls [])) → W p l e rm_X8_clears s m args below meth c H locs 0 0 Q (F0 m 33 ls []) := by
    intro p33_1
    intro n
    induction n with
    | zero => intro v33_2 h33_ o H locs ls E; exact nomatch (show (none : Option (Int32 × cd_Hp)) = some o from E)
    | succ n ih =>
      intro v33_2 h33_ o H locs ls E hZ hl hex
      have E : f_X8_clears_B33 p33_1 (cd_lp (f_X8_clears_B33 p33_1) n) (v33_2, h33_) = some o := E
      unfold f_X8_clears_B33 at E
      dsimp only at E
      refine lv_iload_n S.1 S.2.1 dX8_clears_33 rfl (lv_at hl 0 rfl) ?_
      refine lv_aload_n S.1 S.2.1 dX8_clears_34 rfl (lv_at hl 2 rfl) ?_
      refine lv_iload_n S.1 S.2.1 dX8_clears_35 rfl (lv_at hl 1 rfl) ?_
      refine lv_iconst (v := 5) S.1 S.2.1 dX8_clears_36 (by decide) ?_
      obtain ⟨o6, E1, E⟩ := cd_bE E
      refine cd_cVi (As := [.int p33_1, .int 5]) S hK hZ hl.1 (c_X8_ofGroup l G p33_1 5 h33_ o6 E1) cd_v_X8_ofGroup cd_m_X8_63 ⟨Nat.le_of_ble_eq_true rfl, Nat.le_of_ble_eq_true rfl⟩ ⟨rfl, rfl⟩ (ci := 8) (by decide) rfl cd_this8 rfl rfl (Nat.le_of_ble_eq_true rfl) ⟨Nat.zero_le _, Nat.zero_le _⟩ dX8_clears_37 (fun H locs hZ => ?_)
      refine lv_icmp_ge (tgt := 62) S.1 S.2.1 dX8_clears_40 (by decide) (fun c8 => ?_) (fun c8 => ?_)
      · have E := cd_tE c8 E
        cases E
        exact hex H locs ls hZ (lv_sub hl [0, 1, 2] rfl)
      · have E := cd_fE c8 E
        refine lv_aload_n S.1 S.2.1 dX8_clears_43 rfl (lv_at hl 2 rfl) ?_
        refine cd_get8 (v := .ref (G.2.2.2.2 + 405)) S hK hZ cd_this8 0 cd_f_X8_7 rfl dX8_clears_44 ?_
        refine lv_iload_n S.1 S.2.1 dX8_clears_47 rfl (lv_at hl 1 rfl) ?_
        refine lv_iload_n S.1 S.2.1 dX8_clears_48 rfl (lv_at hl 0 rfl) ?_
        refine cd_cSi (As := [.int p33_1, .int v33_2]) S hK hZ hl.1 (c_X8_eventAt l G p33_1 v33_2 h33_ _ rfl) cd_v_X8_eventAt cd_m_X8_115 ⟨Nat.le_of_ble_eq_true rfl, Nat.le_of_ble_eq_true rfl⟩ ⟨rfl, rfl⟩ rfl rfl (Nat.le_of_ble_eq_true rfl) ⟨Nat.zero_le _, Nat.zero_le _⟩ dX8_clears_49 (fun H locs hZ => ?_)
        refine lv_iconst (v := 2) S.1 S.2.1 dX8_clears_52 (by decide) ?_
        refine lv_iadd S.1 S.2.1 dX8_clears_53 ?_
        refine lv_iconst (v := (-1)) S.1 S.2.1 dX8_clears_54 (by decide) ?_
        obtain ⟨z10, E⟩ := cd_ckE E
        obtain ⟨h11, eh11, E⟩ := cd_nmE E
        refine cd_iast S hK hZ (cd_r8_0 cd_this8) z10 eh11 dX8_clears_55 (fun H locs hZ => ?_)
        obtain ⟨x12, ex12, E⟩ := cd_nmE E
        refine lv_iinc (v := x12) (lv' := [(2, .int x12), (1, .int p33_1), (0, .ref (G.2.2.2.2 + 404))]) S.1 S.2.1 dX8_clears_56 hl (k := 0) rfl (by rw [ex12]; rfl) (by decide) rfl (fun ls hl => ?_)
        refine lv_goto (tgt := 33) S.1 S.2.1 dX8_clears_59 (by decide) ?_
        exact ih x12 h11 o H locs ls E hZ (lv_sub hl [0, 1, 2] rfl) hex
  have L7 : ∀ (n : Nat) (v7_1 : Int32) (h7_ : cd_Hp) (o : (Int32 × cd_Hp)) (H : Heap) (locs : List Loc) (ls : Array Slot), cd_lp (f_X8_clears_B7) n (v7_1, h7_) = some o → cd_Z G h7_ s.heap H locs → lv_has ls 3 [(1, .int v7_1), (0, .ref (G.2.2.2.2 + 404))] → (∀ (H : Heap) (locs : List Loc) (ls : Array Slot), cd_Z G o.2 s.heap H locs → lv_has ls 3 [(1, .int o.1), (0, .ref (G.2.2.2.2 + 404))] → W p l e rm_X8_clears s m args below meth c H locs 0 0 Q (F0 m 68 ls [])) → W p l e rm_X8_clears s m args below meth c H locs 0 0 Q (F0 m 7 ls []) := by
    intro n
    induction n with
    | zero => intro v7_1 h7_ o H locs ls E; exact nomatch (show (none : Option (Int32 × cd_Hp)) = some o from E)
    | succ n ih =>
      intro v7_1 h7_ o H locs ls E hZ hl hex
      have E : f_X8_clears_B7 (cd_lp (f_X8_clears_B7) n) (v7_1, h7_) = some o := E
      unfold f_X8_clears_B7 at E
      dsimp only at E
      refine lv_iload_n S.1 S.2.1 dX8_clears_7 rfl (lv_at hl 0 rfl) ?_
      refine lv_aload_n S.1 S.2.1 dX8_clears_8 rfl (lv_at hl 1 rfl) ?_
      refine cd_get8 (v := .ref (G.2.2.2.2 + 405)) S hK hZ cd_this8 0 cd_f_X8_7 rfl dX8_clears_9 ?_
      refine lv_bipush (v := 70) S.1 S.2.1 dX8_clears_12 (by decide) ?_
      refine cd_iald S hK hZ (cd_r8_0 cd_this8) (by decide) dX8_clears_14 ?_
      refine lv_icmp_ge (tgt := 68) S.1 S.2.1 dX8_clears_15 (by decide) (fun c2 => ?_) (fun c2 => ?_)
      · have E := cd_tE c2 E
        cases E
        exact hex H locs ls hZ (lv_sub hl [0, 1] rfl)
      · have E := cd_fE c2 E
        refine lv_aload_n S.1 S.2.1 dX8_clears_18 rfl (lv_at hl 1 rfl) ?_
        refine cd_get8 (v := .ref (G.2.2.2.2 + 405)) S hK hZ cd_this8 0 cd_f_X8_7 rfl dX8_clears_19 ?_
        refine lv_iload_n S.1 S.2.1 dX8_clears_22 rfl (lv_at hl 0 rfl) ?_
        refine cd_cSi (As := [.int v7_1]) S hK hZ hl.1 (c_X8_groupAt l G v7_1 h7_ _ rfl) cd_v_X8_groupAt cd_m_X8_55 ⟨Nat.le_of_ble_eq_true rfl, Nat.le_of_ble_eq_true rfl⟩ ⟨rfl, rfl⟩ rfl rfl (Nat.le_of_ble_eq_true rfl) ⟨Nat.zero_le _, Nat.zero_le _⟩ dX8_clears_23 (fun H locs hZ => ?_)
        refine lv_bipush (v := 9) S.1 S.2.1 dX8_clears_26 (by decide) ?_
        refine lv_iadd S.1 S.2.1 dX8_clears_28 ?_
        refine lv_iconst (v := 0) S.1 S.2.1 dX8_clears_29 (by decide) ?_
        obtain ⟨z4, E⟩ := cd_ckE E
        obtain ⟨h5, eh5, E⟩ := cd_nmE E
        refine cd_iast S hK hZ (cd_r8_0 cd_this8) z4 eh5 dX8_clears_30 (fun H locs hZ => ?_)
        refine lv_iconst (v := 0) S.1 S.2.1 dX8_clears_31 (by decide) ?_
        refine lv_istore_n (lv' := [(2, .int 0), (1, .int v7_1), (0, .ref (G.2.2.2.2 + 404))]) S.1 S.2.1 dX8_clears_32 rfl hl (by decide) rfl (fun ls hl => ?_)
        obtain ⟨o13, E1, E⟩ := cd_bE E
        refine L33 v7_1 cd_fu 0 h5 o13 H locs ls E1 hZ (lv_sub hl [0, 1, 2] rfl) (fun H locs ls hZ hl => ?_)
        obtain ⟨x14, ex14, E⟩ := cd_nmE E
        refine lv_iinc (v := x14) (lv' := [(1, .int x14), (2, .int o13.1), (0, .ref (G.2.2.2.2 + 404))]) S.1 S.2.1 dX8_clears_62 hl (k := 1) rfl (by rw [ex14]; rfl) (by decide) rfl (fun ls hl => ?_)
        refine lv_goto (tgt := 7) S.1 S.2.1 dX8_clears_65 (by decide) ?_
        exact ih x14 o13.2 o H locs ls E hZ (lv_sub hl [0, 2] rfl) hex
  unfold f_X8_clears at E
  refine lv_aload_n S.1 S.2.1 dX8_clears_0 rfl (lv_at hl 0 rfl) ?_
  refine lv_iconst (v := 0) S.1 S.2.1 dX8_clears_1 (by decide) ?_
  obtain ⟨h1, eh1, E⟩ := cd_nmE E
  refine cd_put8_9 S hK hZ cd_this8 cd_f_X8_132 eh1 dX8_clears_2 (fun H locs hZ => ?_)
  refine lv_iconst (v := 0) S.1 S.2.1 dX8_clears_5 (by decide) ?_
  refine lv_istore_n (lv' := [(1, .int 0), (0, .ref (G.2.2.2.2 + 404))]) S.1 S.2.1 dX8_clears_6 rfl hl (by decide) rfl (fun ls hl => ?_)
  obtain ⟨o15, E1, E⟩ := cd_bE E
  refine L7 cd_fu 0 h1 o15 H locs ls E1 hZ (lv_sub hl [0, 1] rfl) (fun H locs ls hZ hl => ?_)
  exact hret _ _ _ _ _ (Option.some.inj E) hZ dX8_clears_68
abbrev rm_X8_joins : Room := { frames := 4, cells := 0, slots := 0, locals := 92 }
theorem cd_v_X8_joins : cd_V yX8_joins cX8_joins 4 none 1 := ⟨cd_i_X8_joins, cd_e_X8_X8_joins, cd_n_X8, cd_c_X8_joins, by decide +kernel⟩
set_option maxHeartbeats 4000000 in
set_option maxRecDepth 100000 in
theorem c_X8_joins (l : Launch) (G : cd_G) (a1 : Int32) (h : cd_Hp) (out : cd_Hp) (E : f_X8_joins a1 h = some out) : cd_Mv l G yX8_joins (Cond.code yX8_joins cX8_joins 4 none :: cd_T) rm_X8_joins [.ref (G.2.2.2.2 + 404), .int a1] h out := by
  refine cd_inv (by decide) (Nat.le_of_ble_eq_true rfl) ?_
  intro p e s m args below meth c Q ls H locs S hK hZ hl hret
  have hl : lv_has ls 4 [(0, .ref (G.2.2.2.2 + 404)), (1, .int a1)] := hl
  have L6 : ∀ (n : Nat) (v6_2 : Int32) (h6_ : cd_Hp) (o : (Int32 × cd_Hp)) (H : Heap) (locs : List Loc) (ls : Array Slot), cd_lp (f_X8_joins_B6 a1) n (v6_2, h6_) = some o → cd_Z G h6_ s.heap H locs → lv_has ls 4 [(2, .int v6_2), (0, .ref (G.2.2.2.2 + 404)), (1, .int a1)] → (∀ (H : Heap) (locs : List Loc) (ls : Array Slot), cd_Z G o.2 s.heap H locs → lv_has ls 4 [(2, .int o.1), (0, .ref (G.2.2.2.2 + 404)), (1, .int a1)] → W p l e rm_X8_joins s m args below meth c H locs 0 0 Q (F0 m 88 ls [])) → W p l e rm_X8_joins s m args below meth c H locs 0 0 Q (F0 m 6 ls []) := by
    intro n
    induction n with
    | zero => intro v6_2 h6_ o H locs ls E; exact nomatch (show (none : Option (Int32 × cd_Hp)) = some o from E)
    | succ n ih =>
      intro v6_2 h6_ o H locs ls E hZ hl hex
      have E : f_X8_joins_B6 a1 (cd_lp (f_X8_joins_B6 a1) n) (v6_2, h6_) = some o := E
      unfold f_X8_joins_B6 at E
      dsimp only at E
      refine lv_iload_n S.1 S.2.1 dX8_joins_6 rfl (lv_at hl 0 rfl) ?_
      refine lv_aload_n S.1 S.2.1 dX8_joins_7 rfl (lv_at hl 1 rfl) ?_
      refine cd_get8 (v := .ref (G.2.2.2.2 + 405)) S hK hZ cd_this8 0 cd_f_X8_7 rfl dX8_joins_8 ?_
      refine lv_bipush (v := 70) S.1 S.2.1 dX8_joins_11 (by decide) ?_
      refine cd_iald S hK hZ (cd_r8_0 cd_this8) (by decide) dX8_joins_13 ?_
      refine lv_icmp_ge (tgt := 88) S.1 S.2.1 dX8_joins_14 (by decide) (fun c3 => ?_) (fun c3 => ?_)
      · have E := cd_tE c3 E
        cases E
        exact hex H locs ls hZ (lv_sub hl [0, 1, 2] rfl)
      · have E := cd_fE c3 E
        refine lv_iload_n S.1 S.2.1 dX8_joins_17 rfl (lv_at hl 2 rfl) ?_
        refine lv_iload_n S.1 S.2.1 dX8_joins_18 rfl (lv_at hl 0 rfl) ?_
        refine cd_cSz (As := [.int a1, .int v6_2]) S hK hZ hl.1 (c_X8_has l G a1 v6_2 h6_ _ rfl) cd_v_X8_has cd_m_X8_135 ⟨Nat.le_of_ble_eq_true rfl, Nat.le_of_ble_eq_true rfl⟩ ⟨rfl, rfl⟩ rfl rfl (Nat.le_of_ble_eq_true rfl) ⟨Nat.zero_le _, Nat.zero_le _⟩ dX8_joins_19 (fun H locs hZ b4 => ?_)
        refine lv_if_eq (tgt := 82) S.1 S.2.1 dX8_joins_22 (by decide) (fun c5 => ?_) (fun c5 => ?_)
        · have E := cd_tE c5 E
          obtain ⟨x6, ex6, E⟩ := cd_nmE E
          refine lv_iinc (v := x6) (lv' := [(2, .int x6), (0, .ref (G.2.2.2.2 + 404)), (1, .int a1)]) S.1 S.2.1 dX8_joins_82 hl (k := 0) rfl (by rw [ex6]; rfl) (by decide) rfl (fun ls hl => ?_)
          refine lv_goto (tgt := 6) S.1 S.2.1 dX8_joins_85 (by decide) ?_
          exact ih x6 h6_ o H locs ls E hZ (lv_sub hl [0, 1, 2] rfl) hex
        · have E := cd_fE c5 E
          refine lv_aload_n S.1 S.2.1 dX8_joins_25 rfl (lv_at hl 1 rfl) ?_
          refine lv_iload_n S.1 S.2.1 dX8_joins_26 rfl (lv_at hl 0 rfl) ?_
          refine lv_iconst (v := 2) S.1 S.2.1 dX8_joins_27 (by decide) ?_
          obtain ⟨o7, E1, E⟩ := cd_bE E
          refine cd_cVi (As := [.int v6_2, .int 2]) S hK hZ hl.1 (c_X8_ofGroup l G v6_2 2 h6_ o7 E1) cd_v_X8_ofGroup cd_m_X8_63 ⟨Nat.le_of_ble_eq_true rfl, Nat.le_of_ble_eq_true rfl⟩ ⟨rfl, rfl⟩ (ci := 8) (by decide) rfl cd_this8 rfl rfl (Nat.le_of_ble_eq_true rfl) ⟨Nat.zero_le _, Nat.zero_le _⟩ dX8_joins_28 (fun H locs hZ => ?_)
          refine lv_iconst (v := 1) S.1 S.2.1 dX8_joins_31 (by decide) ?_
          refine lv_icmp_ne (tgt := 82) S.1 S.2.1 dX8_joins_32 (by decide) (fun c9 => ?_) (fun c9 => ?_)
          · have E := cd_fE c9 E
            obtain ⟨x10, ex10, E⟩ := cd_nmE E
            refine lv_iinc (v := x10) (lv' := [(2, .int x10), (0, .ref (G.2.2.2.2 + 404)), (1, .int a1)]) S.1 S.2.1 dX8_joins_82 hl (k := 0) rfl (by rw [ex10]; rfl) (by decide) rfl (fun ls hl => ?_)
            refine lv_goto (tgt := 6) S.1 S.2.1 dX8_joins_85 (by decide) ?_
            exact ih x10 h6_ o H locs ls E hZ (lv_sub hl [0, 1, 2] rfl) hex
          · have E := cd_tE c9 E
            refine lv_aload_n S.1 S.2.1 dX8_joins_35 rfl (lv_at hl 1 rfl) ?_
            refine lv_iload_n S.1 S.2.1 dX8_joins_36 rfl (lv_at hl 0 rfl) ?_
            obtain ⟨o11, E1, E⟩ := cd_bE E
            refine cd_cVz (As := [.int v6_2]) S hK hZ hl.1 (c_X8_isJoined l G v6_2 h6_ o11 E1) cd_v_X8_isJoined cd_m_X8_148 ⟨Nat.le_of_ble_eq_true rfl, Nat.le_of_ble_eq_true rfl⟩ ⟨rfl, rfl⟩ (ci := 8) (by decide) rfl cd_this8 rfl rfl (Nat.le_of_ble_eq_true rfl) ⟨Nat.zero_le _, Nat.zero_le _⟩ dX8_joins_37 (fun H locs hZ b12 => ?_)
            refine lv_istore_n (lv' := [(3, .int o11.1), (2, .int v6_2), (0, .ref (G.2.2.2.2 + 404)), (1, .int a1)]) S.1 S.2.1 dX8_joins_40 rfl hl (by decide) rfl (fun ls hl => ?_)
            refine lv_aload_n S.1 S.2.1 dX8_joins_41 rfl (lv_at hl 2 rfl) ?_
            refine cd_get8 (v := .ref (G.2.2.2.2 + 405)) S hK hZ cd_this8 0 cd_f_X8_7 rfl dX8_joins_42 ?_
            refine lv_iload_n S.1 S.2.1 dX8_joins_45 rfl (lv_at hl 1 rfl) ?_
            refine cd_cSi (As := [.int v6_2]) S hK hZ hl.1 (c_X8_groupAt l G v6_2 o11.2 _ rfl) cd_v_X8_groupAt cd_m_X8_55 ⟨Nat.le_of_ble_eq_true rfl, Nat.le_of_ble_eq_true rfl⟩ ⟨rfl, rfl⟩ rfl rfl (Nat.le_of_ble_eq_true rfl) ⟨Nat.zero_le _, Nat.zero_le _⟩ dX8_joins_46 (fun H locs hZ => ?_)
            refine lv_bipush (v := 9) S.1 S.2.1 dX8_joins_49 (by decide) ?_
            refine lv_iadd S.1 S.2.1 dX8_joins_51 ?_
            refine lv_iload_n S.1 S.2.1 dX8_joins_52 rfl (lv_at hl 0 rfl) ?_
            refine lv_if_eq (tgt := 60) S.1 S.2.1 dX8_joins_53 (by decide) (fun c14 => ?_) (fun c14 => ?_)
            · have E := cd_tE c14 E
              refine lv_iconst (v := 0) S.1 S.2.1 dX8_joins_60 (by decide) ?_
              obtain ⟨z15, E⟩ := cd_ckE E
              obtain ⟨h16, eh16, E⟩ := cd_nmE E
              refine cd_iast S hK hZ (cd_r8_0 cd_this8) z15 eh16 dX8_joins_61 (fun H locs hZ => ?_)
              refine lv_aload_n S.1 S.2.1 dX8_joins_62 rfl (lv_at hl 2 rfl) ?_
              refine cd_get8 (v := .ref (G.2.2.2.2 + 405)) S hK hZ cd_this8 0 cd_f_X8_7 rfl dX8_joins_63 ?_
              refine lv_iload_n S.1 S.2.1 dX8_joins_66 rfl (lv_at hl 1 rfl) ?_
              refine cd_cSi (As := [.int v6_2]) S hK hZ hl.1 (c_X8_groupAt l G v6_2 h16 _ rfl) cd_v_X8_groupAt cd_m_X8_55 ⟨Nat.le_of_ble_eq_true rfl, Nat.le_of_ble_eq_true rfl⟩ ⟨rfl, rfl⟩ rfl rfl (Nat.le_of_ble_eq_true rfl) ⟨Nat.zero_le _, Nat.zero_le _⟩ dX8_joins_67 (fun H locs hZ => ?_)
              refine lv_iconst (v := 4) S.1 S.2.1 dX8_joins_70 (by decide) ?_
              refine lv_iadd S.1 S.2.1 dX8_joins_71 ?_
              refine lv_iload_n S.1 S.2.1 dX8_joins_72 rfl (lv_at hl 0 rfl) ?_
              refine lv_if_eq (tgt := 80) S.1 S.2.1 dX8_joins_73 (by decide) (fun c18 => ?_) (fun c18 => ?_)
              · have E := cd_tE c18 E
                refine lv_iconst (v := 0) S.1 S.2.1 dX8_joins_80 (by decide) ?_
                obtain ⟨z19, E⟩ := cd_ckE E
                obtain ⟨h20, eh20, E⟩ := cd_nmE E
                refine cd_iast S hK hZ (cd_r8_0 cd_this8) z19 eh20 dX8_joins_81 (fun H locs hZ => ?_)
                obtain ⟨x21, ex21, E⟩ := cd_nmE E
                refine lv_iinc (v := x21) (lv' := [(2, .int x21), (3, .int o11.1), (0, .ref (G.2.2.2.2 + 404)), (1, .int a1)]) S.1 S.2.1 dX8_joins_82 hl (k := 1) rfl (by rw [ex21]; rfl) (by decide) rfl (fun ls hl => ?_)
                refine lv_goto (tgt := 6) S.1 S.2.1 dX8_joins_85 (by decide) ?_
                exact ih x21 h20 o H locs ls E hZ (lv_sub hl [0, 2, 3] rfl) hex
              · have E := cd_fE c18 E
                refine lv_iconst (v := 1) S.1 S.2.1 dX8_joins_76 (by decide) ?_
                refine lv_goto (tgt := 81) S.1 S.2.1 dX8_joins_77 (by decide) ?_
                obtain ⟨z22, E⟩ := cd_ckE E
                obtain ⟨h23, eh23, E⟩ := cd_nmE E
                refine cd_iast S hK hZ (cd_r8_0 cd_this8) z22 eh23 dX8_joins_81 (fun H locs hZ => ?_)
                obtain ⟨x24, ex24, E⟩ := cd_nmE E
                refine lv_iinc (v := x24) (lv' := [(2, .int x24), (3, .int o11.1), (0, .ref (G.2.2.2.2 + 404)), (1, .int a1)]) S.1 S.2.1 dX8_joins_82 hl (k := 1) rfl (by rw [ex24]; rfl) (by decide) rfl (fun ls hl => ?_)
                refine lv_goto (tgt := 6) S.1 S.2.1 dX8_joins_85 (by decide) ?_
                exact ih x24 h23 o H locs ls E hZ (lv_sub hl [0, 2, 3] rfl) hex
            · have E := cd_fE c14 E
              refine lv_iconst (v := 1) S.1 S.2.1 dX8_joins_56 (by decide) ?_
              refine lv_goto (tgt := 61) S.1 S.2.1 dX8_joins_57 (by decide) ?_
              obtain ⟨z25, E⟩ := cd_ckE E
              obtain ⟨h26, eh26, E⟩ := cd_nmE E
              refine cd_iast S hK hZ (cd_r8_0 cd_this8) z25 eh26 dX8_joins_61 (fun H locs hZ => ?_)
              refine lv_aload_n S.1 S.2.1 dX8_joins_62 rfl (lv_at hl 2 rfl) ?_
              refine cd_get8 (v := .ref (G.2.2.2.2 + 405)) S hK hZ cd_this8 0 cd_f_X8_7 rfl dX8_joins_63 ?_
              refine lv_iload_n S.1 S.2.1 dX8_joins_66 rfl (lv_at hl 1 rfl) ?_
              refine cd_cSi (As := [.int v6_2]) S hK hZ hl.1 (c_X8_groupAt l G v6_2 h26 _ rfl) cd_v_X8_groupAt cd_m_X8_55 ⟨Nat.le_of_ble_eq_true rfl, Nat.le_of_ble_eq_true rfl⟩ ⟨rfl, rfl⟩ rfl rfl (Nat.le_of_ble_eq_true rfl) ⟨Nat.zero_le _, Nat.zero_le _⟩ dX8_joins_67 (fun H locs hZ => ?_)
              refine lv_iconst (v := 4) S.1 S.2.1 dX8_joins_70 (by decide) ?_
              refine lv_iadd S.1 S.2.1 dX8_joins_71 ?_
              refine lv_iload_n S.1 S.2.1 dX8_joins_72 rfl (lv_at hl 0 rfl) ?_
              refine lv_if_eq (tgt := 80) S.1 S.2.1 dX8_joins_73 (by decide) (fun c28 => ?_) (fun c28 => ?_)
              · have E := cd_tE c28 E
                refine lv_iconst (v := 0) S.1 S.2.1 dX8_joins_80 (by decide) ?_
                obtain ⟨z29, E⟩ := cd_ckE E
                obtain ⟨h30, eh30, E⟩ := cd_nmE E
                refine cd_iast S hK hZ (cd_r8_0 cd_this8) z29 eh30 dX8_joins_81 (fun H locs hZ => ?_)
                obtain ⟨x31, ex31, E⟩ := cd_nmE E
                refine lv_iinc (v := x31) (lv' := [(2, .int x31), (3, .int o11.1), (0, .ref (G.2.2.2.2 + 404)), (1, .int a1)]) S.1 S.2.1 dX8_joins_82 hl (k := 1) rfl (by rw [ex31]; rfl) (by decide) rfl (fun ls hl => ?_)
                refine lv_goto (tgt := 6) S.1 S.2.1 dX8_joins_85 (by decide) ?_
                exact ih x31 h30 o H locs ls E hZ (lv_sub hl [0, 2, 3] rfl) hex
              · have E := cd_fE c28 E
                refine lv_iconst (v := 1) S.1 S.2.1 dX8_joins_76 (by decide) ?_
                refine lv_goto (tgt := 81) S.1 S.2.1 dX8_joins_77 (by decide) ?_
                obtain ⟨z32, E⟩ := cd_ckE E
                obtain ⟨h33, eh33, E⟩ := cd_nmE E
                refine cd_iast S hK hZ (cd_r8_0 cd_this8) z32 eh33 dX8_joins_81 (fun H locs hZ => ?_)
                obtain ⟨x34, ex34, E⟩ := cd_nmE E
                refine lv_iinc (v := x34) (lv' := [(2, .int x34), (3, .int o11.1), (0, .ref (G.2.2.2.2 + 404)), (1, .int a1)]) S.1 S.2.1 dX8_joins_82 hl (k := 1) rfl (by rw [ex34]; rfl) (by decide) rfl (fun ls hl => ?_)
                refine lv_goto (tgt := 6) S.1 S.2.1 dX8_joins_85 (by decide) ?_
                exact ih x34 h33 o H locs ls E hZ (lv_sub hl [0, 2, 3] rfl) hex
  have L90 : ∀ (n : Nat) (v90_2 : Int32) (h90_ : cd_Hp) (o : (Int32 × cd_Hp)) (H : Heap) (locs : List Loc) (ls : Array Slot), cd_lp (f_X8_joins_B90 a1) n (v90_2, h90_) = some o → cd_Z G h90_ s.heap H locs → lv_has ls 4 [(2, .int v90_2), (0, .ref (G.2.2.2.2 + 404)), (1, .int a1)] → (∀ (H : Heap) (locs : List Loc) (ls : Array Slot), cd_Z G o.2 s.heap H locs → lv_has ls 4 [(2, .int o.1), (0, .ref (G.2.2.2.2 + 404)), (1, .int a1)] → W p l e rm_X8_joins s m args below meth c H locs 0 0 Q (F0 m 152 ls [])) → W p l e rm_X8_joins s m args below meth c H locs 0 0 Q (F0 m 90 ls []) := by
    intro n
    induction n with
    | zero => intro v90_2 h90_ o H locs ls E; exact nomatch (show (none : Option (Int32 × cd_Hp)) = some o from E)
    | succ n ih =>
      intro v90_2 h90_ o H locs ls E hZ hl hex
      have E : f_X8_joins_B90 a1 (cd_lp (f_X8_joins_B90 a1) n) (v90_2, h90_) = some o := E
      unfold f_X8_joins_B90 at E
      dsimp only at E
      refine lv_iload_n S.1 S.2.1 dX8_joins_90 rfl (lv_at hl 0 rfl) ?_
      refine lv_aload_n S.1 S.2.1 dX8_joins_91 rfl (lv_at hl 1 rfl) ?_
      refine cd_get8 (v := .ref (G.2.2.2.2 + 405)) S hK hZ cd_this8 0 cd_f_X8_7 rfl dX8_joins_92 ?_
      refine lv_sipush (v := 419) S.1 S.2.1 dX8_joins_95 (by decide) ?_
      refine cd_iald S hK hZ (cd_r8_0 cd_this8) (by decide) dX8_joins_98 ?_
      refine lv_icmp_gt (tgt := 152) S.1 S.2.1 dX8_joins_99 (by decide) (fun c36 => ?_) (fun c36 => ?_)
      · have E := cd_tE c36 E
        cases E
        exact hex H locs ls hZ (lv_sub hl [0, 1, 2] rfl)
      · have E := cd_fE c36 E
        refine lv_aload_n S.1 S.2.1 dX8_joins_102 rfl (lv_at hl 1 rfl) ?_
        refine cd_get8 (v := .ref (G.2.2.2.2 + 405)) S hK hZ cd_this8 0 cd_f_X8_7 rfl dX8_joins_103 ?_
        refine lv_sipush (v := 419) S.1 S.2.1 dX8_joins_106 (by decide) ?_
        refine lv_iload_n S.1 S.2.1 dX8_joins_109 rfl (lv_at hl 0 rfl) ?_
        refine lv_iadd S.1 S.2.1 dX8_joins_110 ?_
        obtain ⟨z37, E⟩ := cd_ckE E
        refine cd_iald S hK hZ (cd_r8_0 cd_this8) z37 dX8_joins_111 ?_
        obtain ⟨x38, ex38, E⟩ := cd_nmE E
        refine cd_topi ex38 ?_
        refine lv_istore_n (lv' := [(3, .int x38), (2, .int v90_2), (0, .ref (G.2.2.2.2 + 404)), (1, .int a1)]) S.1 S.2.1 dX8_joins_112 rfl hl (by decide) rfl (fun ls hl => ?_)
        refine lv_iload_n S.1 S.2.1 dX8_joins_113 rfl (lv_at hl 3 rfl) ?_
        refine lv_iload_n S.1 S.2.1 dX8_joins_114 rfl (lv_at hl 0 rfl) ?_
        refine cd_cSz (As := [.int a1, .int x38]) S hK hZ hl.1 (c_X8_has l G a1 x38 h90_ _ rfl) cd_v_X8_has cd_m_X8_135 ⟨Nat.le_of_ble_eq_true rfl, Nat.le_of_ble_eq_true rfl⟩ ⟨rfl, rfl⟩ rfl rfl (Nat.le_of_ble_eq_true rfl) ⟨Nat.zero_le _, Nat.zero_le _⟩ dX8_joins_115 (fun H locs hZ b39 => ?_)
        refine lv_if_eq (tgt := 146) S.1 S.2.1 dX8_joins_118 (by decide) (fun c40 => ?_) (fun c40 => ?_)
        · have E := cd_tE c40 E
          obtain ⟨x41, ex41, E⟩ := cd_nmE E
          refine lv_iinc (v := x41) (lv' := [(2, .int x41), (3, .int x38), (0, .ref (G.2.2.2.2 + 404)), (1, .int a1)]) S.1 S.2.1 dX8_joins_146 hl (k := 1) rfl (by rw [ex41]; rfl) (by decide) rfl (fun ls hl => ?_)
          refine lv_goto (tgt := 90) S.1 S.2.1 dX8_joins_149 (by decide) ?_
          exact ih x41 h90_ o H locs ls E hZ (lv_sub hl [0, 2, 3] rfl) hex
        · have E := cd_fE c40 E
          refine lv_aload_n S.1 S.2.1 dX8_joins_121 rfl (lv_at hl 2 rfl) ?_
          refine cd_get8 (v := .ref (G.2.2.2.2 + 405)) S hK hZ cd_this8 0 cd_f_X8_7 rfl dX8_joins_122 ?_
          refine lv_iload_n S.1 S.2.1 dX8_joins_125 rfl (lv_at hl 0 rfl) ?_
          refine cd_cSi (As := [.int x38]) S hK hZ hl.1 (c_X8_groupAt l G x38 h90_ _ rfl) cd_v_X8_groupAt cd_m_X8_55 ⟨Nat.le_of_ble_eq_true rfl, Nat.le_of_ble_eq_true rfl⟩ ⟨rfl, rfl⟩ rfl rfl (Nat.le_of_ble_eq_true rfl) ⟨Nat.zero_le _, Nat.zero_le _⟩ dX8_joins_126 (fun H locs hZ => ?_)
          refine lv_bipush (v := 9) S.1 S.2.1 dX8_joins_129 (by decide) ?_
          refine lv_iadd S.1 S.2.1 dX8_joins_131 ?_
          refine lv_aload_n S.1 S.2.1 dX8_joins_132 rfl (lv_at hl 2 rfl) ?_
          refine lv_iload_n S.1 S.2.1 dX8_joins_133 rfl (lv_at hl 0 rfl) ?_
          obtain ⟨o43, E1, E⟩ := cd_bE E
          refine cd_cVz (As := [.int x38]) S hK hZ hl.1 (c_X8_isJoined l G x38 h90_ o43 E1) cd_v_X8_isJoined cd_m_X8_148 ⟨Nat.le_of_ble_eq_true rfl, Nat.le_of_ble_eq_true rfl⟩ ⟨rfl, rfl⟩ (ci := 8) (by decide) rfl cd_this8 rfl rfl (Nat.le_of_ble_eq_true rfl) ⟨Nat.zero_le _, Nat.zero_le _⟩ dX8_joins_134 (fun H locs hZ b44 => ?_)
          refine lv_if_eq (tgt := 144) S.1 S.2.1 dX8_joins_137 (by decide) (fun c45 => ?_) (fun c45 => ?_)
          · have E := cd_tE c45 E
            refine lv_iconst (v := 0) S.1 S.2.1 dX8_joins_144 (by decide) ?_
            obtain ⟨z46, E⟩ := cd_ckE E
            obtain ⟨h47, eh47, E⟩ := cd_nmE E
            refine cd_iast S hK hZ (cd_r8_0 cd_this8) z46 eh47 dX8_joins_145 (fun H locs hZ => ?_)
            obtain ⟨x48, ex48, E⟩ := cd_nmE E
            refine lv_iinc (v := x48) (lv' := [(2, .int x48), (3, .int x38), (0, .ref (G.2.2.2.2 + 404)), (1, .int a1)]) S.1 S.2.1 dX8_joins_146 hl (k := 1) rfl (by rw [ex48]; rfl) (by decide) rfl (fun ls hl => ?_)
            refine lv_goto (tgt := 90) S.1 S.2.1 dX8_joins_149 (by decide) ?_
            exact ih x48 h47 o H locs ls E hZ (lv_sub hl [0, 2, 3] rfl) hex
          · have E := cd_fE c45 E
            refine lv_iconst (v := 1) S.1 S.2.1 dX8_joins_140 (by decide) ?_
            refine lv_goto (tgt := 145) S.1 S.2.1 dX8_joins_141 (by decide) ?_
            obtain ⟨z49, E⟩ := cd_ckE E
            obtain ⟨h50, eh50, E⟩ := cd_nmE E
            refine cd_iast S hK hZ (cd_r8_0 cd_this8) z49 eh50 dX8_joins_145 (fun H locs hZ => ?_)
            obtain ⟨x51, ex51, E⟩ := cd_nmE E
            refine lv_iinc (v := x51) (lv' := [(2, .int x51), (3, .int x38), (0, .ref (G.2.2.2.2 + 404)), (1, .int a1)]) S.1 S.2.1 dX8_joins_146 hl (k := 1) rfl (by rw [ex51]; rfl) (by decide) rfl (fun ls hl => ?_)
            refine lv_goto (tgt := 90) S.1 S.2.1 dX8_joins_149 (by decide) ?_
            exact ih x51 h50 o H locs ls E hZ (lv_sub hl [0, 2, 3] rfl) hex
  have L159 : ∀ (p159_2 : Int32), ∀ (n : Nat) (v159_3 : Int32) (h159_ : cd_Hp) (o : (Int32 × cd_Hp)) (H : Heap) (locs : List Loc) (ls : Array Slot), cd_lp (f_X8_joins_B159 a1 p159_2) n (v159_3, h159_) = some o → cd_Z G h159_ s.heap H locs → lv_has ls 4 [(3, .int v159_3), (2, .int p159_2), (0, .ref (G.2.2.2.2 + 404)), (1, .int a1)] → (∀ (H : Heap) (locs : List Loc) (ls : Array Slot), cd_Z G o.2 s.heap H locs → lv_has ls 4 [(3, .int o.1), (2, .int p159_2), (0, .ref (G.2.2.2.2 + 404)), (1, .int a1)] → W p l e rm_X8_joins s m args below meth c H locs 0 0 Q (F0 m 196 ls [])) → W p l e rm_X8_joins s m args below meth c H locs 0 0 Q (F0 m 159 ls []) := by
    intro p159_2
    intro n
    induction n with
    | zero => intro v159_3 h159_ o H locs ls E; exact nomatch (show (none : Option (Int32 × cd_Hp)) = some o from E)
    | succ n ih =>
      intro v159_3 h159_ o H locs ls E hZ hl hex
      have E : f_X8_joins_B159 a1 p159_2 (cd_lp (f_X8_joins_B159 a1 p159_2) n) (v159_3, h159_) = some o := E
      unfold f_X8_joins_B159 at E
      dsimp only at E
      refine lv_iload_n S.1 S.2.1 dX8_joins_159 rfl (lv_at hl 0 rfl) ?_
      refine lv_aload_n S.1 S.2.1 dX8_joins_160 rfl (lv_at hl 2 rfl) ?_
      refine cd_get8 (v := .int (cd_g h159_ 404 9)) S hK hZ cd_this8 9 cd_f_X8_132 rfl dX8_joins_161 ?_
      refine lv_icmp_ge (tgt := 196) S.1 S.2.1 dX8_joins_164 (by decide) (fun c55 => ?_) (fun c55 => ?_)
      · have E := cd_tE c55 E
        cases E
        exact hex H locs ls hZ (lv_sub hl [0, 1, 2, 3] rfl)
      · have E := cd_fE c55 E
        refine lv_iload_n S.1 S.2.1 dX8_joins_167 rfl (lv_at hl 1 rfl) ?_
        refine lv_if_eq (tgt := 196) S.1 S.2.1 dX8_joins_168 (by decide) (fun c56 => ?_) (fun c56 => ?_)
        · have E := cd_tE c56 E
          cases E
          exact hex H locs ls hZ (lv_sub hl [0, 1, 2, 3] rfl)
        · have E := cd_fE c56 E
          refine lv_aload_n S.1 S.2.1 dX8_joins_171 rfl (lv_at hl 2 rfl) ?_
          refine cd_get8 (v := .ref (G.2.2.2.2 + 405)) S hK hZ cd_this8 0 cd_f_X8_7 rfl dX8_joins_172 ?_
          refine lv_aload_n S.1 S.2.1 dX8_joins_175 rfl (lv_at hl 2 rfl) ?_
          refine cd_get8 (v := .ref (G.2.2.2.2 + 411)) S hK hZ cd_this8 8 cd_f_X8_28 rfl dX8_joins_176 ?_
          refine lv_iload_n S.1 S.2.1 dX8_joins_179 rfl (lv_at hl 0 rfl) ?_
          obtain ⟨z57, E⟩ := cd_ckE E
          refine cd_iald S hK hZ (cd_r8_8 cd_this8) z57 dX8_joins_180 ?_
          refine lv_iconst (v := 2) S.1 S.2.1 dX8_joins_181 (by decide) ?_
          refine lv_iadd S.1 S.2.1 dX8_joins_182 ?_
          refine lv_aload_n S.1 S.2.1 dX8_joins_183 rfl (lv_at hl 2 rfl) ?_
          refine cd_get8 (v := .ref (G.2.2.2.2 + 412)) S hK hZ cd_this8 10 cd_f_X8_31 rfl dX8_joins_184 ?_
          refine lv_iload_n S.1 S.2.1 dX8_joins_187 rfl (lv_at hl 0 rfl) ?_
          obtain ⟨z58, E⟩ := cd_ckE E
          refine cd_iald S hK hZ (cd_r8_10 cd_this8) z58 dX8_joins_188 ?_
          obtain ⟨z59, E⟩ := cd_ckE E
          obtain ⟨h60, eh60, E⟩ := cd_nmE E
          refine cd_iast S hK hZ (cd_r8_0 cd_this8) z59 eh60 dX8_joins_189 (fun H locs hZ => ?_)
          obtain ⟨x61, ex61, E⟩ := cd_nmE E
          refine lv_iinc (v := x61) (lv' := [(3, .int x61), (2, .int p159_2), (0, .ref (G.2.2.2.2 + 404)), (1, .int a1)]) S.1 S.2.1 dX8_joins_190 hl (k := 0) rfl (by rw [ex61]; rfl) (by decide) rfl (fun ls hl => ?_)
          refine lv_goto (tgt := 159) S.1 S.2.1 dX8_joins_193 (by decide) ?_
          exact ih x61 h60 o H locs ls E hZ (lv_sub hl [0, 1, 2, 3] rfl) hex
  unfold f_X8_joins at E
  refine lv_aload_n S.1 S.2.1 dX8_joins_0 rfl (lv_at hl 0 rfl) ?_
  obtain ⟨o1, E1, E⟩ := cd_bE E
  refine cd_cVv (As := []) S hK hZ hl.1 (c_X8_clears l G  h o1 E1) cd_v_X8_clears cd_m_X8_145 ⟨Nat.le_of_ble_eq_true rfl, Nat.le_of_ble_eq_true rfl⟩ ⟨rfl, rfl⟩ (ci := 8) (by decide) rfl cd_this8 rfl rfl (Nat.le_of_ble_eq_true rfl) ⟨Nat.zero_le _, Nat.zero_le _⟩ dX8_joins_1 (fun H locs hZ => ?_)
  refine lv_iconst (v := 0) S.1 S.2.1 dX8_joins_4 (by decide) ?_
  refine lv_istore_n (lv' := [(2, .int 0), (0, .ref (G.2.2.2.2 + 404)), (1, .int a1)]) S.1 S.2.1 dX8_joins_5 rfl hl (by decide) rfl (fun ls hl => ?_)
  obtain ⟨o35, E1, E⟩ := cd_bE E
  refine L6 cd_fu 0 o1 o35 H locs ls E1 hZ (lv_sub hl [0, 1, 2] rfl) (fun H locs ls hZ hl => ?_)
  refine lv_iconst (v := 1) S.1 S.2.1 dX8_joins_88 (by decide) ?_
  refine lv_istore_n (lv' := [(2, .int 1), (0, .ref (G.2.2.2.2 + 404)), (1, .int a1)]) S.1 S.2.1 dX8_joins_89 rfl hl (by decide) rfl (fun ls hl => ?_)
  obtain ⟨o52, E1, E⟩ := cd_bE E
  refine L90 cd_fu 1 o35.2 o52 H locs ls E1 hZ (lv_sub hl [0, 1, 2] rfl) (fun H locs ls hZ hl => ?_)
  refine lv_aload_n S.1 S.2.1 dX8_joins_152 rfl (lv_at hl 1 rfl) ?_
  obtain ⟨o53, E1, E⟩ := cd_bE E
  refine cd_cVz (As := []) S hK hZ hl.1 (c_X8_canSit l G  o52.2 o53 E1) cd_v_X8_canSit cd_m_X8_141 ⟨Nat.le_of_ble_eq_true rfl, Nat.le_of_ble_eq_true rfl⟩ ⟨rfl, rfl⟩ (ci := 8) (by decide) rfl cd_this8 rfl rfl (Nat.le_of_ble_eq_true rfl) ⟨Nat.zero_le _, Nat.zero_le _⟩ dX8_joins_153 (fun H locs hZ b54 => ?_)
  refine lv_istore_n (lv' := [(2, .int o53.1), (0, .ref (G.2.2.2.2 + 404)), (1, .int a1)]) S.1 S.2.1 dX8_joins_156 rfl hl (by decide) rfl (fun ls hl => ?_)
  refine lv_iconst (v := 0) S.1 S.2.1 dX8_joins_157 (by decide) ?_
  refine lv_istore_n (lv' := [(3, .int 0), (2, .int o53.1), (0, .ref (G.2.2.2.2 + 404)), (1, .int a1)]) S.1 S.2.1 dX8_joins_158 rfl hl (by decide) rfl (fun ls hl => ?_)
  obtain ⟨o62, E1, E⟩ := cd_bE E
  refine L159 o53.1 cd_fu 0 o53.2 o62 H locs ls E1 hZ (lv_sub hl [0, 1, 2, 3] rfl) (fun H locs ls hZ hl => ?_)
  exact hret _ _ _ _ _ (Option.some.inj E) hZ dX8_joins_196
abbrev rm_X8_counts : Room := { frames := 2, cells := 0, slots := 0, locals := 42 }
theorem cd_v_X8_counts : cd_V yX8_counts cX8_counts 8 none 2 := ⟨cd_i_X8_counts, cd_e_X8_X8_counts, cd_n_X8, cd_c_X8_counts, by decide +kernel⟩
set_option maxHeartbeats 4000000 in
set_option maxRecDepth 100000 in
theorem c_X8_counts (l : Launch) (G : cd_G) (a1 : Int32) (a2 : Int32) (h : cd_Hp) (out : cd_Hp) (E : f_X8_counts a1 a2 h = some out) : cd_Mv l G yX8_counts (Cond.code yX8_counts cX8_counts 8 none :: cd_T) rm_X8_counts [.ref (G.2.2.2.2 + 404), .int a1, .int a2] h out := by
  refine cd_inv (by decide) (Nat.le_of_ble_eq_true rfl) ?_
  intro p e s m args below meth c Q ls H locs S hK hZ hl hret
  have hl : lv_has ls 8 [(0, .ref (G.2.2.2.2 + 404)), (1, .int a1), (2, .int a2)] := hl
  have L75 : ∀ (p75_3 : Int32) (p75_4 : Int32), ∀ (n : Nat) (v75_5 : Int32) (h75_ : cd_Hp) (o : (Int32 × cd_Hp)) (H : Heap) (locs : List Loc) (ls : Array Slot), cd_lp (f_X8_counts_B75 a1 a2 p75_3 p75_4) n (v75_5, h75_) = some o → cd_Z G h75_ s.heap H locs → lv_has ls 8 [(5, .int v75_5), (4, .int p75_4), (3, .int p75_3), (0, .ref (G.2.2.2.2 + 404)), (1, .int a1), (2, .int a2)] → (∀ (H : Heap) (locs : List Loc) (ls : Array Slot), cd_Z G o.2 s.heap H locs → lv_has ls 8 [(5, .int o.1), (4, .int p75_4), (3, .int p75_3), (0, .ref (G.2.2.2.2 + 404)), (1, .int a1), (2, .int a2)] → W p l e rm_X8_counts s m args below meth c H locs 0 0 Q (F0 m 185 ls [])) → W p l e rm_X8_counts s m args below meth c H locs 0 0 Q (F0 m 75 ls []) := by
    intro p75_3 p75_4
    intro n
    induction n with
    | zero => intro v75_5 h75_ o H locs ls E; exact nomatch (show (none : Option (Int32 × cd_Hp)) = some o from E)
    | succ n ih =>
      intro v75_5 h75_ o H locs ls E hZ hl hex
      have E : f_X8_counts_B75 a1 a2 p75_3 p75_4 (cd_lp (f_X8_counts_B75 a1 a2 p75_3 p75_4) n) (v75_5, h75_) = some o := E
      unfold f_X8_counts_B75 at E
      dsimp only at E
      refine lv_iload S.1 S.2.1 dX8_counts_75 (lv_at hl 0 rfl) ?_
      refine lv_aload_n S.1 S.2.1 dX8_counts_77 rfl (lv_at hl 3 rfl) ?_
      refine cd_get8 (v := .ref (G.2.2.2.2 + 405)) S hK hZ cd_this8 0 cd_f_X8_7 rfl dX8_counts_78 ?_
      refine lv_iload S.1 S.2.1 dX8_counts_81 (lv_at hl 1 rfl) ?_
      refine lv_iconst (v := 5) S.1 S.2.1 dX8_counts_83 (by decide) ?_
      refine lv_iadd S.1 S.2.1 dX8_counts_84 ?_
      obtain ⟨z13, E⟩ := cd_ckE E
      refine cd_iald S hK hZ (cd_r8_0 cd_this8) z13 dX8_counts_85 ?_
      refine lv_icmp_ge (tgt := 185) S.1 S.2.1 dX8_counts_86 (by decide) (fun c14 => ?_) (fun c14 => ?_)
      · have E := cd_tE c14 E
        cases E
        exact hex H locs ls hZ (lv_sub hl [0, 1, 2, 3, 4, 5] rfl)
      · have E := cd_fE c14 E
        refine lv_aload_n S.1 S.2.1 dX8_counts_89 rfl (lv_at hl 3 rfl) ?_
        refine cd_get8 (v := .ref (G.2.2.2.2 + 405)) S hK hZ cd_this8 0 cd_f_X8_7 rfl dX8_counts_90 ?_
        refine lv_iload S.1 S.2.1 dX8_counts_93 (lv_at hl 1 rfl) ?_
        refine lv_bipush (v := 9) S.1 S.2.1 dX8_counts_95 (by decide) ?_
        refine lv_iadd S.1 S.2.1 dX8_counts_97 ?_
        obtain ⟨z15, E⟩ := cd_ckE E
        refine cd_iald S hK hZ (cd_r8_0 cd_this8) z15 dX8_counts_98 ?_
        refine lv_iconst (v := 1) S.1 S.2.1 dX8_counts_99 (by decide) ?_
        refine lv_icmp_ne (tgt := 185) S.1 S.2.1 dX8_counts_100 (by decide) (fun c16 => ?_) (fun c16 => ?_)
        · have E := cd_fE c16 E
          cases E
          exact hex H locs ls hZ (lv_sub hl [0, 1, 2, 3, 4, 5] rfl)
        · have E := cd_tE c16 E
          refine lv_aload_n S.1 S.2.1 dX8_counts_103 rfl (lv_at hl 3 rfl) ?_
          refine lv_iload_n S.1 S.2.1 dX8_counts_104 rfl (lv_at hl 4 rfl) ?_
          refine lv_aload_n S.1 S.2.1 dX8_counts_105 rfl (lv_at hl 3 rfl) ?_
          refine cd_get8 (v := .ref (G.2.2.2.2 + 405)) S hK hZ cd_this8 0 cd_f_X8_7 rfl dX8_counts_106 ?_
          refine lv_iload_n S.1 S.2.1 dX8_counts_109 rfl (lv_at hl 2 rfl) ?_
          refine lv_iload S.1 S.2.1 dX8_counts_110 (lv_at hl 0 rfl) ?_
          refine cd_cSi (As := [.int p75_3, .int v75_5]) S hK hZ hl.1 (c_X8_eventAt l G p75_3 v75_5 h75_ _ rfl) cd_v_X8_eventAt cd_m_X8_115 ⟨Nat.le_of_ble_eq_true rfl, Nat.le_of_ble_eq_true rfl⟩ ⟨rfl, rfl⟩ rfl rfl (Nat.le_of_ble_eq_true rfl) ⟨Nat.zero_le _, Nat.zero_le _⟩ dX8_counts_112 (fun H locs hZ => ?_)
          obtain ⟨z18, E⟩ := cd_ckE E
          refine cd_iald S hK hZ (cd_r8_0 cd_this8) z18 dX8_counts_115 ?_
          obtain ⟨o19, E1, E⟩ := cd_bE E
          refine cd_cVi (As := [.int a1, .int (cd_g h75_ 405 ((f_X8_eventAt p75_3 v75_5).toNatClampNeg))]) S hK hZ hl.1 (c_X8_rateOf l G a1 (cd_g h75_ 405 ((f_X8_eventAt p75_3 v75_5).toNatClampNeg)) h75_ o19 E1) cd_v_X8_rateOf cd_m_X8_92 ⟨Nat.le_of_ble_eq_true rfl, Nat.le_of_ble_eq_true rfl⟩ ⟨rfl, rfl⟩ (ci := 8) (by decide) rfl cd_this8 rfl rfl (Nat.le_of_ble_eq_true rfl) ⟨Nat.zero_le _, Nat.zero_le _⟩ dX8_counts_116 (fun H locs hZ => ?_)
          refine lv_istore (lv' := [(6, .int o19), (5, .int v75_5), (4, .int p75_4), (3, .int p75_3), (0, .ref (G.2.2.2.2 + 404)), (1, .int a1), (2, .int a2)]) S.1 S.2.1 dX8_counts_119 hl (by decide) rfl (fun ls hl => ?_)
          refine lv_aload_n S.1 S.2.1 dX8_counts_121 rfl (lv_at hl 4 rfl) ?_
          refine cd_get8 (v := .ref (G.2.2.2.2 + 405)) S hK hZ cd_this8 0 cd_f_X8_7 rfl dX8_counts_122 ?_
          refine lv_iload_n S.1 S.2.1 dX8_counts_125 rfl (lv_at hl 3 rfl) ?_
          refine lv_iload S.1 S.2.1 dX8_counts_126 (lv_at hl 1 rfl) ?_
          refine lv_iload_n S.1 S.2.1 dX8_counts_128 rfl (lv_at hl 5 rfl) ?_
          refine cd_cSi (As := [.int p75_3, .int v75_5, .int a1]) S hK hZ hl.1 (c_X8_countAt l G p75_3 v75_5 a1 h75_ _ rfl) cd_v_X8_countAt cd_m_X8_111 ⟨Nat.le_of_ble_eq_true rfl, Nat.le_of_ble_eq_true rfl⟩ ⟨rfl, rfl⟩ rfl rfl (Nat.le_of_ble_eq_true rfl) ⟨Nat.zero_le _, Nat.zero_le _⟩ dX8_counts_129 (fun H locs hZ => ?_)
          refine lv_dup2_11 S.1 S.2.1 dX8_counts_132 rfl rfl ?_
          obtain ⟨z22, E⟩ := cd_ckE E
          refine cd_iald S hK hZ (cd_r8_0 cd_this8) z22 dX8_counts_133 ?_
          refine lv_iload S.1 S.2.1 dX8_counts_134 (lv_at hl 0 rfl) ?_
          refine lv_iadd S.1 S.2.1 dX8_counts_136 ?_
          obtain ⟨z23, E⟩ := cd_ckE E
          obtain ⟨h24, eh24, E⟩ := cd_nmE E
          refine cd_iast S hK hZ (cd_r8_0 cd_this8) z23 eh24 dX8_counts_137 (fun H locs hZ => ?_)
          refine lv_iload_n S.1 S.2.1 dX8_counts_138 rfl (lv_at hl 3 rfl) ?_
          refine lv_iload S.1 S.2.1 dX8_counts_139 (lv_at hl 1 rfl) ?_
          refine cd_cSi (As := [.int p75_3, .int v75_5]) S hK hZ hl.1 (c_X8_eventAt l G p75_3 v75_5 h24 _ rfl) cd_v_X8_eventAt cd_m_X8_115 ⟨Nat.le_of_ble_eq_true rfl, Nat.le_of_ble_eq_true rfl⟩ ⟨rfl, rfl⟩ rfl rfl (Nat.le_of_ble_eq_true rfl) ⟨Nat.zero_le _, Nat.zero_le _⟩ dX8_counts_141 (fun H locs hZ => ?_)
          refine lv_iconst (v := 1) S.1 S.2.1 dX8_counts_144 (by decide) ?_
          refine lv_iadd S.1 S.2.1 dX8_counts_145 ?_
          obtain ⟨x26, ex26, E⟩ := cd_nmE E
          refine cd_topi ex26 ?_
          refine lv_istore (lv' := [(7, .int x26), (6, .int o19), (5, .int v75_5), (4, .int p75_4), (3, .int p75_3), (0, .ref (G.2.2.2.2 + 404)), (1, .int a1), (2, .int a2)]) S.1 S.2.1 dX8_counts_146 hl (by decide) rfl (fun ls hl => ?_)
          refine lv_aload_n S.1 S.2.1 dX8_counts_148 rfl (lv_at hl 5 rfl) ?_
          refine cd_get8 (v := .ref (G.2.2.2.2 + 405)) S hK hZ cd_this8 0 cd_f_X8_7 rfl dX8_counts_149 ?_
          refine lv_iload S.1 S.2.1 dX8_counts_152 (lv_at hl 0 rfl) ?_
          refine lv_iload S.1 S.2.1 dX8_counts_154 (lv_at hl 1 rfl) ?_
          refine lv_aload_n S.1 S.2.1 dX8_counts_156 rfl (lv_at hl 5 rfl) ?_
          refine cd_get8 (v := .ref (G.2.2.2.2 + 405)) S hK hZ cd_this8 0 cd_f_X8_7 rfl dX8_counts_157 ?_
          refine lv_iload S.1 S.2.1 dX8_counts_160 (lv_at hl 0 rfl) ?_
          obtain ⟨z27, E⟩ := cd_ckE E
          refine cd_iald S hK hZ (cd_r8_0 cd_this8) z27 dX8_counts_162 ?_
          refine lv_icmp_le (tgt := 171) S.1 S.2.1 dX8_counts_163 (by decide) (fun c28 => ?_) (fun c28 => ?_)
          · have E := cd_tE c28 E
            refine lv_aload_n S.1 S.2.1 dX8_counts_171 rfl (lv_at hl 5 rfl) ?_
            refine cd_get8 (v := .ref (G.2.2.2.2 + 405)) S hK hZ cd_this8 0 cd_f_X8_7 rfl dX8_counts_172 ?_
            refine lv_iload S.1 S.2.1 dX8_counts_175 (lv_at hl 0 rfl) ?_
            obtain ⟨z29, E⟩ := cd_ckE E
            refine cd_iald S hK hZ (cd_r8_0 cd_this8) z29 dX8_counts_177 ?_
            obtain ⟨z30, E⟩ := cd_ckE E
            obtain ⟨h31, eh31, E⟩ := cd_nmE E
            refine cd_iast S hK hZ (cd_r8_0 cd_this8) z30 eh31 dX8_counts_178 (fun H locs hZ => ?_)
            obtain ⟨x32, ex32, E⟩ := cd_nmE E
            refine lv_iinc (v := x32) (lv' := [(5, .int x32), (7, .int x26), (6, .int o19), (4, .int p75_4), (3, .int p75_3), (0, .ref (G.2.2.2.2 + 404)), (1, .int a1), (2, .int a2)]) S.1 S.2.1 dX8_counts_179 hl (k := 2) rfl (by rw [ex32]; rfl) (by decide) rfl (fun ls hl => ?_)
            refine lv_goto (tgt := 75) S.1 S.2.1 dX8_counts_182 (by decide) ?_
            exact ih x32 h31 o H locs ls E hZ (lv_sub hl [0, 3, 4, 5, 6, 7] rfl) hex
          · have E := cd_fE c28 E
            refine lv_iload S.1 S.2.1 dX8_counts_166 (lv_at hl 1 rfl) ?_
            refine lv_goto (tgt := 178) S.1 S.2.1 dX8_counts_168 (by decide) ?_
            obtain ⟨z33, E⟩ := cd_ckE E
            obtain ⟨h34, eh34, E⟩ := cd_nmE E
            refine cd_iast S hK hZ (cd_r8_0 cd_this8) z33 eh34 dX8_counts_178 (fun H locs hZ => ?_)
            obtain ⟨x35, ex35, E⟩ := cd_nmE E
            refine lv_iinc (v := x35) (lv' := [(5, .int x35), (7, .int x26), (6, .int o19), (4, .int p75_4), (3, .int p75_3), (0, .ref (G.2.2.2.2 + 404)), (1, .int a1), (2, .int a2)]) S.1 S.2.1 dX8_counts_179 hl (k := 2) rfl (by rw [ex35]; rfl) (by decide) rfl (fun ls hl => ?_)
            refine lv_goto (tgt := 75) S.1 S.2.1 dX8_counts_182 (by decide) ?_
            exact ih x35 h34 o H locs ls E hZ (lv_sub hl [0, 3, 4, 5, 6, 7] rfl) hex
  have L2 : ∀ (n : Nat) (v2_3 : Int32) (h2_ : cd_Hp) (o : (Int32 × cd_Hp)) (H : Heap) (locs : List Loc) (ls : Array Slot), cd_lp (f_X8_counts_B2 a1 a2) n (v2_3, h2_) = some o → cd_Z G h2_ s.heap H locs → lv_has ls 8 [(3, .int v2_3), (0, .ref (G.2.2.2.2 + 404)), (1, .int a1), (2, .int a2)] → (∀ (H : Heap) (locs : List Loc) (ls : Array Slot), cd_Z G o.2 s.heap H locs → lv_has ls 8 [(3, .int o.1), (0, .ref (G.2.2.2.2 + 404)), (1, .int a1), (2, .int a2)] → W p l e rm_X8_counts s m args below meth c H locs 0 0 Q (F0 m 191 ls [])) → W p l e rm_X8_counts s m args below meth c H locs 0 0 Q (F0 m 2 ls []) := by
    intro n
    induction n with
    | zero => intro v2_3 h2_ o H locs ls E; exact nomatch (show (none : Option (Int32 × cd_Hp)) = some o from E)
    | succ n ih =>
      intro v2_3 h2_ o H locs ls E hZ hl hex
      have E : f_X8_counts_B2 a1 a2 (cd_lp (f_X8_counts_B2 a1 a2) n) (v2_3, h2_) = some o := E
      unfold f_X8_counts_B2 at E
      dsimp only at E
      refine lv_iload_n S.1 S.2.1 dX8_counts_2 rfl (lv_at hl 0 rfl) ?_
      refine lv_aload_n S.1 S.2.1 dX8_counts_3 rfl (lv_at hl 1 rfl) ?_
      refine cd_get8 (v := .ref (G.2.2.2.2 + 405)) S hK hZ cd_this8 0 cd_f_X8_7 rfl dX8_counts_4 ?_
      refine lv_bipush (v := 70) S.1 S.2.1 dX8_counts_7 (by decide) ?_
      refine cd_iald S hK hZ (cd_r8_0 cd_this8) (by decide) dX8_counts_9 ?_
      refine lv_icmp_ge (tgt := 191) S.1 S.2.1 dX8_counts_10 (by decide) (fun c1 => ?_) (fun c1 => ?_)
      · have E := cd_tE c1 E
        cases E
        exact hex H locs ls hZ (lv_sub hl [0, 1, 2, 3] rfl)
      · have E := cd_fE c1 E
        refine lv_iload_n S.1 S.2.1 dX8_counts_13 rfl (lv_at hl 0 rfl) ?_
        refine cd_cSi (As := [.int v2_3]) S hK hZ hl.1 (c_X8_groupAt l G v2_3 h2_ _ rfl) cd_v_X8_groupAt cd_m_X8_55 ⟨Nat.le_of_ble_eq_true rfl, Nat.le_of_ble_eq_true rfl⟩ ⟨rfl, rfl⟩ rfl rfl (Nat.le_of_ble_eq_true rfl) ⟨Nat.zero_le _, Nat.zero_le _⟩ dX8_counts_14 (fun H locs hZ => ?_)
        obtain ⟨x3, ex3, E⟩ := cd_nmE E
        refine cd_topi ex3 ?_
        refine lv_istore (lv' := [(4, .int x3), (3, .int v2_3), (0, .ref (G.2.2.2.2 + 404)), (1, .int a1), (2, .int a2)]) S.1 S.2.1 dX8_counts_17 hl (by decide) rfl (fun ls hl => ?_)
        refine lv_aload_n S.1 S.2.1 dX8_counts_19 rfl (lv_at hl 2 rfl) ?_
        refine cd_get8 (v := .ref (G.2.2.2.2 + 405)) S hK hZ cd_this8 0 cd_f_X8_7 rfl dX8_counts_20 ?_
        refine lv_iload S.1 S.2.1 dX8_counts_23 (lv_at hl 0 rfl) ?_
        refine lv_bipush (v := 46) S.1 S.2.1 dX8_counts_25 (by decide) ?_
        refine lv_iadd S.1 S.2.1 dX8_counts_27 ?_
        refine lv_iload_n S.1 S.2.1 dX8_counts_28 rfl (lv_at hl 3 rfl) ?_
        refine lv_iadd S.1 S.2.1 dX8_counts_29 ?_
        refine lv_dup2_11 S.1 S.2.1 dX8_counts_30 rfl rfl ?_
        obtain ⟨z4, E⟩ := cd_ckE E
        refine cd_iald S hK hZ (cd_r8_0 cd_this8) z4 dX8_counts_31 ?_
        refine lv_iload_n S.1 S.2.1 dX8_counts_32 rfl (lv_at hl 4 rfl) ?_
        refine lv_iload_n S.1 S.2.1 dX8_counts_33 rfl (lv_at hl 1 rfl) ?_
        refine cd_cSz (As := [.int a2, .int v2_3]) S hK hZ hl.1 (c_X8_has l G a2 v2_3 h2_ _ rfl) cd_v_X8_has cd_m_X8_135 ⟨Nat.le_of_ble_eq_true rfl, Nat.le_of_ble_eq_true rfl⟩ ⟨rfl, rfl⟩ rfl rfl (Nat.le_of_ble_eq_true rfl) ⟨Nat.zero_le _, Nat.zero_le _⟩ dX8_counts_34 (fun H locs hZ b5 => ?_)
        refine lv_if_eq (tgt := 44) S.1 S.2.1 dX8_counts_37 (by decide) (fun c6 => ?_) (fun c6 => ?_)
        · have E := cd_tE c6 E
          refine lv_iconst (v := 0) S.1 S.2.1 dX8_counts_44 (by decide) ?_
          refine lv_iadd S.1 S.2.1 dX8_counts_45 ?_
          obtain ⟨z7, E⟩ := cd_ckE E
          obtain ⟨h8, eh8, E⟩ := cd_nmE E
          refine cd_iast S hK hZ (cd_r8_0 cd_this8) z7 eh8 dX8_counts_46 (fun H locs hZ => ?_)
          refine lv_aload_n S.1 S.2.1 dX8_counts_47 rfl (lv_at hl 2 rfl) ?_
          refine cd_get8 (v := .ref (G.2.2.2.2 + 405)) S hK hZ cd_this8 0 cd_f_X8_7 rfl dX8_counts_48 ?_
          refine lv_iload S.1 S.2.1 dX8_counts_51 (lv_at hl 0 rfl) ?_
          refine lv_bipush (v := 52) S.1 S.2.1 dX8_counts_53 (by decide) ?_
          refine lv_iadd S.1 S.2.1 dX8_counts_55 ?_
          refine lv_iload_n S.1 S.2.1 dX8_counts_56 rfl (lv_at hl 3 rfl) ?_
          refine lv_iadd S.1 S.2.1 dX8_counts_57 ?_
          refine lv_dup2_11 S.1 S.2.1 dX8_counts_58 rfl rfl ?_
          obtain ⟨z9, E⟩ := cd_ckE E
          refine cd_iald S hK hZ (cd_r8_0 cd_this8) z9 dX8_counts_59 ?_
          refine lv_aload_n S.1 S.2.1 dX8_counts_60 rfl (lv_at hl 2 rfl) ?_
          refine cd_get8 (v := .ref (G.2.2.2.2 + 405)) S hK hZ cd_this8 0 cd_f_X8_7 rfl dX8_counts_61 ?_
          refine lv_iload S.1 S.2.1 dX8_counts_64 (lv_at hl 0 rfl) ?_
          refine lv_bipush (v := 9) S.1 S.2.1 dX8_counts_66 (by decide) ?_
          refine lv_iadd S.1 S.2.1 dX8_counts_68 ?_
          obtain ⟨z10, E⟩ := cd_ckE E
          refine cd_iald S hK hZ (cd_r8_0 cd_this8) z10 dX8_counts_69 ?_
          refine lv_iadd S.1 S.2.1 dX8_counts_70 ?_
          obtain ⟨z11, E⟩ := cd_ckE E
          obtain ⟨h12, eh12, E⟩ := cd_nmE E
          refine cd_iast S hK hZ (cd_r8_0 cd_this8) z11 eh12 dX8_counts_71 (fun H locs hZ => ?_)
          refine lv_iconst (v := 0) S.1 S.2.1 dX8_counts_72 (by decide) ?_
          refine lv_istore (lv' := [(5, .int 0), (4, .int x3), (3, .int v2_3), (0, .ref (G.2.2.2.2 + 404)), (1, .int a1), (2, .int a2)]) S.1 S.2.1 dX8_counts_73 hl (by decide) rfl (fun ls hl => ?_)
          obtain ⟨o36, E1, E⟩ := cd_bE E
          refine L75 v2_3 x3 cd_fu 0 h12 o36 H locs ls E1 hZ (lv_sub hl [0, 1, 2, 3, 4, 5] rfl) (fun H locs ls hZ hl => ?_)
          obtain ⟨x37, ex37, E⟩ := cd_nmE E
          refine lv_iinc (v := x37) (lv' := [(3, .int x37), (5, .int o36.1), (4, .int x3), (0, .ref (G.2.2.2.2 + 404)), (1, .int a1), (2, .int a2)]) S.1 S.2.1 dX8_counts_185 hl (k := 2) rfl (by rw [ex37]; rfl) (by decide) rfl (fun ls hl => ?_)
          refine lv_goto (tgt := 2) S.1 S.2.1 dX8_counts_188 (by decide) ?_
          exact ih x37 o36.2 o H locs ls E hZ (lv_sub hl [0, 3, 4, 5] rfl) hex
        · have E := cd_fE c6 E
          refine lv_iconst (v := 1) S.1 S.2.1 dX8_counts_40 (by decide) ?_
          refine lv_goto (tgt := 45) S.1 S.2.1 dX8_counts_41 (by decide) ?_
          refine lv_iadd S.1 S.2.1 dX8_counts_45 ?_
          obtain ⟨z38, E⟩ := cd_ckE E
          obtain ⟨h39, eh39, E⟩ := cd_nmE E
          refine cd_iast S hK hZ (cd_r8_0 cd_this8) z38 eh39 dX8_counts_46 (fun H locs hZ => ?_)
          refine lv_aload_n S.1 S.2.1 dX8_counts_47 rfl (lv_at hl 2 rfl) ?_
          refine cd_get8 (v := .ref (G.2.2.2.2 + 405)) S hK hZ cd_this8 0 cd_f_X8_7 rfl dX8_counts_48 ?_
          refine lv_iload S.1 S.2.1 dX8_counts_51 (lv_at hl 0 rfl) ?_
          refine lv_bipush (v := 52) S.1 S.2.1 dX8_counts_53 (by decide) ?_
          refine lv_iadd S.1 S.2.1 dX8_counts_55 ?_
          refine lv_iload_n S.1 S.2.1 dX8_counts_56 rfl (lv_at hl 3 rfl) ?_
          refine lv_iadd S.1 S.2.1 dX8_counts_57 ?_
          refine lv_dup2_11 S.1 S.2.1 dX8_counts_58 rfl rfl ?_
          obtain ⟨z40, E⟩ := cd_ckE E
          refine cd_iald S hK hZ (cd_r8_0 cd_this8) z40 dX8_counts_59 ?_
          refine lv_aload_n S.1 S.2.1 dX8_counts_60 rfl (lv_at hl 2 rfl) ?_
          refine cd_get8 (v := .ref (G.2.2.2.2 + 405)) S hK hZ cd_this8 0 cd_f_X8_7 rfl dX8_counts_61 ?_
          refine lv_iload S.1 S.2.1 dX8_counts_64 (lv_at hl 0 rfl) ?_
          refine lv_bipush (v := 9) S.1 S.2.1 dX8_counts_66 (by decide) ?_
          refine lv_iadd S.1 S.2.1 dX8_counts_68 ?_
          obtain ⟨z41, E⟩ := cd_ckE E
          refine cd_iald S hK hZ (cd_r8_0 cd_this8) z41 dX8_counts_69 ?_
          refine lv_iadd S.1 S.2.1 dX8_counts_70 ?_
          obtain ⟨z42, E⟩ := cd_ckE E
          obtain ⟨h43, eh43, E⟩ := cd_nmE E
          refine cd_iast S hK hZ (cd_r8_0 cd_this8) z42 eh43 dX8_counts_71 (fun H locs hZ => ?_)
          refine lv_iconst (v := 0) S.1 S.2.1 dX8_counts_72 (by decide) ?_
          refine lv_istore (lv' := [(5, .int 0), (4, .int x3), (3, .int v2_3), (0, .ref (G.2.2.2.2 + 404)), (1, .int a1), (2, .int a2)]) S.1 S.2.1 dX8_counts_73 hl (by decide) rfl (fun ls hl => ?_)
          obtain ⟨o44, E1, E⟩ := cd_bE E
          refine L75 v2_3 x3 cd_fu 0 h43 o44 H locs ls E1 hZ (lv_sub hl [0, 1, 2, 3, 4, 5] rfl) (fun H locs ls hZ hl => ?_)
          obtain ⟨x45, ex45, E⟩ := cd_nmE E
          refine lv_iinc (v := x45) (lv' := [(3, .int x45), (5, .int o44.1), (4, .int x3), (0, .ref (G.2.2.2.2 + 404)), (1, .int a1), (2, .int a2)]) S.1 S.2.1 dX8_counts_185 hl (k := 2) rfl (by rw [ex45]; rfl) (by decide) rfl (fun ls hl => ?_)
          refine lv_goto (tgt := 2) S.1 S.2.1 dX8_counts_188 (by decide) ?_
          exact ih x45 o44.2 o H locs ls E hZ (lv_sub hl [0, 3, 4, 5] rfl) hex
  unfold f_X8_counts at E
  refine lv_iconst (v := 0) S.1 S.2.1 dX8_counts_0 (by decide) ?_
  refine lv_istore_n (lv' := [(3, .int 0), (0, .ref (G.2.2.2.2 + 404)), (1, .int a1), (2, .int a2)]) S.1 S.2.1 dX8_counts_1 rfl hl (by decide) rfl (fun ls hl => ?_)
  obtain ⟨o46, E1, E⟩ := cd_bE E
  refine L2 cd_fu 0 h o46 H locs ls E1 hZ (lv_sub hl [0, 1, 2, 3] rfl) (fun H locs ls hZ hl => ?_)
  exact hret _ _ _ _ _ (Option.some.inj E) hZ dX8_counts_191
abbrev rm_X8_samplesCome : Room := { frames := 2, cells := 0, slots := 0, locals := 42 }
theorem cd_v_X8_samplesCome : cd_V yX8_samplesCome cX8_samplesCome 5 none 1 := ⟨cd_i_X8_samplesCome, cd_e_X8_X8_samplesCome, cd_n_X8, cd_c_X8_samplesCome, by decide +kernel⟩
set_option maxHeartbeats 4000000 in
set_option maxRecDepth 100000 in
theorem c_X8_samplesCome (l : Launch) (G : cd_G) (a1 : Int32) (h : cd_Hp) (out : cd_Hp) (E : f_X8_samplesCome a1 h = some out) : cd_Mv l G yX8_samplesCome (Cond.code yX8_samplesCome cX8_samplesCome 5 none :: cd_T) rm_X8_samplesCome [.ref (G.2.2.2.2 + 404), .int a1] h out := by
  refine cd_inv (by decide) (Nat.le_of_ble_eq_true rfl) ?_
  intro p e s m args below meth c Q ls H locs S hK hZ hl hret
  have hl : lv_has ls 5 [(0, .ref (G.2.2.2.2 + 404)), (1, .int a1)] := hl
  have L70 : ∀ (p70_2 : Int32) (p70_3 : Int32), ∀ (n : Nat) (h70_ : cd_Hp) (o : (cd_Hp)) (H : Heap) (locs : List Loc) (ls : Array Slot), cd_lp (f_X8_samplesCome_B70 a1 p70_2 p70_3) n h70_ = some o → cd_Z G h70_ s.heap H locs → lv_has ls 5 [(3, .int p70_3), (2, .int p70_2), (0, .ref (G.2.2.2.2 + 404)), (1, .int a1)] → (∀ (H : Heap) (locs : List Loc) (ls : Array Slot), cd_Z G o s.heap H locs → lv_has ls 5 [(3, .int p70_3), (2, .int p70_2), (0, .ref (G.2.2.2.2 + 404)), (1, .int a1)] → W p l e rm_X8_samplesCome s m args below meth c H locs 0 0 Q (F0 m 177 ls [])) → W p l e rm_X8_samplesCome s m args below meth c H locs 0 0 Q (F0 m 70 ls []) := by
    intro p70_2 p70_3
    intro n
    induction n with
    | zero => intro h70_ o H locs ls E; exact nomatch (show (none : Option (cd_Hp)) = some o from E)
    | succ n ih =>
      intro h70_ o H locs ls E hZ hl hex
      have E : f_X8_samplesCome_B70 a1 p70_2 p70_3 (cd_lp (f_X8_samplesCome_B70 a1 p70_2 p70_3) n) h70_ = some o := E
      unfold f_X8_samplesCome_B70 at E
      refine lv_aload_n S.1 S.2.1 dX8_samplesCome_70 rfl (lv_at hl 2 rfl) ?_
      refine cd_get8 (v := .ref (G.2.2.2.2 + 405)) S hK hZ cd_this8 0 cd_f_X8_7 rfl dX8_samplesCome_71 ?_
      refine lv_iload_n S.1 S.2.1 dX8_samplesCome_74 rfl (lv_at hl 0 rfl) ?_
      refine lv_bipush (v := 8) S.1 S.2.1 dX8_samplesCome_75 (by decide) ?_
      refine lv_iadd S.1 S.2.1 dX8_samplesCome_77 ?_
      obtain ⟨z17, E⟩ := cd_ckE E
      refine cd_iald S hK hZ (cd_r8_0 cd_this8) z17 dX8_samplesCome_78 ?_
      refine lv_aload_n S.1 S.2.1 dX8_samplesCome_79 rfl (lv_at hl 2 rfl) ?_
      refine cd_get8 (v := .ref (G.2.2.2.2 + 405)) S hK hZ cd_this8 0 cd_f_X8_7 rfl dX8_samplesCome_80 ?_
      refine lv_iload_n S.1 S.2.1 dX8_samplesCome_83 rfl (lv_at hl 0 rfl) ?_
      refine lv_bipush (v := 7) S.1 S.2.1 dX8_samplesCome_84 (by decide) ?_
      refine lv_iadd S.1 S.2.1 dX8_samplesCome_86 ?_
      obtain ⟨z18, E⟩ := cd_ckE E
      refine cd_iald S hK hZ (cd_r8_0 cd_this8) z18 dX8_samplesCome_87 ?_
      refine lv_icmp_lt (tgt := 177) S.1 S.2.1 dX8_samplesCome_88 (by decide) (fun c19 => ?_) (fun c19 => ?_)
      · have E := cd_tE c19 E
        cases E
        exact hex H locs ls hZ (lv_sub hl [0, 1, 2, 3] rfl)
      · have E := cd_fE c19 E
        refine lv_aload_n S.1 S.2.1 dX8_samplesCome_91 rfl (lv_at hl 2 rfl) ?_
        refine cd_get8 (v := .ref (G.2.2.2.2 + 405)) S hK hZ cd_this8 0 cd_f_X8_7 rfl dX8_samplesCome_92 ?_
        refine lv_iload_n S.1 S.2.1 dX8_samplesCome_95 rfl (lv_at hl 0 rfl) ?_
        refine lv_bipush (v := 8) S.1 S.2.1 dX8_samplesCome_96 (by decide) ?_
        refine lv_iadd S.1 S.2.1 dX8_samplesCome_98 ?_
        refine lv_dup2_11 S.1 S.2.1 dX8_samplesCome_99 rfl rfl ?_
        obtain ⟨z20, E⟩ := cd_ckE E
        refine cd_iald S hK hZ (cd_r8_0 cd_this8) z20 dX8_samplesCome_100 ?_
        refine lv_aload_n S.1 S.2.1 dX8_samplesCome_101 rfl (lv_at hl 2 rfl) ?_
        refine cd_get8 (v := .ref (G.2.2.2.2 + 405)) S hK hZ cd_this8 0 cd_f_X8_7 rfl dX8_samplesCome_102 ?_
        refine lv_iload_n S.1 S.2.1 dX8_samplesCome_105 rfl (lv_at hl 0 rfl) ?_
        refine lv_bipush (v := 7) S.1 S.2.1 dX8_samplesCome_106 (by decide) ?_
        refine lv_iadd S.1 S.2.1 dX8_samplesCome_108 ?_
        obtain ⟨z21, E⟩ := cd_ckE E
        refine cd_iald S hK hZ (cd_r8_0 cd_this8) z21 dX8_samplesCome_109 ?_
        refine lv_isub S.1 S.2.1 dX8_samplesCome_110 ?_
        obtain ⟨z22, E⟩ := cd_ckE E
        obtain ⟨h23, eh23, E⟩ := cd_nmE E
        refine cd_iast S hK hZ (cd_r8_0 cd_this8) z22 eh23 dX8_samplesCome_111 (fun H locs hZ => ?_)
        refine lv_sipush (v := 467) S.1 S.2.1 dX8_samplesCome_112 (by decide) ?_
        refine lv_iconst (v := 2) S.1 S.2.1 dX8_samplesCome_115 (by decide) ?_
        refine lv_aload_n S.1 S.2.1 dX8_samplesCome_116 rfl (lv_at hl 2 rfl) ?_
        refine cd_get8 (v := .ref (G.2.2.2.2 + 405)) S hK hZ cd_this8 0 cd_f_X8_7 rfl dX8_samplesCome_117 ?_
        refine lv_sipush (v := 466) S.1 S.2.1 dX8_samplesCome_120 (by decide) ?_
        refine cd_iald S hK hZ (cd_r8_0 cd_this8) (by decide) dX8_samplesCome_123 ?_
        refine lv_imul S.1 S.2.1 dX8_samplesCome_124 ?_
        refine lv_iadd S.1 S.2.1 dX8_samplesCome_125 ?_
        obtain ⟨x24, ex24, E⟩ := cd_nmE E
        refine cd_topi ex24 ?_
        refine lv_istore (lv' := [(4, .int x24), (3, .int p70_3), (2, .int p70_2), (0, .ref (G.2.2.2.2 + 404)), (1, .int a1)]) S.1 S.2.1 dX8_samplesCome_126 hl (by decide) rfl (fun ls hl => ?_)
        refine lv_aload_n S.1 S.2.1 dX8_samplesCome_128 rfl (lv_at hl 3 rfl) ?_
        refine cd_get8 (v := .ref (G.2.2.2.2 + 405)) S hK hZ cd_this8 0 cd_f_X8_7 rfl dX8_samplesCome_129 ?_
        refine lv_iload S.1 S.2.1 dX8_samplesCome_132 (lv_at hl 0 rfl) ?_
        refine lv_iload_n S.1 S.2.1 dX8_samplesCome_134 rfl (lv_at hl 2 rfl) ?_
        obtain ⟨z25, E⟩ := cd_ckE E
        obtain ⟨h26, eh26, E⟩ := cd_nmE E
        refine cd_iast S hK hZ (cd_r8_0 cd_this8) z25 eh26 dX8_samplesCome_135 (fun H locs hZ => ?_)
        refine lv_aload_n S.1 S.2.1 dX8_samplesCome_136 rfl (lv_at hl 3 rfl) ?_
        refine cd_get8 (v := .ref (G.2.2.2.2 + 405)) S hK hZ cd_this8 0 cd_f_X8_7 rfl dX8_samplesCome_137 ?_
        refine lv_iload S.1 S.2.1 dX8_samplesCome_140 (lv_at hl 0 rfl) ?_
        refine lv_iconst (v := 1) S.1 S.2.1 dX8_samplesCome_142 (by decide) ?_
        refine lv_iadd S.1 S.2.1 dX8_samplesCome_143 ?_
        refine lv_aload_n S.1 S.2.1 dX8_samplesCome_144 rfl (lv_at hl 3 rfl) ?_
        refine cd_get8 (v := .ref (G.2.2.2.2 + 405)) S hK hZ cd_this8 0 cd_f_X8_7 rfl dX8_samplesCome_145 ?_
        refine lv_sipush (v := 426) S.1 S.2.1 dX8_samplesCome_148 (by decide) ?_
        refine cd_iald S hK hZ (cd_r8_0 cd_this8) (by decide) dX8_samplesCome_151 ?_
        refine lv_aload_n S.1 S.2.1 dX8_samplesCome_152 rfl (lv_at hl 3 rfl) ?_
        refine cd_get8 (v := .ref (G.2.2.2.2 + 405)) S hK hZ cd_this8 0 cd_f_X8_7 rfl dX8_samplesCome_153 ?_
        refine lv_sipush (v := 427) S.1 S.2.1 dX8_samplesCome_156 (by decide) ?_
        refine cd_iald S hK hZ (cd_r8_0 cd_this8) (by decide) dX8_samplesCome_159 ?_
        refine lv_iadd S.1 S.2.1 dX8_samplesCome_160 ?_
        obtain ⟨z27, E⟩ := cd_ckE E
        obtain ⟨h28, eh28, E⟩ := cd_nmE E
        refine cd_iast S hK hZ (cd_r8_0 cd_this8) z27 eh28 dX8_samplesCome_161 (fun H locs hZ => ?_)
        refine lv_aload_n S.1 S.2.1 dX8_samplesCome_162 rfl (lv_at hl 3 rfl) ?_
        refine cd_get8 (v := .ref (G.2.2.2.2 + 405)) S hK hZ cd_this8 0 cd_f_X8_7 rfl dX8_samplesCome_163 ?_
        refine lv_sipush (v := 466) S.1 S.2.1 dX8_samplesCome_166 (by decide) ?_
        refine lv_dup2_11 S.1 S.2.1 dX8_samplesCome_169 rfl rfl ?_
        refine cd_iald S hK hZ (cd_r8_0 cd_this8) (by decide) dX8_samplesCome_170 ?_
        refine lv_iconst (v := 1) S.1 S.2.1 dX8_samplesCome_171 (by decide) ?_
        refine lv_iadd S.1 S.2.1 dX8_samplesCome_172 ?_
        obtain ⟨h29, eh29, E⟩ := cd_nmE E
        refine cd_iast S hK hZ (cd_r8_0 cd_this8) (by decide) eh29 dX8_samplesCome_173 (fun H locs hZ => ?_)
        refine lv_goto (tgt := 70) S.1 S.2.1 dX8_samplesCome_174 (by decide) ?_
        exact ih h29 o H locs ls E hZ (lv_sub hl [1, 2, 3, 4] rfl) hex
  have L2 : ∀ (n : Nat) (v2_2 : Int32) (h2_ : cd_Hp) (o : (Int32 × cd_Hp)) (H : Heap) (locs : List Loc) (ls : Array Slot), cd_lp (f_X8_samplesCome_B2 a1) n (v2_2, h2_) = some o → cd_Z G h2_ s.heap H locs → lv_has ls 5 [(2, .int v2_2), (0, .ref (G.2.2.2.2 + 404)), (1, .int a1)] → (∀ (H : Heap) (locs : List Loc) (ls : Array Slot), cd_Z G o.2 s.heap H locs → lv_has ls 5 [(2, .int o.1), (0, .ref (G.2.2.2.2 + 404)), (1, .int a1)] → W p l e rm_X8_samplesCome s m args below meth c H locs 0 0 Q (F0 m 183 ls [])) → W p l e rm_X8_samplesCome s m args below meth c H locs 0 0 Q (F0 m 2 ls []) := by
    intro n
    induction n with
    | zero => intro v2_2 h2_ o H locs ls E; exact nomatch (show (none : Option (Int32 × cd_Hp)) = some o from E)
    | succ n ih =>
      intro v2_2 h2_ o H locs ls E hZ hl hex
      have E : f_X8_samplesCome_B2 a1 (cd_lp (f_X8_samplesCome_B2 a1) n) (v2_2, h2_) = some o := E
      unfold f_X8_samplesCome_B2 at E
      dsimp only at E
      refine lv_iload_n S.1 S.2.1 dX8_samplesCome_2 rfl (lv_at hl 0 rfl) ?_
      refine lv_aload_n S.1 S.2.1 dX8_samplesCome_3 rfl (lv_at hl 1 rfl) ?_
      refine cd_get8 (v := .ref (G.2.2.2.2 + 405)) S hK hZ cd_this8 0 cd_f_X8_7 rfl dX8_samplesCome_4 ?_
      refine lv_bipush (v := 70) S.1 S.2.1 dX8_samplesCome_7 (by decide) ?_
      refine cd_iald S hK hZ (cd_r8_0 cd_this8) (by decide) dX8_samplesCome_9 ?_
      refine lv_icmp_ge (tgt := 183) S.1 S.2.1 dX8_samplesCome_10 (by decide) (fun c1 => ?_) (fun c1 => ?_)
      · have E := cd_tE c1 E
        cases E
        exact hex H locs ls hZ (lv_sub hl [0, 1, 2] rfl)
      · have E := cd_fE c1 E
        refine lv_iload_n S.1 S.2.1 dX8_samplesCome_13 rfl (lv_at hl 0 rfl) ?_
        refine cd_cSi (As := [.int v2_2]) S hK hZ hl.1 (c_X8_groupAt l G v2_2 h2_ _ rfl) cd_v_X8_groupAt cd_m_X8_55 ⟨Nat.le_of_ble_eq_true rfl, Nat.le_of_ble_eq_true rfl⟩ ⟨rfl, rfl⟩ rfl rfl (Nat.le_of_ble_eq_true rfl) ⟨Nat.zero_le _, Nat.zero_le _⟩ dX8_samplesCome_14 (fun H locs hZ => ?_)
        obtain ⟨x3, ex3, E⟩ := cd_nmE E
        refine cd_topi ex3 ?_
        refine lv_istore_n (lv' := [(3, .int x3), (2, .int v2_2), (0, .ref (G.2.2.2.2 + 404)), (1, .int a1)]) S.1 S.2.1 dX8_samplesCome_17 rfl hl (by decide) rfl (fun ls hl => ?_)
        refine lv_aload_n S.1 S.2.1 dX8_samplesCome_18 rfl (lv_at hl 2 rfl) ?_
        refine cd_get8 (v := .ref (G.2.2.2.2 + 405)) S hK hZ cd_this8 0 cd_f_X8_7 rfl dX8_samplesCome_19 ?_
        refine lv_iload_n S.1 S.2.1 dX8_samplesCome_22 rfl (lv_at hl 0 rfl) ?_
        refine lv_bipush (v := 9) S.1 S.2.1 dX8_samplesCome_23 (by decide) ?_
        refine lv_iadd S.1 S.2.1 dX8_samplesCome_25 ?_
        obtain ⟨z4, E⟩ := cd_ckE E
        refine cd_iald S hK hZ (cd_r8_0 cd_this8) z4 dX8_samplesCome_26 ?_
        refine lv_iconst (v := 1) S.1 S.2.1 dX8_samplesCome_27 (by decide) ?_
        refine lv_icmp_ne (tgt := 177) S.1 S.2.1 dX8_samplesCome_28 (by decide) (fun c5 => ?_) (fun c5 => ?_)
        · have E := cd_fE c5 E
          obtain ⟨x6, ex6, E⟩ := cd_nmE E
          refine lv_iinc (v := x6) (lv' := [(2, .int x6), (3, .int x3), (0, .ref (G.2.2.2.2 + 404)), (1, .int a1)]) S.1 S.2.1 dX8_samplesCome_177 hl (k := 1) rfl (by rw [ex6]; rfl) (by decide) rfl (fun ls hl => ?_)
          refine lv_goto (tgt := 2) S.1 S.2.1 dX8_samplesCome_180 (by decide) ?_
          exact ih x6 h2_ o H locs ls E hZ (lv_sub hl [0, 2, 3] rfl) hex
        · have E := cd_tE c5 E
          refine lv_aload_n S.1 S.2.1 dX8_samplesCome_31 rfl (lv_at hl 2 rfl) ?_
          refine cd_get8 (v := .ref (G.2.2.2.2 + 405)) S hK hZ cd_this8 0 cd_f_X8_7 rfl dX8_samplesCome_32 ?_
          refine lv_iload_n S.1 S.2.1 dX8_samplesCome_35 rfl (lv_at hl 0 rfl) ?_
          refine lv_bipush (v := 7) S.1 S.2.1 dX8_samplesCome_36 (by decide) ?_
          refine lv_iadd S.1 S.2.1 dX8_samplesCome_38 ?_
          obtain ⟨z7, E⟩ := cd_ckE E
          refine cd_iald S hK hZ (cd_r8_0 cd_this8) z7 dX8_samplesCome_39 ?_
          refine lv_if_le (tgt := 177) S.1 S.2.1 dX8_samplesCome_40 (by decide) (fun c8 => ?_) (fun c8 => ?_)
          · have E := cd_tE c8 E
            obtain ⟨x9, ex9, E⟩ := cd_nmE E
            refine lv_iinc (v := x9) (lv' := [(2, .int x9), (3, .int x3), (0, .ref (G.2.2.2.2 + 404)), (1, .int a1)]) S.1 S.2.1 dX8_samplesCome_177 hl (k := 1) rfl (by rw [ex9]; rfl) (by decide) rfl (fun ls hl => ?_)
            refine lv_goto (tgt := 2) S.1 S.2.1 dX8_samplesCome_180 (by decide) ?_
            exact ih x9 h2_ o H locs ls E hZ (lv_sub hl [0, 2, 3] rfl) hex
          · have E := cd_fE c8 E
            refine lv_aload_n S.1 S.2.1 dX8_samplesCome_43 rfl (lv_at hl 2 rfl) ?_
            refine cd_get8 (v := .ref (G.2.2.2.2 + 405)) S hK hZ cd_this8 0 cd_f_X8_7 rfl dX8_samplesCome_44 ?_
            refine lv_iload_n S.1 S.2.1 dX8_samplesCome_47 rfl (lv_at hl 0 rfl) ?_
            refine lv_bipush (v := 8) S.1 S.2.1 dX8_samplesCome_48 (by decide) ?_
            refine lv_iadd S.1 S.2.1 dX8_samplesCome_50 ?_
            refine lv_dup2_11 S.1 S.2.1 dX8_samplesCome_51 rfl rfl ?_
            obtain ⟨z10, E⟩ := cd_ckE E
            refine cd_iald S hK hZ (cd_r8_0 cd_this8) z10 dX8_samplesCome_52 ?_
            refine lv_aload_n S.1 S.2.1 dX8_samplesCome_53 rfl (lv_at hl 2 rfl) ?_
            refine lv_iload_n S.1 S.2.1 dX8_samplesCome_54 rfl (lv_at hl 3 rfl) ?_
            refine lv_aload_n S.1 S.2.1 dX8_samplesCome_55 rfl (lv_at hl 2 rfl) ?_
            refine cd_get8 (v := .ref (G.2.2.2.2 + 405)) S hK hZ cd_this8 0 cd_f_X8_7 rfl dX8_samplesCome_56 ?_
            refine lv_iload_n S.1 S.2.1 dX8_samplesCome_59 rfl (lv_at hl 1 rfl) ?_
            refine lv_iconst (v := 0) S.1 S.2.1 dX8_samplesCome_60 (by decide) ?_
            refine cd_cSi (As := [.int v2_2, .int 0]) S hK hZ hl.1 (c_X8_eventAt l G v2_2 0 h2_ _ rfl) cd_v_X8_eventAt cd_m_X8_115 ⟨Nat.le_of_ble_eq_true rfl, Nat.le_of_ble_eq_true rfl⟩ ⟨rfl, rfl⟩ rfl rfl (Nat.le_of_ble_eq_true rfl) ⟨Nat.zero_le _, Nat.zero_le _⟩ dX8_samplesCome_61 (fun H locs hZ => ?_)
            obtain ⟨z12, E⟩ := cd_ckE E
            refine cd_iald S hK hZ (cd_r8_0 cd_this8) z12 dX8_samplesCome_64 ?_
            obtain ⟨o13, E1, E⟩ := cd_bE E
            refine cd_cVi (As := [.int a1, .int (cd_g h2_ 405 ((f_X8_eventAt v2_2 0).toNatClampNeg))]) S hK hZ hl.1 (c_X8_rateOf l G a1 (cd_g h2_ 405 ((f_X8_eventAt v2_2 0).toNatClampNeg)) h2_ o13 E1) cd_v_X8_rateOf cd_m_X8_92 ⟨Nat.le_of_ble_eq_true rfl, Nat.le_of_ble_eq_true rfl⟩ ⟨rfl, rfl⟩ (ci := 8) (by decide) rfl cd_this8 rfl rfl (Nat.le_of_ble_eq_true rfl) ⟨Nat.zero_le _, Nat.zero_le _⟩ dX8_samplesCome_65 (fun H locs hZ => ?_)
            refine lv_iadd S.1 S.2.1 dX8_samplesCome_68 ?_
            obtain ⟨z15, E⟩ := cd_ckE E
            obtain ⟨h16, eh16, E⟩ := cd_nmE E
            refine cd_iast S hK hZ (cd_r8_0 cd_this8) z15 eh16 dX8_samplesCome_69 (fun H locs hZ => ?_)
            obtain ⟨o30, E1, E⟩ := cd_bE E
            refine L70 v2_2 x3 cd_fu h16 o30 H locs ls E1 hZ (lv_sub hl [0, 1, 2, 3] rfl) (fun H locs ls hZ hl => ?_)
            obtain ⟨x31, ex31, E⟩ := cd_nmE E
            refine lv_iinc (v := x31) (lv' := [(2, .int x31), (3, .int x3), (0, .ref (G.2.2.2.2 + 404)), (1, .int a1)]) S.1 S.2.1 dX8_samplesCome_177 hl (k := 1) rfl (by rw [ex31]; rfl) (by decide) rfl (fun ls hl => ?_)
            refine lv_goto (tgt := 2) S.1 S.2.1 dX8_samplesCome_180 (by decide) ?_
            exact ih x31 o30 o H locs ls E hZ (lv_sub hl [0, 2, 3] rfl) hex
  unfold f_X8_samplesCome at E
  refine lv_iconst (v := 0) S.1 S.2.1 dX8_samplesCome_0 (by decide) ?_
  refine lv_istore_n (lv' := [(2, .int 0), (0, .ref (G.2.2.2.2 + 404)), (1, .int a1)]) S.1 S.2.1 dX8_samplesCome_1 rfl hl (by decide) rfl (fun ls hl => ?_)
  obtain ⟨o32, E1, E⟩ := cd_bE E
  refine L2 cd_fu 0 h o32 H locs ls E1 hZ (lv_sub hl [0, 1, 2] rfl) (fun H locs ls hZ hl => ?_)
  exact hret _ _ _ _ _ (Option.some.inj E) hZ dX8_samplesCome_183
abbrev rm_X8_tellsOne : Room := { frames := 0, cells := 0, slots := 0, locals := 0 }
theorem cd_v_X8_tellsOne : cd_V yX8_tellsOne cX8_tellsOne 4 none 2 := ⟨cd_i_X8_tellsOne, cd_e_X8_X8_tellsOne, cd_n_X8, cd_c_X8_tellsOne, by decide +kernel⟩
set_option maxHeartbeats 4000000 in
set_option maxRecDepth 100000 in
theorem c_X8_tellsOne (l : Launch) (G : cd_G) (a1 : Int32) (a2 : Int32) (h : cd_Hp) (out : cd_Hp) (E : f_X8_tellsOne a1 a2 h = some out) : cd_Mv l G yX8_tellsOne (Cond.code yX8_tellsOne cX8_tellsOne 4 none :: cd_T) rm_X8_tellsOne [.ref (G.2.2.2.2 + 404), .int a1, .int a2] h out := by
  refine cd_inv (by decide) (Nat.le_of_ble_eq_true rfl) ?_
  intro p e s m args below meth c Q ls H locs S hK hZ hl hret
  have hl : lv_has ls 4 [(0, .ref (G.2.2.2.2 + 404)), (1, .int a1), (2, .int a2)] := hl
  unfold f_X8_tellsOne at E
  refine lv_aload_n S.1 S.2.1 dX8_tellsOne_0 rfl (lv_at hl 0 rfl) ?_
  refine cd_get8 (v := .ref (G.2.2.2.2 + 405)) S hK hZ cd_this8 0 cd_f_X8_7 rfl dX8_tellsOne_1 ?_
  refine lv_sipush (v := 429) S.1 S.2.1 dX8_tellsOne_4 (by decide) ?_
  refine cd_iald S hK hZ (cd_r8_0 cd_this8) (by decide) dX8_tellsOne_7 ?_
  refine lv_bipush (v := 12) S.1 S.2.1 dX8_tellsOne_8 (by decide) ?_
  refine lv_icmp_ne (tgt := 26) S.1 S.2.1 dX8_tellsOne_10 (by decide) (fun c1 => ?_) (fun c1 => ?_)
  · have E := cd_fE c1 E
    refine lv_sipush (v := 430) S.1 S.2.1 dX8_tellsOne_26 (by decide) ?_
    refine lv_iconst (v := 3) S.1 S.2.1 dX8_tellsOne_29 (by decide) ?_
    refine lv_aload_n S.1 S.2.1 dX8_tellsOne_30 rfl (lv_at hl 0 rfl) ?_
    refine cd_get8 (v := .ref (G.2.2.2.2 + 405)) S hK hZ cd_this8 0 cd_f_X8_7 rfl dX8_tellsOne_31 ?_
    refine lv_sipush (v := 429) S.1 S.2.1 dX8_tellsOne_34 (by decide) ?_
    refine cd_iald S hK hZ (cd_r8_0 cd_this8) (by decide) dX8_tellsOne_37 ?_
    refine lv_imul S.1 S.2.1 dX8_tellsOne_38 ?_
    refine lv_iadd S.1 S.2.1 dX8_tellsOne_39 ?_
    obtain ⟨x2, ex2, E⟩ := cd_nmE E
    refine cd_topi ex2 ?_
    refine lv_istore_n (lv' := [(3, .int x2), (0, .ref (G.2.2.2.2 + 404)), (1, .int a1), (2, .int a2)]) S.1 S.2.1 dX8_tellsOne_40 rfl hl (by decide) rfl (fun ls hl => ?_)
    refine lv_aload_n S.1 S.2.1 dX8_tellsOne_41 rfl (lv_at hl 1 rfl) ?_
    refine cd_get8 (v := .ref (G.2.2.2.2 + 405)) S hK hZ cd_this8 0 cd_f_X8_7 rfl dX8_tellsOne_42 ?_
    refine lv_iload_n S.1 S.2.1 dX8_tellsOne_45 rfl (lv_at hl 0 rfl) ?_
    refine lv_iload_n S.1 S.2.1 dX8_tellsOne_46 rfl (lv_at hl 2 rfl) ?_
    obtain ⟨z3, E⟩ := cd_ckE E
    obtain ⟨h4, eh4, E⟩ := cd_nmE E
    refine cd_iast S hK hZ (cd_r8_0 cd_this8) z3 eh4 dX8_tellsOne_47 (fun H locs hZ => ?_)
    refine lv_aload_n S.1 S.2.1 dX8_tellsOne_48 rfl (lv_at hl 1 rfl) ?_
    refine cd_get8 (v := .ref (G.2.2.2.2 + 405)) S hK hZ cd_this8 0 cd_f_X8_7 rfl dX8_tellsOne_49 ?_
    refine lv_iload_n S.1 S.2.1 dX8_tellsOne_52 rfl (lv_at hl 0 rfl) ?_
    refine lv_iconst (v := 1) S.1 S.2.1 dX8_tellsOne_53 (by decide) ?_
    refine lv_iadd S.1 S.2.1 dX8_tellsOne_54 ?_
    refine lv_iload_n S.1 S.2.1 dX8_tellsOne_55 rfl (lv_at hl 3 rfl) ?_
    obtain ⟨z5, E⟩ := cd_ckE E
    obtain ⟨h6, eh6, E⟩ := cd_nmE E
    refine cd_iast S hK hZ (cd_r8_0 cd_this8) z5 eh6 dX8_tellsOne_56 (fun H locs hZ => ?_)
    refine lv_aload_n S.1 S.2.1 dX8_tellsOne_57 rfl (lv_at hl 1 rfl) ?_
    refine cd_get8 (v := .ref (G.2.2.2.2 + 405)) S hK hZ cd_this8 0 cd_f_X8_7 rfl dX8_tellsOne_58 ?_
    refine lv_iload_n S.1 S.2.1 dX8_tellsOne_61 rfl (lv_at hl 0 rfl) ?_
    refine lv_iconst (v := 2) S.1 S.2.1 dX8_tellsOne_62 (by decide) ?_
    refine lv_iadd S.1 S.2.1 dX8_tellsOne_63 ?_
    refine lv_aload_n S.1 S.2.1 dX8_tellsOne_64 rfl (lv_at hl 1 rfl) ?_
    refine cd_get8 (v := .ref (G.2.2.2.2 + 405)) S hK hZ cd_this8 0 cd_f_X8_7 rfl dX8_tellsOne_65 ?_
    refine lv_sipush (v := 426) S.1 S.2.1 dX8_tellsOne_68 (by decide) ?_
    refine cd_iald S hK hZ (cd_r8_0 cd_this8) (by decide) dX8_tellsOne_71 ?_
    obtain ⟨z7, E⟩ := cd_ckE E
    obtain ⟨h8, eh8, E⟩ := cd_nmE E
    refine cd_iast S hK hZ (cd_r8_0 cd_this8) z7 eh8 dX8_tellsOne_72 (fun H locs hZ => ?_)
    refine lv_aload_n S.1 S.2.1 dX8_tellsOne_73 rfl (lv_at hl 1 rfl) ?_
    refine cd_get8 (v := .ref (G.2.2.2.2 + 405)) S hK hZ cd_this8 0 cd_f_X8_7 rfl dX8_tellsOne_74 ?_
    refine lv_sipush (v := 429) S.1 S.2.1 dX8_tellsOne_77 (by decide) ?_
    refine lv_dup2_11 S.1 S.2.1 dX8_tellsOne_80 rfl rfl ?_
    refine cd_iald S hK hZ (cd_r8_0 cd_this8) (by decide) dX8_tellsOne_81 ?_
    refine lv_iconst (v := 1) S.1 S.2.1 dX8_tellsOne_82 (by decide) ?_
    refine lv_iadd S.1 S.2.1 dX8_tellsOne_83 ?_
    obtain ⟨h9, eh9, E⟩ := cd_nmE E
    refine cd_iast S hK hZ (cd_r8_0 cd_this8) (by decide) eh9 dX8_tellsOne_84 (fun H locs hZ => ?_)
    exact hret _ _ _ _ _ (Option.some.inj E) hZ dX8_tellsOne_85
  · have E := cd_tE c1 E
    refine lv_aload_n S.1 S.2.1 dX8_tellsOne_13 rfl (lv_at hl 0 rfl) ?_
    refine cd_get8 (v := .ref (G.2.2.2.2 + 405)) S hK hZ cd_this8 0 cd_f_X8_7 rfl dX8_tellsOne_14 ?_
    refine lv_sipush (v := 428) S.1 S.2.1 dX8_tellsOne_17 (by decide) ?_
    refine lv_dup2_11 S.1 S.2.1 dX8_tellsOne_20 rfl rfl ?_
    refine cd_iald S hK hZ (cd_r8_0 cd_this8) (by decide) dX8_tellsOne_21 ?_
    refine lv_iconst (v := 1) S.1 S.2.1 dX8_tellsOne_22 (by decide) ?_
    refine lv_iadd S.1 S.2.1 dX8_tellsOne_23 ?_
    obtain ⟨h10, eh10, E⟩ := cd_nmE E
    refine cd_iast S hK hZ (cd_r8_0 cd_this8) (by decide) eh10 dX8_tellsOne_24 (fun H locs hZ => ?_)
    exact hret _ _ _ _ _ (Option.some.inj E) hZ dX8_tellsOne_25
abbrev rm_X8_tellsDue : Room := { frames := 1, cells := 0, slots := 0, locals := 23 }
theorem cd_v_X8_tellsDue : cd_V yX8_tellsDue cX8_tellsDue 6 none 1 := ⟨cd_i_X8_tellsDue, cd_e_X8_X8_tellsDue, cd_n_X8, cd_c_X8_tellsDue, by decide +kernel⟩
set_option maxHeartbeats 4000000 in
set_option maxRecDepth 100000 in
theorem c_X8_tellsDue (l : Launch) (G : cd_G) (a1 : Int32) (h : cd_Hp) (out : cd_Hp) (E : f_X8_tellsDue a1 h = some out) : cd_Mv l G yX8_tellsDue (Cond.code yX8_tellsDue cX8_tellsDue 6 none :: cd_T) rm_X8_tellsDue [.ref (G.2.2.2.2 + 404), .int a1] h out := by
  refine cd_inv (by decide) (Nat.le_of_ble_eq_true rfl) ?_
  intro p e s m args below meth c Q ls H locs S hK hZ hl hret
  have hl : lv_has ls 6 [(0, .ref (G.2.2.2.2 + 404)), (1, .int a1)] := hl
  have L4 : ∀ (n : Nat) (v4_2 : Int32) (v4_3 : Int32) (h4_ : cd_Hp) (o : (Int32 × Int32 × cd_Hp)) (H : Heap) (locs : List Loc) (ls : Array Slot), cd_lp (f_X8_tellsDue_B4 a1) n (v4_2, v4_3, h4_) = some o → cd_Z G h4_ s.heap H locs → lv_has ls 6 [(3, .int v4_3), (2, .int v4_2), (0, .ref (G.2.2.2.2 + 404)), (1, .int a1)] → (∀ (H : Heap) (locs : List Loc) (ls : Array Slot), cd_Z G o.2.2 s.heap H locs → lv_has ls 6 [(3, .int o.2.1), (2, .int o.1), (0, .ref (G.2.2.2.2 + 404)), (1, .int a1)] → W p l e rm_X8_tellsDue s m args below meth c H locs 0 0 Q (F0 m 104 ls [])) → W p l e rm_X8_tellsDue s m args below meth c H locs 0 0 Q (F0 m 4 ls []) := by
    intro n
    induction n with
    | zero => intro v4_2 v4_3 h4_ o H locs ls E; exact nomatch (show (none : Option (Int32 × Int32 × cd_Hp)) = some o from E)
    | succ n ih =>
      intro v4_2 v4_3 h4_ o H locs ls E hZ hl hex
      have E : f_X8_tellsDue_B4 a1 (cd_lp (f_X8_tellsDue_B4 a1) n) (v4_2, v4_3, h4_) = some o := E
      unfold f_X8_tellsDue_B4 at E
      dsimp only at E
      refine lv_iload_n S.1 S.2.1 dX8_tellsDue_4 rfl (lv_at hl 0 rfl) ?_
      refine lv_aload_n S.1 S.2.1 dX8_tellsDue_5 rfl (lv_at hl 2 rfl) ?_
      refine cd_get8 (v := .ref (G.2.2.2.2 + 405)) S hK hZ cd_this8 0 cd_f_X8_7 rfl dX8_tellsDue_6 ?_
      refine lv_sipush (v := 466) S.1 S.2.1 dX8_tellsDue_9 (by decide) ?_
      refine cd_iald S hK hZ (cd_r8_0 cd_this8) (by decide) dX8_tellsDue_12 ?_
      refine lv_icmp_ge (tgt := 104) S.1 S.2.1 dX8_tellsDue_13 (by decide) (fun c1 => ?_) (fun c1 => ?_)
      · have E := cd_tE c1 E
        cases E
        exact hex H locs ls hZ (lv_sub hl [0, 1, 2, 3] rfl)
      · have E := cd_fE c1 E
        refine lv_aload_n S.1 S.2.1 dX8_tellsDue_16 rfl (lv_at hl 2 rfl) ?_
        refine cd_get8 (v := .ref (G.2.2.2.2 + 405)) S hK hZ cd_this8 0 cd_f_X8_7 rfl dX8_tellsDue_17 ?_
        refine lv_sipush (v := 467) S.1 S.2.1 dX8_tellsDue_20 (by decide) ?_
        refine lv_iconst (v := 2) S.1 S.2.1 dX8_tellsDue_23 (by decide) ?_
        refine lv_iload_n S.1 S.2.1 dX8_tellsDue_24 rfl (lv_at hl 0 rfl) ?_
        refine lv_imul S.1 S.2.1 dX8_tellsDue_25 ?_
        refine lv_iadd S.1 S.2.1 dX8_tellsDue_26 ?_
        obtain ⟨z2, E⟩ := cd_ckE E
        refine cd_iald S hK hZ (cd_r8_0 cd_this8) z2 dX8_tellsDue_27 ?_
        obtain ⟨x3, ex3, E⟩ := cd_nmE E
        refine cd_topi ex3 ?_
        refine lv_istore (lv' := [(4, .int x3), (3, .int v4_3), (2, .int v4_2), (0, .ref (G.2.2.2.2 + 404)), (1, .int a1)]) S.1 S.2.1 dX8_tellsDue_28 hl (by decide) rfl (fun ls hl => ?_)
        refine lv_aload_n S.1 S.2.1 dX8_tellsDue_30 rfl (lv_at hl 3 rfl) ?_
        refine cd_get8 (v := .ref (G.2.2.2.2 + 405)) S hK hZ cd_this8 0 cd_f_X8_7 rfl dX8_tellsDue_31 ?_
        refine lv_sipush (v := 468) S.1 S.2.1 dX8_tellsDue_34 (by decide) ?_
        refine lv_iconst (v := 2) S.1 S.2.1 dX8_tellsDue_37 (by decide) ?_
        refine lv_iload_n S.1 S.2.1 dX8_tellsDue_38 rfl (lv_at hl 1 rfl) ?_
        refine lv_imul S.1 S.2.1 dX8_tellsDue_39 ?_
        refine lv_iadd S.1 S.2.1 dX8_tellsDue_40 ?_
        obtain ⟨z4, E⟩ := cd_ckE E
        refine cd_iald S hK hZ (cd_r8_0 cd_this8) z4 dX8_tellsDue_41 ?_
        obtain ⟨x5, ex5, E⟩ := cd_nmE E
        refine cd_topi ex5 ?_
        refine lv_istore (lv' := [(5, .int x5), (4, .int x3), (3, .int v4_3), (2, .int v4_2), (0, .ref (G.2.2.2.2 + 404)), (1, .int a1)]) S.1 S.2.1 dX8_tellsDue_42 hl (by decide) rfl (fun ls hl => ?_)
        refine lv_iload S.1 S.2.1 dX8_tellsDue_44 (lv_at hl 0 rfl) ?_
        refine lv_aload_n S.1 S.2.1 dX8_tellsDue_46 rfl (lv_at hl 4 rfl) ?_
        refine cd_get8 (v := .ref (G.2.2.2.2 + 405)) S hK hZ cd_this8 0 cd_f_X8_7 rfl dX8_tellsDue_47 ?_
        refine lv_sipush (v := 426) S.1 S.2.1 dX8_tellsDue_50 (by decide) ?_
        refine cd_iald S hK hZ (cd_r8_0 cd_this8) (by decide) dX8_tellsDue_53 ?_
        refine lv_icmp_gt (tgt := 67) S.1 S.2.1 dX8_tellsDue_54 (by decide) (fun c6 => ?_) (fun c6 => ?_)
        · have E := cd_tE c6 E
          refine lv_aload_n S.1 S.2.1 dX8_tellsDue_67 rfl (lv_at hl 4 rfl) ?_
          refine cd_get8 (v := .ref (G.2.2.2.2 + 405)) S hK hZ cd_this8 0 cd_f_X8_7 rfl dX8_tellsDue_68 ?_
          refine lv_sipush (v := 467) S.1 S.2.1 dX8_tellsDue_71 (by decide) ?_
          refine lv_iconst (v := 2) S.1 S.2.1 dX8_tellsDue_74 (by decide) ?_
          refine lv_iload_n S.1 S.2.1 dX8_tellsDue_75 rfl (lv_at hl 3 rfl) ?_
          refine lv_imul S.1 S.2.1 dX8_tellsDue_76 ?_
          refine lv_iadd S.1 S.2.1 dX8_tellsDue_77 ?_
          refine lv_iload S.1 S.2.1 dX8_tellsDue_78 (lv_at hl 1 rfl) ?_
          obtain ⟨z7, E⟩ := cd_ckE E
          obtain ⟨h8, eh8, E⟩ := cd_nmE E
          refine cd_iast S hK hZ (cd_r8_0 cd_this8) z7 eh8 dX8_tellsDue_80 (fun H locs hZ => ?_)
          refine lv_aload_n S.1 S.2.1 dX8_tellsDue_81 rfl (lv_at hl 4 rfl) ?_
          refine cd_get8 (v := .ref (G.2.2.2.2 + 405)) S hK hZ cd_this8 0 cd_f_X8_7 rfl dX8_tellsDue_82 ?_
          refine lv_sipush (v := 468) S.1 S.2.1 dX8_tellsDue_85 (by decide) ?_
          refine lv_iconst (v := 2) S.1 S.2.1 dX8_tellsDue_88 (by decide) ?_
          refine lv_iload_n S.1 S.2.1 dX8_tellsDue_89 rfl (lv_at hl 3 rfl) ?_
          refine lv_imul S.1 S.2.1 dX8_tellsDue_90 ?_
          refine lv_iadd S.1 S.2.1 dX8_tellsDue_91 ?_
          refine lv_iload S.1 S.2.1 dX8_tellsDue_92 (lv_at hl 0 rfl) ?_
          obtain ⟨z9, E⟩ := cd_ckE E
          obtain ⟨h10, eh10, E⟩ := cd_nmE E
          refine cd_iast S hK hZ (cd_r8_0 cd_this8) z9 eh10 dX8_tellsDue_94 (fun H locs hZ => ?_)
          obtain ⟨x11, ex11, E⟩ := cd_nmE E
          refine lv_iinc (v := x11) (lv' := [(2, .int x11), (5, .int x5), (4, .int x3), (3, .int v4_3), (0, .ref (G.2.2.2.2 + 404)), (1, .int a1)]) S.1 S.2.1 dX8_tellsDue_95 hl (k := 3) rfl (by rw [ex11]; rfl) (by decide) rfl (fun ls hl => ?_)
          obtain ⟨x12, ex12, E⟩ := cd_nmE E
          refine lv_iinc (v := x12) (lv' := [(3, .int x12), (2, .int x11), (5, .int x5), (4, .int x3), (0, .ref (G.2.2.2.2 + 404)), (1, .int a1)]) S.1 S.2.1 dX8_tellsDue_98 hl (k := 3) rfl (by rw [ex12]; rfl) (by decide) rfl (fun ls hl => ?_)
          refine lv_goto (tgt := 4) S.1 S.2.1 dX8_tellsDue_101 (by decide) ?_
          exact ih x11 x12 h10 o H locs ls E hZ (lv_sub hl [0, 1, 4, 5] rfl) hex
        · have E := cd_fE c6 E
          refine lv_aload_n S.1 S.2.1 dX8_tellsDue_57 rfl (lv_at hl 4 rfl) ?_
          refine lv_iload S.1 S.2.1 dX8_tellsDue_58 (lv_at hl 1 rfl) ?_
          refine lv_iload_n S.1 S.2.1 dX8_tellsDue_60 rfl (lv_at hl 5 rfl) ?_
          obtain ⟨o13, E1, E⟩ := cd_bE E
          refine cd_cVv (As := [.int x3, .int a1]) S hK hZ hl.1 (c_X8_tellsOne l G x3 a1 h4_ o13 E1) cd_v_X8_tellsOne cd_m_X8_151 ⟨Nat.le_of_ble_eq_true rfl, Nat.le_of_ble_eq_true rfl⟩ ⟨rfl, rfl⟩ (ci := 8) (by decide) rfl cd_this8 rfl rfl (Nat.le_of_ble_eq_true rfl) ⟨Nat.zero_le _, Nat.zero_le _⟩ dX8_tellsDue_61 (fun H locs hZ => ?_)
          refine lv_goto (tgt := 98) S.1 S.2.1 dX8_tellsDue_64 (by decide) ?_
          obtain ⟨x15, ex15, E⟩ := cd_nmE E
          refine lv_iinc (v := x15) (lv' := [(3, .int x15), (5, .int x5), (4, .int x3), (2, .int v4_2), (0, .ref (G.2.2.2.2 + 404)), (1, .int a1)]) S.1 S.2.1 dX8_tellsDue_98 hl (k := 2) rfl (by rw [ex15]; rfl) (by decide) rfl (fun ls hl => ?_)
          refine lv_goto (tgt := 4) S.1 S.2.1 dX8_tellsDue_101 (by decide) ?_
          exact ih v4_2 x15 o13 o H locs ls E hZ (lv_sub hl [0, 3, 4, 5] rfl) hex
  have L112 : ∀ (p112_2 : Int32), ∀ (n : Nat) (v112_3 : Int32) (h112_ : cd_Hp) (o : (Int32 × cd_Hp)) (H : Heap) (locs : List Loc) (ls : Array Slot), cd_lp (f_X8_tellsDue_B112 a1 p112_2) n (v112_3, h112_) = some o → cd_Z G h112_ s.heap H locs → lv_has ls 6 [(3, .int v112_3), (2, .int p112_2), (0, .ref (G.2.2.2.2 + 404)), (1, .int a1)] → (∀ (H : Heap) (locs : List Loc) (ls : Array Slot), cd_Z G o.2 s.heap H locs → lv_has ls 6 [(3, .int o.1), (2, .int p112_2), (0, .ref (G.2.2.2.2 + 404)), (1, .int a1)] → W p l e rm_X8_tellsDue s m args below meth c H locs 0 0 Q (F0 m 132 ls [])) → W p l e rm_X8_tellsDue s m args below meth c H locs 0 0 Q (F0 m 112 ls []) := by
    intro p112_2
    intro n
    induction n with
    | zero => intro v112_3 h112_ o H locs ls E; exact nomatch (show (none : Option (Int32 × cd_Hp)) = some o from E)
    | succ n ih =>
      intro v112_3 h112_ o H locs ls E hZ hl hex
      have E : f_X8_tellsDue_B112 a1 p112_2 (cd_lp (f_X8_tellsDue_B112 a1 p112_2) n) (v112_3, h112_) = some o := E
      unfold f_X8_tellsDue_B112 at E
      dsimp only at E
      refine lv_iload_n S.1 S.2.1 dX8_tellsDue_112 rfl (lv_at hl 0 rfl) ?_
      refine lv_sipush (v := 659) S.1 S.2.1 dX8_tellsDue_113 (by decide) ?_
      refine lv_icmp_ge (tgt := 132) S.1 S.2.1 dX8_tellsDue_116 (by decide) (fun c18 => ?_) (fun c18 => ?_)
      · have E := cd_tE c18 E
        cases E
        exact hex H locs ls hZ (lv_sub hl [0, 1, 2, 3] rfl)
      · have E := cd_fE c18 E
        refine lv_aload_n S.1 S.2.1 dX8_tellsDue_119 rfl (lv_at hl 2 rfl) ?_
        refine cd_get8 (v := .ref (G.2.2.2.2 + 405)) S hK hZ cd_this8 0 cd_f_X8_7 rfl dX8_tellsDue_120 ?_
        refine lv_iload_n S.1 S.2.1 dX8_tellsDue_123 rfl (lv_at hl 0 rfl) ?_
        refine lv_iconst (v := 0) S.1 S.2.1 dX8_tellsDue_124 (by decide) ?_
        obtain ⟨z19, E⟩ := cd_ckE E
        obtain ⟨h20, eh20, E⟩ := cd_nmE E
        refine cd_iast S hK hZ (cd_r8_0 cd_this8) z19 eh20 dX8_tellsDue_125 (fun H locs hZ => ?_)
        obtain ⟨x21, ex21, E⟩ := cd_nmE E
        refine lv_iinc (v := x21) (lv' := [(3, .int x21), (2, .int p112_2), (0, .ref (G.2.2.2.2 + 404)), (1, .int a1)]) S.1 S.2.1 dX8_tellsDue_126 hl (k := 0) rfl (by rw [ex21]; rfl) (by decide) rfl (fun ls hl => ?_)
        refine lv_goto (tgt := 112) S.1 S.2.1 dX8_tellsDue_129 (by decide) ?_
        exact ih x21 h20 o H locs ls E hZ (lv_sub hl [0, 1, 2, 3] rfl) hex
  unfold f_X8_tellsDue at E
  refine lv_iconst (v := 0) S.1 S.2.1 dX8_tellsDue_0 (by decide) ?_
  refine lv_istore_n (lv' := [(2, .int 0), (0, .ref (G.2.2.2.2 + 404)), (1, .int a1)]) S.1 S.2.1 dX8_tellsDue_1 rfl hl (by decide) rfl (fun ls hl => ?_)
  refine lv_iconst (v := 0) S.1 S.2.1 dX8_tellsDue_2 (by decide) ?_
  refine lv_istore_n (lv' := [(3, .int 0), (2, .int 0), (0, .ref (G.2.2.2.2 + 404)), (1, .int a1)]) S.1 S.2.1 dX8_tellsDue_3 rfl hl (by decide) rfl (fun ls hl => ?_)
  obtain ⟨o16, E1, E⟩ := cd_bE E
  refine L4 cd_fu 0 0 h o16 H locs ls E1 hZ (lv_sub hl [0, 1, 2, 3] rfl) (fun H locs ls hZ hl => ?_)
  refine lv_sipush (v := 467) S.1 S.2.1 dX8_tellsDue_104 (by decide) ?_
  refine lv_iconst (v := 2) S.1 S.2.1 dX8_tellsDue_107 (by decide) ?_
  refine lv_iload_n S.1 S.2.1 dX8_tellsDue_108 rfl (lv_at hl 1 rfl) ?_
  refine lv_imul S.1 S.2.1 dX8_tellsDue_109 ?_
  refine lv_iadd S.1 S.2.1 dX8_tellsDue_110 ?_
  obtain ⟨x17, ex17, E⟩ := cd_nmE E
  refine cd_topi ex17 ?_
  refine lv_istore_n (lv' := [(3, .int x17), (2, .int o16.1), (0, .ref (G.2.2.2.2 + 404)), (1, .int a1)]) S.1 S.2.1 dX8_tellsDue_111 rfl hl (by decide) rfl (fun ls hl => ?_)
  obtain ⟨o22, E1, E⟩ := cd_bE E
  refine L112 o16.1 cd_fu x17 o16.2.2 o22 H locs ls E1 hZ (lv_sub hl [0, 1, 2, 3] rfl) (fun H locs ls hZ hl => ?_)
  refine lv_aload_n S.1 S.2.1 dX8_tellsDue_132 rfl (lv_at hl 2 rfl) ?_
  refine cd_get8 (v := .ref (G.2.2.2.2 + 405)) S hK hZ cd_this8 0 cd_f_X8_7 rfl dX8_tellsDue_133 ?_
  refine lv_sipush (v := 466) S.1 S.2.1 dX8_tellsDue_136 (by decide) ?_
  refine lv_iload_n S.1 S.2.1 dX8_tellsDue_139 rfl (lv_at hl 1 rfl) ?_
  obtain ⟨h23, eh23, E⟩ := cd_nmE E
  refine cd_iast S hK hZ (cd_r8_0 cd_this8) (by decide) eh23 dX8_tellsDue_140 (fun H locs hZ => ?_)
  exact hret _ _ _ _ _ (Option.some.inj E) hZ dX8_tellsDue_141
abbrev rm_X8_turns : Room := { frames := 1, cells := 0, slots := 0, locals := 21 }
theorem cd_v_X8_turns : cd_V yX8_turns cX8_turns 6 none 1 := ⟨cd_i_X8_turns, cd_e_X8_X8_turns, cd_n_X8, cd_c_X8_turns, by decide +kernel⟩
set_option maxHeartbeats 4000000 in
set_option maxRecDepth 100000 in
theorem c_X8_turns (l : Launch) (G : cd_G) (a1 : Int32) (h : cd_Hp) (out : cd_Hp) (E : f_X8_turns a1 h = some out) : cd_Mv l G yX8_turns (Cond.code yX8_turns cX8_turns 6 none :: cd_T) rm_X8_turns [.ref (G.2.2.2.2 + 404), .int a1] h out := by
  refine cd_inv (by decide) (Nat.le_of_ble_eq_true rfl) ?_
  intro p e s m args below meth c Q ls H locs S hK hZ hl hret
  have hl : lv_has ls 6 [(0, .ref (G.2.2.2.2 + 404)), (1, .int a1)] := hl
  have L2 : ∀ (h2_ : cd_Hp), ∀ (n : Nat) (v2_2 : Int32) (o : (Int32)) (H : Heap) (locs : List Loc) (ls : Array Slot), cd_lp (f_X8_turns_B2 a1 h2_) n v2_2 = some o → cd_Z G h2_ s.heap H locs → lv_has ls 6 [(2, .int v2_2), (0, .ref (G.2.2.2.2 + 404)), (1, .int a1)] → (∀ (H : Heap) (locs : List Loc) (ls : Array Slot), cd_Z G h2_ s.heap H locs → lv_has ls 6 [(2, .int o), (0, .ref (G.2.2.2.2 + 404)), (1, .int a1)] → W p l e rm_X8_turns s m args below meth c H locs 0 0 Q (F0 m 37 ls [])) → W p l e rm_X8_turns s m args below meth c H locs 0 0 Q (F0 m 2 ls []) := by
    intro h2_
    intro n
    induction n with
    | zero => intro v2_2 o H locs ls E; exact nomatch (show (none : Option (Int32)) = some o from E)
    | succ n ih =>
      intro v2_2 o H locs ls E hZ hl hex
      have E : f_X8_turns_B2 a1 h2_ (cd_lp (f_X8_turns_B2 a1 h2_) n) v2_2 = some o := E
      unfold f_X8_turns_B2 at E
      refine lv_iload_n S.1 S.2.1 dX8_turns_2 rfl (lv_at hl 0 rfl) ?_
      refine lv_aload_n S.1 S.2.1 dX8_turns_3 rfl (lv_at hl 1 rfl) ?_
      refine cd_get8 (v := .ref (G.2.2.2.2 + 405)) S hK hZ cd_this8 0 cd_f_X8_7 rfl dX8_turns_4 ?_
      refine lv_sipush (v := 419) S.1 S.2.1 dX8_turns_7 (by decide) ?_
      refine cd_iald S hK hZ (cd_r8_0 cd_this8) (by decide) dX8_turns_10 ?_
      refine lv_icmp_gt (tgt := 37) S.1 S.2.1 dX8_turns_11 (by decide) (fun c1 => ?_) (fun c1 => ?_)
      · have E := cd_tE c1 E
        cases E
        exact hex H locs ls hZ (lv_sub hl [0, 1, 2] rfl)
      · have E := cd_fE c1 E
        refine lv_iload_n S.1 S.2.1 dX8_turns_14 rfl (lv_at hl 2 rfl) ?_
        refine lv_aload_n S.1 S.2.1 dX8_turns_15 rfl (lv_at hl 1 rfl) ?_
        refine cd_get8 (v := .ref (G.2.2.2.2 + 405)) S hK hZ cd_this8 0 cd_f_X8_7 rfl dX8_turns_16 ?_
        refine lv_sipush (v := 419) S.1 S.2.1 dX8_turns_19 (by decide) ?_
        refine lv_iload_n S.1 S.2.1 dX8_turns_22 rfl (lv_at hl 0 rfl) ?_
        refine lv_iadd S.1 S.2.1 dX8_turns_23 ?_
        obtain ⟨z2, E⟩ := cd_ckE E
        refine cd_iald S hK hZ (cd_r8_0 cd_this8) z2 dX8_turns_24 ?_
        refine cd_cSz (As := [.int a1, .int (cd_g h2_ 405 ((419 + v2_2).toNatClampNeg))]) S hK hZ hl.1 (c_X8_has l G a1 (cd_g h2_ 405 ((419 + v2_2).toNatClampNeg)) h2_ _ rfl) cd_v_X8_has cd_m_X8_135 ⟨Nat.le_of_ble_eq_true rfl, Nat.le_of_ble_eq_true rfl⟩ ⟨rfl, rfl⟩ rfl rfl (Nat.le_of_ble_eq_true rfl) ⟨Nat.zero_le _, Nat.zero_le _⟩ dX8_turns_25 (fun H locs hZ b3 => ?_)
        refine lv_if_ne (tgt := 37) S.1 S.2.1 dX8_turns_28 (by decide) (fun c4 => ?_) (fun c4 => ?_)
        · have E := cd_fE c4 E
          cases E
          exact hex H locs ls hZ (lv_sub hl [0, 1, 2] rfl)
        · have E := cd_tE c4 E
          obtain ⟨x5, ex5, E⟩ := cd_nmE E
          refine lv_iinc (v := x5) (lv' := [(2, .int x5), (0, .ref (G.2.2.2.2 + 404)), (1, .int a1)]) S.1 S.2.1 dX8_turns_31 hl (k := 0) rfl (by rw [ex5]; rfl) (by decide) rfl (fun ls hl => ?_)
          refine lv_goto (tgt := 2) S.1 S.2.1 dX8_turns_34 (by decide) ?_
          exact ih x5 o H locs ls E hZ (lv_sub hl [0, 1, 2] rfl) hex
  have L117 : ∀ (p117_3 : Int32), ∀ (n : Nat) (v117_5 : Int32) (h117_ : cd_Hp) (o : (Int32 × cd_Hp)) (H : Heap) (locs : List Loc) (ls : Array Slot), cd_lp (f_X8_turns_B117 a1 p117_3) n (v117_5, h117_) = some o → cd_Z G h117_ s.heap H locs → lv_has ls 6 [(5, .int v117_5), (3, .int p117_3), (0, .ref (G.2.2.2.2 + 404)), (1, .int a1)] → (∀ (H : Heap) (locs : List Loc) (ls : Array Slot), cd_Z G o.2 s.heap H locs → lv_has ls 6 [(5, .int o.1), (3, .int p117_3), (0, .ref (G.2.2.2.2 + 404)), (1, .int a1)] → W p l e rm_X8_turns s m args below meth c H locs 0 0 Q (F0 m 160 ls [])) → W p l e rm_X8_turns s m args below meth c H locs 0 0 Q (F0 m 117 ls []) := by
    intro p117_3
    intro n
    induction n with
    | zero => intro v117_5 h117_ o H locs ls E; exact nomatch (show (none : Option (Int32 × cd_Hp)) = some o from E)
    | succ n ih =>
      intro v117_5 h117_ o H locs ls E hZ hl hex
      have E : f_X8_turns_B117 a1 p117_3 (cd_lp (f_X8_turns_B117 a1 p117_3) n) (v117_5, h117_) = some o := E
      unfold f_X8_turns_B117 at E
      dsimp only at E
      refine lv_iload S.1 S.2.1 dX8_turns_117 (lv_at hl 0 rfl) ?_
      refine lv_aload_n S.1 S.2.1 dX8_turns_119 rfl (lv_at hl 2 rfl) ?_
      refine cd_get8 (v := .ref (G.2.2.2.2 + 405)) S hK hZ cd_this8 0 cd_f_X8_7 rfl dX8_turns_120 ?_
      refine lv_sipush (v := 419) S.1 S.2.1 dX8_turns_123 (by decide) ?_
      refine cd_iald S hK hZ (cd_r8_0 cd_this8) (by decide) dX8_turns_126 ?_
      refine lv_icmp_ge (tgt := 160) S.1 S.2.1 dX8_turns_127 (by decide) (fun c20 => ?_) (fun c20 => ?_)
      · have E := cd_tE c20 E
        cases E
        exact hex H locs ls hZ (lv_sub hl [0, 1, 2, 3] rfl)
      · have E := cd_fE c20 E
        refine lv_aload_n S.1 S.2.1 dX8_turns_130 rfl (lv_at hl 2 rfl) ?_
        refine cd_get8 (v := .ref (G.2.2.2.2 + 405)) S hK hZ cd_this8 0 cd_f_X8_7 rfl dX8_turns_131 ?_
        refine lv_sipush (v := 419) S.1 S.2.1 dX8_turns_134 (by decide) ?_
        refine lv_iload S.1 S.2.1 dX8_turns_137 (lv_at hl 0 rfl) ?_
        refine lv_iadd S.1 S.2.1 dX8_turns_139 ?_
        refine lv_aload_n S.1 S.2.1 dX8_turns_140 rfl (lv_at hl 2 rfl) ?_
        refine cd_get8 (v := .ref (G.2.2.2.2 + 405)) S hK hZ cd_this8 0 cd_f_X8_7 rfl dX8_turns_141 ?_
        refine lv_sipush (v := 419) S.1 S.2.1 dX8_turns_144 (by decide) ?_
        refine lv_iload S.1 S.2.1 dX8_turns_147 (lv_at hl 0 rfl) ?_
        refine lv_iadd S.1 S.2.1 dX8_turns_149 ?_
        refine lv_iconst (v := 1) S.1 S.2.1 dX8_turns_150 (by decide) ?_
        refine lv_iadd S.1 S.2.1 dX8_turns_151 ?_
        obtain ⟨z21, E⟩ := cd_ckE E
        refine cd_iald S hK hZ (cd_r8_0 cd_this8) z21 dX8_turns_152 ?_
        obtain ⟨z22, E⟩ := cd_ckE E
        obtain ⟨h23, eh23, E⟩ := cd_nmE E
        refine cd_iast S hK hZ (cd_r8_0 cd_this8) z22 eh23 dX8_turns_153 (fun H locs hZ => ?_)
        obtain ⟨x24, ex24, E⟩ := cd_nmE E
        refine lv_iinc (v := x24) (lv' := [(5, .int x24), (3, .int p117_3), (0, .ref (G.2.2.2.2 + 404)), (1, .int a1)]) S.1 S.2.1 dX8_turns_154 hl (k := 0) rfl (by rw [ex24]; rfl) (by decide) rfl (fun ls hl => ?_)
        refine lv_goto (tgt := 117) S.1 S.2.1 dX8_turns_157 (by decide) ?_
        exact ih x24 h23 o H locs ls E hZ (lv_sub hl [0, 1, 2, 3] rfl) hex
  unfold f_X8_turns at E
  refine lv_iconst (v := 1) S.1 S.2.1 dX8_turns_0 (by decide) ?_
  refine lv_istore_n (lv' := [(2, .int 1), (0, .ref (G.2.2.2.2 + 404)), (1, .int a1)]) S.1 S.2.1 dX8_turns_1 rfl hl (by decide) rfl (fun ls hl => ?_)
  obtain ⟨o6, E1, E⟩ := cd_bE E
  refine L2 h cd_fu 1 o6 H locs ls E1 hZ (lv_sub hl [0, 1, 2] rfl) (fun H locs ls hZ hl => ?_)
  refine lv_iload_n S.1 S.2.1 dX8_turns_37 rfl (lv_at hl 0 rfl) ?_
  refine lv_aload_n S.1 S.2.1 dX8_turns_38 rfl (lv_at hl 1 rfl) ?_
  refine cd_get8 (v := .ref (G.2.2.2.2 + 405)) S hK hZ cd_this8 0 cd_f_X8_7 rfl dX8_turns_39 ?_
  refine lv_sipush (v := 419) S.1 S.2.1 dX8_turns_42 (by decide) ?_
  refine cd_iald S hK hZ (cd_r8_0 cd_this8) (by decide) dX8_turns_45 ?_
  refine lv_icmp_le (tgt := 50) S.1 S.2.1 dX8_turns_46 (by decide) (fun c7 => ?_) (fun c7 => ?_)
  · have E := cd_tE c7 E
    refine lv_aload_n S.1 S.2.1 dX8_turns_50 rfl (lv_at hl 1 rfl) ?_
    refine cd_get8 (v := .ref (G.2.2.2.2 + 405)) S hK hZ cd_this8 0 cd_f_X8_7 rfl dX8_turns_51 ?_
    refine lv_sipush (v := 419) S.1 S.2.1 dX8_turns_54 (by decide) ?_
    refine lv_iload_n S.1 S.2.1 dX8_turns_57 rfl (lv_at hl 0 rfl) ?_
    refine lv_iadd S.1 S.2.1 dX8_turns_58 ?_
    obtain ⟨z8, E⟩ := cd_ckE E
    refine cd_iald S hK hZ (cd_r8_0 cd_this8) z8 dX8_turns_59 ?_
    obtain ⟨x9, ex9, E⟩ := cd_nmE E
    refine cd_topi ex9 ?_
    refine lv_istore_n (lv' := [(3, .int x9), (2, .int o6), (0, .ref (G.2.2.2.2 + 404)), (1, .int a1)]) S.1 S.2.1 dX8_turns_60 rfl hl (by decide) rfl (fun ls hl => ?_)
    refine lv_iload_n S.1 S.2.1 dX8_turns_61 rfl (lv_at hl 0 rfl) ?_
    refine cd_cSi (As := [.int x9]) S hK hZ hl.1 (c_X8_groupAt l G x9 h _ rfl) cd_v_X8_groupAt cd_m_X8_55 ⟨Nat.le_of_ble_eq_true rfl, Nat.le_of_ble_eq_true rfl⟩ ⟨rfl, rfl⟩ rfl rfl (Nat.le_of_ble_eq_true rfl) ⟨Nat.zero_le _, Nat.zero_le _⟩ dX8_turns_62 (fun H locs hZ => ?_)
    obtain ⟨x11, ex11, E⟩ := cd_nmE E
    refine cd_topi ex11 ?_
    refine lv_istore (lv' := [(4, .int x11), (3, .int x9), (2, .int o6), (0, .ref (G.2.2.2.2 + 404)), (1, .int a1)]) S.1 S.2.1 dX8_turns_65 hl (by decide) rfl (fun ls hl => ?_)
    refine lv_aload_n S.1 S.2.1 dX8_turns_67 rfl (lv_at hl 3 rfl) ?_
    refine cd_get8 (v := .ref (G.2.2.2.2 + 405)) S hK hZ cd_this8 0 cd_f_X8_7 rfl dX8_turns_68 ?_
    refine lv_iload S.1 S.2.1 dX8_turns_71 (lv_at hl 0 rfl) ?_
    refine lv_bipush (v := 6) S.1 S.2.1 dX8_turns_73 (by decide) ?_
    refine lv_iadd S.1 S.2.1 dX8_turns_75 ?_
    refine lv_dup2_11 S.1 S.2.1 dX8_turns_76 rfl rfl ?_
    obtain ⟨z12, E⟩ := cd_ckE E
    refine cd_iald S hK hZ (cd_r8_0 cd_this8) z12 dX8_turns_77 ?_
    refine lv_iconst (v := 1) S.1 S.2.1 dX8_turns_78 (by decide) ?_
    refine lv_iadd S.1 S.2.1 dX8_turns_79 ?_
    obtain ⟨z13, E⟩ := cd_ckE E
    obtain ⟨h14, eh14, E⟩ := cd_nmE E
    refine cd_iast S hK hZ (cd_r8_0 cd_this8) z13 eh14 dX8_turns_80 (fun H locs hZ => ?_)
    refine lv_aload_n S.1 S.2.1 dX8_turns_81 rfl (lv_at hl 3 rfl) ?_
    refine cd_get8 (v := .ref (G.2.2.2.2 + 405)) S hK hZ cd_this8 0 cd_f_X8_7 rfl dX8_turns_82 ?_
    refine lv_iload S.1 S.2.1 dX8_turns_85 (lv_at hl 0 rfl) ?_
    refine lv_bipush (v := 6) S.1 S.2.1 dX8_turns_87 (by decide) ?_
    refine lv_iadd S.1 S.2.1 dX8_turns_89 ?_
    obtain ⟨z15, E⟩ := cd_ckE E
    refine cd_iald S hK hZ (cd_r8_0 cd_this8) z15 dX8_turns_90 ?_
    refine lv_aload_n S.1 S.2.1 dX8_turns_91 rfl (lv_at hl 3 rfl) ?_
    refine cd_get8 (v := .ref (G.2.2.2.2 + 405)) S hK hZ cd_this8 0 cd_f_X8_7 rfl dX8_turns_92 ?_
    refine lv_iload S.1 S.2.1 dX8_turns_95 (lv_at hl 0 rfl) ?_
    refine lv_iconst (v := 1) S.1 S.2.1 dX8_turns_97 (by decide) ?_
    refine lv_iadd S.1 S.2.1 dX8_turns_98 ?_
    obtain ⟨z16, E⟩ := cd_ckE E
    refine cd_iald S hK hZ (cd_r8_0 cd_this8) z16 dX8_turns_99 ?_
    refine lv_icmp_lt (tgt := 178) S.1 S.2.1 dX8_turns_100 (by decide) (fun c17 => ?_) (fun c17 => ?_)
    · have E := cd_tE c17 E
      exact hret _ _ _ _ _ (Option.some.inj E) hZ dX8_turns_178
    · have E := cd_fE c17 E
      refine lv_aload_n S.1 S.2.1 dX8_turns_103 rfl (lv_at hl 3 rfl) ?_
      refine cd_get8 (v := .ref (G.2.2.2.2 + 405)) S hK hZ cd_this8 0 cd_f_X8_7 rfl dX8_turns_104 ?_
      refine lv_iload S.1 S.2.1 dX8_turns_107 (lv_at hl 0 rfl) ?_
      refine lv_bipush (v := 6) S.1 S.2.1 dX8_turns_109 (by decide) ?_
      refine lv_iadd S.1 S.2.1 dX8_turns_111 ?_
      refine lv_iconst (v := 0) S.1 S.2.1 dX8_turns_112 (by decide) ?_
      obtain ⟨z18, E⟩ := cd_ckE E
      obtain ⟨h19, eh19, E⟩ := cd_nmE E
      refine cd_iast S hK hZ (cd_r8_0 cd_this8) z18 eh19 dX8_turns_113 (fun H locs hZ => ?_)
      refine lv_iload_n S.1 S.2.1 dX8_turns_114 rfl (lv_at hl 2 rfl) ?_
      refine lv_istore (lv' := [(5, .int o6), (4, .int x11), (3, .int x9), (2, .int o6), (0, .ref (G.2.2.2.2 + 404)), (1, .int a1)]) S.1 S.2.1 dX8_turns_115 hl (by decide) rfl (fun ls hl => ?_)
      obtain ⟨o25, E1, E⟩ := cd_bE E
      refine L117 x9 cd_fu o6 h19 o25 H locs ls E1 hZ (lv_sub hl [0, 2, 4, 5] rfl) (fun H locs ls hZ hl => ?_)
      refine lv_aload_n S.1 S.2.1 dX8_turns_160 rfl (lv_at hl 2 rfl) ?_
      refine cd_get8 (v := .ref (G.2.2.2.2 + 405)) S hK hZ cd_this8 0 cd_f_X8_7 rfl dX8_turns_161 ?_
      refine lv_sipush (v := 419) S.1 S.2.1 dX8_turns_164 (by decide) ?_
      refine lv_aload_n S.1 S.2.1 dX8_turns_167 rfl (lv_at hl 2 rfl) ?_
      refine cd_get8 (v := .ref (G.2.2.2.2 + 405)) S hK hZ cd_this8 0 cd_f_X8_7 rfl dX8_turns_168 ?_
      refine lv_sipush (v := 419) S.1 S.2.1 dX8_turns_171 (by decide) ?_
      refine cd_iald S hK hZ (cd_r8_0 cd_this8) (by decide) dX8_turns_174 ?_
      refine lv_iadd S.1 S.2.1 dX8_turns_175 ?_
      refine lv_iload_n S.1 S.2.1 dX8_turns_176 rfl (lv_at hl 1 rfl) ?_
      obtain ⟨z26, E⟩ := cd_ckE E
      obtain ⟨h27, eh27, E⟩ := cd_nmE E
      refine cd_iast S hK hZ (cd_r8_0 cd_this8) z26 eh27 dX8_turns_177 (fun H locs hZ => ?_)
      exact hret _ _ _ _ _ (Option.some.inj E) hZ dX8_turns_178
  · have E := cd_fE c7 E
    exact hret _ _ _ _ _ (Option.some.inj E) hZ dX8_turns_49
abbrev rm_X8_goes : Room := { frames := 5, cells := 0, slots := 0, locals := 115 }
theorem cd_v_X8_goes : cd_V yX8_goes cX8_goes 5 (some .int) 2 := ⟨cd_i_X8_goes, cd_e_X8_X8_goes, cd_n_X8, cd_c_X8_goes, by decide +kernel⟩
set_option maxHeartbeats 4000000 in
set_option maxRecDepth 100000 in
theorem c_X8_goes (l : Launch) (G : cd_G) (a1 : Int32) (a2 : Int32) (h : cd_Hp) (out : (Int32 × cd_Hp)) (E : f_X8_goes a1 a2 h = some out) : cd_Mi l G yX8_goes (Cond.code yX8_goes cX8_goes 5 (some .int) :: cd_T) rm_X8_goes [.ref (G.2.2.2.2 + 404), .int a1, .int a2] h out := by
  refine cd_ini (by decide) (Nat.le_of_ble_eq_true rfl) ?_
  intro p e s m args below meth c Q ls H locs S hK hZ hl hret
  have hl : lv_has ls 5 [(0, .ref (G.2.2.2.2 + 404)), (1, .int a1), (2, .int a2)] := hl
  have L2 : ∀ (n : Nat) (v2_3 : Int32) (h2_ : cd_Hp) (o : (Int32 × cd_Hp)) (H : Heap) (locs : List Loc) (ls : Array Slot), cd_lp (f_X8_goes_B2 a1 a2) n (v2_3, h2_) = some o → cd_Z G h2_ s.heap H locs → lv_has ls 5 [(3, .int v2_3), (0, .ref (G.2.2.2.2 + 404)), (1, .int a1), (2, .int a2)] → (∀ (H : Heap) (locs : List Loc) (ls : Array Slot), cd_Z G o.2 s.heap H locs → lv_has ls 5 [(3, .int o.1), (0, .ref (G.2.2.2.2 + 404)), (1, .int a1), (2, .int a2)] → W p l e rm_X8_goes s m args below meth c H locs 0 0 Q (F0 m 61 ls [])) → W p l e rm_X8_goes s m args below meth c H locs 0 0 Q (F0 m 2 ls []) := by
    intro n
    induction n with
    | zero => intro v2_3 h2_ o H locs ls E; exact nomatch (show (none : Option (Int32 × cd_Hp)) = some o from E)
    | succ n ih =>
      intro v2_3 h2_ o H locs ls E hZ hl hex
      have E : f_X8_goes_B2 a1 a2 (cd_lp (f_X8_goes_B2 a1 a2) n) (v2_3, h2_) = some o := E
      unfold f_X8_goes_B2 at E
      dsimp only at E
      refine lv_iload_n S.1 S.2.1 dX8_goes_2 rfl (lv_at hl 0 rfl) ?_
      refine lv_iload_n S.1 S.2.1 dX8_goes_3 rfl (lv_at hl 3 rfl) ?_
      refine lv_icmp_ge (tgt := 61) S.1 S.2.1 dX8_goes_4 (by decide) (fun c1 => ?_) (fun c1 => ?_)
      · have E := cd_tE c1 E
        cases E
        exact hex H locs ls hZ (lv_sub hl [0, 1, 2, 3] rfl)
      · have E := cd_fE c1 E
        refine lv_aload_n S.1 S.2.1 dX8_goes_7 rfl (lv_at hl 1 rfl) ?_
        refine lv_iload_n S.1 S.2.1 dX8_goes_8 rfl (lv_at hl 2 rfl) ?_
        obtain ⟨o2, E1, E⟩ := cd_bE E
        refine cd_cVi (As := [.int a1]) S hK hZ hl.1 (c_X8_watchers l G a1 h2_ o2 E1) cd_v_X8_watchers cd_m_X8_154 ⟨Nat.le_of_ble_eq_true rfl, Nat.le_of_ble_eq_true rfl⟩ ⟨rfl, rfl⟩ (ci := 8) (by decide) rfl cd_this8 rfl rfl (Nat.le_of_ble_eq_true rfl) ⟨Nat.zero_le _, Nat.zero_le _⟩ dX8_goes_9 (fun H locs hZ => ?_)
        refine lv_istore (lv' := [(4, .int o2), (3, .int v2_3), (0, .ref (G.2.2.2.2 + 404)), (1, .int a1), (2, .int a2)]) S.1 S.2.1 dX8_goes_12 hl (by decide) rfl (fun ls hl => ?_)
        refine lv_aload_n S.1 S.2.1 dX8_goes_14 rfl (lv_at hl 2 rfl) ?_
        refine lv_iload S.1 S.2.1 dX8_goes_15 (lv_at hl 0 rfl) ?_
        obtain ⟨o4, E1, E⟩ := cd_bE E
        refine cd_cVv (As := [.int o2]) S hK hZ hl.1 (c_X8_joins l G o2 h2_ o4 E1) cd_v_X8_joins cd_m_X8_157 ⟨Nat.le_of_ble_eq_true rfl, Nat.le_of_ble_eq_true rfl⟩ ⟨rfl, rfl⟩ (ci := 8) (by decide) rfl cd_this8 rfl rfl (Nat.le_of_ble_eq_true rfl) ⟨Nat.zero_le _, Nat.zero_le _⟩ dX8_goes_17 (fun H locs hZ => ?_)
        refine lv_aload_n S.1 S.2.1 dX8_goes_20 rfl (lv_at hl 2 rfl) ?_
        refine lv_iload_n S.1 S.2.1 dX8_goes_21 rfl (lv_at hl 3 rfl) ?_
        refine lv_iload S.1 S.2.1 dX8_goes_22 (lv_at hl 0 rfl) ?_
        obtain ⟨o6, E1, E⟩ := cd_bE E
        refine cd_cVv (As := [.int a1, .int o2]) S hK hZ hl.1 (c_X8_counts l G a1 o2 o4 o6 E1) cd_v_X8_counts cd_m_X8_161 ⟨Nat.le_of_ble_eq_true rfl, Nat.le_of_ble_eq_true rfl⟩ ⟨rfl, rfl⟩ (ci := 8) (by decide) rfl cd_this8 rfl rfl (Nat.le_of_ble_eq_true rfl) ⟨Nat.zero_le _, Nat.zero_le _⟩ dX8_goes_24 (fun H locs hZ => ?_)
        refine lv_aload_n S.1 S.2.1 dX8_goes_27 rfl (lv_at hl 2 rfl) ?_
        refine lv_iload_n S.1 S.2.1 dX8_goes_28 rfl (lv_at hl 3 rfl) ?_
        obtain ⟨o8, E1, E⟩ := cd_bE E
        refine cd_cVv (As := [.int a1]) S hK hZ hl.1 (c_X8_samplesCome l G a1 o6 o8 E1) cd_v_X8_samplesCome cd_m_X8_164 ⟨Nat.le_of_ble_eq_true rfl, Nat.le_of_ble_eq_true rfl⟩ ⟨rfl, rfl⟩ (ci := 8) (by decide) rfl cd_this8 rfl rfl (Nat.le_of_ble_eq_true rfl) ⟨Nat.zero_le _, Nat.zero_le _⟩ dX8_goes_29 (fun H locs hZ => ?_)
        refine lv_aload_n S.1 S.2.1 dX8_goes_32 rfl (lv_at hl 2 rfl) ?_
        refine lv_iload_n S.1 S.2.1 dX8_goes_33 rfl (lv_at hl 3 rfl) ?_
        obtain ⟨o10, E1, E⟩ := cd_bE E
        refine cd_cVv (As := [.int a1]) S hK hZ hl.1 (c_X8_tellsDue l G a1 o8 o10 E1) cd_v_X8_tellsDue cd_m_X8_167 ⟨Nat.le_of_ble_eq_true rfl, Nat.le_of_ble_eq_true rfl⟩ ⟨rfl, rfl⟩ (ci := 8) (by decide) rfl cd_this8 rfl rfl (Nat.le_of_ble_eq_true rfl) ⟨Nat.zero_le _, Nat.zero_le _⟩ dX8_goes_34 (fun H locs hZ => ?_)
        refine lv_aload_n S.1 S.2.1 dX8_goes_37 rfl (lv_at hl 2 rfl) ?_
        refine lv_iload S.1 S.2.1 dX8_goes_38 (lv_at hl 0 rfl) ?_
        obtain ⟨o12, E1, E⟩ := cd_bE E
        refine cd_cVv (As := [.int o2]) S hK hZ hl.1 (c_X8_turns l G o2 o10 o12 E1) cd_v_X8_turns cd_m_X8_170 ⟨Nat.le_of_ble_eq_true rfl, Nat.le_of_ble_eq_true rfl⟩ ⟨rfl, rfl⟩ (ci := 8) (by decide) rfl cd_this8 rfl rfl (Nat.le_of_ble_eq_true rfl) ⟨Nat.zero_le _, Nat.zero_le _⟩ dX8_goes_40 (fun H locs hZ => ?_)
        refine lv_aload_n S.1 S.2.1 dX8_goes_43 rfl (lv_at hl 2 rfl) ?_
        refine cd_get8 (v := .ref (G.2.2.2.2 + 405)) S hK hZ cd_this8 0 cd_f_X8_7 rfl dX8_goes_44 ?_
        refine lv_sipush (v := 426) S.1 S.2.1 dX8_goes_47 (by decide) ?_
        refine lv_dup2_11 S.1 S.2.1 dX8_goes_50 rfl rfl ?_
        refine cd_iald S hK hZ (cd_r8_0 cd_this8) (by decide) dX8_goes_51 ?_
        refine lv_iconst (v := 1) S.1 S.2.1 dX8_goes_52 (by decide) ?_
        refine lv_iadd S.1 S.2.1 dX8_goes_53 ?_
        obtain ⟨h14, eh14, E⟩ := cd_nmE E
        refine cd_iast S hK hZ (cd_r8_0 cd_this8) (by decide) eh14 dX8_goes_54 (fun H locs hZ => ?_)
        obtain ⟨x15, ex15, E⟩ := cd_nmE E
        refine lv_iinc (v := x15) (lv' := [(3, .int x15), (4, .int o2), (0, .ref (G.2.2.2.2 + 404)), (1, .int a1), (2, .int a2)]) S.1 S.2.1 dX8_goes_55 hl (k := 1) rfl (by rw [ex15]; rfl) (by decide) rfl (fun ls hl => ?_)
        refine lv_goto (tgt := 2) S.1 S.2.1 dX8_goes_58 (by decide) ?_
        exact ih x15 h14 o H locs ls E hZ (lv_sub hl [0, 2, 3, 4] rfl) hex
  unfold f_X8_goes at E
  refine lv_iconst (v := 0) S.1 S.2.1 dX8_goes_0 (by decide) ?_
  refine lv_istore_n (lv' := [(3, .int 0), (0, .ref (G.2.2.2.2 + 404)), (1, .int a1), (2, .int a2)]) S.1 S.2.1 dX8_goes_1 rfl hl (by decide) rfl (fun ls hl => ?_)
  obtain ⟨o16, E1, E⟩ := cd_bE E
  refine L2 cd_fu 0 h o16 H locs ls E1 hZ (lv_sub hl [0, 1, 2, 3] rfl) (fun H locs ls hZ hl => ?_)
  refine lv_aload_n S.1 S.2.1 dX8_goes_61 rfl (lv_at hl 1 rfl) ?_
  refine cd_get8 (v := .ref (G.2.2.2.2 + 405)) S hK hZ cd_this8 0 cd_f_X8_7 rfl dX8_goes_62 ?_
  refine lv_sipush (v := 426) S.1 S.2.1 dX8_goes_65 (by decide) ?_
  refine cd_iald S hK hZ (cd_r8_0 cd_this8) (by decide) dX8_goes_68 ?_
  exact hret _ _ _ _ _ _ (Option.some.inj E) hZ dX8_goes_69
abbrev rm_X8_isRun : Room := { frames := 2, cells := 0, slots := 0, locals := 43 }
theorem cd_v_X8_isRun : cd_V yX8_isRun cX8_isRun 3 (some .boolean) 2 := ⟨cd_i_X8_isRun, cd_e_X8_X8_isRun, cd_n_X8, cd_c_X8_isRun, by decide +kernel⟩
set_option maxHeartbeats 4000000 in
set_option maxRecDepth 100000 in
theorem c_X8_isRun (l : Launch) (G : cd_G) (a1 : Int32) (a2 : Int32) (h : cd_Hp) (out : Int32) (E : f_X8_isRun a1 a2 h = out) : cd_Mz l G yX8_isRun (Cond.code yX8_isRun cX8_isRun 3 (some .boolean) :: cd_T) rm_X8_isRun [.ref (G.2.2.2.2 + 404), .int a1, .int a2] h (out, h) := by
  refine cd_inz (by decide) (Nat.le_of_ble_eq_true rfl) ?_
  intro p e s m args below meth c Q ls H locs S hK hZ hl hret
  have hl : lv_has ls 3 [(0, .ref (G.2.2.2.2 + 404)), (1, .int a1), (2, .int a2)] := hl
  unfold f_X8_isRun at E
  refine lv_aload_n S.1 S.2.1 dX8_isRun_0 rfl (lv_at hl 0 rfl) ?_
  refine lv_iload_n S.1 S.2.1 dX8_isRun_1 rfl (lv_at hl 1 rfl) ?_
  refine cd_cVz (As := [.int a1]) S hK hZ hl.1 (c_X8_isTask l G a1 h _ rfl) cd_v_X8_isTask cd_m_X8_86 ⟨Nat.le_of_ble_eq_true rfl, Nat.le_of_ble_eq_true rfl⟩ ⟨rfl, rfl⟩ (ci := 8) (by decide) rfl cd_this8 rfl rfl (Nat.le_of_ble_eq_true rfl) ⟨Nat.zero_le _, Nat.zero_le _⟩ dX8_isRun_2 (fun H locs hZ b1 => ?_)
  refine lv_if_eq (tgt := 22) S.1 S.2.1 dX8_isRun_5 (by decide) (fun c2 => ?_) (fun c2 => ?_)
  · have E := cd_tE c2 E
    refine lv_iconst (v := 0) S.1 S.2.1 dX8_isRun_22 (by decide) ?_
    exact hret _ _ _ _ _ _ (by decide) (congrArg (fun z => (z, h)) (E)) hZ dX8_isRun_23
  · have E := cd_fE c2 E
    refine lv_iload_n S.1 S.2.1 dX8_isRun_8 rfl (lv_at hl 2 rfl) ?_
    refine lv_iconst (v := 1) S.1 S.2.1 dX8_isRun_9 (by decide) ?_
    refine lv_bipush (v := 20) S.1 S.2.1 dX8_isRun_10 (by decide) ?_
    refine cd_cSz (As := [.int a2, .int 1, .int 20]) S hK hZ hl.1 (c_X8_in l G a2 1 20 h _ rfl) cd_v_X8_in cd_m_X8_51 ⟨Nat.le_of_ble_eq_true rfl, Nat.le_of_ble_eq_true rfl⟩ ⟨rfl, rfl⟩ rfl rfl (Nat.le_of_ble_eq_true rfl) ⟨Nat.zero_le _, Nat.zero_le _⟩ dX8_isRun_12 (fun H locs hZ b3 => ?_)
    refine lv_if_eq (tgt := 22) S.1 S.2.1 dX8_isRun_15 (by decide) (fun c4 => ?_) (fun c4 => ?_)
    · have E := cd_tE c4 E
      refine lv_iconst (v := 0) S.1 S.2.1 dX8_isRun_22 (by decide) ?_
      exact hret _ _ _ _ _ _ (by decide) (congrArg (fun z => (z, h)) (E)) hZ dX8_isRun_23
    · have E := cd_fE c4 E
      refine lv_iconst (v := 1) S.1 S.2.1 dX8_isRun_18 (by decide) ?_
      refine lv_goto (tgt := 23) S.1 S.2.1 dX8_isRun_19 (by decide) ?_
      exact hret _ _ _ _ _ _ (by decide) (congrArg (fun z => (z, h)) (E)) hZ dX8_isRun_23
abbrev rm_X8_runs : Room := { frames := 6, cells := 0, slots := 0, locals := 139 }
theorem cd_v_X8_runs : cd_V yX8_runs cX8_runs 3 (some .int) 2 := ⟨cd_i_X8_runs, cd_e_X8_X8_runs, cd_n_X8, cd_c_X8_runs, by decide +kernel⟩
set_option maxHeartbeats 4000000 in
set_option maxRecDepth 100000 in
theorem c_X8_runs (l : Launch) (G : cd_G) (a1 : Int32) (a2 : Int32) (h : cd_Hp) (out : (Int32 × cd_Hp)) (E : f_X8_runs a1 a2 h = some out) : cd_Mi l G yX8_runs (Cond.code yX8_runs cX8_runs 3 (some .int) :: cd_T) rm_X8_runs [.ref (G.2.2.2.2 + 404), .int a1, .int a2] h out := by
  refine cd_ini (by decide) (Nat.le_of_ble_eq_true rfl) ?_
  intro p e s m args below meth c Q ls H locs S hK hZ hl hret
  have hl : lv_has ls 3 [(0, .ref (G.2.2.2.2 + 404)), (1, .int a1), (2, .int a2)] := hl
  unfold f_X8_runs at E
  refine lv_aload_n S.1 S.2.1 dX8_runs_0 rfl (lv_at hl 0 rfl) ?_
  refine lv_iload_n S.1 S.2.1 dX8_runs_1 rfl (lv_at hl 1 rfl) ?_
  refine lv_iload_n S.1 S.2.1 dX8_runs_2 rfl (lv_at hl 2 rfl) ?_
  refine cd_cVz (As := [.int a1, .int a2]) S hK hZ hl.1 (c_X8_isRun l G a1 a2 h _ rfl) cd_v_X8_isRun cd_m_X8_173 ⟨Nat.le_of_ble_eq_true rfl, Nat.le_of_ble_eq_true rfl⟩ ⟨rfl, rfl⟩ (ci := 8) (by decide) rfl cd_this8 rfl rfl (Nat.le_of_ble_eq_true rfl) ⟨Nat.zero_le _, Nat.zero_le _⟩ dX8_runs_3 (fun H locs hZ b1 => ?_)
  refine lv_if_ne (tgt := 14) S.1 S.2.1 dX8_runs_6 (by decide) (fun c2 => ?_) (fun c2 => ?_)
  · have E := cd_fE c2 E
    refine lv_aload_n S.1 S.2.1 dX8_runs_14 rfl (lv_at hl 0 rfl) ?_
    refine lv_iload_n S.1 S.2.1 dX8_runs_15 rfl (lv_at hl 1 rfl) ?_
    obtain ⟨o3, E1, E⟩ := cd_bE E
    refine cd_cVz (As := [.int a1]) S hK hZ hl.1 (c_X8_hasEnded l G a1 h o3 E1) cd_v_X8_hasEnded cd_m_X8_95 ⟨Nat.le_of_ble_eq_true rfl, Nat.le_of_ble_eq_true rfl⟩ ⟨rfl, rfl⟩ (ci := 8) (by decide) rfl cd_this8 rfl rfl (Nat.le_of_ble_eq_true rfl) ⟨Nat.zero_le _, Nat.zero_le _⟩ dX8_runs_16 (fun H locs hZ b4 => ?_)
    refine lv_if_eq (tgt := 27) S.1 S.2.1 dX8_runs_19 (by decide) (fun c5 => ?_) (fun c5 => ?_)
    · have E := cd_tE c5 E
      refine lv_aload_n S.1 S.2.1 dX8_runs_27 rfl (lv_at hl 0 rfl) ?_
      obtain ⟨o6, E1, E⟩ := cd_bE E
      refine cd_cVv (As := []) S hK hZ hl.1 (c_X8_remembers l G  h o6 E1) cd_v_X8_remembers cd_m_X8_73 ⟨Nat.le_of_ble_eq_true rfl, Nat.le_of_ble_eq_true rfl⟩ ⟨rfl, rfl⟩ (ci := 8) (by decide) rfl cd_this8 rfl rfl (Nat.le_of_ble_eq_true rfl) ⟨Nat.zero_le _, Nat.zero_le _⟩ dX8_runs_28 (fun H locs hZ => ?_)
      refine lv_aload_n S.1 S.2.1 dX8_runs_31 rfl (lv_at hl 0 rfl) ?_
      refine lv_iload_n S.1 S.2.1 dX8_runs_32 rfl (lv_at hl 1 rfl) ?_
      refine lv_iload_n S.1 S.2.1 dX8_runs_33 rfl (lv_at hl 2 rfl) ?_
      obtain ⟨o8, E1, E⟩ := cd_bE E
      refine cd_cVi (As := [.int a1, .int a2]) S hK hZ hl.1 (c_X8_goes l G a1 a2 o6 o8 E1) cd_v_X8_goes cd_m_X8_176 ⟨Nat.le_of_ble_eq_true rfl, Nat.le_of_ble_eq_true rfl⟩ ⟨rfl, rfl⟩ (ci := 8) (by decide) rfl cd_this8 rfl rfl (Nat.le_of_ble_eq_true rfl) ⟨Nat.zero_le _, Nat.zero_le _⟩ dX8_runs_34 (fun H locs hZ => ?_)
      exact hret _ _ _ _ _ _ (Option.some.inj E) hZ dX8_runs_37
    · have E := cd_fE c5 E
      refine lv_aload_n S.1 S.2.1 dX8_runs_22 rfl (lv_at hl 0 rfl) ?_
      obtain ⟨o10, E1, E⟩ := cd_nmE E
      refine cd_cVi (As := []) S hK hZ hl.1 (c_X8_no l G  h o10 E1.symm) cd_v_X8_no cd_m_X8_47 ⟨Nat.le_of_ble_eq_true rfl, Nat.le_of_ble_eq_true rfl⟩ ⟨rfl, rfl⟩ (ci := 8) (by decide) rfl cd_this8 rfl rfl (Nat.le_of_ble_eq_true rfl) ⟨Nat.zero_le _, Nat.zero_le _⟩ dX8_runs_23 (fun H locs hZ => ?_)
      exact hret _ _ _ _ _ _ (Option.some.inj E) hZ dX8_runs_26
  · have E := cd_tE c2 E
    refine lv_aload_n S.1 S.2.1 dX8_runs_9 rfl (lv_at hl 0 rfl) ?_
    obtain ⟨o12, E1, E⟩ := cd_nmE E
    refine cd_cVi (As := []) S hK hZ hl.1 (c_X8_bad l G  h o12 E1.symm) cd_v_X8_bad cd_m_X8_70 ⟨Nat.le_of_ble_eq_true rfl, Nat.le_of_ble_eq_true rfl⟩ ⟨rfl, rfl⟩ (ci := 8) (by decide) rfl cd_this8 rfl rfl (Nat.le_of_ble_eq_true rfl) ⟨Nat.zero_le _, Nat.zero_le _⟩ dX8_runs_10 (fun H locs hZ => ?_)
    exact hret _ _ _ _ _ _ (Option.some.inj E) hZ dX8_runs_13
abbrev rm_X8_aboutTask : Room := { frames := 4, cells := 0, slots := 0, locals := 90 }
theorem cd_v_X8_aboutTask : cd_V yX8_aboutTask cX8_aboutTask 3 (some .int) 2 := ⟨cd_i_X8_aboutTask, cd_e_X8_X8_aboutTask, cd_n_X8, cd_c_X8_aboutTask, by decide +kernel⟩
set_option maxHeartbeats 4000000 in
set_option maxRecDepth 100000 in
theorem c_X8_aboutTask (l : Launch) (G : cd_G) (a1 : Int32) (a2 : Int32) (h : cd_Hp) (out : Int32) (E : f_X8_aboutTask a1 a2 h = some out) : cd_Mi l G yX8_aboutTask (Cond.code yX8_aboutTask cX8_aboutTask 3 (some .int) :: cd_T) rm_X8_aboutTask [.ref (G.2.2.2.2 + 404), .int a1, .int a2] h (out, h) := by
  refine cd_ini (by decide) (Nat.le_of_ble_eq_true rfl) ?_
  intro p e s m args below meth c Q ls H locs S hK hZ hl hret
  have hl : lv_has ls 3 [(0, .ref (G.2.2.2.2 + 404)), (1, .int a1), (2, .int a2)] := hl
  unfold f_X8_aboutTask at E
  refine lv_iload_n S.1 S.2.1 dX8_aboutTask_0 rfl (lv_at hl 2 rfl) ?_
  refine lv_iconst (v := 2) S.1 S.2.1 dX8_aboutTask_1 (by decide) ?_
  refine lv_icmp_ne (tgt := 13) S.1 S.2.1 dX8_aboutTask_2 (by decide) (fun c1 => ?_) (fun c1 => ?_)
  · have E := cd_fE c1 E
    refine lv_aload_n S.1 S.2.1 dX8_aboutTask_13 rfl (lv_at hl 0 rfl) ?_
    refine cd_get8 (v := .ref (G.2.2.2.2 + 405)) S hK hZ cd_this8 0 cd_f_X8_7 rfl dX8_aboutTask_14 ?_
    refine lv_iload_n S.1 S.2.1 dX8_aboutTask_17 rfl (lv_at hl 1 rfl) ?_
    refine cd_cSi (As := [.int a1]) S hK hZ hl.1 (c_X8_taskAt l G a1 h _ rfl) cd_v_X8_taskAt cd_m_X8_67 ⟨Nat.le_of_ble_eq_true rfl, Nat.le_of_ble_eq_true rfl⟩ ⟨rfl, rfl⟩ rfl rfl (Nat.le_of_ble_eq_true rfl) ⟨Nat.zero_le _, Nat.zero_le _⟩ dX8_aboutTask_18 (fun H locs hZ => ?_)
    refine lv_iload_n S.1 S.2.1 dX8_aboutTask_21 rfl (lv_at hl 2 rfl) ?_
    refine lv_iadd S.1 S.2.1 dX8_aboutTask_22 ?_
    obtain ⟨z3, E⟩ := cd_ckE E
    refine cd_iald S hK hZ (cd_r8_0 cd_this8) z3 dX8_aboutTask_23 ?_
    exact hret _ _ _ _ _ _ (congrArg (fun z => (z, h)) (Option.some.inj E)) hZ dX8_aboutTask_24
  · have E := cd_tE c1 E
    refine lv_aload_n S.1 S.2.1 dX8_aboutTask_5 rfl (lv_at hl 0 rfl) ?_
    refine lv_iload_n S.1 S.2.1 dX8_aboutTask_6 rfl (lv_at hl 1 rfl) ?_
    obtain ⟨o4, E1, E⟩ := cd_bE E
    refine cd_cVi (As := [.int a1]) S hK hZ hl.1 (c_X8_watchers l G a1 h o4 E1) cd_v_X8_watchers cd_m_X8_154 ⟨Nat.le_of_ble_eq_true rfl, Nat.le_of_ble_eq_true rfl⟩ ⟨rfl, rfl⟩ (ci := 8) (by decide) rfl cd_this8 rfl rfl (Nat.le_of_ble_eq_true rfl) ⟨Nat.zero_le _, Nat.zero_le _⟩ dX8_aboutTask_7 (fun H locs hZ => ?_)
    refine lv_goto (tgt := 24) S.1 S.2.1 dX8_aboutTask_10 (by decide) ?_
    exact hret _ _ _ _ _ _ (congrArg (fun z => (z, h)) (Option.some.inj E)) hZ dX8_aboutTask_24
abbrev rm_X8_task : Room := { frames := 5, cells := 0, slots := 0, locals := 112 }
theorem cd_v_X8_task : cd_V yX8_task cX8_task 3 (some .int) 2 := ⟨cd_i_X8_task, cd_e_X8_X8_task, cd_n_X8, cd_c_X8_task, by decide +kernel⟩
set_option maxHeartbeats 4000000 in
set_option maxRecDepth 100000 in
theorem c_X8_task (l : Launch) (G : cd_G) (a1 : Int32) (a2 : Int32) (h : cd_Hp) (out : (Int32 × cd_Hp)) (E : f_X8_task a1 a2 h = some out) : cd_Mi l G yX8_task (Cond.code yX8_task cX8_task 3 (some .int) :: cd_T) rm_X8_task [.ref (G.2.2.2.2 + 404), .int a1, .int a2] h out := by
  refine cd_ini (by decide) (Nat.le_of_ble_eq_true rfl) ?_
  intro p e s m args below meth c Q ls H locs S hK hZ hl hret
  have hl : lv_has ls 3 [(0, .ref (G.2.2.2.2 + 404)), (1, .int a1), (2, .int a2)] := hl
  unfold f_X8_task at E
  refine lv_aload_n S.1 S.2.1 dX8_task_0 rfl (lv_at hl 0 rfl) ?_
  refine lv_iload_n S.1 S.2.1 dX8_task_1 rfl (lv_at hl 1 rfl) ?_
  refine cd_cVz (As := [.int a1]) S hK hZ hl.1 (c_X8_isTask l G a1 h _ rfl) cd_v_X8_isTask cd_m_X8_86 ⟨Nat.le_of_ble_eq_true rfl, Nat.le_of_ble_eq_true rfl⟩ ⟨rfl, rfl⟩ (ci := 8) (by decide) rfl cd_this8 rfl rfl (Nat.le_of_ble_eq_true rfl) ⟨Nat.zero_le _, Nat.zero_le _⟩ dX8_task_2 (fun H locs hZ b1 => ?_)
  refine lv_if_eq (tgt := 26) S.1 S.2.1 dX8_task_5 (by decide) (fun c2 => ?_) (fun c2 => ?_)
  · have E := cd_tE c2 E
    refine lv_aload_n S.1 S.2.1 dX8_task_26 rfl (lv_at hl 0 rfl) ?_
    obtain ⟨o3, E1, E⟩ := cd_nmE E
    refine cd_cVi (As := []) S hK hZ hl.1 (c_X8_bad l G  h o3 E1.symm) cd_v_X8_bad cd_m_X8_70 ⟨Nat.le_of_ble_eq_true rfl, Nat.le_of_ble_eq_true rfl⟩ ⟨rfl, rfl⟩ (ci := 8) (by decide) rfl cd_this8 rfl rfl (Nat.le_of_ble_eq_true rfl) ⟨Nat.zero_le _, Nat.zero_le _⟩ dX8_task_27 (fun H locs hZ => ?_)
    exact hret _ _ _ _ _ _ (Option.some.inj E) hZ dX8_task_30
  · have E := cd_fE c2 E
    refine lv_iload_n S.1 S.2.1 dX8_task_8 rfl (lv_at hl 2 rfl) ?_
    refine lv_iconst (v := 0) S.1 S.2.1 dX8_task_9 (by decide) ?_
    refine lv_iconst (v := 2) S.1 S.2.1 dX8_task_10 (by decide) ?_
    refine cd_cSz (As := [.int a2, .int 0, .int 2]) S hK hZ hl.1 (c_X8_in l G a2 0 2 h _ rfl) cd_v_X8_in cd_m_X8_51 ⟨Nat.le_of_ble_eq_true rfl, Nat.le_of_ble_eq_true rfl⟩ ⟨rfl, rfl⟩ rfl rfl (Nat.le_of_ble_eq_true rfl) ⟨Nat.zero_le _, Nat.zero_le _⟩ dX8_task_11 (fun H locs hZ b5 => ?_)
    refine lv_if_eq (tgt := 26) S.1 S.2.1 dX8_task_14 (by decide) (fun c6 => ?_) (fun c6 => ?_)
    · have E := cd_tE c6 E
      refine lv_aload_n S.1 S.2.1 dX8_task_26 rfl (lv_at hl 0 rfl) ?_
      obtain ⟨o7, E1, E⟩ := cd_nmE E
      refine cd_cVi (As := []) S hK hZ hl.1 (c_X8_bad l G  h o7 E1.symm) cd_v_X8_bad cd_m_X8_70 ⟨Nat.le_of_ble_eq_true rfl, Nat.le_of_ble_eq_true rfl⟩ ⟨rfl, rfl⟩ (ci := 8) (by decide) rfl cd_this8 rfl rfl (Nat.le_of_ble_eq_true rfl) ⟨Nat.zero_le _, Nat.zero_le _⟩ dX8_task_27 (fun H locs hZ => ?_)
      exact hret _ _ _ _ _ _ (Option.some.inj E) hZ dX8_task_30
    · have E := cd_fE c6 E
      refine lv_aload_n S.1 S.2.1 dX8_task_17 rfl (lv_at hl 0 rfl) ?_
      refine lv_iload_n S.1 S.2.1 dX8_task_18 rfl (lv_at hl 1 rfl) ?_
      refine lv_iload_n S.1 S.2.1 dX8_task_19 rfl (lv_at hl 2 rfl) ?_
      obtain ⟨o9, E1, E⟩ := cd_bE E
      refine cd_cVi (As := [.int a1, .int a2]) S hK hZ hl.1 (c_X8_aboutTask l G a1 a2 h o9 E1) cd_v_X8_aboutTask cd_m_X8_179 ⟨Nat.le_of_ble_eq_true rfl, Nat.le_of_ble_eq_true rfl⟩ ⟨rfl, rfl⟩ (ci := 8) (by decide) rfl cd_this8 rfl rfl (Nat.le_of_ble_eq_true rfl) ⟨Nat.zero_le _, Nat.zero_le _⟩ dX8_task_20 (fun H locs hZ => ?_)
      refine lv_goto (tgt := 30) S.1 S.2.1 dX8_task_23 (by decide) ?_
      exact hret _ _ _ _ _ _ (Option.some.inj E) hZ dX8_task_30
abbrev rm_X8_placeOf : Room := { frames := 0, cells := 0, slots := 0, locals := 0 }
theorem cd_v_X8_placeOf : cd_V yX8_placeOf cX8_placeOf 4 (some .int) 1 := ⟨cd_i_X8_placeOf, cd_e_X8_X8_placeOf, cd_n_X8, cd_c_X8_placeOf, by decide +kernel⟩
set_option maxHeartbeats 4000000 in
set_option maxRecDepth 100000 in
theorem c_X8_placeOf (l : Launch) (G : cd_G) (a1 : Int32) (h : cd_Hp) (out : Int32) (E : f_X8_placeOf a1 h = some out) : cd_Mi l G yX8_placeOf (Cond.code yX8_placeOf cX8_placeOf 4 (some .int) :: cd_T) rm_X8_placeOf [.ref (G.2.2.2.2 + 404), .int a1] h (out, h) := by
  refine cd_ini (by decide) (Nat.le_of_ble_eq_true rfl) ?_
  intro p e s m args below meth c Q ls H locs S hK hZ hl hret
  have hl : lv_has ls 4 [(0, .ref (G.2.2.2.2 + 404)), (1, .int a1)] := hl
  have L4 : ∀ (n : Nat) (v4_2 : Int32) (v4_3 : Int32) (o : (Int32 × Int32)) (H : Heap) (locs : List Loc) (ls : Array Slot), cd_lp (f_X8_placeOf_B4 a1 h) n (v4_2, v4_3) = some o → cd_Z G h s.heap H locs → lv_has ls 4 [(3, .int v4_3), (2, .int v4_2), (0, .ref (G.2.2.2.2 + 404)), (1, .int a1)] → (∀ (H : Heap) (locs : List Loc) (ls : Array Slot), cd_Z G h s.heap H locs → lv_has ls 4 [(3, .int o.2), (2, .int o.1), (0, .ref (G.2.2.2.2 + 404)), (1, .int a1)] → W p l e rm_X8_placeOf s m args below meth c H locs 0 0 Q (F0 m 44 ls [])) → W p l e rm_X8_placeOf s m args below meth c H locs 0 0 Q (F0 m 4 ls []) := by
    intro n
    induction n with
    | zero => intro v4_2 v4_3 o H locs ls E; exact nomatch (show (none : Option (Int32 × Int32)) = some o from E)
    | succ n ih =>
      intro v4_2 v4_3 o H locs ls E hZ hl hex
      have E : f_X8_placeOf_B4 a1 h (cd_lp (f_X8_placeOf_B4 a1 h) n) (v4_2, v4_3) = some o := E
      unfold f_X8_placeOf_B4 at E
      dsimp only at E
      refine lv_iload_n S.1 S.2.1 dX8_placeOf_4 rfl (lv_at hl 0 rfl) ?_
      refine lv_aload_n S.1 S.2.1 dX8_placeOf_5 rfl (lv_at hl 2 rfl) ?_
      refine cd_get8 (v := .ref (G.2.2.2.2 + 405)) S hK hZ cd_this8 0 cd_f_X8_7 rfl dX8_placeOf_6 ?_
      refine lv_sipush (v := 419) S.1 S.2.1 dX8_placeOf_9 (by decide) ?_
      refine cd_iald S hK hZ (cd_r8_0 cd_this8) (by decide) dX8_placeOf_12 ?_
      refine lv_icmp_gt (tgt := 44) S.1 S.2.1 dX8_placeOf_13 (by decide) (fun c1 => ?_) (fun c1 => ?_)
      · have E := cd_tE c1 E
        cases E
        exact hex H locs ls hZ (lv_sub hl [0, 1, 2, 3] rfl)
      · have E := cd_fE c1 E
        refine lv_aload_n S.1 S.2.1 dX8_placeOf_16 rfl (lv_at hl 2 rfl) ?_
        refine cd_get8 (v := .ref (G.2.2.2.2 + 405)) S hK hZ cd_this8 0 cd_f_X8_7 rfl dX8_placeOf_17 ?_
        refine lv_sipush (v := 419) S.1 S.2.1 dX8_placeOf_20 (by decide) ?_
        refine lv_iload_n S.1 S.2.1 dX8_placeOf_23 rfl (lv_at hl 0 rfl) ?_
        refine lv_iadd S.1 S.2.1 dX8_placeOf_24 ?_
        obtain ⟨z2, E⟩ := cd_ckE E
        refine cd_iald S hK hZ (cd_r8_0 cd_this8) z2 dX8_placeOf_25 ?_
        refine lv_iload_n S.1 S.2.1 dX8_placeOf_26 rfl (lv_at hl 3 rfl) ?_
        refine lv_icmp_ne (tgt := 36) S.1 S.2.1 dX8_placeOf_27 (by decide) (fun c3 => ?_) (fun c3 => ?_)
        · have E := cd_fE c3 E
          refine lv_iload_n S.1 S.2.1 dX8_placeOf_36 rfl (lv_at hl 1 rfl) ?_
          refine lv_istore_n (lv' := [(2, .int v4_2), (3, .int v4_3), (0, .ref (G.2.2.2.2 + 404)), (1, .int a1)]) S.1 S.2.1 dX8_placeOf_37 rfl hl (by decide) rfl (fun ls hl => ?_)
          obtain ⟨x4, ex4, E⟩ := cd_nmE E
          refine lv_iinc (v := x4) (lv' := [(3, .int x4), (2, .int v4_2), (0, .ref (G.2.2.2.2 + 404)), (1, .int a1)]) S.1 S.2.1 dX8_placeOf_38 hl (k := 1) rfl (by rw [ex4]; rfl) (by decide) rfl (fun ls hl => ?_)
          refine lv_goto (tgt := 4) S.1 S.2.1 dX8_placeOf_41 (by decide) ?_
          exact ih v4_2 x4 o H locs ls E hZ (lv_sub hl [0, 1, 2, 3] rfl) hex
        · have E := cd_tE c3 E
          refine lv_iload_n S.1 S.2.1 dX8_placeOf_30 rfl (lv_at hl 0 rfl) ?_
          refine lv_iconst (v := 1) S.1 S.2.1 dX8_placeOf_31 (by decide) ?_
          refine lv_isub S.1 S.2.1 dX8_placeOf_32 ?_
          refine lv_goto (tgt := 37) S.1 S.2.1 dX8_placeOf_33 (by decide) ?_
          obtain ⟨x5, ex5, E⟩ := cd_nmE E
          refine cd_topi ex5 ?_
          refine lv_istore_n (lv' := [(2, .int x5), (3, .int v4_3), (0, .ref (G.2.2.2.2 + 404)), (1, .int a1)]) S.1 S.2.1 dX8_placeOf_37 rfl hl (by decide) rfl (fun ls hl => ?_)
          obtain ⟨x6, ex6, E⟩ := cd_nmE E
          refine lv_iinc (v := x6) (lv' := [(3, .int x6), (2, .int x5), (0, .ref (G.2.2.2.2 + 404)), (1, .int a1)]) S.1 S.2.1 dX8_placeOf_38 hl (k := 1) rfl (by rw [ex6]; rfl) (by decide) rfl (fun ls hl => ?_)
          refine lv_goto (tgt := 4) S.1 S.2.1 dX8_placeOf_41 (by decide) ?_
          exact ih x5 x6 o H locs ls E hZ (lv_sub hl [0, 1, 2, 3] rfl) hex
  unfold f_X8_placeOf at E
  refine lv_iconst (v := (-1)) S.1 S.2.1 dX8_placeOf_0 (by decide) ?_
  refine lv_istore_n (lv' := [(2, .int ((-1))), (0, .ref (G.2.2.2.2 + 404)), (1, .int a1)]) S.1 S.2.1 dX8_placeOf_1 rfl hl (by decide) rfl (fun ls hl => ?_)
  refine lv_iconst (v := 1) S.1 S.2.1 dX8_placeOf_2 (by decide) ?_
  refine lv_istore_n (lv' := [(3, .int 1), (2, .int ((-1))), (0, .ref (G.2.2.2.2 + 404)), (1, .int a1)]) S.1 S.2.1 dX8_placeOf_3 rfl hl (by decide) rfl (fun ls hl => ?_)
  obtain ⟨o7, E1, E⟩ := cd_bE E
  refine L4 cd_fu ((-1)) 1 o7 H locs ls E1 hZ (lv_sub hl [0, 1, 2, 3] rfl) (fun H locs ls hZ hl => ?_)
  refine lv_iload_n S.1 S.2.1 dX8_placeOf_44 rfl (lv_at hl 1 rfl) ?_
  exact hret _ _ _ _ _ _ (congrArg (fun z => (z, h)) (Option.some.inj E)) hZ dX8_placeOf_45
abbrev rm_X8_aboutGroup : Room := { frames := 2, cells := 0, slots := 0, locals := 42 }
theorem cd_v_X8_aboutGroup : cd_V yX8_aboutGroup cX8_aboutGroup 3 (some .int) 2 := ⟨cd_i_X8_aboutGroup, cd_e_X8_X8_aboutGroup, cd_n_X8, cd_c_X8_aboutGroup, by decide +kernel⟩
set_option maxHeartbeats 4000000 in
set_option maxRecDepth 100000 in
theorem c_X8_aboutGroup (l : Launch) (G : cd_G) (a1 : Int32) (a2 : Int32) (h : cd_Hp) (out : Int32) (E : f_X8_aboutGroup a1 a2 h = some out) : cd_Mi l G yX8_aboutGroup (Cond.code yX8_aboutGroup cX8_aboutGroup 3 (some .int) :: cd_T) rm_X8_aboutGroup [.ref (G.2.2.2.2 + 404), .int a1, .int a2] h (out, h) := by
  refine cd_ini (by decide) (Nat.le_of_ble_eq_true rfl) ?_
  intro p e s m args below meth c Q ls H locs S hK hZ hl hret
  have hl : lv_has ls 3 [(0, .ref (G.2.2.2.2 + 404)), (1, .int a1), (2, .int a2)] := hl
  unfold f_X8_aboutGroup at E
  refine lv_iload_n S.1 S.2.1 dX8_aboutGroup_0 rfl (lv_at hl 2 rfl) ?_
  refine lv_bipush (v := 9) S.1 S.2.1 dX8_aboutGroup_1 (by decide) ?_
  refine lv_icmp_ne (tgt := 14) S.1 S.2.1 dX8_aboutGroup_3 (by decide) (fun c1 => ?_) (fun c1 => ?_)
  · have E := cd_fE c1 E
    refine lv_aload_n S.1 S.2.1 dX8_aboutGroup_14 rfl (lv_at hl 0 rfl) ?_
    refine lv_iload_n S.1 S.2.1 dX8_aboutGroup_15 rfl (lv_at hl 1 rfl) ?_
    refine lv_iload_n S.1 S.2.1 dX8_aboutGroup_16 rfl (lv_at hl 2 rfl) ?_
    refine lv_bipush (v := 10) S.1 S.2.1 dX8_aboutGroup_17 (by decide) ?_
    refine lv_icmp_ne (tgt := 27) S.1 S.2.1 dX8_aboutGroup_19 (by decide) (fun c2 => ?_) (fun c2 => ?_)
    · have E := cd_fE c2 E
      refine lv_iload_n S.1 S.2.1 dX8_aboutGroup_27 rfl (lv_at hl 2 rfl) ?_
      obtain ⟨o3, E1, E⟩ := cd_bE E
      refine cd_cVi (As := [.int a1, .int a2]) S hK hZ hl.1 (c_X8_ofGroup l G a1 a2 h o3 E1) cd_v_X8_ofGroup cd_m_X8_63 ⟨Nat.le_of_ble_eq_true rfl, Nat.le_of_ble_eq_true rfl⟩ ⟨rfl, rfl⟩ (ci := 8) (by decide) rfl cd_this8 rfl rfl (Nat.le_of_ble_eq_true rfl) ⟨Nat.zero_le _, Nat.zero_le _⟩ dX8_aboutGroup_28 (fun H locs hZ => ?_)
      exact hret _ _ _ _ _ _ (congrArg (fun z => (z, h)) (Option.some.inj E)) hZ dX8_aboutGroup_31
    · have E := cd_tE c2 E
      refine lv_bipush (v := 9) S.1 S.2.1 dX8_aboutGroup_22 (by decide) ?_
      refine lv_goto (tgt := 28) S.1 S.2.1 dX8_aboutGroup_24 (by decide) ?_
      obtain ⟨o5, E1, E⟩ := cd_bE E
      refine cd_cVi (As := [.int a1, .int 9]) S hK hZ hl.1 (c_X8_ofGroup l G a1 9 h o5 E1) cd_v_X8_ofGroup cd_m_X8_63 ⟨Nat.le_of_ble_eq_true rfl, Nat.le_of_ble_eq_true rfl⟩ ⟨rfl, rfl⟩ (ci := 8) (by decide) rfl cd_this8 rfl rfl (Nat.le_of_ble_eq_true rfl) ⟨Nat.zero_le _, Nat.zero_le _⟩ dX8_aboutGroup_28 (fun H locs hZ => ?_)
      exact hret _ _ _ _ _ _ (congrArg (fun z => (z, h)) (Option.some.inj E)) hZ dX8_aboutGroup_31
  · have E := cd_tE c1 E
    refine lv_aload_n S.1 S.2.1 dX8_aboutGroup_6 rfl (lv_at hl 0 rfl) ?_
    refine lv_iload_n S.1 S.2.1 dX8_aboutGroup_7 rfl (lv_at hl 1 rfl) ?_
    obtain ⟨o7, E1, E⟩ := cd_bE E
    refine cd_cVi (As := [.int a1]) S hK hZ hl.1 (c_X8_placeOf l G a1 h o7 E1) cd_v_X8_placeOf cd_m_X8_182 ⟨Nat.le_of_ble_eq_true rfl, Nat.le_of_ble_eq_true rfl⟩ ⟨rfl, rfl⟩ (ci := 8) (by decide) rfl cd_this8 rfl rfl (Nat.le_of_ble_eq_true rfl) ⟨Nat.zero_le _, Nat.zero_le _⟩ dX8_aboutGroup_8 (fun H locs hZ => ?_)
    refine lv_goto (tgt := 31) S.1 S.2.1 dX8_aboutGroup_11 (by decide) ?_
    exact hret _ _ _ _ _ _ (congrArg (fun z => (z, h)) (Option.some.inj E)) hZ dX8_aboutGroup_31
