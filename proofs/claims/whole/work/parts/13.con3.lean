-- CONTRACTS (written by wip/whole/gen.py): X4_dealCounters X4_countSlice X4_takeSamples X4_moveToEnd X4_takeTurn X4_runSlice X4_runSlices X4_taskFact X4_placeInLine X4_groupFact X4_eventFact X4_countFact X4_timeFact X4_scaledFact X4_fitFact X4_queueFact X4_groupsOn X4_wholeFact X5_putRate
abbrev rm_X4_dealCounters : Room := { frames := 7, cells := 0, slots := 0, locals := 180 }
theorem cd_v_X4_dealCounters : cd_V yX4_dealCounters cX4_dealCounters 4 none 1 := ⟨cd_i_X4_dealCounters, cd_e_X4_X4_dealCounters, cd_n_X4, cd_c_X4_dealCounters, by decide +kernel⟩
set_option maxHeartbeats 4000000 in
set_option maxRecDepth 100000 in
theorem c_X4_dealCounters (l : Launch) (G : cd_G) (q : Nat) (a1 : Int32) (hq : cd_is 4 q) (h : cd_Hp) (out : cd_Hp) (E : f_X4_dealCounters q a1 h = some out) : cd_Mv l G yX4_dealCounters (Cond.code yX4_dealCounters cX4_dealCounters 4 none :: cd_T) rm_X4_dealCounters [.ref (G.2.2.2.2 + q), .int a1] h out := by
  refine cd_inv (by decide) (Nat.le_of_ble_eq_true rfl) ?_
  intro p e s m args below meth c Q ls H locs S hK hZ hl hret
  have hl : lv_has ls 4 [(0, .ref (G.2.2.2.2 + q)), (1, .int a1)] := hl
  have L13 : ∀ (n : Nat) (v13_2 : Int32) (h13_ : cd_Hp) (o : (Int32 × cd_Hp)) (H : Heap) (locs : List Loc) (ls : Array Slot), cd_lp (f_X4_dealCounters_B13 q a1) n (v13_2, h13_) = some o → cd_Z G h13_ s.heap H locs → lv_has ls 4 [(2, .int v13_2), (0, .ref (G.2.2.2.2 + q)), (1, .int a1)] → (∀ (H : Heap) (locs : List Loc) (ls : Array Slot), cd_Z G o.2 s.heap H locs → lv_has ls 4 [(2, .int o.1), (0, .ref (G.2.2.2.2 + q)), (1, .int a1)] → W p l e rm_X4_dealCounters s m args below meth c H locs 0 0 Q (F0 m 36 ls [])) → W p l e rm_X4_dealCounters s m args below meth c H locs 0 0 Q (F0 m 13 ls []) := by
    intro n
    induction n with
    | zero => intro v13_2 h13_ o H locs ls E; exact nomatch (show (none : Option (Int32 × cd_Hp)) = some o from E)
    | succ n ih =>
      intro v13_2 h13_ o H locs ls E hZ hl hex
      have E : f_X4_dealCounters_B13 q a1 (cd_lp (f_X4_dealCounters_B13 q a1) n) (v13_2, h13_) = some o := E
      unfold f_X4_dealCounters_B13 at E
      dsimp only at E
      refine lv_iload_n S.1 S.2.1 dX4_dealCounters_13 rfl (lv_at hl 0 rfl) ?_
      refine lv_aload_n S.1 S.2.1 dX4_dealCounters_14 rfl (lv_at hl 1 rfl) ?_
      refine cd_get4 (v := .int (cd_g h13_ q 3)) S hK hZ hq 3 cd_f_X4_53 rfl dX4_dealCounters_15 ?_
      refine lv_icmp_ge (tgt := 36) S.1 S.2.1 dX4_dealCounters_18 (by decide) (fun c3 => ?_) (fun c3 => ?_)
      · have E := cd_tE c3 E
        cases E
        exact hex H locs ls hZ (lv_sub hl [0, 1, 2] rfl)
      · have E := cd_fE c3 E
        refine lv_aload_n S.1 S.2.1 dX4_dealCounters_21 rfl (lv_at hl 1 rfl) ?_
        refine cd_get4 (v := .ref (G.2.2.2.2 + (q + 6))) S hK hZ hq 7 cd_f_X4_31 rfl dX4_dealCounters_22 ?_
        refine lv_iload_n S.1 S.2.1 dX4_dealCounters_25 rfl (lv_at hl 0 rfl) ?_
        obtain ⟨z4, E⟩ := cd_ckE E
        refine cd_aald9 S hK hZ (cd_r4_7 hq) z4 dX4_dealCounters_26 ?_
        obtain ⟨o5, E1, E⟩ := cd_bE E
        refine cd_cVv (As := []) S hK hZ hl.1 (c_X0_leaveSeats l G ((q + 6) + 8 + 7 * (v13_2.toNatClampNeg)) (cd_r9 (cd_r4_7 hq) z4) h13_ o5 E1) cd_v_X0_leaveSeats cd_m_X4_162 ⟨Nat.le_of_ble_eq_true rfl, Nat.le_of_ble_eq_true rfl⟩ ⟨rfl, rfl⟩ (ci := 0) (by decide) rfl (cd_r9 (cd_r4_7 hq) z4) rfl rfl (Nat.le_of_ble_eq_true rfl) ⟨Nat.zero_le _, Nat.zero_le _⟩ dX4_dealCounters_27 (fun H locs hZ => ?_)
        obtain ⟨x7, ex7, E⟩ := cd_nmE E
        refine lv_iinc (v := x7) (lv' := [(2, .int x7), (0, .ref (G.2.2.2.2 + q)), (1, .int a1)]) S.1 S.2.1 dX4_dealCounters_30 hl (k := 0) rfl (by rw [ex7]; rfl) (by decide) rfl (fun ls hl => ?_)
        refine lv_goto (tgt := 13) S.1 S.2.1 dX4_dealCounters_33 (by decide) ?_
        exact ih x7 o5 o H locs ls E hZ (lv_sub hl [0, 1, 2] rfl) hex
  have L38 : ∀ (n : Nat) (v38_2 : Int32) (h38_ : cd_Hp) (o : (Int32 × cd_Hp)) (H : Heap) (locs : List Loc) (ls : Array Slot), cd_lp (f_X4_dealCounters_B38 q a1) n (v38_2, h38_) = some o → cd_Z G h38_ s.heap H locs → lv_has ls 4 [(2, .int v38_2), (0, .ref (G.2.2.2.2 + q)), (1, .int a1)] → (∀ (H : Heap) (locs : List Loc) (ls : Array Slot), cd_Z G o.2 s.heap H locs → lv_has ls 4 [(2, .int o.1), (0, .ref (G.2.2.2.2 + q)), (1, .int a1)] → W p l e rm_X4_dealCounters s m args below meth c H locs 0 0 Q (F0 m 98 ls [])) → W p l e rm_X4_dealCounters s m args below meth c H locs 0 0 Q (F0 m 38 ls []) := by
    intro n
    induction n with
    | zero => intro v38_2 h38_ o H locs ls E; exact nomatch (show (none : Option (Int32 × cd_Hp)) = some o from E)
    | succ n ih =>
      intro v38_2 h38_ o H locs ls E hZ hl hex
      have E : f_X4_dealCounters_B38 q a1 (cd_lp (f_X4_dealCounters_B38 q a1) n) (v38_2, h38_) = some o := E
      unfold f_X4_dealCounters_B38 at E
      dsimp only at E
      refine lv_iload_n S.1 S.2.1 dX4_dealCounters_38 rfl (lv_at hl 0 rfl) ?_
      refine lv_aload_n S.1 S.2.1 dX4_dealCounters_39 rfl (lv_at hl 1 rfl) ?_
      refine cd_get4 (v := .int (cd_g h38_ q 3)) S hK hZ hq 3 cd_f_X4_53 rfl dX4_dealCounters_40 ?_
      refine lv_icmp_ge (tgt := 98) S.1 S.2.1 dX4_dealCounters_43 (by decide) (fun c9 => ?_) (fun c9 => ?_)
      · have E := cd_tE c9 E
        cases E
        exact hex H locs ls hZ (lv_sub hl [0, 1, 2] rfl)
      · have E := cd_fE c9 E
        refine lv_aload_n S.1 S.2.1 dX4_dealCounters_46 rfl (lv_at hl 1 rfl) ?_
        refine cd_get4 (v := .ref (G.2.2.2.2 + (q + 6))) S hK hZ hq 7 cd_f_X4_31 rfl dX4_dealCounters_47 ?_
        refine lv_iload_n S.1 S.2.1 dX4_dealCounters_50 rfl (lv_at hl 0 rfl) ?_
        obtain ⟨z10, E⟩ := cd_ckE E
        refine cd_aald9 S hK hZ (cd_r4_7 hq) z10 dX4_dealCounters_51 ?_
        refine lv_astore_n (lv' := [(3, .ref (G.2.2.2.2 + ((q + 6) + 8 + 7 * (v38_2.toNatClampNeg)))), (2, .int v38_2), (0, .ref (G.2.2.2.2 + q)), (1, .int a1)]) S.1 S.2.1 dX4_dealCounters_52 rfl hl (by decide) rfl (fun ls hl => ?_)
        refine lv_aload_n S.1 S.2.1 dX4_dealCounters_53 rfl (lv_at hl 0 rfl) ?_
        refine cd_get0 (v := .int (cd_g h38_ ((q + 6) + 8 + 7 * (v38_2.toNatClampNeg)) 2)) S hK hZ (cd_r9 (cd_r4_7 hq) z10) 2 cd_f_X4_165 rfl dX4_dealCounters_54 ?_
        refine lv_if_eq (tgt := 92) S.1 S.2.1 dX4_dealCounters_57 (by decide) (fun c11 => ?_) (fun c11 => ?_)
        · have E := cd_tE c11 E
          obtain ⟨x12, ex12, E⟩ := cd_nmE E
          refine lv_iinc (v := x12) (lv' := [(2, .int x12), (3, .ref (G.2.2.2.2 + ((q + 6) + 8 + 7 * (v38_2.toNatClampNeg)))), (0, .ref (G.2.2.2.2 + q)), (1, .int a1)]) S.1 S.2.1 dX4_dealCounters_92 hl (k := 1) rfl (by rw [ex12]; rfl) (by decide) rfl (fun ls hl => ?_)
          refine lv_goto (tgt := 38) S.1 S.2.1 dX4_dealCounters_95 (by decide) ?_
          exact ih x12 h38_ o H locs ls E hZ (lv_sub hl [0, 2, 3] rfl) hex
        · have E := cd_fE c11 E
          refine lv_iload_n S.1 S.2.1 dX4_dealCounters_60 rfl (lv_at hl 3 rfl) ?_
          refine lv_iload_n S.1 S.2.1 dX4_dealCounters_61 rfl (lv_at hl 1 rfl) ?_
          refine cd_cSz (As := [.int a1, .int v38_2]) S hK hZ hl.1 (c_X4_isIn l G a1 v38_2 h38_ _ rfl) cd_v_X4_isIn cd_m_X4_168 ⟨Nat.le_of_ble_eq_true rfl, Nat.le_of_ble_eq_true rfl⟩ ⟨rfl, rfl⟩ rfl rfl (Nat.le_of_ble_eq_true rfl) ⟨Nat.zero_le _, Nat.zero_le _⟩ dX4_dealCounters_62 (fun H locs hZ b13 => ?_)
          refine lv_if_eq (tgt := 92) S.1 S.2.1 dX4_dealCounters_65 (by decide) (fun c14 => ?_) (fun c14 => ?_)
          · have E := cd_tE c14 E
            obtain ⟨x15, ex15, E⟩ := cd_nmE E
            refine lv_iinc (v := x15) (lv' := [(2, .int x15), (3, .ref (G.2.2.2.2 + ((q + 6) + 8 + 7 * (v38_2.toNatClampNeg)))), (0, .ref (G.2.2.2.2 + q)), (1, .int a1)]) S.1 S.2.1 dX4_dealCounters_92 hl (k := 1) rfl (by rw [ex15]; rfl) (by decide) rfl (fun ls hl => ?_)
            refine lv_goto (tgt := 38) S.1 S.2.1 dX4_dealCounters_95 (by decide) ?_
            exact ih x15 h38_ o H locs ls E hZ (lv_sub hl [0, 2, 3] rfl) hex
          · have E := cd_fE c14 E
            refine lv_aload_n S.1 S.2.1 dX4_dealCounters_68 rfl (lv_at hl 0 rfl) ?_
            refine lv_aload_n S.1 S.2.1 dX4_dealCounters_69 rfl (lv_at hl 2 rfl) ?_
            refine cd_get4 (v := .ref (G.2.2.2.2 + 1)) S hK hZ hq 10 cd_f_X4_45 rfl dX4_dealCounters_70 ?_
            refine lv_aload_n S.1 S.2.1 dX4_dealCounters_73 rfl (lv_at hl 0 rfl) ?_
            refine lv_aload_n S.1 S.2.1 dX4_dealCounters_74 rfl (lv_at hl 2 rfl) ?_
            refine cd_get4 (v := .ref (G.2.2.2.2 + (q + 1))) S hK hZ hq 5 cd_f_X4_18 rfl dX4_dealCounters_75 ?_
            obtain ⟨o16, E1, E⟩ := cd_bE E
            refine cd_cVz (As := [.ref (G.2.2.2.2 + ((q + 6) + 8 + 7 * (v38_2.toNatClampNeg))), .ref (G.2.2.2.2 + (q + 1))]) S hK hZ hl.1 (c_X3_take l G 1 ((q + 6) + 8 + 7 * (v38_2.toNatClampNeg)) (q + 1) (cd_r4_10 hq) (cd_r9 (cd_r4_7 hq) z10) ((cd_r4_5 hq)).self h38_ o16 E1) cd_v_X3_take cd_m_X4_171 ⟨Nat.le_of_ble_eq_true rfl, Nat.le_of_ble_eq_true rfl⟩ ⟨rfl, rfl⟩ (ci := 3) (by decide) rfl (cd_r4_10 hq) rfl rfl (Nat.le_of_ble_eq_true rfl) ⟨Nat.zero_le _, Nat.zero_le _⟩ dX4_dealCounters_78 (fun H locs hZ b17 => ?_)
            obtain ⟨h18, eh18, E⟩ := cd_nmE E
            refine cd_put0_5 S hK hZ (cd_r9 (cd_r4_7 hq) z10) cd_f_X4_175 b17 eh18 dX4_dealCounters_81 (fun H locs hZ => ?_)
            refine lv_aload_n S.1 S.2.1 dX4_dealCounters_84 rfl (lv_at hl 0 rfl) ?_
            refine lv_aload_n S.1 S.2.1 dX4_dealCounters_85 rfl (lv_at hl 0 rfl) ?_
            refine cd_get0 (v := .int (cd_g h18 ((q + 6) + 8 + 7 * (v38_2.toNatClampNeg)) 5)) S hK hZ (cd_r9 (cd_r4_7 hq) z10) 5 cd_f_X4_175 rfl dX4_dealCounters_86 ?_
            obtain ⟨z19, E⟩ := cd_ckE E
            obtain ⟨h20, eh20, E⟩ := cd_nmE E
            refine cd_put0_4 S hK hZ (cd_r9 (cd_r4_7 hq) z10) cd_f_X4_117 z19 eh20 dX4_dealCounters_89 (fun H locs hZ => ?_)
            obtain ⟨x21, ex21, E⟩ := cd_nmE E
            refine lv_iinc (v := x21) (lv' := [(2, .int x21), (3, .ref (G.2.2.2.2 + ((q + 6) + 8 + 7 * (v38_2.toNatClampNeg)))), (0, .ref (G.2.2.2.2 + q)), (1, .int a1)]) S.1 S.2.1 dX4_dealCounters_92 hl (k := 1) rfl (by rw [ex21]; rfl) (by decide) rfl (fun ls hl => ?_)
            refine lv_goto (tgt := 38) S.1 S.2.1 dX4_dealCounters_95 (by decide) ?_
            exact ih x21 h20 o H locs ls E hZ (lv_sub hl [0, 2, 3] rfl) hex
  have L100 : ∀ (n : Nat) (v100_2 : Int32) (h100_ : cd_Hp) (o : (Int32 × cd_Hp)) (H : Heap) (locs : List Loc) (ls : Array Slot), cd_lp (f_X4_dealCounters_B100 q a1) n (v100_2, h100_) = some o → cd_Z G h100_ s.heap H locs → lv_has ls 4 [(2, .int v100_2), (0, .ref (G.2.2.2.2 + q)), (1, .int a1)] → (∀ (H : Heap) (locs : List Loc) (ls : Array Slot), cd_Z G o.2 s.heap H locs → lv_has ls 4 [(2, .int o.1), (0, .ref (G.2.2.2.2 + q)), (1, .int a1)] → W p l e rm_X4_dealCounters s m args below meth c H locs 0 0 Q (F0 m 155 ls [])) → W p l e rm_X4_dealCounters s m args below meth c H locs 0 0 Q (F0 m 100 ls []) := by
    intro n
    induction n with
    | zero => intro v100_2 h100_ o H locs ls E; exact nomatch (show (none : Option (Int32 × cd_Hp)) = some o from E)
    | succ n ih =>
      intro v100_2 h100_ o H locs ls E hZ hl hex
      have E : f_X4_dealCounters_B100 q a1 (cd_lp (f_X4_dealCounters_B100 q a1) n) (v100_2, h100_) = some o := E
      unfold f_X4_dealCounters_B100 at E
      dsimp only at E
      refine lv_iload_n S.1 S.2.1 dX4_dealCounters_100 rfl (lv_at hl 0 rfl) ?_
      refine lv_aload_n S.1 S.2.1 dX4_dealCounters_101 rfl (lv_at hl 1 rfl) ?_
      refine cd_get4 (v := .int (cd_g h100_ q 4)) S hK hZ hq 4 cd_f_X4_56 rfl dX4_dealCounters_102 ?_
      refine lv_icmp_ge (tgt := 155) S.1 S.2.1 dX4_dealCounters_105 (by decide) (fun c23 => ?_) (fun c23 => ?_)
      · have E := cd_tE c23 E
        cases E
        exact hex H locs ls hZ (lv_sub hl [0, 1, 2] rfl)
      · have E := cd_fE c23 E
        refine lv_aload_n S.1 S.2.1 dX4_dealCounters_108 rfl (lv_at hl 1 rfl) ?_
        refine cd_get4 (v := .ref (G.2.2.2.2 + (q + 6))) S hK hZ hq 7 cd_f_X4_31 rfl dX4_dealCounters_109 ?_
        refine lv_aload_n S.1 S.2.1 dX4_dealCounters_112 rfl (lv_at hl 1 rfl) ?_
        refine cd_get4 (v := .ref (G.2.2.2.2 + (q + 7))) S hK hZ hq 8 cd_f_X4_35 rfl dX4_dealCounters_113 ?_
        refine lv_iload_n S.1 S.2.1 dX4_dealCounters_116 rfl (lv_at hl 0 rfl) ?_
        obtain ⟨z24, E⟩ := cd_ckE E
        refine cd_iald S hK hZ (cd_r4_8 hq) z24 dX4_dealCounters_117 ?_
        obtain ⟨z25, E⟩ := cd_ckE E
        refine cd_aald9 S hK hZ (cd_r4_7 hq) z25 dX4_dealCounters_118 ?_
        refine lv_astore_n (lv' := [(3, .ref (G.2.2.2.2 + ((q + 6) + 8 + 7 * ((cd_g h100_ (q + 7) (v100_2.toNatClampNeg)).toNatClampNeg)))), (2, .int v100_2), (0, .ref (G.2.2.2.2 + q)), (1, .int a1)]) S.1 S.2.1 dX4_dealCounters_119 rfl hl (by decide) rfl (fun ls hl => ?_)
        refine lv_iload_n S.1 S.2.1 dX4_dealCounters_120 rfl (lv_at hl 3 rfl) ?_
        refine lv_aload_n S.1 S.2.1 dX4_dealCounters_121 rfl (lv_at hl 2 rfl) ?_
        refine cd_get4 (v := .ref (G.2.2.2.2 + (q + 7))) S hK hZ hq 8 cd_f_X4_35 rfl dX4_dealCounters_122 ?_
        refine lv_iload_n S.1 S.2.1 dX4_dealCounters_125 rfl (lv_at hl 1 rfl) ?_
        obtain ⟨z26, E⟩ := cd_ckE E
        refine cd_iald S hK hZ (cd_r4_8 hq) z26 dX4_dealCounters_126 ?_
        refine cd_cSz (As := [.int a1, .int (cd_g h100_ (q + 7) (v100_2.toNatClampNeg))]) S hK hZ hl.1 (c_X4_isIn l G a1 (cd_g h100_ (q + 7) (v100_2.toNatClampNeg)) h100_ _ rfl) cd_v_X4_isIn cd_m_X4_168 ⟨Nat.le_of_ble_eq_true rfl, Nat.le_of_ble_eq_true rfl⟩ ⟨rfl, rfl⟩ rfl rfl (Nat.le_of_ble_eq_true rfl) ⟨Nat.zero_le _, Nat.zero_le _⟩ dX4_dealCounters_127 (fun H locs hZ b27 => ?_)
        refine lv_if_eq (tgt := 149) S.1 S.2.1 dX4_dealCounters_130 (by decide) (fun c28 => ?_) (fun c28 => ?_)
        · have E := cd_tE c28 E
          obtain ⟨x29, ex29, E⟩ := cd_nmE E
          refine lv_iinc (v := x29) (lv' := [(2, .int x29), (3, .ref (G.2.2.2.2 + ((q + 6) + 8 + 7 * ((cd_g h100_ (q + 7) (v100_2.toNatClampNeg)).toNatClampNeg)))), (0, .ref (G.2.2.2.2 + q)), (1, .int a1)]) S.1 S.2.1 dX4_dealCounters_149 hl (k := 1) rfl (by rw [ex29]; rfl) (by decide) rfl (fun ls hl => ?_)
          refine lv_goto (tgt := 100) S.1 S.2.1 dX4_dealCounters_152 (by decide) ?_
          exact ih x29 h100_ o H locs ls E hZ (lv_sub hl [0, 2, 3] rfl) hex
        · have E := cd_fE c28 E
          refine lv_aload_n S.1 S.2.1 dX4_dealCounters_133 rfl (lv_at hl 0 rfl) ?_
          refine lv_aload_n S.1 S.2.1 dX4_dealCounters_134 rfl (lv_at hl 2 rfl) ?_
          refine cd_get4 (v := .ref (G.2.2.2.2 + 1)) S hK hZ hq 10 cd_f_X4_45 rfl dX4_dealCounters_135 ?_
          refine lv_aload_n S.1 S.2.1 dX4_dealCounters_138 rfl (lv_at hl 0 rfl) ?_
          refine lv_aload_n S.1 S.2.1 dX4_dealCounters_139 rfl (lv_at hl 2 rfl) ?_
          refine cd_get4 (v := .ref (G.2.2.2.2 + (q + 1))) S hK hZ hq 5 cd_f_X4_18 rfl dX4_dealCounters_140 ?_
          obtain ⟨o30, E1, E⟩ := cd_bE E
          refine cd_cVz (As := [.ref (G.2.2.2.2 + ((q + 6) + 8 + 7 * ((cd_g h100_ (q + 7) (v100_2.toNatClampNeg)).toNatClampNeg))), .ref (G.2.2.2.2 + (q + 1))]) S hK hZ hl.1 (c_X3_take l G 1 ((q + 6) + 8 + 7 * ((cd_g h100_ (q + 7) (v100_2.toNatClampNeg)).toNatClampNeg)) (q + 1) (cd_r4_10 hq) (cd_r9 (cd_r4_7 hq) z25) ((cd_r4_5 hq)).self h100_ o30 E1) cd_v_X3_take cd_m_X4_171 ⟨Nat.le_of_ble_eq_true rfl, Nat.le_of_ble_eq_true rfl⟩ ⟨rfl, rfl⟩ (ci := 3) (by decide) rfl (cd_r4_10 hq) rfl rfl (Nat.le_of_ble_eq_true rfl) ⟨Nat.zero_le _, Nat.zero_le _⟩ dX4_dealCounters_143 (fun H locs hZ b31 => ?_)
          obtain ⟨h32, eh32, E⟩ := cd_nmE E
          refine cd_put0_5 S hK hZ (cd_r9 (cd_r4_7 hq) z25) cd_f_X4_175 b31 eh32 dX4_dealCounters_146 (fun H locs hZ => ?_)
          obtain ⟨x33, ex33, E⟩ := cd_nmE E
          refine lv_iinc (v := x33) (lv' := [(2, .int x33), (3, .ref (G.2.2.2.2 + ((q + 6) + 8 + 7 * ((cd_g h100_ (q + 7) (v100_2.toNatClampNeg)).toNatClampNeg)))), (0, .ref (G.2.2.2.2 + q)), (1, .int a1)]) S.1 S.2.1 dX4_dealCounters_149 hl (k := 1) rfl (by rw [ex33]; rfl) (by decide) rfl (fun ls hl => ?_)
          refine lv_goto (tgt := 100) S.1 S.2.1 dX4_dealCounters_152 (by decide) ?_
          exact ih x33 h32 o H locs ls E hZ (lv_sub hl [0, 2, 3] rfl) hex
  unfold f_X4_dealCounters at E
  refine lv_aload_n S.1 S.2.1 dX4_dealCounters_0 rfl (lv_at hl 0 rfl) ?_
  refine cd_get4 (v := .ref (G.2.2.2.2 + 1)) S hK hZ hq 10 cd_f_X4_45 rfl dX4_dealCounters_1 ?_
  refine lv_aload_n S.1 S.2.1 dX4_dealCounters_4 rfl (lv_at hl 0 rfl) ?_
  refine cd_get4 (v := .int (cd_g h q 0)) S hK hZ hq 0 cd_f_X4_9 rfl dX4_dealCounters_5 ?_
  obtain ⟨o1, E1, E⟩ := cd_nmE E
  refine cd_cVv (As := [.int (cd_g h q 0)]) S hK hZ hl.1 (c_X3_open l G 1 (cd_g h q 0) (cd_r4_10 hq) h o1 E1.symm) cd_v_X3_open cd_m_X4_157 ⟨Nat.le_of_ble_eq_true rfl, Nat.le_of_ble_eq_true rfl⟩ ⟨rfl, rfl⟩ (ci := 3) (by decide) rfl (cd_r4_10 hq) rfl rfl (Nat.le_of_ble_eq_true rfl) ⟨Nat.zero_le _, Nat.zero_le _⟩ dX4_dealCounters_8 (fun H locs hZ => ?_)
  refine lv_iconst (v := 0) S.1 S.2.1 dX4_dealCounters_11 (by decide) ?_
  refine lv_istore_n (lv' := [(2, .int 0), (0, .ref (G.2.2.2.2 + q)), (1, .int a1)]) S.1 S.2.1 dX4_dealCounters_12 rfl hl (by decide) rfl (fun ls hl => ?_)
  obtain ⟨o8, E1, E⟩ := cd_bE E
  refine L13 cd_fu 0 o1 o8 H locs ls E1 hZ (lv_sub hl [0, 1, 2] rfl) (fun H locs ls hZ hl => ?_)
  refine lv_iconst (v := 0) S.1 S.2.1 dX4_dealCounters_36 (by decide) ?_
  refine lv_istore_n (lv' := [(2, .int 0), (0, .ref (G.2.2.2.2 + q)), (1, .int a1)]) S.1 S.2.1 dX4_dealCounters_37 rfl hl (by decide) rfl (fun ls hl => ?_)
  obtain ⟨o22, E1, E⟩ := cd_bE E
  refine L38 cd_fu 0 o8.2 o22 H locs ls E1 hZ (lv_sub hl [0, 1, 2] rfl) (fun H locs ls hZ hl => ?_)
  refine lv_iconst (v := 0) S.1 S.2.1 dX4_dealCounters_98 (by decide) ?_
  refine lv_istore_n (lv' := [(2, .int 0), (0, .ref (G.2.2.2.2 + q)), (1, .int a1)]) S.1 S.2.1 dX4_dealCounters_99 rfl hl (by decide) rfl (fun ls hl => ?_)
  obtain ⟨o34, E1, E⟩ := cd_bE E
  refine L100 cd_fu 0 o22.2 o34 H locs ls E1 hZ (lv_sub hl [0, 1, 2] rfl) (fun H locs ls hZ hl => ?_)
  refine lv_aload_n S.1 S.2.1 dX4_dealCounters_155 rfl (lv_at hl 1 rfl) ?_
  refine cd_get4 (v := .ref (G.2.2.2.2 + 1)) S hK hZ hq 10 cd_f_X4_45 rfl dX4_dealCounters_156 ?_
  obtain ⟨o35, E1, E⟩ := cd_bE E
  refine cd_cVv (As := []) S hK hZ hl.1 (c_X3_sitAll l G 1 (cd_r4_10 hq) o34.2 o35 E1) cd_v_X3_sitAll cd_m_X4_178 ⟨Nat.le_of_ble_eq_true rfl, Nat.le_of_ble_eq_true rfl⟩ ⟨rfl, rfl⟩ (ci := 3) (by decide) rfl (cd_r4_10 hq) rfl rfl (Nat.le_of_ble_eq_true rfl) ⟨Nat.zero_le _, Nat.zero_le _⟩ dX4_dealCounters_159 (fun H locs hZ => ?_)
  refine lv_aload_n S.1 S.2.1 dX4_dealCounters_162 rfl (lv_at hl 1 rfl) ?_
  obtain ⟨o37, E1, E⟩ := cd_bE E
  refine cd_cVv (As := []) S hK hZ hl.1 (c_X4_showSeats l G q hq o35 o37 E1) cd_v_X4_showSeats cd_m_X4_181 ⟨Nat.le_of_ble_eq_true rfl, Nat.le_of_ble_eq_true rfl⟩ ⟨rfl, rfl⟩ (ci := 4) (by decide) rfl hq rfl rfl (Nat.le_of_ble_eq_true rfl) ⟨Nat.zero_le _, Nat.zero_le _⟩ dX4_dealCounters_163 (fun H locs hZ => ?_)
  exact hret _ _ _ _ _ (Option.some.inj E) hZ dX4_dealCounters_166
abbrev rm_X4_countSlice : Room := { frames := 2, cells := 0, slots := 0, locals := 64 }
theorem cd_v_X4_countSlice : cd_V yX4_countSlice cX4_countSlice 4 none 2 := ⟨cd_i_X4_countSlice, cd_e_X4_X4_countSlice, cd_n_X4, cd_c_X4_countSlice, by decide +kernel⟩
set_option maxHeartbeats 4000000 in
set_option maxRecDepth 100000 in
theorem c_X4_countSlice (l : Launch) (G : cd_G) (q : Nat) (a1 : Int32) (a2 : Int32) (hq : cd_is 4 q) (h : cd_Hp) (out : cd_Hp) (E : f_X4_countSlice q a1 a2 h = some out) : cd_Mv l G yX4_countSlice (Cond.code yX4_countSlice cX4_countSlice 4 none :: cd_T) rm_X4_countSlice [.ref (G.2.2.2.2 + q), .int a1, .int a2] h out := by
  refine cd_inv (by decide) (Nat.le_of_ble_eq_true rfl) ?_
  intro p e s m args below meth c Q ls H locs S hK hZ hl hret
  have hl : lv_has ls 4 [(0, .ref (G.2.2.2.2 + q)), (1, .int a1), (2, .int a2)] := hl
  have L2 : ∀ (n : Nat) (v2_3 : Int32) (h2_ : cd_Hp) (o : (Int32 × cd_Hp)) (H : Heap) (locs : List Loc) (ls : Array Slot), cd_lp (f_X4_countSlice_B2 q a1 a2) n (v2_3, h2_) = some o → cd_Z G h2_ s.heap H locs → lv_has ls 4 [(3, .int v2_3), (0, .ref (G.2.2.2.2 + q)), (1, .int a1), (2, .int a2)] → (∀ (H : Heap) (locs : List Loc) (ls : Array Slot), cd_Z G o.2 s.heap H locs → lv_has ls 4 [(3, .int o.1), (0, .ref (G.2.2.2.2 + q)), (1, .int a1), (2, .int a2)] → W p l e rm_X4_countSlice s m args below meth c H locs 0 0 Q (F0 m 65 ls [])) → W p l e rm_X4_countSlice s m args below meth c H locs 0 0 Q (F0 m 2 ls []) := by
    intro n
    induction n with
    | zero => intro v2_3 h2_ o H locs ls E; exact nomatch (show (none : Option (Int32 × cd_Hp)) = some o from E)
    | succ n ih =>
      intro v2_3 h2_ o H locs ls E hZ hl hex
      have E : f_X4_countSlice_B2 q a1 a2 (cd_lp (f_X4_countSlice_B2 q a1 a2) n) (v2_3, h2_) = some o := E
      unfold f_X4_countSlice_B2 at E
      dsimp only at E
      refine lv_iload_n S.1 S.2.1 dX4_countSlice_2 rfl (lv_at hl 0 rfl) ?_
      refine lv_aload_n S.1 S.2.1 dX4_countSlice_3 rfl (lv_at hl 1 rfl) ?_
      refine cd_get4 (v := .int (cd_g h2_ q 3)) S hK hZ hq 3 cd_f_X4_53 rfl dX4_countSlice_4 ?_
      refine lv_icmp_ge (tgt := 65) S.1 S.2.1 dX4_countSlice_7 (by decide) (fun c1 => ?_) (fun c1 => ?_)
      · have E := cd_tE c1 E
        cases E
        exact hex H locs ls hZ (lv_sub hl [0, 1, 2, 3] rfl)
      · have E := cd_fE c1 E
        refine lv_iload_n S.1 S.2.1 dX4_countSlice_10 rfl (lv_at hl 3 rfl) ?_
        refine lv_iload_n S.1 S.2.1 dX4_countSlice_11 rfl (lv_at hl 0 rfl) ?_
        refine cd_cSz (As := [.int a2, .int v2_3]) S hK hZ hl.1 (c_X4_isIn l G a2 v2_3 h2_ _ rfl) cd_v_X4_isIn cd_m_X4_168 ⟨Nat.le_of_ble_eq_true rfl, Nat.le_of_ble_eq_true rfl⟩ ⟨rfl, rfl⟩ rfl rfl (Nat.le_of_ble_eq_true rfl) ⟨Nat.zero_le _, Nat.zero_le _⟩ dX4_countSlice_12 (fun H locs hZ b2 => ?_)
        refine lv_if_eq (tgt := 33) S.1 S.2.1 dX4_countSlice_15 (by decide) (fun c3 => ?_) (fun c3 => ?_)
        · have E := cd_tE c3 E
          refine lv_aload_n S.1 S.2.1 dX4_countSlice_33 rfl (lv_at hl 1 rfl) ?_
          refine cd_get4 (v := .ref (G.2.2.2.2 + (q + 6))) S hK hZ hq 7 cd_f_X4_31 rfl dX4_countSlice_34 ?_
          refine lv_iload_n S.1 S.2.1 dX4_countSlice_37 rfl (lv_at hl 0 rfl) ?_
          obtain ⟨z4, E⟩ := cd_ckE E
          refine cd_aald9 S hK hZ (cd_r4_7 hq) z4 dX4_countSlice_38 ?_
          refine cd_get0 (v := .int (cd_g h2_ ((q + 6) + 8 + 7 * (v2_3.toNatClampNeg)) 5)) S hK hZ (cd_r9 (cd_r4_7 hq) z4) 5 cd_f_X4_175 rfl dX4_countSlice_39 ?_
          refine lv_if_eq (tgt := 59) S.1 S.2.1 dX4_countSlice_42 (by decide) (fun c5 => ?_) (fun c5 => ?_)
          · have E := cd_tE c5 E
            obtain ⟨x6, ex6, E⟩ := cd_nmE E
            refine lv_iinc (v := x6) (lv' := [(3, .int x6), (0, .ref (G.2.2.2.2 + q)), (1, .int a1), (2, .int a2)]) S.1 S.2.1 dX4_countSlice_59 hl (k := 0) rfl (by rw [ex6]; rfl) (by decide) rfl (fun ls hl => ?_)
            refine lv_goto (tgt := 2) S.1 S.2.1 dX4_countSlice_62 (by decide) ?_
            exact ih x6 h2_ o H locs ls E hZ (lv_sub hl [0, 1, 2, 3] rfl) hex
          · have E := cd_fE c5 E
            refine lv_aload_n S.1 S.2.1 dX4_countSlice_45 rfl (lv_at hl 1 rfl) ?_
            refine cd_get4 (v := .ref (G.2.2.2.2 + (q + 6))) S hK hZ hq 7 cd_f_X4_31 rfl dX4_countSlice_46 ?_
            refine lv_iload_n S.1 S.2.1 dX4_countSlice_49 rfl (lv_at hl 0 rfl) ?_
            obtain ⟨z7, E⟩ := cd_ckE E
            refine cd_aald9 S hK hZ (cd_r4_7 hq) z7 dX4_countSlice_50 ?_
            refine lv_aload_n S.1 S.2.1 dX4_countSlice_51 rfl (lv_at hl 1 rfl) ?_
            refine cd_get4 (v := .ref (G.2.2.2.2 + (q + 2))) S hK hZ hq 6 cd_f_X4_25 rfl dX4_countSlice_52 ?_
            refine lv_iload_n S.1 S.2.1 dX4_countSlice_55 rfl (lv_at hl 2 rfl) ?_
            obtain ⟨o8, E1, E⟩ := cd_bE E
            refine cd_cVv (As := [.ref (G.2.2.2.2 + (q + 2)), .int a1]) S hK hZ hl.1 (c_X0_countSlice l G ((q + 6) + 8 + 7 * (v2_3.toNatClampNeg)) (q + 2) a1 (cd_r9 (cd_r4_7 hq) z7) (cd_r4_6 hq) h2_ o8 E1) cd_v_X0_countSlice cd_m_X4_198 ⟨Nat.le_of_ble_eq_true rfl, Nat.le_of_ble_eq_true rfl⟩ ⟨rfl, rfl⟩ (ci := 0) (by decide) rfl (cd_r9 (cd_r4_7 hq) z7) rfl rfl (Nat.le_of_ble_eq_true rfl) ⟨Nat.zero_le _, Nat.zero_le _⟩ dX4_countSlice_56 (fun H locs hZ => ?_)
            obtain ⟨x10, ex10, E⟩ := cd_nmE E
            refine lv_iinc (v := x10) (lv' := [(3, .int x10), (0, .ref (G.2.2.2.2 + q)), (1, .int a1), (2, .int a2)]) S.1 S.2.1 dX4_countSlice_59 hl (k := 0) rfl (by rw [ex10]; rfl) (by decide) rfl (fun ls hl => ?_)
            refine lv_goto (tgt := 2) S.1 S.2.1 dX4_countSlice_62 (by decide) ?_
            exact ih x10 o8 o H locs ls E hZ (lv_sub hl [0, 1, 2, 3] rfl) hex
        · have E := cd_fE c3 E
          refine lv_aload_n S.1 S.2.1 dX4_countSlice_18 rfl (lv_at hl 1 rfl) ?_
          refine cd_get4 (v := .ref (G.2.2.2.2 + (q + 6))) S hK hZ hq 7 cd_f_X4_31 rfl dX4_countSlice_19 ?_
          refine lv_iload_n S.1 S.2.1 dX4_countSlice_22 rfl (lv_at hl 0 rfl) ?_
          obtain ⟨z11, E⟩ := cd_ckE E
          refine cd_aald9 S hK hZ (cd_r4_7 hq) z11 dX4_countSlice_23 ?_
          refine cd_get0 (v := .ref (G.2.2.2.2 + (((q + 6) + 8 + 7 * (v2_3.toNatClampNeg)) + 5))) S hK hZ (cd_r9 (cd_r4_7 hq) z11) 14 cd_f_X4_195 rfl dX4_countSlice_24 ?_
          refine lv_iload_n S.1 S.2.1 dX4_countSlice_27 rfl (lv_at hl 2 rfl) ?_
          refine lv_dup2_11 S.1 S.2.1 dX4_countSlice_28 rfl rfl ?_
          obtain ⟨z12, E⟩ := cd_ckE E
          refine cd_iald S hK hZ (cd_r0_14 (cd_r9 (cd_r4_7 hq) z11)) z12 dX4_countSlice_29 ?_
          refine lv_iconst (v := 1) S.1 S.2.1 dX4_countSlice_30 (by decide) ?_
          refine lv_iadd S.1 S.2.1 dX4_countSlice_31 ?_
          obtain ⟨z13, E⟩ := cd_ckE E
          obtain ⟨h14, eh14, E⟩ := cd_nmE E
          refine cd_iast S hK hZ (cd_r0_14 (cd_r9 (cd_r4_7 hq) z11)) z13 eh14 dX4_countSlice_32 (fun H locs hZ => ?_)
          refine lv_aload_n S.1 S.2.1 dX4_countSlice_33 rfl (lv_at hl 1 rfl) ?_
          refine cd_get4 (v := .ref (G.2.2.2.2 + (q + 6))) S hK hZ hq 7 cd_f_X4_31 rfl dX4_countSlice_34 ?_
          refine lv_iload_n S.1 S.2.1 dX4_countSlice_37 rfl (lv_at hl 0 rfl) ?_
          obtain ⟨z15, E⟩ := cd_ckE E
          refine cd_aald9 S hK hZ (cd_r4_7 hq) z15 dX4_countSlice_38 ?_
          refine cd_get0 (v := .int (cd_g h14 ((q + 6) + 8 + 7 * (v2_3.toNatClampNeg)) 5)) S hK hZ (cd_r9 (cd_r4_7 hq) z15) 5 cd_f_X4_175 rfl dX4_countSlice_39 ?_
          refine lv_if_eq (tgt := 59) S.1 S.2.1 dX4_countSlice_42 (by decide) (fun c16 => ?_) (fun c16 => ?_)
          · have E := cd_tE c16 E
            obtain ⟨x17, ex17, E⟩ := cd_nmE E
            refine lv_iinc (v := x17) (lv' := [(3, .int x17), (0, .ref (G.2.2.2.2 + q)), (1, .int a1), (2, .int a2)]) S.1 S.2.1 dX4_countSlice_59 hl (k := 0) rfl (by rw [ex17]; rfl) (by decide) rfl (fun ls hl => ?_)
            refine lv_goto (tgt := 2) S.1 S.2.1 dX4_countSlice_62 (by decide) ?_
            exact ih x17 h14 o H locs ls E hZ (lv_sub hl [0, 1, 2, 3] rfl) hex
          · have E := cd_fE c16 E
            refine lv_aload_n S.1 S.2.1 dX4_countSlice_45 rfl (lv_at hl 1 rfl) ?_
            refine cd_get4 (v := .ref (G.2.2.2.2 + (q + 6))) S hK hZ hq 7 cd_f_X4_31 rfl dX4_countSlice_46 ?_
            refine lv_iload_n S.1 S.2.1 dX4_countSlice_49 rfl (lv_at hl 0 rfl) ?_
            obtain ⟨z18, E⟩ := cd_ckE E
            refine cd_aald9 S hK hZ (cd_r4_7 hq) z18 dX4_countSlice_50 ?_
            refine lv_aload_n S.1 S.2.1 dX4_countSlice_51 rfl (lv_at hl 1 rfl) ?_
            refine cd_get4 (v := .ref (G.2.2.2.2 + (q + 2))) S hK hZ hq 6 cd_f_X4_25 rfl dX4_countSlice_52 ?_
            refine lv_iload_n S.1 S.2.1 dX4_countSlice_55 rfl (lv_at hl 2 rfl) ?_
            obtain ⟨o19, E1, E⟩ := cd_bE E
            refine cd_cVv (As := [.ref (G.2.2.2.2 + (q + 2)), .int a1]) S hK hZ hl.1 (c_X0_countSlice l G ((q + 6) + 8 + 7 * (v2_3.toNatClampNeg)) (q + 2) a1 (cd_r9 (cd_r4_7 hq) z18) (cd_r4_6 hq) h14 o19 E1) cd_v_X0_countSlice cd_m_X4_198 ⟨Nat.le_of_ble_eq_true rfl, Nat.le_of_ble_eq_true rfl⟩ ⟨rfl, rfl⟩ (ci := 0) (by decide) rfl (cd_r9 (cd_r4_7 hq) z18) rfl rfl (Nat.le_of_ble_eq_true rfl) ⟨Nat.zero_le _, Nat.zero_le _⟩ dX4_countSlice_56 (fun H locs hZ => ?_)
            obtain ⟨x21, ex21, E⟩ := cd_nmE E
            refine lv_iinc (v := x21) (lv' := [(3, .int x21), (0, .ref (G.2.2.2.2 + q)), (1, .int a1), (2, .int a2)]) S.1 S.2.1 dX4_countSlice_59 hl (k := 0) rfl (by rw [ex21]; rfl) (by decide) rfl (fun ls hl => ?_)
            refine lv_goto (tgt := 2) S.1 S.2.1 dX4_countSlice_62 (by decide) ?_
            exact ih x21 o19 o H locs ls E hZ (lv_sub hl [0, 1, 2, 3] rfl) hex
  unfold f_X4_countSlice at E
  refine lv_iconst (v := 0) S.1 S.2.1 dX4_countSlice_0 (by decide) ?_
  refine lv_istore_n (lv' := [(3, .int 0), (0, .ref (G.2.2.2.2 + q)), (1, .int a1), (2, .int a2)]) S.1 S.2.1 dX4_countSlice_1 rfl hl (by decide) rfl (fun ls hl => ?_)
  obtain ⟨o22, E1, E⟩ := cd_bE E
  refine L2 cd_fu 0 h o22 H locs ls E1 hZ (lv_sub hl [0, 1, 2, 3] rfl) (fun H locs ls hZ hl => ?_)
  exact hret _ _ _ _ _ (Option.some.inj E) hZ dX4_countSlice_65
abbrev rm_X4_takeSamples : Room := { frames := 1, cells := 0, slots := 0, locals := 22 }
theorem cd_v_X4_takeSamples : cd_V yX4_takeSamples cX4_takeSamples 6 none 1 := ⟨cd_i_X4_takeSamples, cd_e_X4_X4_takeSamples, cd_n_X4, cd_c_X4_takeSamples, by decide +kernel⟩
set_option maxHeartbeats 4000000 in
set_option maxRecDepth 100000 in
theorem c_X4_takeSamples (l : Launch) (G : cd_G) (q : Nat) (a1 : Int32) (hq : cd_is 4 q) (h : cd_Hp) (out : cd_Hp) (E : f_X4_takeSamples q a1 h = some out) : cd_Mv l G yX4_takeSamples (Cond.code yX4_takeSamples cX4_takeSamples 6 none :: cd_T) rm_X4_takeSamples [.ref (G.2.2.2.2 + q), .int a1] h out := by
  refine cd_inv (by decide) (Nat.le_of_ble_eq_true rfl) ?_
  intro p e s m args below meth c Q ls H locs S hK hZ hl hret
  have hl : lv_has ls 6 [(0, .ref (G.2.2.2.2 + q)), (1, .int a1)] := hl
  have L84 : ∀ (p84_2 : Int32) (p84_4 : Int32), ∀ (n : Nat) (v84_5 : Int32) (h84_ : cd_Hp) (o : (Int32 × cd_Hp)) (H : Heap) (locs : List Loc) (ls : Array Slot), cd_lp (f_X4_takeSamples_B84 q a1 p84_2 p84_4) n (v84_5, h84_) = some o → cd_Z G h84_ s.heap H locs → lv_has ls 6 [(5, .int v84_5), (4, .int p84_4), (2, .int p84_2), (0, .ref (G.2.2.2.2 + q)), (1, .int a1)] → (∀ (H : Heap) (locs : List Loc) (ls : Array Slot), cd_Z G o.2 s.heap H locs → lv_has ls 6 [(5, .int o.1), (4, .int p84_4), (2, .int p84_2), (0, .ref (G.2.2.2.2 + q)), (1, .int a1)] → W p l e rm_X4_takeSamples s m args below meth c H locs 0 0 Q (F0 m 114 ls [])) → W p l e rm_X4_takeSamples s m args below meth c H locs 0 0 Q (F0 m 84 ls []) := by
    intro p84_2 p84_4
    intro n
    induction n with
    | zero => intro v84_5 h84_ o H locs ls E; exact nomatch (show (none : Option (Int32 × cd_Hp)) = some o from E)
    | succ n ih =>
      intro v84_5 h84_ o H locs ls E hZ hl hex
      have E : f_X4_takeSamples_B84 q a1 p84_2 p84_4 (cd_lp (f_X4_takeSamples_B84 q a1 p84_2 p84_4) n) (v84_5, h84_) = some o := E
      unfold f_X4_takeSamples_B84 at E
      dsimp only at E
      refine lv_iload S.1 S.2.1 dX4_takeSamples_84 (lv_at hl 0 rfl) ?_
      refine lv_iload S.1 S.2.1 dX4_takeSamples_86 (lv_at hl 1 rfl) ?_
      refine lv_icmp_ge (tgt := 114) S.1 S.2.1 dX4_takeSamples_88 (by decide) (fun c13 => ?_) (fun c13 => ?_)
      · have E := cd_tE c13 E
        cases E
        exact hex H locs ls hZ (lv_sub hl [0, 1, 2, 3, 4] rfl)
      · have E := cd_fE c13 E
        refine lv_aload_n S.1 S.2.1 dX4_takeSamples_91 rfl (lv_at hl 3 rfl) ?_
        refine cd_get4 (v := .ref (G.2.2.2.2 + (q + 8))) S hK hZ hq 9 cd_f_X4_41 rfl dX4_takeSamples_92 ?_
        refine lv_iload_n S.1 S.2.1 dX4_takeSamples_95 rfl (lv_at hl 2 rfl) ?_
        refine lv_aload_n S.1 S.2.1 dX4_takeSamples_96 rfl (lv_at hl 3 rfl) ?_
        refine cd_get4 (v := .int (cd_g h84_ q 2)) S hK hZ hq 2 cd_f_X4_50 rfl dX4_takeSamples_97 ?_
        refine lv_aload_n S.1 S.2.1 dX4_takeSamples_100 rfl (lv_at hl 3 rfl) ?_
        refine cd_get4 (v := .int (cd_g h84_ q 1)) S hK hZ hq 1 cd_f_X4_15 rfl dX4_takeSamples_101 ?_
        refine lv_iadd S.1 S.2.1 dX4_takeSamples_104 ?_
        obtain ⟨o14, E1, E⟩ := cd_bE E
        refine cd_cVv (As := [.int p84_2, .int ((cd_g h84_ q 2) + (cd_g h84_ q 1))]) S hK hZ hl.1 (c_X2_await l G (q + 8) p84_2 ((cd_g h84_ q 2) + (cd_g h84_ q 1)) (cd_r4_9 hq) h84_ o14 E1) cd_v_X2_await cd_m_X4_208 ⟨Nat.le_of_ble_eq_true rfl, Nat.le_of_ble_eq_true rfl⟩ ⟨rfl, rfl⟩ (ci := 2) (by decide) rfl (cd_r4_9 hq) rfl rfl (Nat.le_of_ble_eq_true rfl) ⟨Nat.zero_le _, Nat.zero_le _⟩ dX4_takeSamples_105 (fun H locs hZ => ?_)
        obtain ⟨x16, ex16, E⟩ := cd_nmE E
        refine lv_iinc (v := x16) (lv' := [(5, .int x16), (4, .int p84_4), (2, .int p84_2), (0, .ref (G.2.2.2.2 + q)), (1, .int a1)]) S.1 S.2.1 dX4_takeSamples_108 hl (k := 0) rfl (by rw [ex16]; rfl) (by decide) rfl (fun ls hl => ?_)
        refine lv_goto (tgt := 84) S.1 S.2.1 dX4_takeSamples_111 (by decide) ?_
        exact ih x16 o14 o H locs ls E hZ (lv_sub hl [0, 1, 2, 3, 4] rfl) hex
  have L2 : ∀ (n : Nat) (v2_2 : Int32) (h2_ : cd_Hp) (o : (Int32 × cd_Hp)) (H : Heap) (locs : List Loc) (ls : Array Slot), cd_lp (f_X4_takeSamples_B2 q a1) n (v2_2, h2_) = some o → cd_Z G h2_ s.heap H locs → lv_has ls 6 [(2, .int v2_2), (0, .ref (G.2.2.2.2 + q)), (1, .int a1)] → (∀ (H : Heap) (locs : List Loc) (ls : Array Slot), cd_Z G o.2 s.heap H locs → lv_has ls 6 [(2, .int o.1), (0, .ref (G.2.2.2.2 + q)), (1, .int a1)] → W p l e rm_X4_takeSamples s m args below meth c H locs 0 0 Q (F0 m 120 ls [])) → W p l e rm_X4_takeSamples s m args below meth c H locs 0 0 Q (F0 m 2 ls []) := by
    intro n
    induction n with
    | zero => intro v2_2 h2_ o H locs ls E; exact nomatch (show (none : Option (Int32 × cd_Hp)) = some o from E)
    | succ n ih =>
      intro v2_2 h2_ o H locs ls E hZ hl hex
      have E : f_X4_takeSamples_B2 q a1 (cd_lp (f_X4_takeSamples_B2 q a1) n) (v2_2, h2_) = some o := E
      unfold f_X4_takeSamples_B2 at E
      dsimp only at E
      refine lv_iload_n S.1 S.2.1 dX4_takeSamples_2 rfl (lv_at hl 0 rfl) ?_
      refine lv_aload_n S.1 S.2.1 dX4_takeSamples_3 rfl (lv_at hl 1 rfl) ?_
      refine cd_get4 (v := .int (cd_g h2_ q 3)) S hK hZ hq 3 cd_f_X4_53 rfl dX4_takeSamples_4 ?_
      refine lv_icmp_ge (tgt := 120) S.1 S.2.1 dX4_takeSamples_7 (by decide) (fun c1 => ?_) (fun c1 => ?_)
      · have E := cd_tE c1 E
        cases E
        exact hex H locs ls hZ (lv_sub hl [0, 1, 2] rfl)
      · have E := cd_fE c1 E
        refine lv_aload_n S.1 S.2.1 dX4_takeSamples_10 rfl (lv_at hl 1 rfl) ?_
        refine cd_get4 (v := .ref (G.2.2.2.2 + (q + 6))) S hK hZ hq 7 cd_f_X4_31 rfl dX4_takeSamples_11 ?_
        refine lv_iload_n S.1 S.2.1 dX4_takeSamples_14 rfl (lv_at hl 0 rfl) ?_
        obtain ⟨z2, E⟩ := cd_ckE E
        refine cd_aald9 S hK hZ (cd_r4_7 hq) z2 dX4_takeSamples_15 ?_
        refine lv_astore_n (lv' := [(3, .ref (G.2.2.2.2 + ((q + 6) + 8 + 7 * (v2_2.toNatClampNeg)))), (2, .int v2_2), (0, .ref (G.2.2.2.2 + q)), (1, .int a1)]) S.1 S.2.1 dX4_takeSamples_16 rfl hl (by decide) rfl (fun ls hl => ?_)
        refine lv_aload_n S.1 S.2.1 dX4_takeSamples_17 rfl (lv_at hl 0 rfl) ?_
        refine cd_get0 (v := .int (cd_g h2_ ((q + 6) + 8 + 7 * (v2_2.toNatClampNeg)) 5)) S hK hZ (cd_r9 (cd_r4_7 hq) z2) 5 cd_f_X4_175 rfl dX4_takeSamples_18 ?_
        refine lv_if_eq (tgt := 114) S.1 S.2.1 dX4_takeSamples_21 (by decide) (fun c3 => ?_) (fun c3 => ?_)
        · have E := cd_tE c3 E
          obtain ⟨x4, ex4, E⟩ := cd_nmE E
          refine lv_iinc (v := x4) (lv' := [(2, .int x4), (3, .ref (G.2.2.2.2 + ((q + 6) + 8 + 7 * (v2_2.toNatClampNeg)))), (0, .ref (G.2.2.2.2 + q)), (1, .int a1)]) S.1 S.2.1 dX4_takeSamples_114 hl (k := 1) rfl (by rw [ex4]; rfl) (by decide) rfl (fun ls hl => ?_)
          refine lv_goto (tgt := 2) S.1 S.2.1 dX4_takeSamples_117 (by decide) ?_
          exact ih x4 h2_ o H locs ls E hZ (lv_sub hl [0, 2, 3] rfl) hex
        · have E := cd_fE c3 E
          refine lv_aload_n S.1 S.2.1 dX4_takeSamples_24 rfl (lv_at hl 0 rfl) ?_
          refine cd_get0 (v := .int (cd_g h2_ ((q + 6) + 8 + 7 * (v2_2.toNatClampNeg)) 8)) S hK hZ (cd_r9 (cd_r4_7 hq) z2) 8 cd_f_X4_111 rfl dX4_takeSamples_25 ?_
          refine lv_if_le (tgt := 114) S.1 S.2.1 dX4_takeSamples_28 (by decide) (fun c5 => ?_) (fun c5 => ?_)
          · have E := cd_tE c5 E
            obtain ⟨x6, ex6, E⟩ := cd_nmE E
            refine lv_iinc (v := x6) (lv' := [(2, .int x6), (3, .ref (G.2.2.2.2 + ((q + 6) + 8 + 7 * (v2_2.toNatClampNeg)))), (0, .ref (G.2.2.2.2 + q)), (1, .int a1)]) S.1 S.2.1 dX4_takeSamples_114 hl (k := 1) rfl (by rw [ex6]; rfl) (by decide) rfl (fun ls hl => ?_)
            refine lv_goto (tgt := 2) S.1 S.2.1 dX4_takeSamples_117 (by decide) ?_
            exact ih x6 h2_ o H locs ls E hZ (lv_sub hl [0, 2, 3] rfl) hex
          · have E := cd_fE c5 E
            refine lv_aload_n S.1 S.2.1 dX4_takeSamples_31 rfl (lv_at hl 0 rfl) ?_
            refine lv_dup S.1 S.2.1 dX4_takeSamples_32 rfl ?_
            refine cd_get0 (v := .int (cd_g h2_ ((q + 6) + 8 + 7 * (v2_2.toNatClampNeg)) 9)) S hK hZ (cd_r9 (cd_r4_7 hq) z2) 9 cd_f_X4_114 rfl dX4_takeSamples_33 ?_
            refine lv_aload_n S.1 S.2.1 dX4_takeSamples_36 rfl (lv_at hl 2 rfl) ?_
            refine cd_get4 (v := .ref (G.2.2.2.2 + (q + 2))) S hK hZ hq 6 cd_f_X4_25 rfl dX4_takeSamples_37 ?_
            refine lv_iload_n S.1 S.2.1 dX4_takeSamples_40 rfl (lv_at hl 3 rfl) ?_
            refine lv_aload_n S.1 S.2.1 dX4_takeSamples_41 rfl (lv_at hl 0 rfl) ?_
            refine cd_get0 (v := .ref (G.2.2.2.2 + (((q + 6) + 8 + 7 * (v2_2.toNatClampNeg)) + 1))) S hK hZ (cd_r9 (cd_r4_7 hq) z2) 10 cd_f_X4_201 rfl dX4_takeSamples_42 ?_
            refine lv_iconst (v := 0) S.1 S.2.1 dX4_takeSamples_45 (by decide) ?_
            refine cd_iald S hK hZ (cd_r0_10 (cd_r9 (cd_r4_7 hq) z2)) (by decide) dX4_takeSamples_46 ?_
            obtain ⟨o7, E1, E⟩ := cd_bE E
            refine cd_cVi (As := [.int a1, .int (cd_g h2_ (((q + 6) + 8 + 7 * (v2_2.toNatClampNeg)) + 1) (Int32.toNatClampNeg 0))]) S hK hZ hl.1 (c_X5_rateOf l G (q + 2) a1 (cd_g h2_ (((q + 6) + 8 + 7 * (v2_2.toNatClampNeg)) + 1) (Int32.toNatClampNeg 0)) (cd_r4_6 hq) h2_ o7 E1) cd_v_X5_rateOf cd_m_X4_204 ⟨Nat.le_of_ble_eq_true rfl, Nat.le_of_ble_eq_true rfl⟩ ⟨rfl, rfl⟩ (ci := 5) (by decide) rfl (cd_r4_6 hq) rfl rfl (Nat.le_of_ble_eq_true rfl) ⟨Nat.zero_le _, Nat.zero_le _⟩ dX4_takeSamples_47 (fun H locs hZ => ?_)
            refine lv_iadd S.1 S.2.1 dX4_takeSamples_50 ?_
            obtain ⟨h9, eh9, E⟩ := cd_nmE E
            refine cd_put0_9 S hK hZ (cd_r9 (cd_r4_7 hq) z2) cd_f_X4_114 eh9 dX4_takeSamples_51 (fun H locs hZ => ?_)
            refine lv_aload_n S.1 S.2.1 dX4_takeSamples_54 rfl (lv_at hl 0 rfl) ?_
            refine cd_get0 (v := .int (cd_g h9 ((q + 6) + 8 + 7 * (v2_2.toNatClampNeg)) 9)) S hK hZ (cd_r9 (cd_r4_7 hq) z2) 9 cd_f_X4_114 rfl dX4_takeSamples_55 ?_
            refine lv_aload_n S.1 S.2.1 dX4_takeSamples_58 rfl (lv_at hl 0 rfl) ?_
            refine cd_get0 (v := .int (cd_g h9 ((q + 6) + 8 + 7 * (v2_2.toNatClampNeg)) 8)) S hK hZ (cd_r9 (cd_r4_7 hq) z2) 8 cd_f_X4_111 rfl dX4_takeSamples_59 ?_
            obtain ⟨z10, E⟩ := cd_ckE E
            refine lv_idiv S.1 S.2.1 dX4_takeSamples_62 (cd_nz z10) ?_
            obtain ⟨x11, ex11, E⟩ := cd_nmE E
            refine cd_topi ex11 ?_
            refine lv_istore (lv' := [(4, .int x11), (3, .ref (G.2.2.2.2 + ((q + 6) + 8 + 7 * (v2_2.toNatClampNeg)))), (2, .int v2_2), (0, .ref (G.2.2.2.2 + q)), (1, .int a1)]) S.1 S.2.1 dX4_takeSamples_63 hl (by decide) rfl (fun ls hl => ?_)
            refine lv_aload_n S.1 S.2.1 dX4_takeSamples_65 rfl (lv_at hl 1 rfl) ?_
            refine lv_dup S.1 S.2.1 dX4_takeSamples_66 rfl ?_
            refine cd_get0 (v := .int (cd_g h9 ((q + 6) + 8 + 7 * (v2_2.toNatClampNeg)) 9)) S hK hZ (cd_r9 (cd_r4_7 hq) z2) 9 cd_f_X4_114 rfl dX4_takeSamples_67 ?_
            refine lv_iload S.1 S.2.1 dX4_takeSamples_70 (lv_at hl 0 rfl) ?_
            refine lv_aload_n S.1 S.2.1 dX4_takeSamples_72 rfl (lv_at hl 1 rfl) ?_
            refine cd_get0 (v := .int (cd_g h9 ((q + 6) + 8 + 7 * (v2_2.toNatClampNeg)) 8)) S hK hZ (cd_r9 (cd_r4_7 hq) z2) 8 cd_f_X4_111 rfl dX4_takeSamples_73 ?_
            refine lv_imul S.1 S.2.1 dX4_takeSamples_76 ?_
            refine lv_isub S.1 S.2.1 dX4_takeSamples_77 ?_
            obtain ⟨h12, eh12, E⟩ := cd_nmE E
            refine cd_put0_9 S hK hZ (cd_r9 (cd_r4_7 hq) z2) cd_f_X4_114 eh12 dX4_takeSamples_78 (fun H locs hZ => ?_)
            refine lv_iconst (v := 0) S.1 S.2.1 dX4_takeSamples_81 (by decide) ?_
            refine lv_istore (lv' := [(5, .int 0), (4, .int x11), (3, .ref (G.2.2.2.2 + ((q + 6) + 8 + 7 * (v2_2.toNatClampNeg)))), (2, .int v2_2), (0, .ref (G.2.2.2.2 + q)), (1, .int a1)]) S.1 S.2.1 dX4_takeSamples_82 hl (by decide) rfl (fun ls hl => ?_)
            obtain ⟨o17, E1, E⟩ := cd_bE E
            refine L84 v2_2 x11 cd_fu 0 h12 o17 H locs ls E1 hZ (lv_sub hl [0, 1, 3, 4, 5] rfl) (fun H locs ls hZ hl => ?_)
            obtain ⟨x18, ex18, E⟩ := cd_nmE E
            refine lv_iinc (v := x18) (lv' := [(2, .int x18), (5, .int o17.1), (4, .int x11), (0, .ref (G.2.2.2.2 + q)), (1, .int a1)]) S.1 S.2.1 dX4_takeSamples_114 hl (k := 2) rfl (by rw [ex18]; rfl) (by decide) rfl (fun ls hl => ?_)
            refine lv_goto (tgt := 2) S.1 S.2.1 dX4_takeSamples_117 (by decide) ?_
            exact ih x18 o17.2 o H locs ls E hZ (lv_sub hl [0, 3, 4] rfl) hex
  unfold f_X4_takeSamples at E
  refine lv_iconst (v := 0) S.1 S.2.1 dX4_takeSamples_0 (by decide) ?_
  refine lv_istore_n (lv' := [(2, .int 0), (0, .ref (G.2.2.2.2 + q)), (1, .int a1)]) S.1 S.2.1 dX4_takeSamples_1 rfl hl (by decide) rfl (fun ls hl => ?_)
  obtain ⟨o19, E1, E⟩ := cd_bE E
  refine L2 cd_fu 0 h o19 H locs ls E1 hZ (lv_sub hl [0, 1, 2] rfl) (fun H locs ls hZ hl => ?_)
  exact hret _ _ _ _ _ (Option.some.inj E) hZ dX4_takeSamples_120
abbrev rm_X4_moveToEnd : Room := { frames := 0, cells := 0, slots := 0, locals := 0 }
theorem cd_v_X4_moveToEnd : cd_V yX4_moveToEnd cX4_moveToEnd 4 none 1 := ⟨cd_i_X4_moveToEnd, cd_e_X4_X4_moveToEnd, cd_n_X4, cd_c_X4_moveToEnd, by decide +kernel⟩
set_option maxHeartbeats 4000000 in
set_option maxRecDepth 100000 in
theorem c_X4_moveToEnd (l : Launch) (G : cd_G) (q : Nat) (a1 : Int32) (hq : cd_is 4 q) (h : cd_Hp) (out : cd_Hp) (E : f_X4_moveToEnd q a1 h = some out) : cd_Mv l G yX4_moveToEnd (Cond.code yX4_moveToEnd cX4_moveToEnd 4 none :: cd_T) rm_X4_moveToEnd [.ref (G.2.2.2.2 + q), .int a1] h out := by
  refine cd_inv (by decide) (Nat.le_of_ble_eq_true rfl) ?_
  intro p e s m args below meth c Q ls H locs S hK hZ hl hret
  have hl : lv_has ls 4 [(0, .ref (G.2.2.2.2 + q)), (1, .int a1)] := hl
  have L9 : ∀ (p9_2 : Int32), ∀ (n : Nat) (v9_3 : Int32) (h9_ : cd_Hp) (o : (Int32 × cd_Hp)) (H : Heap) (locs : List Loc) (ls : Array Slot), cd_lp (f_X4_moveToEnd_B9 q a1 p9_2) n (v9_3, h9_) = some o → cd_Z G h9_ s.heap H locs → lv_has ls 4 [(3, .int v9_3), (2, .int p9_2), (0, .ref (G.2.2.2.2 + q)), (1, .int a1)] → (∀ (H : Heap) (locs : List Loc) (ls : Array Slot), cd_Z G o.2 s.heap H locs → lv_has ls 4 [(3, .int o.1), (2, .int p9_2), (0, .ref (G.2.2.2.2 + q)), (1, .int a1)] → W p l e rm_X4_moveToEnd s m args below meth c H locs 0 0 Q (F0 m 39 ls [])) → W p l e rm_X4_moveToEnd s m args below meth c H locs 0 0 Q (F0 m 9 ls []) := by
    intro p9_2
    intro n
    induction n with
    | zero => intro v9_3 h9_ o H locs ls E; exact nomatch (show (none : Option (Int32 × cd_Hp)) = some o from E)
    | succ n ih =>
      intro v9_3 h9_ o H locs ls E hZ hl hex
      have E : f_X4_moveToEnd_B9 q a1 p9_2 (cd_lp (f_X4_moveToEnd_B9 q a1 p9_2) n) (v9_3, h9_) = some o := E
      unfold f_X4_moveToEnd_B9 at E
      dsimp only at E
      refine lv_iload_n S.1 S.2.1 dX4_moveToEnd_9 rfl (lv_at hl 0 rfl) ?_
      refine lv_iconst (v := 1) S.1 S.2.1 dX4_moveToEnd_10 (by decide) ?_
      refine lv_iadd S.1 S.2.1 dX4_moveToEnd_11 ?_
      refine lv_aload_n S.1 S.2.1 dX4_moveToEnd_12 rfl (lv_at hl 2 rfl) ?_
      refine cd_get4 (v := .int (cd_g h9_ q 4)) S hK hZ hq 4 cd_f_X4_56 rfl dX4_moveToEnd_13 ?_
      refine lv_icmp_ge (tgt := 39) S.1 S.2.1 dX4_moveToEnd_16 (by decide) (fun c3 => ?_) (fun c3 => ?_)
      · have E := cd_tE c3 E
        cases E
        exact hex H locs ls hZ (lv_sub hl [0, 1, 2, 3] rfl)
      · have E := cd_fE c3 E
        refine lv_aload_n S.1 S.2.1 dX4_moveToEnd_19 rfl (lv_at hl 2 rfl) ?_
        refine cd_get4 (v := .ref (G.2.2.2.2 + (q + 7))) S hK hZ hq 8 cd_f_X4_35 rfl dX4_moveToEnd_20 ?_
        refine lv_iload_n S.1 S.2.1 dX4_moveToEnd_23 rfl (lv_at hl 0 rfl) ?_
        refine lv_aload_n S.1 S.2.1 dX4_moveToEnd_24 rfl (lv_at hl 2 rfl) ?_
        refine cd_get4 (v := .ref (G.2.2.2.2 + (q + 7))) S hK hZ hq 8 cd_f_X4_35 rfl dX4_moveToEnd_25 ?_
        refine lv_iload_n S.1 S.2.1 dX4_moveToEnd_28 rfl (lv_at hl 0 rfl) ?_
        refine lv_iconst (v := 1) S.1 S.2.1 dX4_moveToEnd_29 (by decide) ?_
        refine lv_iadd S.1 S.2.1 dX4_moveToEnd_30 ?_
        obtain ⟨z4, E⟩ := cd_ckE E
        refine cd_iald S hK hZ (cd_r4_8 hq) z4 dX4_moveToEnd_31 ?_
        obtain ⟨z5, E⟩ := cd_ckE E
        obtain ⟨h6, eh6, E⟩ := cd_nmE E
        refine cd_iast S hK hZ (cd_r4_8 hq) z5 eh6 dX4_moveToEnd_32 (fun H locs hZ => ?_)
        obtain ⟨x7, ex7, E⟩ := cd_nmE E
        refine lv_iinc (v := x7) (lv' := [(3, .int x7), (2, .int p9_2), (0, .ref (G.2.2.2.2 + q)), (1, .int a1)]) S.1 S.2.1 dX4_moveToEnd_33 hl (k := 0) rfl (by rw [ex7]; rfl) (by decide) rfl (fun ls hl => ?_)
        refine lv_goto (tgt := 9) S.1 S.2.1 dX4_moveToEnd_36 (by decide) ?_
        exact ih x7 h6 o H locs ls E hZ (lv_sub hl [0, 1, 2, 3] rfl) hex
  unfold f_X4_moveToEnd at E
  refine lv_aload_n S.1 S.2.1 dX4_moveToEnd_0 rfl (lv_at hl 0 rfl) ?_
  refine cd_get4 (v := .ref (G.2.2.2.2 + (q + 7))) S hK hZ hq 8 cd_f_X4_35 rfl dX4_moveToEnd_1 ?_
  refine lv_iload_n S.1 S.2.1 dX4_moveToEnd_4 rfl (lv_at hl 1 rfl) ?_
  obtain ⟨z1, E⟩ := cd_ckE E
  refine cd_iald S hK hZ (cd_r4_8 hq) z1 dX4_moveToEnd_5 ?_
  obtain ⟨x2, ex2, E⟩ := cd_nmE E
  refine cd_topi ex2 ?_
  refine lv_istore_n (lv' := [(2, .int x2), (0, .ref (G.2.2.2.2 + q)), (1, .int a1)]) S.1 S.2.1 dX4_moveToEnd_6 rfl hl (by decide) rfl (fun ls hl => ?_)
  refine lv_iload_n S.1 S.2.1 dX4_moveToEnd_7 rfl (lv_at hl 2 rfl) ?_
  refine lv_istore_n (lv' := [(3, .int a1), (2, .int x2), (0, .ref (G.2.2.2.2 + q)), (1, .int a1)]) S.1 S.2.1 dX4_moveToEnd_8 rfl hl (by decide) rfl (fun ls hl => ?_)
  obtain ⟨o8, E1, E⟩ := cd_bE E
  refine L9 x2 cd_fu a1 h o8 H locs ls E1 hZ (lv_sub hl [0, 1, 2, 3] rfl) (fun H locs ls hZ hl => ?_)
  refine lv_aload_n S.1 S.2.1 dX4_moveToEnd_39 rfl (lv_at hl 2 rfl) ?_
  refine cd_get4 (v := .ref (G.2.2.2.2 + (q + 7))) S hK hZ hq 8 cd_f_X4_35 rfl dX4_moveToEnd_40 ?_
  refine lv_aload_n S.1 S.2.1 dX4_moveToEnd_43 rfl (lv_at hl 2 rfl) ?_
  refine cd_get4 (v := .int (cd_g o8.2 q 4)) S hK hZ hq 4 cd_f_X4_56 rfl dX4_moveToEnd_44 ?_
  refine lv_iconst (v := 1) S.1 S.2.1 dX4_moveToEnd_47 (by decide) ?_
  refine lv_isub S.1 S.2.1 dX4_moveToEnd_48 ?_
  refine lv_iload_n S.1 S.2.1 dX4_moveToEnd_49 rfl (lv_at hl 1 rfl) ?_
  obtain ⟨z9, E⟩ := cd_ckE E
  obtain ⟨h10, eh10, E⟩ := cd_nmE E
  refine cd_iast S hK hZ (cd_r4_8 hq) z9 eh10 dX4_moveToEnd_50 (fun H locs hZ => ?_)
  exact hret _ _ _ _ _ (Option.some.inj E) hZ dX4_moveToEnd_51
abbrev rm_X4_takeTurn : Room := { frames := 1, cells := 0, slots := 0, locals := 23 }
theorem cd_v_X4_takeTurn : cd_V yX4_takeTurn cX4_takeTurn 4 none 1 := ⟨cd_i_X4_takeTurn, cd_e_X4_X4_takeTurn, cd_n_X4, cd_c_X4_takeTurn, by decide +kernel⟩
set_option maxHeartbeats 4000000 in
set_option maxRecDepth 100000 in
theorem c_X4_takeTurn (l : Launch) (G : cd_G) (q : Nat) (a1 : Int32) (hq : cd_is 4 q) (h : cd_Hp) (out : cd_Hp) (E : f_X4_takeTurn q a1 h = some out) : cd_Mv l G yX4_takeTurn (Cond.code yX4_takeTurn cX4_takeTurn 4 none :: cd_T) rm_X4_takeTurn [.ref (G.2.2.2.2 + q), .int a1] h out := by
  refine cd_inv (by decide) (Nat.le_of_ble_eq_true rfl) ?_
  intro p e s m args below meth c Q ls H locs S hK hZ hl hret
  have hl : lv_has ls 4 [(0, .ref (G.2.2.2.2 + q)), (1, .int a1)] := hl
  have L2 : ∀ (n : Nat) (v2_2 : Int32) (h2_ : cd_Hp) (o : (cd_Hp ⊕ (Int32 × cd_Hp))) (H : Heap) (locs : List Loc) (ls : Array Slot), cd_lp (f_X4_takeTurn_B2 q a1) n (v2_2, h2_) = some o → cd_Z G h2_ s.heap H locs → lv_has ls 4 [(2, .int v2_2), (0, .ref (G.2.2.2.2 + q)), (1, .int a1)] → (∀ x, o = .inl x → x = out) → (∀ st, o = .inr st → ∀ (H : Heap) (locs : List Loc) (ls : Array Slot), cd_Z G st.2 s.heap H locs → lv_has ls 4 [(2, .int st.1), (0, .ref (G.2.2.2.2 + q)), (1, .int a1)] → W p l e rm_X4_takeTurn s m args below meth c H locs 0 0 Q (F0 m 73 ls [])) → W p l e rm_X4_takeTurn s m args below meth c H locs 0 0 Q (F0 m 2 ls []) := by
    intro n
    induction n with
    | zero => intro v2_2 h2_ o H locs ls E; exact nomatch (show (none : Option (cd_Hp ⊕ (Int32 × cd_Hp))) = some o from E)
    | succ n ih =>
      intro v2_2 h2_ o H locs ls E hZ hl hin hex
      have E : f_X4_takeTurn_B2 q a1 (cd_lp (f_X4_takeTurn_B2 q a1) n) (v2_2, h2_) = some o := E
      unfold f_X4_takeTurn_B2 at E
      dsimp only at E
      refine lv_iload_n S.1 S.2.1 dX4_takeTurn_2 rfl (lv_at hl 0 rfl) ?_
      refine lv_aload_n S.1 S.2.1 dX4_takeTurn_3 rfl (lv_at hl 1 rfl) ?_
      refine cd_get4 (v := .int (cd_g h2_ q 4)) S hK hZ hq 4 cd_f_X4_56 rfl dX4_takeTurn_4 ?_
      refine lv_icmp_ge (tgt := 73) S.1 S.2.1 dX4_takeTurn_7 (by decide) (fun c1 => ?_) (fun c1 => ?_)
      · have E := cd_tE c1 E
        cases E
        exact hex _ rfl H locs ls hZ (lv_sub hl [0, 1, 2] rfl)
      · have E := cd_fE c1 E
        refine lv_iload_n S.1 S.2.1 dX4_takeTurn_10 rfl (lv_at hl 2 rfl) ?_
        refine lv_aload_n S.1 S.2.1 dX4_takeTurn_11 rfl (lv_at hl 1 rfl) ?_
        refine cd_get4 (v := .ref (G.2.2.2.2 + (q + 7))) S hK hZ hq 8 cd_f_X4_35 rfl dX4_takeTurn_12 ?_
        refine lv_iload_n S.1 S.2.1 dX4_takeTurn_15 rfl (lv_at hl 0 rfl) ?_
        obtain ⟨z2, E⟩ := cd_ckE E
        refine cd_iald S hK hZ (cd_r4_8 hq) z2 dX4_takeTurn_16 ?_
        refine cd_cSz (As := [.int a1, .int (cd_g h2_ (q + 7) (v2_2.toNatClampNeg))]) S hK hZ hl.1 (c_X4_isIn l G a1 (cd_g h2_ (q + 7) (v2_2.toNatClampNeg)) h2_ _ rfl) cd_v_X4_isIn cd_m_X4_168 ⟨Nat.le_of_ble_eq_true rfl, Nat.le_of_ble_eq_true rfl⟩ ⟨rfl, rfl⟩ rfl rfl (Nat.le_of_ble_eq_true rfl) ⟨Nat.zero_le _, Nat.zero_le _⟩ dX4_takeTurn_17 (fun H locs hZ b3 => ?_)
        refine lv_if_eq (tgt := 67) S.1 S.2.1 dX4_takeTurn_20 (by decide) (fun c4 => ?_) (fun c4 => ?_)
        · have E := cd_tE c4 E
          obtain ⟨x5, ex5, E⟩ := cd_nmE E
          refine lv_iinc (v := x5) (lv' := [(2, .int x5), (0, .ref (G.2.2.2.2 + q)), (1, .int a1)]) S.1 S.2.1 dX4_takeTurn_67 hl (k := 0) rfl (by rw [ex5]; rfl) (by decide) rfl (fun ls hl => ?_)
          refine lv_goto (tgt := 2) S.1 S.2.1 dX4_takeTurn_70 (by decide) ?_
          exact ih x5 h2_ o H locs ls E hZ (lv_sub hl [0, 1, 2] rfl) hin hex
        · have E := cd_fE c4 E
          refine lv_aload_n S.1 S.2.1 dX4_takeTurn_23 rfl (lv_at hl 1 rfl) ?_
          refine cd_get4 (v := .ref (G.2.2.2.2 + (q + 6))) S hK hZ hq 7 cd_f_X4_31 rfl dX4_takeTurn_24 ?_
          refine lv_aload_n S.1 S.2.1 dX4_takeTurn_27 rfl (lv_at hl 1 rfl) ?_
          refine cd_get4 (v := .ref (G.2.2.2.2 + (q + 7))) S hK hZ hq 8 cd_f_X4_35 rfl dX4_takeTurn_28 ?_
          refine lv_iload_n S.1 S.2.1 dX4_takeTurn_31 rfl (lv_at hl 0 rfl) ?_
          obtain ⟨z6, E⟩ := cd_ckE E
          refine cd_iald S hK hZ (cd_r4_8 hq) z6 dX4_takeTurn_32 ?_
          obtain ⟨z7, E⟩ := cd_ckE E
          refine cd_aald9 S hK hZ (cd_r4_7 hq) z7 dX4_takeTurn_33 ?_
          refine lv_astore_n (lv' := [(3, .ref (G.2.2.2.2 + ((q + 6) + 8 + 7 * ((cd_g h2_ (q + 7) (v2_2.toNatClampNeg)).toNatClampNeg)))), (2, .int v2_2), (0, .ref (G.2.2.2.2 + q)), (1, .int a1)]) S.1 S.2.1 dX4_takeTurn_34 rfl hl (by decide) rfl (fun ls hl => ?_)
          refine lv_aload_n S.1 S.2.1 dX4_takeTurn_35 rfl (lv_at hl 0 rfl) ?_
          refine lv_dup S.1 S.2.1 dX4_takeTurn_36 rfl ?_
          refine cd_get0 (v := .int (cd_g h2_ ((q + 6) + 8 + 7 * ((cd_g h2_ (q + 7) (v2_2.toNatClampNeg)).toNatClampNeg)) 7)) S hK hZ (cd_r9 (cd_r4_7 hq) z7) 7 cd_f_X4_211 rfl dX4_takeTurn_37 ?_
          refine lv_iconst (v := 1) S.1 S.2.1 dX4_takeTurn_40 (by decide) ?_
          refine lv_iadd S.1 S.2.1 dX4_takeTurn_41 ?_
          obtain ⟨h8, eh8, E⟩ := cd_nmE E
          refine cd_put0_7 S hK hZ (cd_r9 (cd_r4_7 hq) z7) cd_f_X4_211 eh8 dX4_takeTurn_42 (fun H locs hZ => ?_)
          refine lv_aload_n S.1 S.2.1 dX4_takeTurn_45 rfl (lv_at hl 0 rfl) ?_
          refine cd_get0 (v := .int (cd_g h8 ((q + 6) + 8 + 7 * ((cd_g h2_ (q + 7) (v2_2.toNatClampNeg)).toNatClampNeg)) 7)) S hK hZ (cd_r9 (cd_r4_7 hq) z7) 7 cd_f_X4_211 rfl dX4_takeTurn_46 ?_
          refine lv_aload_n S.1 S.2.1 dX4_takeTurn_49 rfl (lv_at hl 0 rfl) ?_
          refine cd_get0 (v := .int (cd_g h8 ((q + 6) + 8 + 7 * ((cd_g h2_ (q + 7) (v2_2.toNatClampNeg)).toNatClampNeg)) 1)) S hK hZ (cd_r9 (cd_r4_7 hq) z7) 1 cd_f_X4_214 rfl dX4_takeTurn_50 ?_
          refine lv_icmp_lt (tgt := 66) S.1 S.2.1 dX4_takeTurn_53 (by decide) (fun c9 => ?_) (fun c9 => ?_)
          · have E := cd_tE c9 E
            cases E
            exact hret _ _ _ _ _ (hin _ rfl) hZ dX4_takeTurn_66
          · have E := cd_fE c9 E
            refine lv_aload_n S.1 S.2.1 dX4_takeTurn_56 rfl (lv_at hl 0 rfl) ?_
            refine lv_iconst (v := 0) S.1 S.2.1 dX4_takeTurn_57 (by decide) ?_
            obtain ⟨h10, eh10, E⟩ := cd_nmE E
            refine cd_put0_7 S hK hZ (cd_r9 (cd_r4_7 hq) z7) cd_f_X4_211 eh10 dX4_takeTurn_58 (fun H locs hZ => ?_)
            refine lv_aload_n S.1 S.2.1 dX4_takeTurn_61 rfl (lv_at hl 2 rfl) ?_
            refine lv_iload_n S.1 S.2.1 dX4_takeTurn_62 rfl (lv_at hl 1 rfl) ?_
            obtain ⟨o11, E1, E⟩ := cd_bE E
            refine cd_cVv (As := [.int v2_2]) S hK hZ hl.1 (c_X4_moveToEnd l G q v2_2 hq h10 o11 E1) cd_v_X4_moveToEnd cd_m_X4_217 ⟨Nat.le_of_ble_eq_true rfl, Nat.le_of_ble_eq_true rfl⟩ ⟨rfl, rfl⟩ (ci := 4) (by decide) rfl hq rfl rfl (Nat.le_of_ble_eq_true rfl) ⟨Nat.zero_le _, Nat.zero_le _⟩ dX4_takeTurn_63 (fun H locs hZ => ?_)
            cases E
            exact hret _ _ _ _ _ (hin _ rfl) hZ dX4_takeTurn_66
  unfold f_X4_takeTurn at E
  refine lv_iconst (v := 0) S.1 S.2.1 dX4_takeTurn_0 (by decide) ?_
  refine lv_istore_n (lv' := [(2, .int 0), (0, .ref (G.2.2.2.2 + q)), (1, .int a1)]) S.1 S.2.1 dX4_takeTurn_1 rfl hl (by decide) rfl (fun ls hl => ?_)
  obtain ⟨o13, E1, EL, ER⟩ := cd_b2E E
  refine L2 cd_fu 0 h o13 H locs ls E1 hZ (lv_sub hl [0, 1, 2] rfl) EL (fun st14 hst H locs ls hZ hl => ?_)
  have E := ER st14 hst
  exact hret _ _ _ _ _ (Option.some.inj E) hZ dX4_takeTurn_73
abbrev rm_X4_runSlice : Room := { frames := 8, cells := 0, slots := 0, locals := 203 }
theorem cd_v_X4_runSlice : cd_V yX4_runSlice cX4_runSlice 3 none 1 := ⟨cd_i_X4_runSlice, cd_e_X4_X4_runSlice, cd_n_X4, cd_c_X4_runSlice, by decide +kernel⟩
set_option maxHeartbeats 4000000 in
set_option maxRecDepth 100000 in
theorem c_X4_runSlice (l : Launch) (G : cd_G) (q : Nat) (a1 : Int32) (hq : cd_is 4 q) (h : cd_Hp) (out : cd_Hp) (E : f_X4_runSlice q a1 h = some out) : cd_Mv l G yX4_runSlice (Cond.code yX4_runSlice cX4_runSlice 3 none :: cd_T) rm_X4_runSlice [.ref (G.2.2.2.2 + q), .int a1] h out := by
  refine cd_inv (by decide) (Nat.le_of_ble_eq_true rfl) ?_
  intro p e s m args below meth c Q ls H locs S hK hZ hl hret
  have hl : lv_has ls 3 [(0, .ref (G.2.2.2.2 + q)), (1, .int a1)] := hl
  unfold f_X4_runSlice at E
  refine lv_aload_n S.1 S.2.1 dX4_runSlice_0 rfl (lv_at hl 0 rfl) ?_
  refine lv_iload_n S.1 S.2.1 dX4_runSlice_1 rfl (lv_at hl 1 rfl) ?_
  obtain ⟨o1, E1, E⟩ := cd_bE E
  refine cd_cVi (As := [.int a1]) S hK hZ hl.1 (c_X4_watchersOf l G q a1 hq h o1 E1) cd_v_X4_watchersOf cd_m_X4_129 ⟨Nat.le_of_ble_eq_true rfl, Nat.le_of_ble_eq_true rfl⟩ ⟨rfl, rfl⟩ (ci := 4) (by decide) rfl hq rfl rfl (Nat.le_of_ble_eq_true rfl) ⟨Nat.zero_le _, Nat.zero_le _⟩ dX4_runSlice_2 (fun H locs hZ => ?_)
  refine lv_istore_n (lv' := [(2, .int o1), (0, .ref (G.2.2.2.2 + q)), (1, .int a1)]) S.1 S.2.1 dX4_runSlice_5 rfl hl (by decide) rfl (fun ls hl => ?_)
  refine lv_aload_n S.1 S.2.1 dX4_runSlice_6 rfl (lv_at hl 1 rfl) ?_
  refine lv_iload_n S.1 S.2.1 dX4_runSlice_7 rfl (lv_at hl 0 rfl) ?_
  obtain ⟨o3, E1, E⟩ := cd_bE E
  refine cd_cVv (As := [.int o1]) S hK hZ hl.1 (c_X4_dealCounters l G q o1 hq h o3 E1) cd_v_X4_dealCounters cd_m_X4_132 ⟨Nat.le_of_ble_eq_true rfl, Nat.le_of_ble_eq_true rfl⟩ ⟨rfl, rfl⟩ (ci := 4) (by decide) rfl hq rfl rfl (Nat.le_of_ble_eq_true rfl) ⟨Nat.zero_le _, Nat.zero_le _⟩ dX4_runSlice_8 (fun H locs hZ => ?_)
  refine lv_aload_n S.1 S.2.1 dX4_runSlice_11 rfl (lv_at hl 1 rfl) ?_
  refine lv_iload_n S.1 S.2.1 dX4_runSlice_12 rfl (lv_at hl 2 rfl) ?_
  refine lv_iload_n S.1 S.2.1 dX4_runSlice_13 rfl (lv_at hl 0 rfl) ?_
  obtain ⟨o5, E1, E⟩ := cd_bE E
  refine cd_cVv (As := [.int a1, .int o1]) S hK hZ hl.1 (c_X4_countSlice l G q a1 o1 hq o3 o5 E1) cd_v_X4_countSlice cd_m_X4_135 ⟨Nat.le_of_ble_eq_true rfl, Nat.le_of_ble_eq_true rfl⟩ ⟨rfl, rfl⟩ (ci := 4) (by decide) rfl hq rfl rfl (Nat.le_of_ble_eq_true rfl) ⟨Nat.zero_le _, Nat.zero_le _⟩ dX4_runSlice_14 (fun H locs hZ => ?_)
  refine lv_aload_n S.1 S.2.1 dX4_runSlice_17 rfl (lv_at hl 1 rfl) ?_
  refine lv_iload_n S.1 S.2.1 dX4_runSlice_18 rfl (lv_at hl 2 rfl) ?_
  obtain ⟨o7, E1, E⟩ := cd_bE E
  refine cd_cVv (As := [.int a1]) S hK hZ hl.1 (c_X4_takeSamples l G q a1 hq o5 o7 E1) cd_v_X4_takeSamples cd_m_X4_138 ⟨Nat.le_of_ble_eq_true rfl, Nat.le_of_ble_eq_true rfl⟩ ⟨rfl, rfl⟩ (ci := 4) (by decide) rfl hq rfl rfl (Nat.le_of_ble_eq_true rfl) ⟨Nat.zero_le _, Nat.zero_le _⟩ dX4_runSlice_19 (fun H locs hZ => ?_)
  refine lv_aload_n S.1 S.2.1 dX4_runSlice_22 rfl (lv_at hl 1 rfl) ?_
  refine cd_get4 (v := .ref (G.2.2.2.2 + (q + 8))) S hK hZ hq 9 cd_f_X4_41 rfl dX4_runSlice_23 ?_
  refine lv_iload_n S.1 S.2.1 dX4_runSlice_26 rfl (lv_at hl 2 rfl) ?_
  refine lv_aload_n S.1 S.2.1 dX4_runSlice_27 rfl (lv_at hl 1 rfl) ?_
  refine cd_get4 (v := .int (cd_g o7 q 2)) S hK hZ hq 2 cd_f_X4_50 rfl dX4_runSlice_28 ?_
  obtain ⟨o9, E1, E⟩ := cd_bE E
  refine cd_cVv (As := [.int a1, .int (cd_g o7 q 2)]) S hK hZ hl.1 (c_X2_tellDue l G (q + 8) a1 (cd_g o7 q 2) (cd_r4_9 hq) o7 o9 E1) cd_v_X2_tellDue cd_m_X4_141 ⟨Nat.le_of_ble_eq_true rfl, Nat.le_of_ble_eq_true rfl⟩ ⟨rfl, rfl⟩ (ci := 2) (by decide) rfl (cd_r4_9 hq) rfl rfl (Nat.le_of_ble_eq_true rfl) ⟨Nat.zero_le _, Nat.zero_le _⟩ dX4_runSlice_31 (fun H locs hZ => ?_)
  refine lv_aload_n S.1 S.2.1 dX4_runSlice_34 rfl (lv_at hl 1 rfl) ?_
  refine lv_iload_n S.1 S.2.1 dX4_runSlice_35 rfl (lv_at hl 0 rfl) ?_
  obtain ⟨o11, E1, E⟩ := cd_bE E
  refine cd_cVv (As := [.int o1]) S hK hZ hl.1 (c_X4_takeTurn l G q o1 hq o9 o11 E1) cd_v_X4_takeTurn cd_m_X4_144 ⟨Nat.le_of_ble_eq_true rfl, Nat.le_of_ble_eq_true rfl⟩ ⟨rfl, rfl⟩ (ci := 4) (by decide) rfl hq rfl rfl (Nat.le_of_ble_eq_true rfl) ⟨Nat.zero_le _, Nat.zero_le _⟩ dX4_runSlice_36 (fun H locs hZ => ?_)
  refine lv_aload_n S.1 S.2.1 dX4_runSlice_39 rfl (lv_at hl 1 rfl) ?_
  refine lv_dup S.1 S.2.1 dX4_runSlice_40 rfl ?_
  refine cd_get4 (v := .int (cd_g o11 q 2)) S hK hZ hq 2 cd_f_X4_50 rfl dX4_runSlice_41 ?_
  refine lv_iconst (v := 1) S.1 S.2.1 dX4_runSlice_44 (by decide) ?_
  refine lv_iadd S.1 S.2.1 dX4_runSlice_45 ?_
  obtain ⟨h13, eh13, E⟩ := cd_nmE E
  refine cd_put4_2 S hK hZ hq cd_f_X4_50 eh13 dX4_runSlice_46 (fun H locs hZ => ?_)
  exact hret _ _ _ _ _ (Option.some.inj E) hZ dX4_runSlice_49
abbrev rm_X4_runSlices : Room := { frames := 9, cells := 0, slots := 0, locals := 225 }
theorem cd_v_X4_runSlices : cd_V yX4_runSlices cX4_runSlices 4 (some .int) 2 := ⟨cd_i_X4_runSlices, cd_e_X4_X4_runSlices, cd_n_X4, cd_c_X4_runSlices, by decide +kernel⟩
set_option maxHeartbeats 4000000 in
set_option maxRecDepth 100000 in
theorem c_X4_runSlices (l : Launch) (G : cd_G) (q : Nat) (a1 : Int32) (a2 : Int32) (hq : cd_is 4 q) (h : cd_Hp) (out : (Int32 × cd_Hp)) (E : f_X4_runSlices q a1 a2 h = some out) : cd_Mi l G yX4_runSlices (Cond.code yX4_runSlices cX4_runSlices 4 (some .int) :: cd_T) rm_X4_runSlices [.ref (G.2.2.2.2 + q), .int a1, .int a2] h out := by
  refine cd_ini (by decide) (Nat.le_of_ble_eq_true rfl) ?_
  intro p e s m args below meth c Q ls H locs S hK hZ hl hret
  have hl : lv_has ls 4 [(0, .ref (G.2.2.2.2 + q)), (1, .int a1), (2, .int a2)] := hl
  have L40 : ∀ (n : Nat) (v40_3 : Int32) (h40_ : cd_Hp) (o : (Int32 × cd_Hp)) (H : Heap) (locs : List Loc) (ls : Array Slot), cd_lp (f_X4_runSlices_B40 q a1 a2) n (v40_3, h40_) = some o → cd_Z G h40_ s.heap H locs → lv_has ls 4 [(3, .int v40_3), (0, .ref (G.2.2.2.2 + q)), (1, .int a1), (2, .int a2)] → (∀ (H : Heap) (locs : List Loc) (ls : Array Slot), cd_Z G o.2 s.heap H locs → lv_has ls 4 [(3, .int o.1), (0, .ref (G.2.2.2.2 + q)), (1, .int a1), (2, .int a2)] → W p l e rm_X4_runSlices s m args below meth c H locs 0 0 Q (F0 m 56 ls [])) → W p l e rm_X4_runSlices s m args below meth c H locs 0 0 Q (F0 m 40 ls []) := by
    intro n
    induction n with
    | zero => intro v40_3 h40_ o H locs ls E; exact nomatch (show (none : Option (Int32 × cd_Hp)) = some o from E)
    | succ n ih =>
      intro v40_3 h40_ o H locs ls E hZ hl hex
      have E : f_X4_runSlices_B40 q a1 a2 (cd_lp (f_X4_runSlices_B40 q a1 a2) n) (v40_3, h40_) = some o := E
      unfold f_X4_runSlices_B40 at E
      dsimp only at E
      refine lv_iload_n S.1 S.2.1 dX4_runSlices_40 rfl (lv_at hl 0 rfl) ?_
      refine lv_iload_n S.1 S.2.1 dX4_runSlices_41 rfl (lv_at hl 3 rfl) ?_
      refine lv_icmp_ge (tgt := 56) S.1 S.2.1 dX4_runSlices_42 (by decide) (fun c8 => ?_) (fun c8 => ?_)
      · have E := cd_tE c8 E
        cases E
        exact hex H locs ls hZ (lv_sub hl [0, 1, 2, 3] rfl)
      · have E := cd_fE c8 E
        refine lv_aload_n S.1 S.2.1 dX4_runSlices_45 rfl (lv_at hl 1 rfl) ?_
        refine lv_iload_n S.1 S.2.1 dX4_runSlices_46 rfl (lv_at hl 2 rfl) ?_
        obtain ⟨o9, E1, E⟩ := cd_bE E
        refine cd_cVv (As := [.int a1]) S hK hZ hl.1 (c_X4_runSlice l G q a1 hq h40_ o9 E1) cd_v_X4_runSlice cd_m_X4_125 ⟨Nat.le_of_ble_eq_true rfl, Nat.le_of_ble_eq_true rfl⟩ ⟨rfl, rfl⟩ (ci := 4) (by decide) rfl hq rfl rfl (Nat.le_of_ble_eq_true rfl) ⟨Nat.zero_le _, Nat.zero_le _⟩ dX4_runSlices_47 (fun H locs hZ => ?_)
        obtain ⟨x11, ex11, E⟩ := cd_nmE E
        refine lv_iinc (v := x11) (lv' := [(3, .int x11), (0, .ref (G.2.2.2.2 + q)), (1, .int a1), (2, .int a2)]) S.1 S.2.1 dX4_runSlices_50 hl (k := 0) rfl (by rw [ex11]; rfl) (by decide) rfl (fun ls hl => ?_)
        refine lv_goto (tgt := 40) S.1 S.2.1 dX4_runSlices_53 (by decide) ?_
        exact ih x11 o9 o H locs ls E hZ (lv_sub hl [0, 1, 2, 3] rfl) hex
  unfold f_X4_runSlices at E
  refine lv_aload_n S.1 S.2.1 dX4_runSlices_0 rfl (lv_at hl 0 rfl) ?_
  refine cd_get4 (v := .ref (G.2.2.2.2 + (q + 2))) S hK hZ hq 6 cd_f_X4_25 rfl dX4_runSlices_1 ?_
  refine lv_iload_n S.1 S.2.1 dX4_runSlices_4 rfl (lv_at hl 1 rfl) ?_
  refine cd_cVz (As := [.int a1]) S hK hZ hl.1 (c_X5_has l G (q + 2) a1 (cd_r4_6 hq) h _ rfl) cd_v_X5_has cd_m_X4_84 ⟨Nat.le_of_ble_eq_true rfl, Nat.le_of_ble_eq_true rfl⟩ ⟨rfl, rfl⟩ (ci := 5) (by decide) rfl (cd_r4_6 hq) rfl rfl (Nat.le_of_ble_eq_true rfl) ⟨Nat.zero_le _, Nat.zero_le _⟩ dX4_runSlices_5 (fun H locs hZ b1 => ?_)
  refine lv_if_eq (tgt := 21) S.1 S.2.1 dX4_runSlices_8 (by decide) (fun c2 => ?_) (fun c2 => ?_)
  · have E := cd_tE c2 E
    refine lv_bipush (v := (-2)) S.1 S.2.1 dX4_runSlices_21 (by decide) ?_
    exact hret _ _ _ _ _ _ (Option.some.inj E) hZ dX4_runSlices_23
  · have E := cd_fE c2 E
    refine lv_iload_n S.1 S.2.1 dX4_runSlices_11 rfl (lv_at hl 2 rfl) ?_
    refine lv_iconst (v := 1) S.1 S.2.1 dX4_runSlices_12 (by decide) ?_
    refine lv_bipush (v := 20) S.1 S.2.1 dX4_runSlices_13 (by decide) ?_
    refine cd_cNz (As := [.int a2, .int 1, .int 20]) S hK hZ hl.1 (c_X7_isWithin l G a2 1 20 h _ rfl) cd_v_X7_isWithin (cd_nX4_73 hK.2) ⟨Nat.le_of_ble_eq_true rfl, Nat.le_of_ble_eq_true rfl⟩ ⟨rfl, rfl⟩ rfl rfl (Nat.le_of_ble_eq_true rfl) ⟨Nat.zero_le _, Nat.zero_le _⟩ dX4_runSlices_15 (fun H locs hZ b3 => ?_)
    refine lv_if_ne (tgt := 24) S.1 S.2.1 dX4_runSlices_18 (by decide) (fun c4 => ?_) (fun c4 => ?_)
    · have E := cd_fE c4 E
      refine lv_aload_n S.1 S.2.1 dX4_runSlices_24 rfl (lv_at hl 0 rfl) ?_
      refine cd_get4 (v := .ref (G.2.2.2.2 + (q + 2))) S hK hZ hq 6 cd_f_X4_25 rfl dX4_runSlices_25 ?_
      refine lv_iload_n S.1 S.2.1 dX4_runSlices_28 rfl (lv_at hl 1 rfl) ?_
      obtain ⟨o5, E1, E⟩ := cd_bE E
      refine cd_cVz (As := [.int a1]) S hK hZ hl.1 (c_X5_hasEnded l G (q + 2) a1 (cd_r4_6 hq) h o5 E1) cd_v_X5_hasEnded cd_m_X4_87 ⟨Nat.le_of_ble_eq_true rfl, Nat.le_of_ble_eq_true rfl⟩ ⟨rfl, rfl⟩ (ci := 5) (by decide) rfl (cd_r4_6 hq) rfl rfl (Nat.le_of_ble_eq_true rfl) ⟨Nat.zero_le _, Nat.zero_le _⟩ dX4_runSlices_29 (fun H locs hZ b6 => ?_)
      refine lv_if_eq (tgt := 38) S.1 S.2.1 dX4_runSlices_32 (by decide) (fun c7 => ?_) (fun c7 => ?_)
      · have E := cd_tE c7 E
        refine lv_iconst (v := 0) S.1 S.2.1 dX4_runSlices_38 (by decide) ?_
        refine lv_istore_n (lv' := [(3, .int 0), (0, .ref (G.2.2.2.2 + q)), (1, .int a1), (2, .int a2)]) S.1 S.2.1 dX4_runSlices_39 rfl hl (by decide) rfl (fun ls hl => ?_)
        obtain ⟨o12, E1, E⟩ := cd_bE E
        refine L40 cd_fu 0 h o12 H locs ls E1 hZ (lv_sub hl [0, 1, 2, 3] rfl) (fun H locs ls hZ hl => ?_)
        refine lv_aload_n S.1 S.2.1 dX4_runSlices_56 rfl (lv_at hl 1 rfl) ?_
        refine cd_get4 (v := .int (cd_g o12.2 q 2)) S hK hZ hq 2 cd_f_X4_50 rfl dX4_runSlices_57 ?_
        exact hret _ _ _ _ _ _ (Option.some.inj E) hZ dX4_runSlices_60
      · have E := cd_fE c7 E
        refine lv_bipush (v := (-3)) S.1 S.2.1 dX4_runSlices_35 (by decide) ?_
        exact hret _ _ _ _ _ _ (Option.some.inj E) hZ dX4_runSlices_37
    · have E := cd_tE c4 E
      refine lv_bipush (v := (-2)) S.1 S.2.1 dX4_runSlices_21 (by decide) ?_
      exact hret _ _ _ _ _ _ (Option.some.inj E) hZ dX4_runSlices_23
abbrev rm_X4_taskFact : Room := { frames := 3, cells := 0, slots := 0, locals := 72 }
theorem cd_v_X4_taskFact : cd_V yX4_taskFact cX4_taskFact 3 (some .int) 2 := ⟨cd_i_X4_taskFact, cd_e_X4_X4_taskFact, cd_n_X4, cd_c_X4_taskFact, by decide +kernel⟩
set_option maxHeartbeats 4000000 in
set_option maxRecDepth 100000 in
theorem c_X4_taskFact (l : Launch) (G : cd_G) (q : Nat) (a1 : Int32) (a2 : Int32) (hq : cd_is 4 q) (h : cd_Hp) (out : Int32) (E : f_X4_taskFact q a1 a2 h = some out) : cd_Mi l G yX4_taskFact (Cond.code yX4_taskFact cX4_taskFact 3 (some .int) :: cd_T) rm_X4_taskFact [.ref (G.2.2.2.2 + q), .int a1, .int a2] h (out, h) := by
  refine cd_ini (by decide) (Nat.le_of_ble_eq_true rfl) ?_
  intro p e s m args below meth c Q ls H locs S hK hZ hl hret
  have hl : lv_has ls 3 [(0, .ref (G.2.2.2.2 + q)), (1, .int a1), (2, .int a2)] := hl
  unfold f_X4_taskFact at E
  refine lv_aload_n S.1 S.2.1 dX4_taskFact_0 rfl (lv_at hl 0 rfl) ?_
  refine cd_get4 (v := .ref (G.2.2.2.2 + (q + 2))) S hK hZ hq 6 cd_f_X4_25 rfl dX4_taskFact_1 ?_
  refine lv_iload_n S.1 S.2.1 dX4_taskFact_4 rfl (lv_at hl 1 rfl) ?_
  refine cd_cVz (As := [.int a1]) S hK hZ hl.1 (c_X5_has l G (q + 2) a1 (cd_r4_6 hq) h _ rfl) cd_v_X5_has cd_m_X4_84 ⟨Nat.le_of_ble_eq_true rfl, Nat.le_of_ble_eq_true rfl⟩ ⟨rfl, rfl⟩ (ci := 5) (by decide) rfl (cd_r4_6 hq) rfl rfl (Nat.le_of_ble_eq_true rfl) ⟨Nat.zero_le _, Nat.zero_le _⟩ dX4_taskFact_5 (fun H locs hZ b1 => ?_)
  refine lv_if_ne (tgt := 14) S.1 S.2.1 dX4_taskFact_8 (by decide) (fun c2 => ?_) (fun c2 => ?_)
  · have E := cd_fE c2 E
    refine lv_iload_n S.1 S.2.1 dX4_taskFact_14 rfl (lv_at hl 2 rfl) ?_
    refine cd_by (p := a2 = 0) (fun c3 => ?_) (fun c3 => ?_)
    · have E := cd_tE c3 E
      refine cd_tabI (k := 0) (off := 25) (tgt := 40) S.1 S.2.1 dX4_taskFact_15 c3 (by decide +kernel) (by decide) ?_
      refine lv_aload_n S.1 S.2.1 dX4_taskFact_40 rfl (lv_at hl 0 rfl) ?_
      refine cd_get4 (v := .ref (G.2.2.2.2 + (q + 2))) S hK hZ hq 6 cd_f_X4_25 rfl dX4_taskFact_41 ?_
      refine cd_get5 (v := .ref (G.2.2.2.2 + ((q + 2) + 1))) S hK hZ (cd_r4_6 hq) 1 cd_f_X4_93 rfl dX4_taskFact_44 ?_
      refine lv_iload_n S.1 S.2.1 dX4_taskFact_47 rfl (lv_at hl 1 rfl) ?_
      obtain ⟨z4, E⟩ := cd_ckE E
      refine cd_iald S hK hZ (cd_r5_1 (cd_r4_6 hq)) z4 dX4_taskFact_48 ?_
      exact hret _ _ _ _ _ _ (congrArg (fun z => (z, h)) (Option.some.inj E)) hZ dX4_taskFact_49
    · have E := cd_fE c3 E
      refine cd_by (p := a2 = 1) (fun c5 => ?_) (fun c5 => ?_)
      · have E := cd_tE c5 E
        refine cd_tabI (k := 1) (off := 35) (tgt := 50) S.1 S.2.1 dX4_taskFact_15 c5 (by decide +kernel) (by decide) ?_
        refine lv_aload_n S.1 S.2.1 dX4_taskFact_50 rfl (lv_at hl 0 rfl) ?_
        refine cd_get4 (v := .ref (G.2.2.2.2 + (q + 2))) S hK hZ hq 6 cd_f_X4_25 rfl dX4_taskFact_51 ?_
        refine cd_get5 (v := .ref (G.2.2.2.2 + ((q + 2) + 2))) S hK hZ (cd_r4_6 hq) 2 cd_f_X4_96 rfl dX4_taskFact_54 ?_
        refine lv_iload_n S.1 S.2.1 dX4_taskFact_57 rfl (lv_at hl 1 rfl) ?_
        obtain ⟨z6, E⟩ := cd_ckE E
        refine cd_iald S hK hZ (cd_r5_2 (cd_r4_6 hq)) z6 dX4_taskFact_58 ?_
        exact hret _ _ _ _ _ _ (congrArg (fun z => (z, h)) (Option.some.inj E)) hZ dX4_taskFact_59
      · have E := cd_fE c5 E
        refine cd_by (p := a2 = 2) (fun c7 => ?_) (fun c7 => ?_)
        · have E := cd_tE c7 E
          refine cd_tabI (k := 2) (off := 45) (tgt := 60) S.1 S.2.1 dX4_taskFact_15 c7 (by decide +kernel) (by decide) ?_
          refine lv_aload_n S.1 S.2.1 dX4_taskFact_60 rfl (lv_at hl 0 rfl) ?_
          refine lv_iload_n S.1 S.2.1 dX4_taskFact_61 rfl (lv_at hl 1 rfl) ?_
          obtain ⟨o8, E1, E⟩ := cd_bE E
          refine cd_cVi (As := [.int a1]) S hK hZ hl.1 (c_X4_watchersOf l G q a1 hq h o8 E1) cd_v_X4_watchersOf cd_m_X4_129 ⟨Nat.le_of_ble_eq_true rfl, Nat.le_of_ble_eq_true rfl⟩ ⟨rfl, rfl⟩ (ci := 4) (by decide) rfl hq rfl rfl (Nat.le_of_ble_eq_true rfl) ⟨Nat.zero_le _, Nat.zero_le _⟩ dX4_taskFact_62 (fun H locs hZ => ?_)
          exact hret _ _ _ _ _ _ (congrArg (fun z => (z, h)) (Option.some.inj E)) hZ dX4_taskFact_65
        · have E := cd_fE c7 E
          refine lv_tableOut (tgt := 66) S.1 S.2.1 dX4_taskFact_15 (by have z0 := lv_neT c3 (a := 0) (by decide); have z1 := lv_neT c5 (a := 1) (by decide); have z2 := lv_neT c7 (a := 2) (by decide); omega) (by decide) ?_
          refine lv_bipush (v := (-2)) S.1 S.2.1 dX4_taskFact_66 (by decide) ?_
          exact hret _ _ _ _ _ _ (congrArg (fun z => (z, h)) (Option.some.inj E)) hZ dX4_taskFact_68
  · have E := cd_tE c2 E
    refine lv_bipush (v := (-2)) S.1 S.2.1 dX4_taskFact_11 (by decide) ?_
    exact hret _ _ _ _ _ _ (congrArg (fun z => (z, h)) (Option.some.inj E)) hZ dX4_taskFact_13
abbrev rm_X4_placeInLine : Room := { frames := 0, cells := 0, slots := 0, locals := 0 }
theorem cd_v_X4_placeInLine : cd_V yX4_placeInLine cX4_placeInLine 3 (some .int) 1 := ⟨cd_i_X4_placeInLine, cd_e_X4_X4_placeInLine, cd_n_X4, cd_c_X4_placeInLine, by decide +kernel⟩
set_option maxHeartbeats 4000000 in
set_option maxRecDepth 100000 in
theorem c_X4_placeInLine (l : Launch) (G : cd_G) (q : Nat) (a1 : Int32) (hq : cd_is 4 q) (h : cd_Hp) (out : Int32) (E : f_X4_placeInLine q a1 h = some out) : cd_Mi l G yX4_placeInLine (Cond.code yX4_placeInLine cX4_placeInLine 3 (some .int) :: cd_T) rm_X4_placeInLine [.ref (G.2.2.2.2 + q), .int a1] h (out, h) := by
  refine cd_ini (by decide) (Nat.le_of_ble_eq_true rfl) ?_
  intro p e s m args below meth c Q ls H locs S hK hZ hl hret
  have hl : lv_has ls 3 [(0, .ref (G.2.2.2.2 + q)), (1, .int a1)] := hl
  have L2 : ∀ (n : Nat) (v2_2 : Int32) (o : (Int32 ⊕ (Int32))) (H : Heap) (locs : List Loc) (ls : Array Slot), cd_lp (f_X4_placeInLine_B2 q a1 h) n v2_2 = some o → cd_Z G h s.heap H locs → lv_has ls 3 [(2, .int v2_2), (0, .ref (G.2.2.2.2 + q)), (1, .int a1)] → (∀ x, o = .inl x → x = out) → (∀ st, o = .inr st → ∀ (H : Heap) (locs : List Loc) (ls : Array Slot), cd_Z G h s.heap H locs → lv_has ls 3 [(2, .int st), (0, .ref (G.2.2.2.2 + q)), (1, .int a1)] → W p l e rm_X4_placeInLine s m args below meth c H locs 0 0 Q (F0 m 28 ls [])) → W p l e rm_X4_placeInLine s m args below meth c H locs 0 0 Q (F0 m 2 ls []) := by
    intro n
    induction n with
    | zero => intro v2_2 o H locs ls E; exact nomatch (show (none : Option (Int32 ⊕ (Int32))) = some o from E)
    | succ n ih =>
      intro v2_2 o H locs ls E hZ hl hin hex
      have E : f_X4_placeInLine_B2 q a1 h (cd_lp (f_X4_placeInLine_B2 q a1 h) n) v2_2 = some o := E
      unfold f_X4_placeInLine_B2 at E
      refine lv_iload_n S.1 S.2.1 dX4_placeInLine_2 rfl (lv_at hl 0 rfl) ?_
      refine lv_aload_n S.1 S.2.1 dX4_placeInLine_3 rfl (lv_at hl 1 rfl) ?_
      refine cd_get4 (v := .int (cd_g h q 4)) S hK hZ hq 4 cd_f_X4_56 rfl dX4_placeInLine_4 ?_
      refine lv_icmp_ge (tgt := 28) S.1 S.2.1 dX4_placeInLine_7 (by decide) (fun c1 => ?_) (fun c1 => ?_)
      · have E := cd_tE c1 E
        cases E
        exact hex _ rfl H locs ls hZ (lv_sub hl [0, 1, 2] rfl)
      · have E := cd_fE c1 E
        refine lv_aload_n S.1 S.2.1 dX4_placeInLine_10 rfl (lv_at hl 1 rfl) ?_
        refine cd_get4 (v := .ref (G.2.2.2.2 + (q + 7))) S hK hZ hq 8 cd_f_X4_35 rfl dX4_placeInLine_11 ?_
        refine lv_iload_n S.1 S.2.1 dX4_placeInLine_14 rfl (lv_at hl 0 rfl) ?_
        obtain ⟨z2, E⟩ := cd_ckE E
        refine cd_iald S hK hZ (cd_r4_8 hq) z2 dX4_placeInLine_15 ?_
        refine lv_iload_n S.1 S.2.1 dX4_placeInLine_16 rfl (lv_at hl 2 rfl) ?_
        refine lv_icmp_ne (tgt := 22) S.1 S.2.1 dX4_placeInLine_17 (by decide) (fun c3 => ?_) (fun c3 => ?_)
        · have E := cd_fE c3 E
          obtain ⟨x4, ex4, E⟩ := cd_nmE E
          refine lv_iinc (v := x4) (lv' := [(2, .int x4), (0, .ref (G.2.2.2.2 + q)), (1, .int a1)]) S.1 S.2.1 dX4_placeInLine_22 hl (k := 0) rfl (by rw [ex4]; rfl) (by decide) rfl (fun ls hl => ?_)
          refine lv_goto (tgt := 2) S.1 S.2.1 dX4_placeInLine_25 (by decide) ?_
          exact ih x4 o H locs ls E hZ (lv_sub hl [0, 1, 2] rfl) hin hex
        · have E := cd_tE c3 E
          refine lv_iload_n S.1 S.2.1 dX4_placeInLine_20 rfl (lv_at hl 0 rfl) ?_
          cases E
          exact hret _ _ _ _ _ _ (congrArg (fun z => (z, h)) (hin _ rfl)) hZ dX4_placeInLine_21
  unfold f_X4_placeInLine at E
  refine lv_iconst (v := 0) S.1 S.2.1 dX4_placeInLine_0 (by decide) ?_
  refine lv_istore_n (lv' := [(2, .int 0), (0, .ref (G.2.2.2.2 + q)), (1, .int a1)]) S.1 S.2.1 dX4_placeInLine_1 rfl hl (by decide) rfl (fun ls hl => ?_)
  obtain ⟨o5, E1, EL, ER⟩ := cd_b2E E
  refine L2 cd_fu 0 o5 H locs ls E1 hZ (lv_sub hl [0, 1, 2] rfl) EL (fun st6 hst H locs ls hZ hl => ?_)
  have E := ER st6 hst
  refine lv_iconst (v := (-1)) S.1 S.2.1 dX4_placeInLine_28 (by decide) ?_
  exact hret _ _ _ _ _ _ (congrArg (fun z => (z, h)) (Option.some.inj E)) hZ dX4_placeInLine_29
abbrev rm_X4_groupFact : Room := { frames := 2, cells := 0, slots := 0, locals := 43 }
theorem cd_v_X4_groupFact : cd_V yX4_groupFact cX4_groupFact 4 (some .int) 2 := ⟨cd_i_X4_groupFact, cd_e_X4_X4_groupFact, cd_n_X4, cd_c_X4_groupFact, by decide +kernel⟩
set_option maxHeartbeats 4000000 in
set_option maxRecDepth 100000 in
theorem c_X4_groupFact (l : Launch) (G : cd_G) (q : Nat) (a1 : Int32) (a2 : Int32) (hq : cd_is 4 q) (h : cd_Hp) (out : Int32) (E : f_X4_groupFact q a1 a2 h = some out) : cd_Mi l G yX4_groupFact (Cond.code yX4_groupFact cX4_groupFact 4 (some .int) :: cd_T) rm_X4_groupFact [.ref (G.2.2.2.2 + q), .int a1, .int a2] h (out, h) := by
  refine cd_ini (by decide) (Nat.le_of_ble_eq_true rfl) ?_
  intro p e s m args below meth c Q ls H locs S hK hZ hl hret
  have hl : lv_has ls 4 [(0, .ref (G.2.2.2.2 + q)), (1, .int a1), (2, .int a2)] := hl
  unfold f_X4_groupFact at E
  refine lv_aload_n S.1 S.2.1 dX4_groupFact_0 rfl (lv_at hl 0 rfl) ?_
  refine lv_iload_n S.1 S.2.1 dX4_groupFact_1 rfl (lv_at hl 1 rfl) ?_
  refine cd_cVz (As := [.int a1]) S hK hZ hl.1 (c_X4_hasGroup l G q a1 hq h _ rfl) cd_v_X4_hasGroup cd_m_X4_77 ⟨Nat.le_of_ble_eq_true rfl, Nat.le_of_ble_eq_true rfl⟩ ⟨rfl, rfl⟩ (ci := 4) (by decide) rfl hq rfl rfl (Nat.le_of_ble_eq_true rfl) ⟨Nat.zero_le _, Nat.zero_le _⟩ dX4_groupFact_2 (fun H locs hZ b1 => ?_)
  refine lv_if_ne (tgt := 11) S.1 S.2.1 dX4_groupFact_5 (by decide) (fun c2 => ?_) (fun c2 => ?_)
  · have E := cd_fE c2 E
    refine lv_aload_n S.1 S.2.1 dX4_groupFact_11 rfl (lv_at hl 0 rfl) ?_
    refine cd_get4 (v := .ref (G.2.2.2.2 + (q + 6))) S hK hZ hq 7 cd_f_X4_31 rfl dX4_groupFact_12 ?_
    refine lv_iload_n S.1 S.2.1 dX4_groupFact_15 rfl (lv_at hl 1 rfl) ?_
    obtain ⟨z3, E⟩ := cd_ckE E
    refine cd_aald9 S hK hZ (cd_r4_7 hq) z3 dX4_groupFact_16 ?_
    refine lv_astore_n (lv' := [(3, .ref (G.2.2.2.2 + ((q + 6) + 8 + 7 * (a1.toNatClampNeg)))), (0, .ref (G.2.2.2.2 + q)), (1, .int a1), (2, .int a2)]) S.1 S.2.1 dX4_groupFact_17 rfl hl (by decide) rfl (fun ls hl => ?_)
    refine lv_iload_n S.1 S.2.1 dX4_groupFact_18 rfl (lv_at hl 3 rfl) ?_
    refine cd_by (p := a2 = 0) (fun c4 => ?_) (fun c4 => ?_)
    · have E := cd_tE c4 E
      refine cd_tabI (k := 0) (off := 57) (tgt := 76) S.1 S.2.1 dX4_groupFact_19 c4 (by decide +kernel) (by decide) ?_
      refine lv_aload_n S.1 S.2.1 dX4_groupFact_76 rfl (lv_at hl 0 rfl) ?_
      refine cd_get0 (v := .int (cd_g h ((q + 6) + 8 + 7 * (a1.toNatClampNeg)) 0)) S hK hZ (cd_r9 (cd_r4_7 hq) z3) 0 cd_f_X4_147 rfl dX4_groupFact_77 ?_
      exact hret _ _ _ _ _ _ (congrArg (fun z => (z, h)) (Option.some.inj E)) hZ dX4_groupFact_80
    · have E := cd_fE c4 E
      refine cd_by (p := a2 = 1) (fun c5 => ?_) (fun c5 => ?_)
      · have E := cd_tE c5 E
        refine cd_tabI (k := 1) (off := 62) (tgt := 81) S.1 S.2.1 dX4_groupFact_19 c5 (by decide +kernel) (by decide) ?_
        refine lv_aload_n S.1 S.2.1 dX4_groupFact_81 rfl (lv_at hl 0 rfl) ?_
        refine cd_get0 (v := .int (cd_g h ((q + 6) + 8 + 7 * (a1.toNatClampNeg)) 1)) S hK hZ (cd_r9 (cd_r4_7 hq) z3) 1 cd_f_X4_214 rfl dX4_groupFact_82 ?_
        exact hret _ _ _ _ _ _ (congrArg (fun z => (z, h)) (Option.some.inj E)) hZ dX4_groupFact_85
      · have E := cd_fE c5 E
        refine cd_by (p := a2 = 2) (fun c6 => ?_) (fun c6 => ?_)
        · have E := cd_tE c6 E
          refine cd_tabI (k := 2) (off := 67) (tgt := 86) S.1 S.2.1 dX4_groupFact_19 c6 (by decide +kernel) (by decide) ?_
          refine lv_aload_n S.1 S.2.1 dX4_groupFact_86 rfl (lv_at hl 0 rfl) ?_
          refine cd_get0 (v := .int (cd_g h ((q + 6) + 8 + 7 * (a1.toNatClampNeg)) 2)) S hK hZ (cd_r9 (cd_r4_7 hq) z3) 2 cd_f_X4_165 rfl dX4_groupFact_87 ?_
          refine cd_cNi (As := [.int (cd_g h ((q + 6) + 8 + 7 * (a1.toNatClampNeg)) 2)]) S hK hZ hl.1 (c_X7_bit l G (cd_g h ((q + 6) + 8 + 7 * (a1.toNatClampNeg)) 2) h _ rfl) cd_v_X7_bit (cd_nX4_121 hK.2) ⟨Nat.le_of_ble_eq_true rfl, Nat.le_of_ble_eq_true rfl⟩ ⟨rfl, rfl⟩ rfl rfl (Nat.le_of_ble_eq_true rfl) ⟨Nat.zero_le _, Nat.zero_le _⟩ dX4_groupFact_90 (fun H locs hZ => ?_)
          exact hret _ _ _ _ _ _ (congrArg (fun z => (z, h)) (Option.some.inj E)) hZ dX4_groupFact_93
        · have E := cd_fE c6 E
          refine cd_by (p := a2 = 3) (fun c8 => ?_) (fun c8 => ?_)
          · have E := cd_tE c8 E
            refine cd_tabI (k := 3) (off := 75) (tgt := 94) S.1 S.2.1 dX4_groupFact_19 c8 (by decide +kernel) (by decide) ?_
            refine lv_aload_n S.1 S.2.1 dX4_groupFact_94 rfl (lv_at hl 0 rfl) ?_
            refine cd_get0 (v := .int (cd_g h ((q + 6) + 8 + 7 * (a1.toNatClampNeg)) 3)) S hK hZ (cd_r9 (cd_r4_7 hq) z3) 3 cd_f_X4_150 rfl dX4_groupFact_95 ?_
            refine cd_cNi (As := [.int (cd_g h ((q + 6) + 8 + 7 * (a1.toNatClampNeg)) 3)]) S hK hZ hl.1 (c_X7_bit l G (cd_g h ((q + 6) + 8 + 7 * (a1.toNatClampNeg)) 3) h _ rfl) cd_v_X7_bit (cd_nX4_121 hK.2) ⟨Nat.le_of_ble_eq_true rfl, Nat.le_of_ble_eq_true rfl⟩ ⟨rfl, rfl⟩ rfl rfl (Nat.le_of_ble_eq_true rfl) ⟨Nat.zero_le _, Nat.zero_le _⟩ dX4_groupFact_98 (fun H locs hZ => ?_)
            exact hret _ _ _ _ _ _ (congrArg (fun z => (z, h)) (Option.some.inj E)) hZ dX4_groupFact_101
          · have E := cd_fE c8 E
            refine cd_by (p := a2 = 4) (fun c10 => ?_) (fun c10 => ?_)
            · have E := cd_tE c10 E
              refine cd_tabI (k := 4) (off := 83) (tgt := 102) S.1 S.2.1 dX4_groupFact_19 c10 (by decide +kernel) (by decide) ?_
              refine lv_aload_n S.1 S.2.1 dX4_groupFact_102 rfl (lv_at hl 0 rfl) ?_
              refine cd_get0 (v := .int (cd_g h ((q + 6) + 8 + 7 * (a1.toNatClampNeg)) 4)) S hK hZ (cd_r9 (cd_r4_7 hq) z3) 4 cd_f_X4_117 rfl dX4_groupFact_103 ?_
              refine cd_cNi (As := [.int (cd_g h ((q + 6) + 8 + 7 * (a1.toNatClampNeg)) 4)]) S hK hZ hl.1 (c_X7_bit l G (cd_g h ((q + 6) + 8 + 7 * (a1.toNatClampNeg)) 4) h _ rfl) cd_v_X7_bit (cd_nX4_121 hK.2) ⟨Nat.le_of_ble_eq_true rfl, Nat.le_of_ble_eq_true rfl⟩ ⟨rfl, rfl⟩ rfl rfl (Nat.le_of_ble_eq_true rfl) ⟨Nat.zero_le _, Nat.zero_le _⟩ dX4_groupFact_106 (fun H locs hZ => ?_)
              exact hret _ _ _ _ _ _ (congrArg (fun z => (z, h)) (Option.some.inj E)) hZ dX4_groupFact_109
            · have E := cd_fE c10 E
              refine cd_by (p := a2 = 5) (fun c12 => ?_) (fun c12 => ?_)
              · have E := cd_tE c12 E
                refine cd_tabI (k := 5) (off := 91) (tgt := 110) S.1 S.2.1 dX4_groupFact_19 c12 (by decide +kernel) (by decide) ?_
                refine lv_aload_n S.1 S.2.1 dX4_groupFact_110 rfl (lv_at hl 0 rfl) ?_
                refine cd_get0 (v := .int (cd_g h ((q + 6) + 8 + 7 * (a1.toNatClampNeg)) 6)) S hK hZ (cd_r9 (cd_r4_7 hq) z3) 6 cd_f_X4_188 rfl dX4_groupFact_111 ?_
                exact hret _ _ _ _ _ _ (congrArg (fun z => (z, h)) (Option.some.inj E)) hZ dX4_groupFact_114
              · have E := cd_fE c12 E
                refine cd_by (p := a2 = 6) (fun c13 => ?_) (fun c13 => ?_)
                · have E := cd_tE c13 E
                  refine cd_tabI (k := 6) (off := 96) (tgt := 115) S.1 S.2.1 dX4_groupFact_19 c13 (by decide +kernel) (by decide) ?_
                  refine lv_aload_n S.1 S.2.1 dX4_groupFact_115 rfl (lv_at hl 0 rfl) ?_
                  refine cd_get0 (v := .int (cd_g h ((q + 6) + 8 + 7 * (a1.toNatClampNeg)) 7)) S hK hZ (cd_r9 (cd_r4_7 hq) z3) 7 cd_f_X4_211 rfl dX4_groupFact_116 ?_
                  exact hret _ _ _ _ _ _ (congrArg (fun z => (z, h)) (Option.some.inj E)) hZ dX4_groupFact_119
                · have E := cd_fE c13 E
                  refine cd_by (p := a2 = 7) (fun c14 => ?_) (fun c14 => ?_)
                  · have E := cd_tE c14 E
                    refine cd_tabI (k := 7) (off := 101) (tgt := 120) S.1 S.2.1 dX4_groupFact_19 c14 (by decide +kernel) (by decide) ?_
                    refine lv_aload_n S.1 S.2.1 dX4_groupFact_120 rfl (lv_at hl 0 rfl) ?_
                    refine cd_get0 (v := .int (cd_g h ((q + 6) + 8 + 7 * (a1.toNatClampNeg)) 8)) S hK hZ (cd_r9 (cd_r4_7 hq) z3) 8 cd_f_X4_111 rfl dX4_groupFact_121 ?_
                    exact hret _ _ _ _ _ _ (congrArg (fun z => (z, h)) (Option.some.inj E)) hZ dX4_groupFact_124
                  · have E := cd_fE c14 E
                    refine cd_by (p := a2 = 8) (fun c15 => ?_) (fun c15 => ?_)
                    · have E := cd_tE c15 E
                      refine cd_tabI (k := 8) (off := 106) (tgt := 125) S.1 S.2.1 dX4_groupFact_19 c15 (by decide +kernel) (by decide) ?_
                      refine lv_aload_n S.1 S.2.1 dX4_groupFact_125 rfl (lv_at hl 0 rfl) ?_
                      refine cd_get0 (v := .int (cd_g h ((q + 6) + 8 + 7 * (a1.toNatClampNeg)) 9)) S hK hZ (cd_r9 (cd_r4_7 hq) z3) 9 cd_f_X4_114 rfl dX4_groupFact_126 ?_
                      exact hret _ _ _ _ _ _ (congrArg (fun z => (z, h)) (Option.some.inj E)) hZ dX4_groupFact_129
                    · have E := cd_fE c15 E
                      refine cd_by (p := a2 = 9) (fun c16 => ?_) (fun c16 => ?_)
                      · have E := cd_tE c16 E
                        refine cd_tabI (k := 9) (off := 111) (tgt := 130) S.1 S.2.1 dX4_groupFact_19 c16 (by decide +kernel) (by decide) ?_
                        refine lv_aload_n S.1 S.2.1 dX4_groupFact_130 rfl (lv_at hl 1 rfl) ?_
                        refine lv_iload_n S.1 S.2.1 dX4_groupFact_131 rfl (lv_at hl 2 rfl) ?_
                        obtain ⟨o17, E1, E⟩ := cd_bE E
                        refine cd_cVi (As := [.int a1]) S hK hZ hl.1 (c_X4_placeInLine l G q a1 hq h o17 E1) cd_v_X4_placeInLine cd_m_X4_220 ⟨Nat.le_of_ble_eq_true rfl, Nat.le_of_ble_eq_true rfl⟩ ⟨rfl, rfl⟩ (ci := 4) (by decide) rfl hq rfl rfl (Nat.le_of_ble_eq_true rfl) ⟨Nat.zero_le _, Nat.zero_le _⟩ dX4_groupFact_132 (fun H locs hZ => ?_)
                        exact hret _ _ _ _ _ _ (congrArg (fun z => (z, h)) (Option.some.inj E)) hZ dX4_groupFact_135
                      · have E := cd_fE c16 E
                        refine cd_by (p := a2 = 10) (fun c19 => ?_) (fun c19 => ?_)
                        · have E := cd_tE c19 E
                          refine cd_tabI (k := 10) (off := 117) (tgt := 136) S.1 S.2.1 dX4_groupFact_19 c19 (by decide +kernel) (by decide) ?_
                          refine lv_aload_n S.1 S.2.1 dX4_groupFact_136 rfl (lv_at hl 0 rfl) ?_
                          refine cd_get0 (v := .int (cd_g h ((q + 6) + 8 + 7 * (a1.toNatClampNeg)) 5)) S hK hZ (cd_r9 (cd_r4_7 hq) z3) 5 cd_f_X4_175 rfl dX4_groupFact_137 ?_
                          refine cd_cNi (As := [.int (cd_g h ((q + 6) + 8 + 7 * (a1.toNatClampNeg)) 5)]) S hK hZ hl.1 (c_X7_bit l G (cd_g h ((q + 6) + 8 + 7 * (a1.toNatClampNeg)) 5) h _ rfl) cd_v_X7_bit (cd_nX4_121 hK.2) ⟨Nat.le_of_ble_eq_true rfl, Nat.le_of_ble_eq_true rfl⟩ ⟨rfl, rfl⟩ rfl rfl (Nat.le_of_ble_eq_true rfl) ⟨Nat.zero_le _, Nat.zero_le _⟩ dX4_groupFact_140 (fun H locs hZ => ?_)
                          exact hret _ _ _ _ _ _ (congrArg (fun z => (z, h)) (Option.some.inj E)) hZ dX4_groupFact_143
                        · have E := cd_fE c19 E
                          refine lv_tableOut (tgt := 144) S.1 S.2.1 dX4_groupFact_19 (by have z0 := lv_neT c4 (a := 0) (by decide); have z1 := lv_neT c5 (a := 1) (by decide); have z2 := lv_neT c6 (a := 2) (by decide); have z3 := lv_neT c8 (a := 3) (by decide); have z4 := lv_neT c10 (a := 4) (by decide); have z5 := lv_neT c12 (a := 5) (by decide); have z6 := lv_neT c13 (a := 6) (by decide); have z7 := lv_neT c14 (a := 7) (by decide); have z8 := lv_neT c15 (a := 8) (by decide); have z9 := lv_neT c16 (a := 9) (by decide); have z10 := lv_neT c19 (a := 10) (by decide); omega) (by decide) ?_
                          refine lv_bipush (v := (-2)) S.1 S.2.1 dX4_groupFact_144 (by decide) ?_
                          exact hret _ _ _ _ _ _ (congrArg (fun z => (z, h)) (Option.some.inj E)) hZ dX4_groupFact_146
  · have E := cd_tE c2 E
    refine lv_bipush (v := (-2)) S.1 S.2.1 dX4_groupFact_8 (by decide) ?_
    exact hret _ _ _ _ _ _ (congrArg (fun z => (z, h)) (Option.some.inj E)) hZ dX4_groupFact_10
abbrev rm_X4_eventFact : Room := { frames := 3, cells := 0, slots := 0, locals := 65 }
theorem cd_v_X4_eventFact : cd_V yX4_eventFact cX4_eventFact 4 (some .int) 3 := ⟨cd_i_X4_eventFact, cd_e_X4_X4_eventFact, cd_n_X4, cd_c_X4_eventFact, by decide +kernel⟩
set_option maxHeartbeats 4000000 in
set_option maxRecDepth 100000 in
theorem c_X4_eventFact (l : Launch) (G : cd_G) (q : Nat) (a1 : Int32) (a2 : Int32) (a3 : Int32) (hq : cd_is 4 q) (h : cd_Hp) (out : Int32) (E : f_X4_eventFact q a1 a2 a3 h = some out) : cd_Mi l G yX4_eventFact (Cond.code yX4_eventFact cX4_eventFact 4 (some .int) :: cd_T) rm_X4_eventFact [.ref (G.2.2.2.2 + q), .int a1, .int a2, .int a3] h (out, h) := by
  refine cd_ini (by decide) (Nat.le_of_ble_eq_true rfl) ?_
  intro p e s m args below meth c Q ls H locs S hK hZ hl hret
  have hl : lv_has ls 4 [(0, .ref (G.2.2.2.2 + q)), (1, .int a1), (2, .int a2), (3, .int a3)] := hl
  unfold f_X4_eventFact at E
  refine lv_aload_n S.1 S.2.1 dX4_eventFact_0 rfl (lv_at hl 0 rfl) ?_
  refine lv_iload_n S.1 S.2.1 dX4_eventFact_1 rfl (lv_at hl 1 rfl) ?_
  refine lv_iload_n S.1 S.2.1 dX4_eventFact_2 rfl (lv_at hl 2 rfl) ?_
  obtain ⟨o1, E1, E⟩ := cd_bE E
  refine cd_cVz (As := [.int a1, .int a2]) S hK hZ hl.1 (c_X4_hasEvent l G q a1 a2 hq h o1 E1) cd_v_X4_hasEvent cd_m_X4_223 ⟨Nat.le_of_ble_eq_true rfl, Nat.le_of_ble_eq_true rfl⟩ ⟨rfl, rfl⟩ (ci := 4) (by decide) rfl hq rfl rfl (Nat.le_of_ble_eq_true rfl) ⟨Nat.zero_le _, Nat.zero_le _⟩ dX4_eventFact_3 (fun H locs hZ b2 => ?_)
  refine lv_if_ne (tgt := 12) S.1 S.2.1 dX4_eventFact_6 (by decide) (fun c3 => ?_) (fun c3 => ?_)
  · have E := cd_fE c3 E
    refine lv_iload_n S.1 S.2.1 dX4_eventFact_12 rfl (lv_at hl 3 rfl) ?_
    refine cd_by (p := a3 = 0) (fun c4 => ?_) (fun c4 => ?_)
    · have E := cd_tE c4 E
      refine cd_tabI (k := 0) (off := 27) (tgt := 40) S.1 S.2.1 dX4_eventFact_13 c4 (by decide +kernel) (by decide) ?_
      refine lv_aload_n S.1 S.2.1 dX4_eventFact_40 rfl (lv_at hl 0 rfl) ?_
      refine cd_get4 (v := .ref (G.2.2.2.2 + (q + 6))) S hK hZ hq 7 cd_f_X4_31 rfl dX4_eventFact_41 ?_
      refine lv_iload_n S.1 S.2.1 dX4_eventFact_44 rfl (lv_at hl 1 rfl) ?_
      obtain ⟨z5, E⟩ := cd_ckE E
      refine cd_aald9 S hK hZ (cd_r4_7 hq) z5 dX4_eventFact_45 ?_
      refine cd_get0 (v := .ref (G.2.2.2.2 + (((q + 6) + 8 + 7 * (a1.toNatClampNeg)) + 1))) S hK hZ (cd_r9 (cd_r4_7 hq) z5) 10 cd_f_X4_201 rfl dX4_eventFact_46 ?_
      refine lv_iload_n S.1 S.2.1 dX4_eventFact_49 rfl (lv_at hl 2 rfl) ?_
      obtain ⟨z6, E⟩ := cd_ckE E
      refine cd_iald S hK hZ (cd_r0_10 (cd_r9 (cd_r4_7 hq) z5)) z6 dX4_eventFact_50 ?_
      exact hret _ _ _ _ _ _ (congrArg (fun z => (z, h)) (Option.some.inj E)) hZ dX4_eventFact_51
    · have E := cd_fE c4 E
      refine cd_by (p := a3 = 1) (fun c7 => ?_) (fun c7 => ?_)
      · have E := cd_tE c7 E
        refine cd_tabI (k := 1) (off := 39) (tgt := 52) S.1 S.2.1 dX4_eventFact_13 c7 (by decide +kernel) (by decide) ?_
        refine lv_aload_n S.1 S.2.1 dX4_eventFact_52 rfl (lv_at hl 0 rfl) ?_
        refine cd_get4 (v := .ref (G.2.2.2.2 + (q + 6))) S hK hZ hq 7 cd_f_X4_31 rfl dX4_eventFact_53 ?_
        refine lv_iload_n S.1 S.2.1 dX4_eventFact_56 rfl (lv_at hl 1 rfl) ?_
        obtain ⟨z8, E⟩ := cd_ckE E
        refine cd_aald9 S hK hZ (cd_r4_7 hq) z8 dX4_eventFact_57 ?_
        refine cd_get0 (v := .ref (G.2.2.2.2 + (((q + 6) + 8 + 7 * (a1.toNatClampNeg)) + 2))) S hK hZ (cd_r9 (cd_r4_7 hq) z8) 11 cd_f_X4_225 rfl dX4_eventFact_58 ?_
        refine lv_iload_n S.1 S.2.1 dX4_eventFact_61 rfl (lv_at hl 2 rfl) ?_
        obtain ⟨z9, E⟩ := cd_ckE E
        refine cd_iald S hK hZ (cd_r0_11 (cd_r9 (cd_r4_7 hq) z8)) z9 dX4_eventFact_62 ?_
        exact hret _ _ _ _ _ _ (congrArg (fun z => (z, h)) (Option.some.inj E)) hZ dX4_eventFact_63
      · have E := cd_fE c7 E
        refine cd_by (p := a3 = 2) (fun c10 => ?_) (fun c10 => ?_)
        · have E := cd_tE c10 E
          refine cd_tabI (k := 2) (off := 51) (tgt := 64) S.1 S.2.1 dX4_eventFact_13 c10 (by decide +kernel) (by decide) ?_
          refine lv_aload_n S.1 S.2.1 dX4_eventFact_64 rfl (lv_at hl 0 rfl) ?_
          refine cd_get4 (v := .ref (G.2.2.2.2 + (q + 6))) S hK hZ hq 7 cd_f_X4_31 rfl dX4_eventFact_65 ?_
          refine lv_iload_n S.1 S.2.1 dX4_eventFact_68 rfl (lv_at hl 1 rfl) ?_
          obtain ⟨z11, E⟩ := cd_ckE E
          refine cd_aald9 S hK hZ (cd_r4_7 hq) z11 dX4_eventFact_69 ?_
          refine cd_get0 (v := .ref (G.2.2.2.2 + (((q + 6) + 8 + 7 * (a1.toNatClampNeg)) + 3))) S hK hZ (cd_r9 (cd_r4_7 hq) z11) 12 cd_f_X4_191 rfl dX4_eventFact_70 ?_
          refine lv_iload_n S.1 S.2.1 dX4_eventFact_73 rfl (lv_at hl 2 rfl) ?_
          obtain ⟨z12, E⟩ := cd_ckE E
          refine cd_iald S hK hZ (cd_r0_12 (cd_r9 (cd_r4_7 hq) z11)) z12 dX4_eventFact_74 ?_
          exact hret _ _ _ _ _ _ (congrArg (fun z => (z, h)) (Option.some.inj E)) hZ dX4_eventFact_75
        · have E := cd_fE c10 E
          refine lv_tableOut (tgt := 76) S.1 S.2.1 dX4_eventFact_13 (by have z0 := lv_neT c4 (a := 0) (by decide); have z1 := lv_neT c7 (a := 1) (by decide); have z2 := lv_neT c10 (a := 2) (by decide); omega) (by decide) ?_
          refine lv_bipush (v := (-2)) S.1 S.2.1 dX4_eventFact_76 (by decide) ?_
          exact hret _ _ _ _ _ _ (congrArg (fun z => (z, h)) (Option.some.inj E)) hZ dX4_eventFact_78
  · have E := cd_tE c3 E
    refine lv_bipush (v := (-2)) S.1 S.2.1 dX4_eventFact_9 (by decide) ?_
    exact hret _ _ _ _ _ _ (congrArg (fun z => (z, h)) (Option.some.inj E)) hZ dX4_eventFact_11
abbrev rm_X4_countFact : Room := { frames := 3, cells := 0, slots := 0, locals := 65 }
theorem cd_v_X4_countFact : cd_V yX4_countFact cX4_countFact 4 (some .int) 3 := ⟨cd_i_X4_countFact, cd_e_X4_X4_countFact, cd_n_X4, cd_c_X4_countFact, by decide +kernel⟩
set_option maxHeartbeats 4000000 in
set_option maxRecDepth 100000 in
theorem c_X4_countFact (l : Launch) (G : cd_G) (q : Nat) (a1 : Int32) (a2 : Int32) (a3 : Int32) (hq : cd_is 4 q) (h : cd_Hp) (out : Int32) (E : f_X4_countFact q a1 a2 a3 h = some out) : cd_Mi l G yX4_countFact (Cond.code yX4_countFact cX4_countFact 4 (some .int) :: cd_T) rm_X4_countFact [.ref (G.2.2.2.2 + q), .int a1, .int a2, .int a3] h (out, h) := by
  refine cd_ini (by decide) (Nat.le_of_ble_eq_true rfl) ?_
  intro p e s m args below meth c Q ls H locs S hK hZ hl hret
  have hl : lv_has ls 4 [(0, .ref (G.2.2.2.2 + q)), (1, .int a1), (2, .int a2), (3, .int a3)] := hl
  unfold f_X4_countFact at E
  refine lv_aload_n S.1 S.2.1 dX4_countFact_0 rfl (lv_at hl 0 rfl) ?_
  refine lv_iload_n S.1 S.2.1 dX4_countFact_1 rfl (lv_at hl 1 rfl) ?_
  refine lv_iload_n S.1 S.2.1 dX4_countFact_2 rfl (lv_at hl 2 rfl) ?_
  obtain ⟨o1, E1, E⟩ := cd_bE E
  refine cd_cVz (As := [.int a1, .int a2]) S hK hZ hl.1 (c_X4_hasEvent l G q a1 a2 hq h o1 E1) cd_v_X4_hasEvent cd_m_X4_223 ⟨Nat.le_of_ble_eq_true rfl, Nat.le_of_ble_eq_true rfl⟩ ⟨rfl, rfl⟩ (ci := 4) (by decide) rfl hq rfl rfl (Nat.le_of_ble_eq_true rfl) ⟨Nat.zero_le _, Nat.zero_le _⟩ dX4_countFact_3 (fun H locs hZ b2 => ?_)
  refine lv_if_eq (tgt := 25) S.1 S.2.1 dX4_countFact_6 (by decide) (fun c3 => ?_) (fun c3 => ?_)
  · have E := cd_tE c3 E
    refine lv_bipush (v := (-2)) S.1 S.2.1 dX4_countFact_25 (by decide) ?_
    exact hret _ _ _ _ _ _ (congrArg (fun z => (z, h)) (Option.some.inj E)) hZ dX4_countFact_27
  · have E := cd_fE c3 E
    refine lv_iload_n S.1 S.2.1 dX4_countFact_9 rfl (lv_at hl 3 rfl) ?_
    refine lv_iconst (v := (-1)) S.1 S.2.1 dX4_countFact_10 (by decide) ?_
    refine lv_icmp_eq (tgt := 28) S.1 S.2.1 dX4_countFact_11 (by decide) (fun c4 => ?_) (fun c4 => ?_)
    · have E := cd_tE c4 E
      refine lv_aload_n S.1 S.2.1 dX4_countFact_28 rfl (lv_at hl 0 rfl) ?_
      refine cd_get4 (v := .ref (G.2.2.2.2 + (q + 6))) S hK hZ hq 7 cd_f_X4_31 rfl dX4_countFact_29 ?_
      refine lv_iload_n S.1 S.2.1 dX4_countFact_32 rfl (lv_at hl 1 rfl) ?_
      obtain ⟨z5, E⟩ := cd_ckE E
      refine cd_aald9 S hK hZ (cd_r4_7 hq) z5 dX4_countFact_33 ?_
      refine lv_iload_n S.1 S.2.1 dX4_countFact_34 rfl (lv_at hl 2 rfl) ?_
      refine lv_iload_n S.1 S.2.1 dX4_countFact_35 rfl (lv_at hl 3 rfl) ?_
      obtain ⟨o6, E1, E⟩ := cd_bE E
      refine cd_cVi (As := [.int a2, .int a3]) S hK hZ hl.1 (c_X0_countIn l G ((q + 6) + 8 + 7 * (a1.toNatClampNeg)) a2 a3 (cd_r9 (cd_r4_7 hq) z5) h o6 E1) cd_v_X0_countIn cd_m_X4_228 ⟨Nat.le_of_ble_eq_true rfl, Nat.le_of_ble_eq_true rfl⟩ ⟨rfl, rfl⟩ (ci := 0) (by decide) rfl (cd_r9 (cd_r4_7 hq) z5) rfl rfl (Nat.le_of_ble_eq_true rfl) ⟨Nat.zero_le _, Nat.zero_le _⟩ dX4_countFact_36 (fun H locs hZ => ?_)
      exact hret _ _ _ _ _ _ (congrArg (fun z => (z, h)) (Option.some.inj E)) hZ dX4_countFact_39
    · have E := cd_fE c4 E
      refine lv_aload_n S.1 S.2.1 dX4_countFact_14 rfl (lv_at hl 0 rfl) ?_
      refine cd_get4 (v := .ref (G.2.2.2.2 + (q + 2))) S hK hZ hq 6 cd_f_X4_25 rfl dX4_countFact_15 ?_
      refine lv_iload_n S.1 S.2.1 dX4_countFact_18 rfl (lv_at hl 3 rfl) ?_
      refine cd_cVz (As := [.int a3]) S hK hZ hl.1 (c_X5_has l G (q + 2) a3 (cd_r4_6 hq) h _ rfl) cd_v_X5_has cd_m_X4_84 ⟨Nat.le_of_ble_eq_true rfl, Nat.le_of_ble_eq_true rfl⟩ ⟨rfl, rfl⟩ (ci := 5) (by decide) rfl (cd_r4_6 hq) rfl rfl (Nat.le_of_ble_eq_true rfl) ⟨Nat.zero_le _, Nat.zero_le _⟩ dX4_countFact_19 (fun H locs hZ b8 => ?_)
      refine lv_if_ne (tgt := 28) S.1 S.2.1 dX4_countFact_22 (by decide) (fun c9 => ?_) (fun c9 => ?_)
      · have E := cd_fE c9 E
        refine lv_aload_n S.1 S.2.1 dX4_countFact_28 rfl (lv_at hl 0 rfl) ?_
        refine cd_get4 (v := .ref (G.2.2.2.2 + (q + 6))) S hK hZ hq 7 cd_f_X4_31 rfl dX4_countFact_29 ?_
        refine lv_iload_n S.1 S.2.1 dX4_countFact_32 rfl (lv_at hl 1 rfl) ?_
        obtain ⟨z10, E⟩ := cd_ckE E
        refine cd_aald9 S hK hZ (cd_r4_7 hq) z10 dX4_countFact_33 ?_
        refine lv_iload_n S.1 S.2.1 dX4_countFact_34 rfl (lv_at hl 2 rfl) ?_
        refine lv_iload_n S.1 S.2.1 dX4_countFact_35 rfl (lv_at hl 3 rfl) ?_
        obtain ⟨o11, E1, E⟩ := cd_bE E
        refine cd_cVi (As := [.int a2, .int a3]) S hK hZ hl.1 (c_X0_countIn l G ((q + 6) + 8 + 7 * (a1.toNatClampNeg)) a2 a3 (cd_r9 (cd_r4_7 hq) z10) h o11 E1) cd_v_X0_countIn cd_m_X4_228 ⟨Nat.le_of_ble_eq_true rfl, Nat.le_of_ble_eq_true rfl⟩ ⟨rfl, rfl⟩ (ci := 0) (by decide) rfl (cd_r9 (cd_r4_7 hq) z10) rfl rfl (Nat.le_of_ble_eq_true rfl) ⟨Nat.zero_le _, Nat.zero_le _⟩ dX4_countFact_36 (fun H locs hZ => ?_)
        exact hret _ _ _ _ _ _ (congrArg (fun z => (z, h)) (Option.some.inj E)) hZ dX4_countFact_39
      · have E := cd_tE c9 E
        refine lv_bipush (v := (-2)) S.1 S.2.1 dX4_countFact_25 (by decide) ?_
        exact hret _ _ _ _ _ _ (congrArg (fun z => (z, h)) (Option.some.inj E)) hZ dX4_countFact_27
abbrev rm_X4_timeFact : Room := { frames := 2, cells := 0, slots := 0, locals := 45 }
theorem cd_v_X4_timeFact : cd_V yX4_timeFact cX4_timeFact 4 (some .int) 3 := ⟨cd_i_X4_timeFact, cd_e_X4_X4_timeFact, cd_n_X4, cd_c_X4_timeFact, by decide +kernel⟩
set_option maxHeartbeats 4000000 in
set_option maxRecDepth 100000 in
theorem c_X4_timeFact (l : Launch) (G : cd_G) (q : Nat) (a1 : Int32) (a2 : Int32) (a3 : Int32) (hq : cd_is 4 q) (h : cd_Hp) (out : Int32) (E : f_X4_timeFact q a1 a2 a3 h = some out) : cd_Mi l G yX4_timeFact (Cond.code yX4_timeFact cX4_timeFact 4 (some .int) :: cd_T) rm_X4_timeFact [.ref (G.2.2.2.2 + q), .int a1, .int a2, .int a3] h (out, h) := by
  refine cd_ini (by decide) (Nat.le_of_ble_eq_true rfl) ?_
  intro p e s m args below meth c Q ls H locs S hK hZ hl hret
  have hl : lv_has ls 4 [(0, .ref (G.2.2.2.2 + q)), (1, .int a1), (2, .int a2), (3, .int a3)] := hl
  unfold f_X4_timeFact at E
  refine lv_aload_n S.1 S.2.1 dX4_timeFact_0 rfl (lv_at hl 0 rfl) ?_
  refine lv_iload_n S.1 S.2.1 dX4_timeFact_1 rfl (lv_at hl 1 rfl) ?_
  refine cd_cVz (As := [.int a1]) S hK hZ hl.1 (c_X4_hasGroup l G q a1 hq h _ rfl) cd_v_X4_hasGroup cd_m_X4_77 ⟨Nat.le_of_ble_eq_true rfl, Nat.le_of_ble_eq_true rfl⟩ ⟨rfl, rfl⟩ (ci := 4) (by decide) rfl hq rfl rfl (Nat.le_of_ble_eq_true rfl) ⟨Nat.zero_le _, Nat.zero_le _⟩ dX4_timeFact_2 (fun H locs hZ b1 => ?_)
  refine lv_if_eq (tgt := 33) S.1 S.2.1 dX4_timeFact_5 (by decide) (fun c2 => ?_) (fun c2 => ?_)
  · have E := cd_tE c2 E
    refine lv_bipush (v := (-2)) S.1 S.2.1 dX4_timeFact_33 (by decide) ?_
    exact hret _ _ _ _ _ _ (congrArg (fun z => (z, h)) (Option.some.inj E)) hZ dX4_timeFact_35
  · have E := cd_fE c2 E
    refine lv_iload_n S.1 S.2.1 dX4_timeFact_8 rfl (lv_at hl 2 rfl) ?_
    refine lv_iconst (v := (-1)) S.1 S.2.1 dX4_timeFact_9 (by decide) ?_
    refine lv_icmp_eq (tgt := 24) S.1 S.2.1 dX4_timeFact_10 (by decide) (fun c3 => ?_) (fun c3 => ?_)
    · have E := cd_tE c3 E
      refine lv_iload_n S.1 S.2.1 dX4_timeFact_24 rfl (lv_at hl 3 rfl) ?_
      refine lv_iconst (v := 0) S.1 S.2.1 dX4_timeFact_25 (by decide) ?_
      refine lv_iconst (v := 1) S.1 S.2.1 dX4_timeFact_26 (by decide) ?_
      refine cd_cNz (As := [.int a3, .int 0, .int 1]) S hK hZ hl.1 (c_X7_isWithin l G a3 0 1 h _ rfl) cd_v_X7_isWithin (cd_nX4_73 hK.2) ⟨Nat.le_of_ble_eq_true rfl, Nat.le_of_ble_eq_true rfl⟩ ⟨rfl, rfl⟩ rfl rfl (Nat.le_of_ble_eq_true rfl) ⟨Nat.zero_le _, Nat.zero_le _⟩ dX4_timeFact_27 (fun H locs hZ b4 => ?_)
      refine lv_if_ne (tgt := 36) S.1 S.2.1 dX4_timeFact_30 (by decide) (fun c5 => ?_) (fun c5 => ?_)
      · have E := cd_fE c5 E
        refine lv_iload_n S.1 S.2.1 dX4_timeFact_36 rfl (lv_at hl 3 rfl) ?_
        refine lv_if_ne (tgt := 53) S.1 S.2.1 dX4_timeFact_37 (by decide) (fun c6 => ?_) (fun c6 => ?_)
        · have E := cd_fE c6 E
          refine lv_aload_n S.1 S.2.1 dX4_timeFact_53 rfl (lv_at hl 0 rfl) ?_
          refine cd_get4 (v := .ref (G.2.2.2.2 + (q + 6))) S hK hZ hq 7 cd_f_X4_31 rfl dX4_timeFact_54 ?_
          refine lv_iload_n S.1 S.2.1 dX4_timeFact_57 rfl (lv_at hl 1 rfl) ?_
          obtain ⟨z7, E⟩ := cd_ckE E
          refine cd_aald9 S hK hZ (cd_r4_7 hq) z7 dX4_timeFact_58 ?_
          refine lv_iload_n S.1 S.2.1 dX4_timeFact_59 rfl (lv_at hl 2 rfl) ?_
          obtain ⟨o8, E1, E⟩ := cd_bE E
          refine cd_cVi (As := [.int a2]) S hK hZ hl.1 (c_X0_runningIn l G ((q + 6) + 8 + 7 * (a1.toNatClampNeg)) a2 (cd_r9 (cd_r4_7 hq) z7) h o8 E1) cd_v_X0_runningIn cd_m_X4_234 ⟨Nat.le_of_ble_eq_true rfl, Nat.le_of_ble_eq_true rfl⟩ ⟨rfl, rfl⟩ (ci := 0) (by decide) rfl (cd_r9 (cd_r4_7 hq) z7) rfl rfl (Nat.le_of_ble_eq_true rfl) ⟨Nat.zero_le _, Nat.zero_le _⟩ dX4_timeFact_60 (fun H locs hZ => ?_)
          exact hret _ _ _ _ _ _ (congrArg (fun z => (z, h)) (Option.some.inj E)) hZ dX4_timeFact_63
        · have E := cd_tE c6 E
          refine lv_aload_n S.1 S.2.1 dX4_timeFact_40 rfl (lv_at hl 0 rfl) ?_
          refine cd_get4 (v := .ref (G.2.2.2.2 + (q + 6))) S hK hZ hq 7 cd_f_X4_31 rfl dX4_timeFact_41 ?_
          refine lv_iload_n S.1 S.2.1 dX4_timeFact_44 rfl (lv_at hl 1 rfl) ?_
          obtain ⟨z10, E⟩ := cd_ckE E
          refine cd_aald9 S hK hZ (cd_r4_7 hq) z10 dX4_timeFact_45 ?_
          refine lv_iload_n S.1 S.2.1 dX4_timeFact_46 rfl (lv_at hl 2 rfl) ?_
          obtain ⟨o11, E1, E⟩ := cd_bE E
          refine cd_cVi (As := [.int a2]) S hK hZ hl.1 (c_X0_enabledIn l G ((q + 6) + 8 + 7 * (a1.toNatClampNeg)) a2 (cd_r9 (cd_r4_7 hq) z10) h o11 E1) cd_v_X0_enabledIn cd_m_X4_231 ⟨Nat.le_of_ble_eq_true rfl, Nat.le_of_ble_eq_true rfl⟩ ⟨rfl, rfl⟩ (ci := 0) (by decide) rfl (cd_r9 (cd_r4_7 hq) z10) rfl rfl (Nat.le_of_ble_eq_true rfl) ⟨Nat.zero_le _, Nat.zero_le _⟩ dX4_timeFact_47 (fun H locs hZ => ?_)
          refine lv_goto (tgt := 63) S.1 S.2.1 dX4_timeFact_50 (by decide) ?_
          exact hret _ _ _ _ _ _ (congrArg (fun z => (z, h)) (Option.some.inj E)) hZ dX4_timeFact_63
      · have E := cd_tE c5 E
        refine lv_bipush (v := (-2)) S.1 S.2.1 dX4_timeFact_33 (by decide) ?_
        exact hret _ _ _ _ _ _ (congrArg (fun z => (z, h)) (Option.some.inj E)) hZ dX4_timeFact_35
    · have E := cd_fE c3 E
      refine lv_aload_n S.1 S.2.1 dX4_timeFact_13 rfl (lv_at hl 0 rfl) ?_
      refine cd_get4 (v := .ref (G.2.2.2.2 + (q + 2))) S hK hZ hq 6 cd_f_X4_25 rfl dX4_timeFact_14 ?_
      refine lv_iload_n S.1 S.2.1 dX4_timeFact_17 rfl (lv_at hl 2 rfl) ?_
      refine cd_cVz (As := [.int a2]) S hK hZ hl.1 (c_X5_has l G (q + 2) a2 (cd_r4_6 hq) h _ rfl) cd_v_X5_has cd_m_X4_84 ⟨Nat.le_of_ble_eq_true rfl, Nat.le_of_ble_eq_true rfl⟩ ⟨rfl, rfl⟩ (ci := 5) (by decide) rfl (cd_r4_6 hq) rfl rfl (Nat.le_of_ble_eq_true rfl) ⟨Nat.zero_le _, Nat.zero_le _⟩ dX4_timeFact_18 (fun H locs hZ b13 => ?_)
      refine lv_if_eq (tgt := 33) S.1 S.2.1 dX4_timeFact_21 (by decide) (fun c14 => ?_) (fun c14 => ?_)
      · have E := cd_tE c14 E
        refine lv_bipush (v := (-2)) S.1 S.2.1 dX4_timeFact_33 (by decide) ?_
        exact hret _ _ _ _ _ _ (congrArg (fun z => (z, h)) (Option.some.inj E)) hZ dX4_timeFact_35
      · have E := cd_fE c14 E
        refine lv_iload_n S.1 S.2.1 dX4_timeFact_24 rfl (lv_at hl 3 rfl) ?_
        refine lv_iconst (v := 0) S.1 S.2.1 dX4_timeFact_25 (by decide) ?_
        refine lv_iconst (v := 1) S.1 S.2.1 dX4_timeFact_26 (by decide) ?_
        refine cd_cNz (As := [.int a3, .int 0, .int 1]) S hK hZ hl.1 (c_X7_isWithin l G a3 0 1 h _ rfl) cd_v_X7_isWithin (cd_nX4_73 hK.2) ⟨Nat.le_of_ble_eq_true rfl, Nat.le_of_ble_eq_true rfl⟩ ⟨rfl, rfl⟩ rfl rfl (Nat.le_of_ble_eq_true rfl) ⟨Nat.zero_le _, Nat.zero_le _⟩ dX4_timeFact_27 (fun H locs hZ b15 => ?_)
        refine lv_if_ne (tgt := 36) S.1 S.2.1 dX4_timeFact_30 (by decide) (fun c16 => ?_) (fun c16 => ?_)
        · have E := cd_fE c16 E
          refine lv_iload_n S.1 S.2.1 dX4_timeFact_36 rfl (lv_at hl 3 rfl) ?_
          refine lv_if_ne (tgt := 53) S.1 S.2.1 dX4_timeFact_37 (by decide) (fun c17 => ?_) (fun c17 => ?_)
          · have E := cd_fE c17 E
            refine lv_aload_n S.1 S.2.1 dX4_timeFact_53 rfl (lv_at hl 0 rfl) ?_
            refine cd_get4 (v := .ref (G.2.2.2.2 + (q + 6))) S hK hZ hq 7 cd_f_X4_31 rfl dX4_timeFact_54 ?_
            refine lv_iload_n S.1 S.2.1 dX4_timeFact_57 rfl (lv_at hl 1 rfl) ?_
            obtain ⟨z18, E⟩ := cd_ckE E
            refine cd_aald9 S hK hZ (cd_r4_7 hq) z18 dX4_timeFact_58 ?_
            refine lv_iload_n S.1 S.2.1 dX4_timeFact_59 rfl (lv_at hl 2 rfl) ?_
            obtain ⟨o19, E1, E⟩ := cd_bE E
            refine cd_cVi (As := [.int a2]) S hK hZ hl.1 (c_X0_runningIn l G ((q + 6) + 8 + 7 * (a1.toNatClampNeg)) a2 (cd_r9 (cd_r4_7 hq) z18) h o19 E1) cd_v_X0_runningIn cd_m_X4_234 ⟨Nat.le_of_ble_eq_true rfl, Nat.le_of_ble_eq_true rfl⟩ ⟨rfl, rfl⟩ (ci := 0) (by decide) rfl (cd_r9 (cd_r4_7 hq) z18) rfl rfl (Nat.le_of_ble_eq_true rfl) ⟨Nat.zero_le _, Nat.zero_le _⟩ dX4_timeFact_60 (fun H locs hZ => ?_)
            exact hret _ _ _ _ _ _ (congrArg (fun z => (z, h)) (Option.some.inj E)) hZ dX4_timeFact_63
          · have E := cd_tE c17 E
            refine lv_aload_n S.1 S.2.1 dX4_timeFact_40 rfl (lv_at hl 0 rfl) ?_
            refine cd_get4 (v := .ref (G.2.2.2.2 + (q + 6))) S hK hZ hq 7 cd_f_X4_31 rfl dX4_timeFact_41 ?_
            refine lv_iload_n S.1 S.2.1 dX4_timeFact_44 rfl (lv_at hl 1 rfl) ?_
            obtain ⟨z21, E⟩ := cd_ckE E
            refine cd_aald9 S hK hZ (cd_r4_7 hq) z21 dX4_timeFact_45 ?_
            refine lv_iload_n S.1 S.2.1 dX4_timeFact_46 rfl (lv_at hl 2 rfl) ?_
            obtain ⟨o22, E1, E⟩ := cd_bE E
            refine cd_cVi (As := [.int a2]) S hK hZ hl.1 (c_X0_enabledIn l G ((q + 6) + 8 + 7 * (a1.toNatClampNeg)) a2 (cd_r9 (cd_r4_7 hq) z21) h o22 E1) cd_v_X0_enabledIn cd_m_X4_231 ⟨Nat.le_of_ble_eq_true rfl, Nat.le_of_ble_eq_true rfl⟩ ⟨rfl, rfl⟩ (ci := 0) (by decide) rfl (cd_r9 (cd_r4_7 hq) z21) rfl rfl (Nat.le_of_ble_eq_true rfl) ⟨Nat.zero_le _, Nat.zero_le _⟩ dX4_timeFact_47 (fun H locs hZ => ?_)
            refine lv_goto (tgt := 63) S.1 S.2.1 dX4_timeFact_50 (by decide) ?_
            exact hret _ _ _ _ _ _ (congrArg (fun z => (z, h)) (Option.some.inj E)) hZ dX4_timeFact_63
        · have E := cd_tE c16 E
          refine lv_bipush (v := (-2)) S.1 S.2.1 dX4_timeFact_33 (by decide) ?_
          exact hret _ _ _ _ _ _ (congrArg (fun z => (z, h)) (Option.some.inj E)) hZ dX4_timeFact_35
abbrev rm_X4_scaledFact : Room := { frames := 3, cells := 0, slots := 0, locals := 68 }
theorem cd_v_X4_scaledFact : cd_V yX4_scaledFact cX4_scaledFact 4 (some .int) 3 := ⟨cd_i_X4_scaledFact, cd_e_X4_X4_scaledFact, cd_n_X4, cd_c_X4_scaledFact, by decide +kernel⟩
set_option maxHeartbeats 4000000 in
set_option maxRecDepth 100000 in
theorem c_X4_scaledFact (l : Launch) (G : cd_G) (q : Nat) (a1 : Int32) (a2 : Int32) (a3 : Int32) (hq : cd_is 4 q) (h : cd_Hp) (out : Int32) (E : f_X4_scaledFact q a1 a2 a3 h = some out) : cd_Mi l G yX4_scaledFact (Cond.code yX4_scaledFact cX4_scaledFact 4 (some .int) :: cd_T) rm_X4_scaledFact [.ref (G.2.2.2.2 + q), .int a1, .int a2, .int a3] h (out, h) := by
  refine cd_ini (by decide) (Nat.le_of_ble_eq_true rfl) ?_
  intro p e s m args below meth c Q ls H locs S hK hZ hl hret
  have hl : lv_has ls 4 [(0, .ref (G.2.2.2.2 + q)), (1, .int a1), (2, .int a2), (3, .int a3)] := hl
  unfold f_X4_scaledFact at E
  refine lv_aload_n S.1 S.2.1 dX4_scaledFact_0 rfl (lv_at hl 0 rfl) ?_
  refine lv_iload_n S.1 S.2.1 dX4_scaledFact_1 rfl (lv_at hl 1 rfl) ?_
  refine lv_iload_n S.1 S.2.1 dX4_scaledFact_2 rfl (lv_at hl 2 rfl) ?_
  obtain ⟨o1, E1, E⟩ := cd_bE E
  refine cd_cVz (As := [.int a1, .int a2]) S hK hZ hl.1 (c_X4_hasEvent l G q a1 a2 hq h o1 E1) cd_v_X4_hasEvent cd_m_X4_223 ⟨Nat.le_of_ble_eq_true rfl, Nat.le_of_ble_eq_true rfl⟩ ⟨rfl, rfl⟩ (ci := 4) (by decide) rfl hq rfl rfl (Nat.le_of_ble_eq_true rfl) ⟨Nat.zero_le _, Nat.zero_le _⟩ dX4_scaledFact_3 (fun H locs hZ b2 => ?_)
  refine lv_if_eq (tgt := 18) S.1 S.2.1 dX4_scaledFact_6 (by decide) (fun c3 => ?_) (fun c3 => ?_)
  · have E := cd_tE c3 E
    refine lv_bipush (v := (-2)) S.1 S.2.1 dX4_scaledFact_18 (by decide) ?_
    exact hret _ _ _ _ _ _ (congrArg (fun z => (z, h)) (Option.some.inj E)) hZ dX4_scaledFact_20
  · have E := cd_fE c3 E
    refine lv_iload_n S.1 S.2.1 dX4_scaledFact_9 rfl (lv_at hl 3 rfl) ?_
    refine lv_iconst (v := 0) S.1 S.2.1 dX4_scaledFact_10 (by decide) ?_
    refine lv_iconst (v := 1) S.1 S.2.1 dX4_scaledFact_11 (by decide) ?_
    refine cd_cNz (As := [.int a3, .int 0, .int 1]) S hK hZ hl.1 (c_X7_isWithin l G a3 0 1 h _ rfl) cd_v_X7_isWithin (cd_nX4_73 hK.2) ⟨Nat.le_of_ble_eq_true rfl, Nat.le_of_ble_eq_true rfl⟩ ⟨rfl, rfl⟩ rfl rfl (Nat.le_of_ble_eq_true rfl) ⟨Nat.zero_le _, Nat.zero_le _⟩ dX4_scaledFact_12 (fun H locs hZ b4 => ?_)
    refine lv_if_ne (tgt := 21) S.1 S.2.1 dX4_scaledFact_15 (by decide) (fun c5 => ?_) (fun c5 => ?_)
    · have E := cd_fE c5 E
      refine lv_iload_n S.1 S.2.1 dX4_scaledFact_21 rfl (lv_at hl 3 rfl) ?_
      refine lv_if_ne (tgt := 38) S.1 S.2.1 dX4_scaledFact_22 (by decide) (fun c6 => ?_) (fun c6 => ?_)
      · have E := cd_fE c6 E
        refine lv_aload_n S.1 S.2.1 dX4_scaledFact_38 rfl (lv_at hl 0 rfl) ?_
        refine cd_get4 (v := .ref (G.2.2.2.2 + (q + 6))) S hK hZ hq 7 cd_f_X4_31 rfl dX4_scaledFact_39 ?_
        refine lv_iload_n S.1 S.2.1 dX4_scaledFact_42 rfl (lv_at hl 1 rfl) ?_
        obtain ⟨z7, E⟩ := cd_ckE E
        refine cd_aald9 S hK hZ (cd_r4_7 hq) z7 dX4_scaledFact_43 ?_
        refine lv_iload_n S.1 S.2.1 dX4_scaledFact_44 rfl (lv_at hl 2 rfl) ?_
        obtain ⟨o8, E1, E⟩ := cd_bE E
        refine cd_cVi (As := [.int a2]) S hK hZ hl.1 (c_X0_mostCount l G ((q + 6) + 8 + 7 * (a1.toNatClampNeg)) a2 (cd_r9 (cd_r4_7 hq) z7) h o8 E1) cd_v_X0_mostCount cd_m_X4_240 ⟨Nat.le_of_ble_eq_true rfl, Nat.le_of_ble_eq_true rfl⟩ ⟨rfl, rfl⟩ (ci := 0) (by decide) rfl (cd_r9 (cd_r4_7 hq) z7) rfl rfl (Nat.le_of_ble_eq_true rfl) ⟨Nat.zero_le _, Nat.zero_le _⟩ dX4_scaledFact_45 (fun H locs hZ => ?_)
        exact hret _ _ _ _ _ _ (congrArg (fun z => (z, h)) (Option.some.inj E)) hZ dX4_scaledFact_48
      · have E := cd_tE c6 E
        refine lv_aload_n S.1 S.2.1 dX4_scaledFact_25 rfl (lv_at hl 0 rfl) ?_
        refine cd_get4 (v := .ref (G.2.2.2.2 + (q + 6))) S hK hZ hq 7 cd_f_X4_31 rfl dX4_scaledFact_26 ?_
        refine lv_iload_n S.1 S.2.1 dX4_scaledFact_29 rfl (lv_at hl 1 rfl) ?_
        obtain ⟨z10, E⟩ := cd_ckE E
        refine cd_aald9 S hK hZ (cd_r4_7 hq) z10 dX4_scaledFact_30 ?_
        refine lv_iload_n S.1 S.2.1 dX4_scaledFact_31 rfl (lv_at hl 2 rfl) ?_
        obtain ⟨o11, E1, E⟩ := cd_bE E
        refine cd_cVi (As := [.int a2]) S hK hZ hl.1 (c_X0_scaledCount l G ((q + 6) + 8 + 7 * (a1.toNatClampNeg)) a2 (cd_r9 (cd_r4_7 hq) z10) h o11 E1) cd_v_X0_scaledCount cd_m_X4_237 ⟨Nat.le_of_ble_eq_true rfl, Nat.le_of_ble_eq_true rfl⟩ ⟨rfl, rfl⟩ (ci := 0) (by decide) rfl (cd_r9 (cd_r4_7 hq) z10) rfl rfl (Nat.le_of_ble_eq_true rfl) ⟨Nat.zero_le _, Nat.zero_le _⟩ dX4_scaledFact_32 (fun H locs hZ => ?_)
        refine lv_goto (tgt := 48) S.1 S.2.1 dX4_scaledFact_35 (by decide) ?_
        exact hret _ _ _ _ _ _ (congrArg (fun z => (z, h)) (Option.some.inj E)) hZ dX4_scaledFact_48
    · have E := cd_tE c5 E
      refine lv_bipush (v := (-2)) S.1 S.2.1 dX4_scaledFact_18 (by decide) ?_
      exact hret _ _ _ _ _ _ (congrArg (fun z => (z, h)) (Option.some.inj E)) hZ dX4_scaledFact_20
abbrev rm_X4_fitFact : Room := { frames := 7, cells := 0, slots := 0, locals := 180 }
theorem cd_v_X4_fitFact : cd_V yX4_fitFact cX4_fitFact 3 (some .int) 1 := ⟨cd_i_X4_fitFact, cd_e_X4_X4_fitFact, cd_n_X4, cd_c_X4_fitFact, by decide +kernel⟩
set_option maxHeartbeats 4000000 in
set_option maxRecDepth 100000 in
theorem c_X4_fitFact (l : Launch) (G : cd_G) (q : Nat) (a1 : Int32) (hq : cd_is 4 q) (h : cd_Hp) (out : (Int32 × cd_Hp)) (E : f_X4_fitFact q a1 h = some out) : cd_Mi l G yX4_fitFact (Cond.code yX4_fitFact cX4_fitFact 3 (some .int) :: cd_T) rm_X4_fitFact [.ref (G.2.2.2.2 + q), .int a1] h out := by
  refine cd_ini (by decide) (Nat.le_of_ble_eq_true rfl) ?_
  intro p e s m args below meth c Q ls H locs S hK hZ hl hret
  have hl : lv_has ls 3 [(0, .ref (G.2.2.2.2 + q)), (1, .int a1)] := hl
  have L32 : ∀ (n : Nat) (v32_2 : Int32) (h32_ : cd_Hp) (o : ((Int32 × cd_Hp) ⊕ (Int32 × cd_Hp))) (H : Heap) (locs : List Loc) (ls : Array Slot), cd_lp (f_X4_fitFact_B32 q a1) n (v32_2, h32_) = some o → cd_Z G h32_ s.heap H locs → lv_has ls 3 [(2, .int v32_2), (0, .ref (G.2.2.2.2 + q)), (1, .int a1)] → (∀ x, o = .inl x → x = out) → (∀ st, o = .inr st → ∀ (H : Heap) (locs : List Loc) (ls : Array Slot), cd_Z G st.2 s.heap H locs → lv_has ls 3 [(2, .int st.1), (0, .ref (G.2.2.2.2 + q)), (1, .int a1)] → W p l e rm_X4_fitFact s m args below meth c H locs 0 0 Q (F0 m 76 ls [])) → W p l e rm_X4_fitFact s m args below meth c H locs 0 0 Q (F0 m 32 ls []) := by
    intro n
    induction n with
    | zero => intro v32_2 h32_ o H locs ls E; exact nomatch (show (none : Option ((Int32 × cd_Hp) ⊕ (Int32 × cd_Hp))) = some o from E)
    | succ n ih =>
      intro v32_2 h32_ o H locs ls E hZ hl hin hex
      have E : f_X4_fitFact_B32 q a1 (cd_lp (f_X4_fitFact_B32 q a1) n) (v32_2, h32_) = some o := E
      unfold f_X4_fitFact_B32 at E
      dsimp only at E
      refine lv_iload_n S.1 S.2.1 dX4_fitFact_32 rfl (lv_at hl 0 rfl) ?_
      refine lv_aload_n S.1 S.2.1 dX4_fitFact_33 rfl (lv_at hl 1 rfl) ?_
      refine cd_get4 (v := .int (cd_g h32_ q 3)) S hK hZ hq 3 cd_f_X4_53 rfl dX4_fitFact_34 ?_
      refine lv_icmp_ge (tgt := 76) S.1 S.2.1 dX4_fitFact_37 (by decide) (fun c5 => ?_) (fun c5 => ?_)
      · have E := cd_tE c5 E
        cases E
        exact hex _ rfl H locs ls hZ (lv_sub hl [0, 1, 2] rfl)
      · have E := cd_fE c5 E
        refine lv_iload_n S.1 S.2.1 dX4_fitFact_40 rfl (lv_at hl 2 rfl) ?_
        refine lv_iload_n S.1 S.2.1 dX4_fitFact_41 rfl (lv_at hl 0 rfl) ?_
        refine cd_cSz (As := [.int a1, .int v32_2]) S hK hZ hl.1 (c_X4_isIn l G a1 v32_2 h32_ _ rfl) cd_v_X4_isIn cd_m_X4_168 ⟨Nat.le_of_ble_eq_true rfl, Nat.le_of_ble_eq_true rfl⟩ ⟨rfl, rfl⟩ rfl rfl (Nat.le_of_ble_eq_true rfl) ⟨Nat.zero_le _, Nat.zero_le _⟩ dX4_fitFact_42 (fun H locs hZ b6 => ?_)
        refine lv_if_eq (tgt := 70) S.1 S.2.1 dX4_fitFact_45 (by decide) (fun c7 => ?_) (fun c7 => ?_)
        · have E := cd_tE c7 E
          obtain ⟨x8, ex8, E⟩ := cd_nmE E
          refine lv_iinc (v := x8) (lv' := [(2, .int x8), (0, .ref (G.2.2.2.2 + q)), (1, .int a1)]) S.1 S.2.1 dX4_fitFact_70 hl (k := 0) rfl (by rw [ex8]; rfl) (by decide) rfl (fun ls hl => ?_)
          refine lv_goto (tgt := 32) S.1 S.2.1 dX4_fitFact_73 (by decide) ?_
          exact ih x8 h32_ o H locs ls E hZ (lv_sub hl [0, 1, 2] rfl) hin hex
        · have E := cd_fE c7 E
          refine lv_aload_n S.1 S.2.1 dX4_fitFact_48 rfl (lv_at hl 1 rfl) ?_
          refine cd_get4 (v := .ref (G.2.2.2.2 + 1)) S hK hZ hq 10 cd_f_X4_45 rfl dX4_fitFact_49 ?_
          refine lv_aload_n S.1 S.2.1 dX4_fitFact_52 rfl (lv_at hl 1 rfl) ?_
          refine cd_get4 (v := .ref (G.2.2.2.2 + (q + 6))) S hK hZ hq 7 cd_f_X4_31 rfl dX4_fitFact_53 ?_
          refine lv_iload_n S.1 S.2.1 dX4_fitFact_56 rfl (lv_at hl 0 rfl) ?_
          obtain ⟨z9, E⟩ := cd_ckE E
          refine cd_aald9 S hK hZ (cd_r4_7 hq) z9 dX4_fitFact_57 ?_
          refine lv_aload_n S.1 S.2.1 dX4_fitFact_58 rfl (lv_at hl 1 rfl) ?_
          refine cd_get4 (v := .ref (G.2.2.2.2 + (q + 1))) S hK hZ hq 5 cd_f_X4_18 rfl dX4_fitFact_59 ?_
          obtain ⟨o10, E1, E⟩ := cd_bE E
          refine cd_cVz (As := [.ref (G.2.2.2.2 + ((q + 6) + 8 + 7 * (v32_2.toNatClampNeg))), .ref (G.2.2.2.2 + (q + 1))]) S hK hZ hl.1 (c_X3_take l G 1 ((q + 6) + 8 + 7 * (v32_2.toNatClampNeg)) (q + 1) (cd_r4_10 hq) (cd_r9 (cd_r4_7 hq) z9) ((cd_r4_5 hq)).self h32_ o10 E1) cd_v_X3_take cd_m_X4_171 ⟨Nat.le_of_ble_eq_true rfl, Nat.le_of_ble_eq_true rfl⟩ ⟨rfl, rfl⟩ (ci := 3) (by decide) rfl (cd_r4_10 hq) rfl rfl (Nat.le_of_ble_eq_true rfl) ⟨Nat.zero_le _, Nat.zero_le _⟩ dX4_fitFact_62 (fun H locs hZ b11 => ?_)
          refine lv_if_ne (tgt := 70) S.1 S.2.1 dX4_fitFact_65 (by decide) (fun c12 => ?_) (fun c12 => ?_)
          · have E := cd_fE c12 E
            obtain ⟨x13, ex13, E⟩ := cd_nmE E
            refine lv_iinc (v := x13) (lv' := [(2, .int x13), (0, .ref (G.2.2.2.2 + q)), (1, .int a1)]) S.1 S.2.1 dX4_fitFact_70 hl (k := 0) rfl (by rw [ex13]; rfl) (by decide) rfl (fun ls hl => ?_)
            refine lv_goto (tgt := 32) S.1 S.2.1 dX4_fitFact_73 (by decide) ?_
            exact ih x13 o10.2 o H locs ls E hZ (lv_sub hl [0, 1, 2] rfl) hin hex
          · have E := cd_tE c12 E
            refine lv_iconst (v := 0) S.1 S.2.1 dX4_fitFact_68 (by decide) ?_
            cases E
            exact hret _ _ _ _ _ _ (hin _ rfl) hZ dX4_fitFact_69
  unfold f_X4_fitFact at E
  refine lv_iload_n S.1 S.2.1 dX4_fitFact_0 rfl (lv_at hl 1 rfl) ?_
  refine lv_iconst (v := 0) S.1 S.2.1 dX4_fitFact_1 (by decide) ?_
  refine lv_iconst (v := 1) S.1 S.2.1 dX4_fitFact_2 (by decide) ?_
  refine lv_aload_n S.1 S.2.1 dX4_fitFact_3 rfl (lv_at hl 0 rfl) ?_
  refine cd_get4 (v := .int (cd_g h q 3)) S hK hZ hq 3 cd_f_X4_53 rfl dX4_fitFact_4 ?_
  refine lv_ishl S.1 S.2.1 dX4_fitFact_7 ?_
  refine lv_iconst (v := 1) S.1 S.2.1 dX4_fitFact_8 (by decide) ?_
  refine lv_isub S.1 S.2.1 dX4_fitFact_9 ?_
  refine cd_cNz (As := [.int a1, .int 0, .int ((1 <<< ((cd_g h q 3) &&& 31)) - 1)]) S hK hZ hl.1 (c_X7_isWithin l G a1 0 ((1 <<< ((cd_g h q 3) &&& 31)) - 1) h _ rfl) cd_v_X7_isWithin (cd_nX4_73 hK.2) ⟨Nat.le_of_ble_eq_true rfl, Nat.le_of_ble_eq_true rfl⟩ ⟨rfl, rfl⟩ rfl rfl (Nat.le_of_ble_eq_true rfl) ⟨Nat.zero_le _, Nat.zero_le _⟩ dX4_fitFact_10 (fun H locs hZ b1 => ?_)
  refine lv_if_ne (tgt := 19) S.1 S.2.1 dX4_fitFact_13 (by decide) (fun c2 => ?_) (fun c2 => ?_)
  · have E := cd_fE c2 E
    refine lv_aload_n S.1 S.2.1 dX4_fitFact_19 rfl (lv_at hl 0 rfl) ?_
    refine cd_get4 (v := .ref (G.2.2.2.2 + 1)) S hK hZ hq 10 cd_f_X4_45 rfl dX4_fitFact_20 ?_
    refine lv_aload_n S.1 S.2.1 dX4_fitFact_23 rfl (lv_at hl 0 rfl) ?_
    refine cd_get4 (v := .int (cd_g h q 0)) S hK hZ hq 0 cd_f_X4_9 rfl dX4_fitFact_24 ?_
    obtain ⟨o3, E1, E⟩ := cd_nmE E
    refine cd_cVv (As := [.int (cd_g h q 0)]) S hK hZ hl.1 (c_X3_open l G 1 (cd_g h q 0) (cd_r4_10 hq) h o3 E1.symm) cd_v_X3_open cd_m_X4_157 ⟨Nat.le_of_ble_eq_true rfl, Nat.le_of_ble_eq_true rfl⟩ ⟨rfl, rfl⟩ (ci := 3) (by decide) rfl (cd_r4_10 hq) rfl rfl (Nat.le_of_ble_eq_true rfl) ⟨Nat.zero_le _, Nat.zero_le _⟩ dX4_fitFact_27 (fun H locs hZ => ?_)
    refine lv_iconst (v := 0) S.1 S.2.1 dX4_fitFact_30 (by decide) ?_
    refine lv_istore_n (lv' := [(2, .int 0), (0, .ref (G.2.2.2.2 + q)), (1, .int a1)]) S.1 S.2.1 dX4_fitFact_31 rfl hl (by decide) rfl (fun ls hl => ?_)
    obtain ⟨o14, E1, EL, ER⟩ := cd_b2E E
    refine L32 cd_fu 0 o3 o14 H locs ls E1 hZ (lv_sub hl [0, 1, 2] rfl) EL (fun st15 hst H locs ls hZ hl => ?_)
    have E := ER st15 hst
    refine lv_iconst (v := 1) S.1 S.2.1 dX4_fitFact_76 (by decide) ?_
    exact hret _ _ _ _ _ _ (Option.some.inj E) hZ dX4_fitFact_77
  · have E := cd_tE c2 E
    refine lv_bipush (v := (-2)) S.1 S.2.1 dX4_fitFact_16 (by decide) ?_
    exact hret _ _ _ _ _ _ (Option.some.inj E) hZ dX4_fitFact_18
abbrev rm_X4_queueFact : Room := { frames := 0, cells := 0, slots := 0, locals := 0 }
theorem cd_v_X4_queueFact : cd_V yX4_queueFact cX4_queueFact 2 (some .int) 1 := ⟨cd_i_X4_queueFact, cd_e_X4_X4_queueFact, cd_n_X4, cd_c_X4_queueFact, by decide +kernel⟩
set_option maxHeartbeats 4000000 in
set_option maxRecDepth 100000 in
theorem c_X4_queueFact (l : Launch) (G : cd_G) (q : Nat) (a1 : Int32) (hq : cd_is 4 q) (h : cd_Hp) (out : Int32) (E : f_X4_queueFact q a1 h = some out) : cd_Mi l G yX4_queueFact (Cond.code yX4_queueFact cX4_queueFact 2 (some .int) :: cd_T) rm_X4_queueFact [.ref (G.2.2.2.2 + q), .int a1] h (out, h) := by
  refine cd_ini (by decide) (Nat.le_of_ble_eq_true rfl) ?_
  intro p e s m args below meth c Q ls H locs S hK hZ hl hret
  have hl : lv_has ls 2 [(0, .ref (G.2.2.2.2 + q)), (1, .int a1)] := hl
  unfold f_X4_queueFact at E
  refine lv_iload_n S.1 S.2.1 dX4_queueFact_0 rfl (lv_at hl 1 rfl) ?_
  refine lv_if_ge (tgt := 7) S.1 S.2.1 dX4_queueFact_1 (by decide) (fun c1 => ?_) (fun c1 => ?_)
  · have E := cd_tE c1 E
    refine lv_iload_n S.1 S.2.1 dX4_queueFact_7 rfl (lv_at hl 1 rfl) ?_
    refine lv_aload_n S.1 S.2.1 dX4_queueFact_8 rfl (lv_at hl 0 rfl) ?_
    refine cd_get4 (v := .int (cd_g h q 4)) S hK hZ hq 4 cd_f_X4_56 rfl dX4_queueFact_9 ?_
    refine lv_icmp_ge (tgt := 24) S.1 S.2.1 dX4_queueFact_12 (by decide) (fun c2 => ?_) (fun c2 => ?_)
    · have E := cd_tE c2 E
      refine lv_iconst (v := (-1)) S.1 S.2.1 dX4_queueFact_24 (by decide) ?_
      exact hret _ _ _ _ _ _ (congrArg (fun z => (z, h)) (Option.some.inj E)) hZ dX4_queueFact_25
    · have E := cd_fE c2 E
      refine lv_aload_n S.1 S.2.1 dX4_queueFact_15 rfl (lv_at hl 0 rfl) ?_
      refine cd_get4 (v := .ref (G.2.2.2.2 + (q + 7))) S hK hZ hq 8 cd_f_X4_35 rfl dX4_queueFact_16 ?_
      refine lv_iload_n S.1 S.2.1 dX4_queueFact_19 rfl (lv_at hl 1 rfl) ?_
      obtain ⟨z3, E⟩ := cd_ckE E
      refine cd_iald S hK hZ (cd_r4_8 hq) z3 dX4_queueFact_20 ?_
      refine lv_goto (tgt := 25) S.1 S.2.1 dX4_queueFact_21 (by decide) ?_
      exact hret _ _ _ _ _ _ (congrArg (fun z => (z, h)) (Option.some.inj E)) hZ dX4_queueFact_25
  · have E := cd_fE c1 E
    refine lv_bipush (v := (-2)) S.1 S.2.1 dX4_queueFact_4 (by decide) ?_
    exact hret _ _ _ _ _ _ (congrArg (fun z => (z, h)) (Option.some.inj E)) hZ dX4_queueFact_6
abbrev rm_X4_groupsOn : Room := { frames := 1, cells := 0, slots := 0, locals := 20 }
theorem cd_v_X4_groupsOn : cd_V yX4_groupsOn cX4_groupsOn 3 (some .int) 0 := ⟨cd_i_X4_groupsOn, cd_e_X4_X4_groupsOn, cd_n_X4, cd_c_X4_groupsOn, by decide +kernel⟩
set_option maxHeartbeats 4000000 in
set_option maxRecDepth 100000 in
theorem c_X4_groupsOn (l : Launch) (G : cd_G) (q : Nat) (hq : cd_is 4 q) (h : cd_Hp) (out : Int32) (E : f_X4_groupsOn q h = some out) : cd_Mi l G yX4_groupsOn (Cond.code yX4_groupsOn cX4_groupsOn 3 (some .int) :: cd_T) rm_X4_groupsOn [.ref (G.2.2.2.2 + q)] h (out, h) := by
  refine cd_ini (by decide) (Nat.le_of_ble_eq_true rfl) ?_
  intro p e s m args below meth c Q ls H locs S hK hZ hl hret
  have hl : lv_has ls 3 [(0, .ref (G.2.2.2.2 + q))] := hl
  have L4 : ∀ (n : Nat) (v4_1 : Int32) (v4_2 : Int32) (o : (Int32 × Int32)) (H : Heap) (locs : List Loc) (ls : Array Slot), cd_lp (f_X4_groupsOn_B4 q h) n (v4_1, v4_2) = some o → cd_Z G h s.heap H locs → lv_has ls 3 [(2, .int v4_2), (1, .int v4_1), (0, .ref (G.2.2.2.2 + q))] → (∀ (H : Heap) (locs : List Loc) (ls : Array Slot), cd_Z G h s.heap H locs → lv_has ls 3 [(2, .int o.2), (1, .int o.1), (0, .ref (G.2.2.2.2 + q))] → W p l e rm_X4_groupsOn s m args below meth c H locs 0 0 Q (F0 m 35 ls [])) → W p l e rm_X4_groupsOn s m args below meth c H locs 0 0 Q (F0 m 4 ls []) := by
    intro n
    induction n with
    | zero => intro v4_1 v4_2 o H locs ls E; exact nomatch (show (none : Option (Int32 × Int32)) = some o from E)
    | succ n ih =>
      intro v4_1 v4_2 o H locs ls E hZ hl hex
      have E : f_X4_groupsOn_B4 q h (cd_lp (f_X4_groupsOn_B4 q h) n) (v4_1, v4_2) = some o := E
      unfold f_X4_groupsOn_B4 at E
      dsimp only at E
      refine lv_iload_n S.1 S.2.1 dX4_groupsOn_4 rfl (lv_at hl 0 rfl) ?_
      refine lv_aload_n S.1 S.2.1 dX4_groupsOn_5 rfl (lv_at hl 2 rfl) ?_
      refine cd_get4 (v := .int (cd_g h q 3)) S hK hZ hq 3 cd_f_X4_53 rfl dX4_groupsOn_6 ?_
      refine lv_icmp_ge (tgt := 35) S.1 S.2.1 dX4_groupsOn_9 (by decide) (fun c1 => ?_) (fun c1 => ?_)
      · have E := cd_tE c1 E
        cases E
        exact hex H locs ls hZ (lv_sub hl [0, 1, 2] rfl)
      · have E := cd_fE c1 E
        refine lv_iload_n S.1 S.2.1 dX4_groupsOn_12 rfl (lv_at hl 1 rfl) ?_
        refine lv_aload_n S.1 S.2.1 dX4_groupsOn_13 rfl (lv_at hl 2 rfl) ?_
        refine cd_get4 (v := .ref (G.2.2.2.2 + (q + 6))) S hK hZ hq 7 cd_f_X4_31 rfl dX4_groupsOn_14 ?_
        refine lv_iload_n S.1 S.2.1 dX4_groupsOn_17 rfl (lv_at hl 0 rfl) ?_
        obtain ⟨z2, E⟩ := cd_ckE E
        refine cd_aald9 S hK hZ (cd_r4_7 hq) z2 dX4_groupsOn_18 ?_
        refine cd_get0 (v := .int (cd_g h ((q + 6) + 8 + 7 * (v4_2.toNatClampNeg)) 5)) S hK hZ (cd_r9 (cd_r4_7 hq) z2) 5 cd_f_X4_175 rfl dX4_groupsOn_19 ?_
        refine cd_cNi (As := [.int (cd_g h ((q + 6) + 8 + 7 * (v4_2.toNatClampNeg)) 5)]) S hK hZ hl.1 (c_X7_bit l G (cd_g h ((q + 6) + 8 + 7 * (v4_2.toNatClampNeg)) 5) h _ rfl) cd_v_X7_bit (cd_nX4_121 hK.2) ⟨Nat.le_of_ble_eq_true rfl, Nat.le_of_ble_eq_true rfl⟩ ⟨rfl, rfl⟩ rfl rfl (Nat.le_of_ble_eq_true rfl) ⟨Nat.zero_le _, Nat.zero_le _⟩ dX4_groupsOn_22 (fun H locs hZ => ?_)
        refine lv_iload_n S.1 S.2.1 dX4_groupsOn_25 rfl (lv_at hl 0 rfl) ?_
        refine lv_ishl S.1 S.2.1 dX4_groupsOn_26 ?_
        refine lv_ior S.1 S.2.1 dX4_groupsOn_27 ?_
        obtain ⟨x4, ex4, E⟩ := cd_nmE E
        refine cd_topi ex4 ?_
        refine lv_istore_n (lv' := [(1, .int x4), (2, .int v4_2), (0, .ref (G.2.2.2.2 + q))]) S.1 S.2.1 dX4_groupsOn_28 rfl hl (by decide) rfl (fun ls hl => ?_)
        obtain ⟨x5, ex5, E⟩ := cd_nmE E
        refine lv_iinc (v := x5) (lv' := [(2, .int x5), (1, .int x4), (0, .ref (G.2.2.2.2 + q))]) S.1 S.2.1 dX4_groupsOn_29 hl (k := 1) rfl (by rw [ex5]; rfl) (by decide) rfl (fun ls hl => ?_)
        refine lv_goto (tgt := 4) S.1 S.2.1 dX4_groupsOn_32 (by decide) ?_
        exact ih x4 x5 o H locs ls E hZ (lv_sub hl [0, 1, 2] rfl) hex
  unfold f_X4_groupsOn at E
  refine lv_iconst (v := 0) S.1 S.2.1 dX4_groupsOn_0 (by decide) ?_
  refine lv_istore_n (lv' := [(1, .int 0), (0, .ref (G.2.2.2.2 + q))]) S.1 S.2.1 dX4_groupsOn_1 rfl hl (by decide) rfl (fun ls hl => ?_)
  refine lv_iconst (v := 0) S.1 S.2.1 dX4_groupsOn_2 (by decide) ?_
  refine lv_istore_n (lv' := [(2, .int 0), (1, .int 0), (0, .ref (G.2.2.2.2 + q))]) S.1 S.2.1 dX4_groupsOn_3 rfl hl (by decide) rfl (fun ls hl => ?_)
  obtain ⟨o6, E1, E⟩ := cd_bE E
  refine L4 cd_fu 0 0 o6 H locs ls E1 hZ (lv_sub hl [0, 1, 2] rfl) (fun H locs ls hZ hl => ?_)
  refine lv_iload_n S.1 S.2.1 dX4_groupsOn_35 rfl (lv_at hl 1 rfl) ?_
  exact hret _ _ _ _ _ _ (congrArg (fun z => (z, h)) (Option.some.inj E)) hZ dX4_groupsOn_36
abbrev rm_X4_wholeFact : Room := { frames := 2, cells := 0, slots := 0, locals := 42 }
theorem cd_v_X4_wholeFact : cd_V yX4_wholeFact cX4_wholeFact 2 (some .int) 1 := ⟨cd_i_X4_wholeFact, cd_e_X4_X4_wholeFact, cd_n_X4, cd_c_X4_wholeFact, by decide +kernel⟩
set_option maxHeartbeats 4000000 in
set_option maxRecDepth 100000 in
theorem c_X4_wholeFact (l : Launch) (G : cd_G) (q : Nat) (a1 : Int32) (hq : cd_is 4 q) (h : cd_Hp) (out : Int32) (E : f_X4_wholeFact q a1 h = some out) : cd_Mi l G yX4_wholeFact (Cond.code yX4_wholeFact cX4_wholeFact 2 (some .int) :: cd_T) rm_X4_wholeFact [.ref (G.2.2.2.2 + q), .int a1] h (out, h) := by
  refine cd_ini (by decide) (Nat.le_of_ble_eq_true rfl) ?_
  intro p e s m args below meth c Q ls H locs S hK hZ hl hret
  have hl : lv_has ls 2 [(0, .ref (G.2.2.2.2 + q)), (1, .int a1)] := hl
  unfold f_X4_wholeFact at E
  refine lv_iload_n S.1 S.2.1 dX4_wholeFact_0 rfl (lv_at hl 1 rfl) ?_
  refine cd_by (p := a1 = 0) (fun c1 => ?_) (fun c1 => ?_)
  · have E := cd_tE c1 E
    refine cd_tabI (k := 0) (off := 51) (tgt := 52) S.1 S.2.1 dX4_wholeFact_1 c1 (by decide +kernel) (by decide) ?_
    refine lv_aload_n S.1 S.2.1 dX4_wholeFact_52 rfl (lv_at hl 0 rfl) ?_
    refine cd_get4 (v := .int (cd_g h q 0)) S hK hZ hq 0 cd_f_X4_9 rfl dX4_wholeFact_53 ?_
    exact hret _ _ _ _ _ _ (congrArg (fun z => (z, h)) (Option.some.inj E)) hZ dX4_wholeFact_56
  · have E := cd_fE c1 E
    refine cd_by (p := a1 = 1) (fun c2 => ?_) (fun c2 => ?_)
    · have E := cd_tE c2 E
      refine cd_tabI (k := 1) (off := 56) (tgt := 57) S.1 S.2.1 dX4_wholeFact_1 c2 (by decide +kernel) (by decide) ?_
      refine lv_aload_n S.1 S.2.1 dX4_wholeFact_57 rfl (lv_at hl 0 rfl) ?_
      refine cd_get4 (v := .ref (G.2.2.2.2 + (q + 2))) S hK hZ hq 6 cd_f_X4_25 rfl dX4_wholeFact_58 ?_
      refine cd_get5 (v := .int (cd_g h (q + 2) 0)) S hK hZ (cd_r4_6 hq) 0 cd_f_X4_243 rfl dX4_wholeFact_61 ?_
      exact hret _ _ _ _ _ _ (congrArg (fun z => (z, h)) (Option.some.inj E)) hZ dX4_wholeFact_64
    · have E := cd_fE c2 E
      refine cd_by (p := a1 = 2) (fun c3 => ?_) (fun c3 => ?_)
      · have E := cd_tE c3 E
        refine cd_tabI (k := 2) (off := 64) (tgt := 65) S.1 S.2.1 dX4_wholeFact_1 c3 (by decide +kernel) (by decide) ?_
        refine lv_aload_n S.1 S.2.1 dX4_wholeFact_65 rfl (lv_at hl 0 rfl) ?_
        refine cd_get4 (v := .int (cd_g h q 3)) S hK hZ hq 3 cd_f_X4_53 rfl dX4_wholeFact_66 ?_
        exact hret _ _ _ _ _ _ (congrArg (fun z => (z, h)) (Option.some.inj E)) hZ dX4_wholeFact_69
      · have E := cd_fE c3 E
        refine cd_by (p := a1 = 3) (fun c4 => ?_) (fun c4 => ?_)
        · have E := cd_tE c4 E
          refine cd_tabI (k := 3) (off := 69) (tgt := 70) S.1 S.2.1 dX4_wholeFact_1 c4 (by decide +kernel) (by decide) ?_
          refine lv_aload_n S.1 S.2.1 dX4_wholeFact_70 rfl (lv_at hl 0 rfl) ?_
          refine cd_get4 (v := .int (cd_g h q 2)) S hK hZ hq 2 cd_f_X4_50 rfl dX4_wholeFact_71 ?_
          exact hret _ _ _ _ _ _ (congrArg (fun z => (z, h)) (Option.some.inj E)) hZ dX4_wholeFact_74
        · have E := cd_fE c4 E
          refine cd_by (p := a1 = 4) (fun c5 => ?_) (fun c5 => ?_)
          · have E := cd_tE c5 E
            refine cd_tabI (k := 4) (off := 74) (tgt := 75) S.1 S.2.1 dX4_wholeFact_1 c5 (by decide +kernel) (by decide) ?_
            refine lv_aload_n S.1 S.2.1 dX4_wholeFact_75 rfl (lv_at hl 0 rfl) ?_
            refine cd_get4 (v := .ref (G.2.2.2.2 + (q + 8))) S hK hZ hq 9 cd_f_X4_41 rfl dX4_wholeFact_76 ?_
            refine cd_get2 (v := .int (cd_g h (q + 8) 1)) S hK hZ (cd_r4_9 hq) 1 cd_f_X4_244 rfl dX4_wholeFact_79 ?_
            exact hret _ _ _ _ _ _ (congrArg (fun z => (z, h)) (Option.some.inj E)) hZ dX4_wholeFact_82
          · have E := cd_fE c5 E
            refine cd_by (p := a1 = 5) (fun c6 => ?_) (fun c6 => ?_)
            · have E := cd_tE c6 E
              refine cd_tabI (k := 5) (off := 82) (tgt := 83) S.1 S.2.1 dX4_wholeFact_1 c6 (by decide +kernel) (by decide) ?_
              refine lv_aload_n S.1 S.2.1 dX4_wholeFact_83 rfl (lv_at hl 0 rfl) ?_
              refine cd_get4 (v := .ref (G.2.2.2.2 + (q + 8))) S hK hZ hq 9 cd_f_X4_41 rfl dX4_wholeFact_84 ?_
              refine cd_get2 (v := .int (cd_g h (q + 8) 0)) S hK hZ (cd_r4_9 hq) 0 cd_f_X4_247 rfl dX4_wholeFact_87 ?_
              exact hret _ _ _ _ _ _ (congrArg (fun z => (z, h)) (Option.some.inj E)) hZ dX4_wholeFact_90
            · have E := cd_fE c6 E
              refine cd_by (p := a1 = 6) (fun c7 => ?_) (fun c7 => ?_)
              · have E := cd_tE c7 E
                refine cd_tabI (k := 6) (off := 90) (tgt := 91) S.1 S.2.1 dX4_wholeFact_1 c7 (by decide +kernel) (by decide) ?_
                refine lv_aload_n S.1 S.2.1 dX4_wholeFact_91 rfl (lv_at hl 0 rfl) ?_
                refine cd_get4 (v := .ref (G.2.2.2.2 + (q + 8))) S hK hZ hq 9 cd_f_X4_41 rfl dX4_wholeFact_92 ?_
                refine cd_get2 (v := .int (cd_g h (q + 8) 2)) S hK hZ (cd_r4_9 hq) 2 cd_f_X4_250 rfl dX4_wholeFact_95 ?_
                exact hret _ _ _ _ _ _ (congrArg (fun z => (z, h)) (Option.some.inj E)) hZ dX4_wholeFact_98
              · have E := cd_fE c7 E
                refine cd_by (p := a1 = 7) (fun c8 => ?_) (fun c8 => ?_)
                · have E := cd_tE c8 E
                  refine cd_tabI (k := 7) (off := 98) (tgt := 99) S.1 S.2.1 dX4_wholeFact_1 c8 (by decide +kernel) (by decide) ?_
                  refine lv_aload_n S.1 S.2.1 dX4_wholeFact_99 rfl (lv_at hl 0 rfl) ?_
                  obtain ⟨o9, E1, E⟩ := cd_bE E
                  refine cd_cVi (As := []) S hK hZ hl.1 (c_X4_groupsOn l G q hq h o9 E1) cd_v_X4_groupsOn cd_m_X4_253 ⟨Nat.le_of_ble_eq_true rfl, Nat.le_of_ble_eq_true rfl⟩ ⟨rfl, rfl⟩ (ci := 4) (by decide) rfl hq rfl rfl (Nat.le_of_ble_eq_true rfl) ⟨Nat.zero_le _, Nat.zero_le _⟩ dX4_wholeFact_100 (fun H locs hZ => ?_)
                  exact hret _ _ _ _ _ _ (congrArg (fun z => (z, h)) (Option.some.inj E)) hZ dX4_wholeFact_103
                · have E := cd_fE c8 E
                  refine cd_by (p := a1 = 8) (fun c11 => ?_) (fun c11 => ?_)
                  · have E := cd_tE c11 E
                    refine cd_tabI (k := 8) (off := 103) (tgt := 104) S.1 S.2.1 dX4_wholeFact_1 c11 (by decide +kernel) (by decide) ?_
                    refine lv_aload_n S.1 S.2.1 dX4_wholeFact_104 rfl (lv_at hl 0 rfl) ?_
                    refine cd_get4 (v := .int (cd_g h q 1)) S hK hZ hq 1 cd_f_X4_15 rfl dX4_wholeFact_105 ?_
                    exact hret _ _ _ _ _ _ (congrArg (fun z => (z, h)) (Option.some.inj E)) hZ dX4_wholeFact_108
                  · have E := cd_fE c11 E
                    refine lv_tableOut (tgt := 109) S.1 S.2.1 dX4_wholeFact_1 (by have z0 := lv_neT c1 (a := 0) (by decide); have z1 := lv_neT c2 (a := 1) (by decide); have z2 := lv_neT c3 (a := 2) (by decide); have z3 := lv_neT c4 (a := 3) (by decide); have z4 := lv_neT c5 (a := 4) (by decide); have z5 := lv_neT c6 (a := 5) (by decide); have z6 := lv_neT c7 (a := 6) (by decide); have z7 := lv_neT c8 (a := 7) (by decide); have z8 := lv_neT c11 (a := 8) (by decide); omega) (by decide) ?_
                    refine lv_bipush (v := (-2)) S.1 S.2.1 dX4_wholeFact_109 (by decide) ?_
                    exact hret _ _ _ _ _ _ (congrArg (fun z => (z, h)) (Option.some.inj E)) hZ dX4_wholeFact_111
abbrev rm_X5_putRate : Room := { frames := 2, cells := 0, slots := 0, locals := 43 }
theorem cd_v_X5_putRate : cd_V yX5_putRate cX5_putRate 5 (some .int) 3 := ⟨cd_i_X5_putRate, cd_e_X5_X5_putRate, cd_n_X5, cd_c_X5_putRate, by decide +kernel⟩
set_option maxHeartbeats 4000000 in
set_option maxRecDepth 100000 in
theorem c_X5_putRate (l : Launch) (G : cd_G) (q : Nat) (a1 : Int32) (a2 : Int32) (a3 : Int32) (hq : cd_is 5 q) (h : cd_Hp) (out : (Int32 × cd_Hp)) (E : f_X5_putRate q a1 a2 a3 h = some out) : cd_Mi l G yX5_putRate (Cond.code yX5_putRate cX5_putRate 5 (some .int) :: cd_T) rm_X5_putRate [.ref (G.2.2.2.2 + q), .int a1, .int a2, .int a3] h out := by
  refine cd_ini (by decide) (Nat.le_of_ble_eq_true rfl) ?_
  intro p e s m args below meth c Q ls H locs S hK hZ hl hret
  have hl : lv_has ls 5 [(0, .ref (G.2.2.2.2 + q)), (1, .int a1), (2, .int a2), (3, .int a3)] := hl
  unfold f_X5_putRate at E
  refine lv_aload_n S.1 S.2.1 dX5_putRate_0 rfl (lv_at hl 0 rfl) ?_
  refine lv_iload_n S.1 S.2.1 dX5_putRate_1 rfl (lv_at hl 1 rfl) ?_
  refine cd_cVz (As := [.int a1]) S hK hZ hl.1 (c_X5_has l G q a1 hq h _ rfl) cd_v_X5_has cd_m_X5_33 ⟨Nat.le_of_ble_eq_true rfl, Nat.le_of_ble_eq_true rfl⟩ ⟨rfl, rfl⟩ (ci := 5) (by decide) rfl hq rfl rfl (Nat.le_of_ble_eq_true rfl) ⟨Nat.zero_le _, Nat.zero_le _⟩ dX5_putRate_2 (fun H locs hZ b1 => ?_)
  refine lv_if_eq (tgt := 28) S.1 S.2.1 dX5_putRate_5 (by decide) (fun c2 => ?_) (fun c2 => ?_)
  · have E := cd_tE c2 E
    refine lv_bipush (v := (-2)) S.1 S.2.1 dX5_putRate_28 (by decide) ?_
    exact hret _ _ _ _ _ _ (Option.some.inj E) hZ dX5_putRate_30
  · have E := cd_fE c2 E
    refine lv_iload_n S.1 S.2.1 dX5_putRate_8 rfl (lv_at hl 2 rfl) ?_
    refine lv_iconst (v := 0) S.1 S.2.1 dX5_putRate_9 (by decide) ?_
    refine lv_bipush (v := 7) S.1 S.2.1 dX5_putRate_10 (by decide) ?_
    refine cd_cNz (As := [.int a2, .int 0, .int 7]) S hK hZ hl.1 (c_X7_isWithin l G a2 0 7 h _ rfl) cd_v_X7_isWithin (cd_nX5_29 hK.2) ⟨Nat.le_of_ble_eq_true rfl, Nat.le_of_ble_eq_true rfl⟩ ⟨rfl, rfl⟩ rfl rfl (Nat.le_of_ble_eq_true rfl) ⟨Nat.zero_le _, Nat.zero_le _⟩ dX5_putRate_12 (fun H locs hZ b3 => ?_)
    refine lv_if_eq (tgt := 28) S.1 S.2.1 dX5_putRate_15 (by decide) (fun c4 => ?_) (fun c4 => ?_)
    · have E := cd_tE c4 E
      refine lv_bipush (v := (-2)) S.1 S.2.1 dX5_putRate_28 (by decide) ?_
      exact hret _ _ _ _ _ _ (Option.some.inj E) hZ dX5_putRate_30
    · have E := cd_fE c4 E
      refine lv_iload_n S.1 S.2.1 dX5_putRate_18 rfl (lv_at hl 3 rfl) ?_
      refine lv_iconst (v := 0) S.1 S.2.1 dX5_putRate_19 (by decide) ?_
      refine lv_bipush (v := 99) S.1 S.2.1 dX5_putRate_20 (by decide) ?_
      refine cd_cNz (As := [.int a3, .int 0, .int 99]) S hK hZ hl.1 (c_X7_isWithin l G a3 0 99 h _ rfl) cd_v_X7_isWithin (cd_nX5_29 hK.2) ⟨Nat.le_of_ble_eq_true rfl, Nat.le_of_ble_eq_true rfl⟩ ⟨rfl, rfl⟩ rfl rfl (Nat.le_of_ble_eq_true rfl) ⟨Nat.zero_le _, Nat.zero_le _⟩ dX5_putRate_22 (fun H locs hZ b5 => ?_)
      refine lv_if_ne (tgt := 31) S.1 S.2.1 dX5_putRate_25 (by decide) (fun c6 => ?_) (fun c6 => ?_)
      · have E := cd_fE c6 E
        refine lv_aload_n S.1 S.2.1 dX5_putRate_31 rfl (lv_at hl 0 rfl) ?_
        refine lv_iload_n S.1 S.2.1 dX5_putRate_32 rfl (lv_at hl 1 rfl) ?_
        refine lv_iload_n S.1 S.2.1 dX5_putRate_33 rfl (lv_at hl 2 rfl) ?_
        obtain ⟨o7, E1, E⟩ := cd_bE E
        refine cd_cVi (As := [.int a1, .int a2]) S hK hZ hl.1 (c_X5_rateOf l G q a1 a2 hq h o7 E1) cd_v_X5_rateOf cd_m_X5_37 ⟨Nat.le_of_ble_eq_true rfl, Nat.le_of_ble_eq_true rfl⟩ ⟨rfl, rfl⟩ (ci := 5) (by decide) rfl hq rfl rfl (Nat.le_of_ble_eq_true rfl) ⟨Nat.zero_le _, Nat.zero_le _⟩ dX5_putRate_34 (fun H locs hZ => ?_)
        refine lv_istore (lv' := [(4, .int o7), (0, .ref (G.2.2.2.2 + q)), (1, .int a1), (2, .int a2), (3, .int a3)]) S.1 S.2.1 dX5_putRate_37 hl (by decide) rfl (fun ls hl => ?_)
        refine lv_aload_n S.1 S.2.1 dX5_putRate_39 rfl (lv_at hl 1 rfl) ?_
        refine cd_get5 (v := .ref (G.2.2.2.2 + (q + 3))) S hK hZ hq 3 cd_f_X5_22 rfl dX5_putRate_40 ?_
        refine lv_iload_n S.1 S.2.1 dX5_putRate_43 rfl (lv_at hl 2 rfl) ?_
        refine lv_bipush (v := 8) S.1 S.2.1 dX5_putRate_44 (by decide) ?_
        refine lv_imul S.1 S.2.1 dX5_putRate_46 ?_
        refine lv_iload_n S.1 S.2.1 dX5_putRate_47 rfl (lv_at hl 3 rfl) ?_
        refine lv_iadd S.1 S.2.1 dX5_putRate_48 ?_
        refine lv_iload_n S.1 S.2.1 dX5_putRate_49 rfl (lv_at hl 4 rfl) ?_
        obtain ⟨z9, E⟩ := cd_ckE E
        obtain ⟨h10, eh10, E⟩ := cd_nmE E
        refine cd_iast S hK hZ (cd_r5_3 hq) z9 eh10 dX5_putRate_50 (fun H locs hZ => ?_)
        refine lv_iload S.1 S.2.1 dX5_putRate_51 (lv_at hl 0 rfl) ?_
        exact hret _ _ _ _ _ _ (Option.some.inj E) hZ dX5_putRate_53
      · have E := cd_tE c6 E
        refine lv_bipush (v := (-2)) S.1 S.2.1 dX5_putRate_28 (by decide) ?_
        exact hret _ _ _ _ _ _ (Option.some.inj E) hZ dX5_putRate_30
