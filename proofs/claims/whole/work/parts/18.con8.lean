-- CONTRACTS (written by wip/whole/gen.py): X8_of X8_about X8_sumAt X8_count X8_times X8_scaledOf X8_scaled X8_fitOf X8_fit X8_queue X8_sample X8_onNow X8_toldOf X8_told X8_type X8_clear X8_isAt X8_blanks X8_fails X8_leastOf X8_takesNumber X8_takesOrder X8_isRead X8_puts
abbrev rm_X8_of : Room := { frames := 3, cells := 0, slots := 0, locals := 64 }
theorem cd_v_X8_of : cd_V yX8_of cX8_of 3 (some .int) 2 := ⟨cd_i_X8_of, cd_e_X8_X8_of, cd_n_X8, cd_c_X8_of, by decide +kernel⟩
set_option maxHeartbeats 4000000 in
set_option maxRecDepth 100000 in
theorem c_X8_of (l : Launch) (G : cd_G) (a1 : Int32) (a2 : Int32) (h : cd_Hp) (out : (Int32 × cd_Hp)) (E : f_X8_of a1 a2 h = some out) : cd_Mi l G yX8_of (Cond.code yX8_of cX8_of 3 (some .int) :: cd_T) rm_X8_of [.ref (G.2.2.2.2 + 404), .int a1, .int a2] h out := by
  refine cd_ini (by decide) (Nat.le_of_ble_eq_true rfl) ?_
  intro p e s m args below meth c Q ls H locs S hK hZ hl hret
  have hl : lv_has ls 3 [(0, .ref (G.2.2.2.2 + 404)), (1, .int a1), (2, .int a2)] := hl
  unfold f_X8_of at E
  refine lv_aload_n S.1 S.2.1 dX8_of_0 rfl (lv_at hl 0 rfl) ?_
  refine lv_iload_n S.1 S.2.1 dX8_of_1 rfl (lv_at hl 1 rfl) ?_
  refine cd_cVz (As := [.int a1]) S hK hZ hl.1 (c_X8_isGroup l G a1 h _ rfl) cd_v_X8_isGroup cd_m_X8_59 ⟨Nat.le_of_ble_eq_true rfl, Nat.le_of_ble_eq_true rfl⟩ ⟨rfl, rfl⟩ (ci := 8) (by decide) rfl cd_this8 rfl rfl (Nat.le_of_ble_eq_true rfl) ⟨Nat.zero_le _, Nat.zero_le _⟩ dX8_of_2 (fun H locs hZ b1 => ?_)
  refine lv_if_eq (tgt := 27) S.1 S.2.1 dX8_of_5 (by decide) (fun c2 => ?_) (fun c2 => ?_)
  · have E := cd_tE c2 E
    refine lv_aload_n S.1 S.2.1 dX8_of_27 rfl (lv_at hl 0 rfl) ?_
    obtain ⟨o3, E1, E⟩ := cd_nmE E
    refine cd_cVi (As := []) S hK hZ hl.1 (c_X8_bad l G  h o3 E1.symm) cd_v_X8_bad cd_m_X8_70 ⟨Nat.le_of_ble_eq_true rfl, Nat.le_of_ble_eq_true rfl⟩ ⟨rfl, rfl⟩ (ci := 8) (by decide) rfl cd_this8 rfl rfl (Nat.le_of_ble_eq_true rfl) ⟨Nat.zero_le _, Nat.zero_le _⟩ dX8_of_28 (fun H locs hZ => ?_)
    exact hret _ _ _ _ _ _ (Option.some.inj E) hZ dX8_of_31
  · have E := cd_fE c2 E
    refine lv_iload_n S.1 S.2.1 dX8_of_8 rfl (lv_at hl 2 rfl) ?_
    refine lv_iconst (v := 0) S.1 S.2.1 dX8_of_9 (by decide) ?_
    refine lv_bipush (v := 10) S.1 S.2.1 dX8_of_10 (by decide) ?_
    refine cd_cSz (As := [.int a2, .int 0, .int 10]) S hK hZ hl.1 (c_X8_in l G a2 0 10 h _ rfl) cd_v_X8_in cd_m_X8_51 ⟨Nat.le_of_ble_eq_true rfl, Nat.le_of_ble_eq_true rfl⟩ ⟨rfl, rfl⟩ rfl rfl (Nat.le_of_ble_eq_true rfl) ⟨Nat.zero_le _, Nat.zero_le _⟩ dX8_of_12 (fun H locs hZ b5 => ?_)
    refine lv_if_eq (tgt := 27) S.1 S.2.1 dX8_of_15 (by decide) (fun c6 => ?_) (fun c6 => ?_)
    · have E := cd_tE c6 E
      refine lv_aload_n S.1 S.2.1 dX8_of_27 rfl (lv_at hl 0 rfl) ?_
      obtain ⟨o7, E1, E⟩ := cd_nmE E
      refine cd_cVi (As := []) S hK hZ hl.1 (c_X8_bad l G  h o7 E1.symm) cd_v_X8_bad cd_m_X8_70 ⟨Nat.le_of_ble_eq_true rfl, Nat.le_of_ble_eq_true rfl⟩ ⟨rfl, rfl⟩ (ci := 8) (by decide) rfl cd_this8 rfl rfl (Nat.le_of_ble_eq_true rfl) ⟨Nat.zero_le _, Nat.zero_le _⟩ dX8_of_28 (fun H locs hZ => ?_)
      exact hret _ _ _ _ _ _ (Option.some.inj E) hZ dX8_of_31
    · have E := cd_fE c6 E
      refine lv_aload_n S.1 S.2.1 dX8_of_18 rfl (lv_at hl 0 rfl) ?_
      refine lv_iload_n S.1 S.2.1 dX8_of_19 rfl (lv_at hl 1 rfl) ?_
      refine lv_iload_n S.1 S.2.1 dX8_of_20 rfl (lv_at hl 2 rfl) ?_
      obtain ⟨o9, E1, E⟩ := cd_bE E
      refine cd_cVi (As := [.int a1, .int a2]) S hK hZ hl.1 (c_X8_aboutGroup l G a1 a2 h o9 E1) cd_v_X8_aboutGroup cd_m_X8_185 ⟨Nat.le_of_ble_eq_true rfl, Nat.le_of_ble_eq_true rfl⟩ ⟨rfl, rfl⟩ (ci := 8) (by decide) rfl cd_this8 rfl rfl (Nat.le_of_ble_eq_true rfl) ⟨Nat.zero_le _, Nat.zero_le _⟩ dX8_of_21 (fun H locs hZ => ?_)
      refine lv_goto (tgt := 31) S.1 S.2.1 dX8_of_24 (by decide) ?_
      exact hret _ _ _ _ _ _ (Option.some.inj E) hZ dX8_of_31
abbrev rm_X8_about : Room := { frames := 3, cells := 0, slots := 0, locals := 65 }
theorem cd_v_X8_about : cd_V yX8_about cX8_about 4 (some .int) 3 := ⟨cd_i_X8_about, cd_e_X8_X8_about, cd_n_X8, cd_c_X8_about, by decide +kernel⟩
set_option maxHeartbeats 4000000 in
set_option maxRecDepth 100000 in
theorem c_X8_about (l : Launch) (G : cd_G) (a1 : Int32) (a2 : Int32) (a3 : Int32) (h : cd_Hp) (out : (Int32 × cd_Hp)) (E : f_X8_about a1 a2 a3 h = some out) : cd_Mi l G yX8_about (Cond.code yX8_about cX8_about 4 (some .int) :: cd_T) rm_X8_about [.ref (G.2.2.2.2 + 404), .int a1, .int a2, .int a3] h out := by
  refine cd_ini (by decide) (Nat.le_of_ble_eq_true rfl) ?_
  intro p e s m args below meth c Q ls H locs S hK hZ hl hret
  have hl : lv_has ls 4 [(0, .ref (G.2.2.2.2 + 404)), (1, .int a1), (2, .int a2), (3, .int a3)] := hl
  unfold f_X8_about at E
  refine lv_aload_n S.1 S.2.1 dX8_about_0 rfl (lv_at hl 0 rfl) ?_
  refine lv_iload_n S.1 S.2.1 dX8_about_1 rfl (lv_at hl 1 rfl) ?_
  refine lv_iload_n S.1 S.2.1 dX8_about_2 rfl (lv_at hl 2 rfl) ?_
  obtain ⟨o1, E1, E⟩ := cd_bE E
  refine cd_cVz (As := [.int a1, .int a2]) S hK hZ hl.1 (c_X8_isEvent l G a1 a2 h o1 E1) cd_v_X8_isEvent cd_m_X8_188 ⟨Nat.le_of_ble_eq_true rfl, Nat.le_of_ble_eq_true rfl⟩ ⟨rfl, rfl⟩ (ci := 8) (by decide) rfl cd_this8 rfl rfl (Nat.le_of_ble_eq_true rfl) ⟨Nat.zero_le _, Nat.zero_le _⟩ dX8_about_3 (fun H locs hZ b2 => ?_)
  refine lv_if_eq (tgt := 33) S.1 S.2.1 dX8_about_6 (by decide) (fun c3 => ?_) (fun c3 => ?_)
  · have E := cd_tE c3 E
    refine lv_aload_n S.1 S.2.1 dX8_about_33 rfl (lv_at hl 0 rfl) ?_
    obtain ⟨o4, E1, E⟩ := cd_nmE E
    refine cd_cVi (As := []) S hK hZ hl.1 (c_X8_bad l G  h o4 E1.symm) cd_v_X8_bad cd_m_X8_70 ⟨Nat.le_of_ble_eq_true rfl, Nat.le_of_ble_eq_true rfl⟩ ⟨rfl, rfl⟩ (ci := 8) (by decide) rfl cd_this8 rfl rfl (Nat.le_of_ble_eq_true rfl) ⟨Nat.zero_le _, Nat.zero_le _⟩ dX8_about_34 (fun H locs hZ => ?_)
    exact hret _ _ _ _ _ _ (Option.some.inj E) hZ dX8_about_37
  · have E := cd_fE c3 E
    refine lv_iload_n S.1 S.2.1 dX8_about_9 rfl (lv_at hl 3 rfl) ?_
    refine lv_iconst (v := 0) S.1 S.2.1 dX8_about_10 (by decide) ?_
    refine lv_iconst (v := 2) S.1 S.2.1 dX8_about_11 (by decide) ?_
    refine cd_cSz (As := [.int a3, .int 0, .int 2]) S hK hZ hl.1 (c_X8_in l G a3 0 2 h _ rfl) cd_v_X8_in cd_m_X8_51 ⟨Nat.le_of_ble_eq_true rfl, Nat.le_of_ble_eq_true rfl⟩ ⟨rfl, rfl⟩ rfl rfl (Nat.le_of_ble_eq_true rfl) ⟨Nat.zero_le _, Nat.zero_le _⟩ dX8_about_12 (fun H locs hZ b6 => ?_)
    refine lv_if_eq (tgt := 33) S.1 S.2.1 dX8_about_15 (by decide) (fun c7 => ?_) (fun c7 => ?_)
    · have E := cd_tE c7 E
      refine lv_aload_n S.1 S.2.1 dX8_about_33 rfl (lv_at hl 0 rfl) ?_
      obtain ⟨o8, E1, E⟩ := cd_nmE E
      refine cd_cVi (As := []) S hK hZ hl.1 (c_X8_bad l G  h o8 E1.symm) cd_v_X8_bad cd_m_X8_70 ⟨Nat.le_of_ble_eq_true rfl, Nat.le_of_ble_eq_true rfl⟩ ⟨rfl, rfl⟩ (ci := 8) (by decide) rfl cd_this8 rfl rfl (Nat.le_of_ble_eq_true rfl) ⟨Nat.zero_le _, Nat.zero_le _⟩ dX8_about_34 (fun H locs hZ => ?_)
      exact hret _ _ _ _ _ _ (Option.some.inj E) hZ dX8_about_37
    · have E := cd_fE c7 E
      refine lv_aload_n S.1 S.2.1 dX8_about_18 rfl (lv_at hl 0 rfl) ?_
      refine cd_get8 (v := .ref (G.2.2.2.2 + 405)) S hK hZ cd_this8 0 cd_f_X8_7 rfl dX8_about_19 ?_
      refine lv_iload_n S.1 S.2.1 dX8_about_22 rfl (lv_at hl 1 rfl) ?_
      refine lv_iload_n S.1 S.2.1 dX8_about_23 rfl (lv_at hl 2 rfl) ?_
      refine cd_cSi (As := [.int a1, .int a2]) S hK hZ hl.1 (c_X8_eventAt l G a1 a2 h _ rfl) cd_v_X8_eventAt cd_m_X8_115 ⟨Nat.le_of_ble_eq_true rfl, Nat.le_of_ble_eq_true rfl⟩ ⟨rfl, rfl⟩ rfl rfl (Nat.le_of_ble_eq_true rfl) ⟨Nat.zero_le _, Nat.zero_le _⟩ dX8_about_24 (fun H locs hZ => ?_)
      refine lv_iload_n S.1 S.2.1 dX8_about_27 rfl (lv_at hl 3 rfl) ?_
      refine lv_iadd S.1 S.2.1 dX8_about_28 ?_
      obtain ⟨z11, E⟩ := cd_ckE E
      refine cd_iald S hK hZ (cd_r8_0 cd_this8) z11 dX8_about_29 ?_
      refine lv_goto (tgt := 37) S.1 S.2.1 dX8_about_30 (by decide) ?_
      exact hret _ _ _ _ _ _ (Option.some.inj E) hZ dX8_about_37
abbrev rm_X8_sumAt : Room := { frames := 0, cells := 0, slots := 0, locals := 0 }
theorem cd_v_X8_sumAt : cd_V yX8_sumAt cX8_sumAt 5 (some .int) 2 := ⟨cd_i_X8_sumAt, cd_e_X8_X8_sumAt, cd_n_X8, cd_c_X8_sumAt, by decide +kernel⟩
set_option maxHeartbeats 4000000 in
set_option maxRecDepth 100000 in
theorem c_X8_sumAt (l : Launch) (G : cd_G) (a1 : Int32) (a2 : Int32) (h : cd_Hp) (out : Int32) (E : f_X8_sumAt a1 a2 h = some out) : cd_Mi l G yX8_sumAt (Cond.code yX8_sumAt cX8_sumAt 5 (some .int) :: cd_T) rm_X8_sumAt [.ref (G.2.2.2.2 + 404), .int a1, .int a2] h (out, h) := by
  refine cd_ini (by decide) (Nat.le_of_ble_eq_true rfl) ?_
  intro p e s m args below meth c Q ls H locs S hK hZ hl hret
  have hl : lv_has ls 5 [(0, .ref (G.2.2.2.2 + 404)), (1, .int a1), (2, .int a2)] := hl
  have L5 : ∀ (n : Nat) (v5_3 : Int32) (v5_4 : Int32) (o : (Int32 × Int32)) (H : Heap) (locs : List Loc) (ls : Array Slot), cd_lp (f_X8_sumAt_B5 a1 a2 h) n (v5_3, v5_4) = some o → cd_Z G h s.heap H locs → lv_has ls 5 [(4, .int v5_4), (3, .int v5_3), (0, .ref (G.2.2.2.2 + 404)), (1, .int a1), (2, .int a2)] → (∀ (H : Heap) (locs : List Loc) (ls : Array Slot), cd_Z G h s.heap H locs → lv_has ls 5 [(4, .int o.2), (3, .int o.1), (0, .ref (G.2.2.2.2 + 404)), (1, .int a1), (2, .int a2)] → W p l e rm_X8_sumAt s m args below meth c H locs 0 0 Q (F0 m 45 ls [])) → W p l e rm_X8_sumAt s m args below meth c H locs 0 0 Q (F0 m 5 ls []) := by
    intro n
    induction n with
    | zero => intro v5_3 v5_4 o H locs ls E; exact nomatch (show (none : Option (Int32 × Int32)) = some o from E)
    | succ n ih =>
      intro v5_3 v5_4 o H locs ls E hZ hl hex
      have E : f_X8_sumAt_B5 a1 a2 h (cd_lp (f_X8_sumAt_B5 a1 a2 h) n) (v5_3, v5_4) = some o := E
      unfold f_X8_sumAt_B5 at E
      dsimp only at E
      refine lv_iload S.1 S.2.1 dX8_sumAt_5 (lv_at hl 0 rfl) ?_
      refine lv_bipush (v := 6) S.1 S.2.1 dX8_sumAt_7 (by decide) ?_
      refine lv_icmp_ge (tgt := 45) S.1 S.2.1 dX8_sumAt_9 (by decide) (fun c1 => ?_) (fun c1 => ?_)
      · have E := cd_tE c1 E
        cases E
        exact hex H locs ls hZ (lv_sub hl [0, 1, 2, 3, 4] rfl)
      · have E := cd_fE c1 E
        refine lv_iload_n S.1 S.2.1 dX8_sumAt_12 rfl (lv_at hl 1 rfl) ?_
        refine lv_iload_n S.1 S.2.1 dX8_sumAt_13 rfl (lv_at hl 4 rfl) ?_
        refine lv_iconst (v := (-1)) S.1 S.2.1 dX8_sumAt_14 (by decide) ?_
        refine lv_icmp_eq (tgt := 24) S.1 S.2.1 dX8_sumAt_15 (by decide) (fun c2 => ?_) (fun c2 => ?_)
        · have E := cd_tE c2 E
          refine lv_aload_n S.1 S.2.1 dX8_sumAt_24 rfl (lv_at hl 2 rfl) ?_
          refine cd_get8 (v := .ref (G.2.2.2.2 + 405)) S hK hZ cd_this8 0 cd_f_X8_7 rfl dX8_sumAt_25 ?_
          refine lv_iload_n S.1 S.2.1 dX8_sumAt_28 rfl (lv_at hl 3 rfl) ?_
          refine lv_iload S.1 S.2.1 dX8_sumAt_29 (lv_at hl 0 rfl) ?_
          refine lv_iadd S.1 S.2.1 dX8_sumAt_31 ?_
          obtain ⟨z3, E⟩ := cd_ckE E
          refine cd_iald S hK hZ (cd_r8_0 cd_this8) z3 dX8_sumAt_32 ?_
          refine lv_goto (tgt := 37) S.1 S.2.1 dX8_sumAt_33 (by decide) ?_
          refine lv_iadd S.1 S.2.1 dX8_sumAt_37 ?_
          obtain ⟨x4, ex4, E⟩ := cd_nmE E
          refine cd_topi ex4 ?_
          refine lv_istore_n (lv' := [(3, .int x4), (4, .int v5_4), (0, .ref (G.2.2.2.2 + 404)), (1, .int a1), (2, .int a2)]) S.1 S.2.1 dX8_sumAt_38 rfl hl (by decide) rfl (fun ls hl => ?_)
          obtain ⟨x5, ex5, E⟩ := cd_nmE E
          refine lv_iinc (v := x5) (lv' := [(4, .int x5), (3, .int x4), (0, .ref (G.2.2.2.2 + 404)), (1, .int a1), (2, .int a2)]) S.1 S.2.1 dX8_sumAt_39 hl (k := 1) rfl (by rw [ex5]; rfl) (by decide) rfl (fun ls hl => ?_)
          refine lv_goto (tgt := 5) S.1 S.2.1 dX8_sumAt_42 (by decide) ?_
          exact ih x4 x5 o H locs ls E hZ (lv_sub hl [0, 1, 2, 3, 4] rfl) hex
        · have E := cd_fE c2 E
          refine lv_iload_n S.1 S.2.1 dX8_sumAt_18 rfl (lv_at hl 4 rfl) ?_
          refine lv_iload S.1 S.2.1 dX8_sumAt_19 (lv_at hl 0 rfl) ?_
          refine lv_icmp_ne (tgt := 36) S.1 S.2.1 dX8_sumAt_21 (by decide) (fun c6 => ?_) (fun c6 => ?_)
          · have E := cd_fE c6 E
            refine lv_iconst (v := 0) S.1 S.2.1 dX8_sumAt_36 (by decide) ?_
            refine lv_iadd S.1 S.2.1 dX8_sumAt_37 ?_
            obtain ⟨x7, ex7, E⟩ := cd_nmE E
            refine cd_topi ex7 ?_
            refine lv_istore_n (lv' := [(3, .int x7), (4, .int v5_4), (0, .ref (G.2.2.2.2 + 404)), (1, .int a1), (2, .int a2)]) S.1 S.2.1 dX8_sumAt_38 rfl hl (by decide) rfl (fun ls hl => ?_)
            obtain ⟨x8, ex8, E⟩ := cd_nmE E
            refine lv_iinc (v := x8) (lv' := [(4, .int x8), (3, .int x7), (0, .ref (G.2.2.2.2 + 404)), (1, .int a1), (2, .int a2)]) S.1 S.2.1 dX8_sumAt_39 hl (k := 1) rfl (by rw [ex8]; rfl) (by decide) rfl (fun ls hl => ?_)
            refine lv_goto (tgt := 5) S.1 S.2.1 dX8_sumAt_42 (by decide) ?_
            exact ih x7 x8 o H locs ls E hZ (lv_sub hl [0, 1, 2, 3, 4] rfl) hex
          · have E := cd_tE c6 E
            refine lv_aload_n S.1 S.2.1 dX8_sumAt_24 rfl (lv_at hl 2 rfl) ?_
            refine cd_get8 (v := .ref (G.2.2.2.2 + 405)) S hK hZ cd_this8 0 cd_f_X8_7 rfl dX8_sumAt_25 ?_
            refine lv_iload_n S.1 S.2.1 dX8_sumAt_28 rfl (lv_at hl 3 rfl) ?_
            refine lv_iload S.1 S.2.1 dX8_sumAt_29 (lv_at hl 0 rfl) ?_
            refine lv_iadd S.1 S.2.1 dX8_sumAt_31 ?_
            obtain ⟨z9, E⟩ := cd_ckE E
            refine cd_iald S hK hZ (cd_r8_0 cd_this8) z9 dX8_sumAt_32 ?_
            refine lv_goto (tgt := 37) S.1 S.2.1 dX8_sumAt_33 (by decide) ?_
            refine lv_iadd S.1 S.2.1 dX8_sumAt_37 ?_
            obtain ⟨x10, ex10, E⟩ := cd_nmE E
            refine cd_topi ex10 ?_
            refine lv_istore_n (lv' := [(3, .int x10), (4, .int v5_4), (0, .ref (G.2.2.2.2 + 404)), (1, .int a1), (2, .int a2)]) S.1 S.2.1 dX8_sumAt_38 rfl hl (by decide) rfl (fun ls hl => ?_)
            obtain ⟨x11, ex11, E⟩ := cd_nmE E
            refine lv_iinc (v := x11) (lv' := [(4, .int x11), (3, .int x10), (0, .ref (G.2.2.2.2 + 404)), (1, .int a1), (2, .int a2)]) S.1 S.2.1 dX8_sumAt_39 hl (k := 1) rfl (by rw [ex11]; rfl) (by decide) rfl (fun ls hl => ?_)
            refine lv_goto (tgt := 5) S.1 S.2.1 dX8_sumAt_42 (by decide) ?_
            exact ih x10 x11 o H locs ls E hZ (lv_sub hl [0, 1, 2, 3, 4] rfl) hex
  unfold f_X8_sumAt at E
  refine lv_iconst (v := 0) S.1 S.2.1 dX8_sumAt_0 (by decide) ?_
  refine lv_istore_n (lv' := [(3, .int 0), (0, .ref (G.2.2.2.2 + 404)), (1, .int a1), (2, .int a2)]) S.1 S.2.1 dX8_sumAt_1 rfl hl (by decide) rfl (fun ls hl => ?_)
  refine lv_iconst (v := 0) S.1 S.2.1 dX8_sumAt_2 (by decide) ?_
  refine lv_istore (lv' := [(4, .int 0), (3, .int 0), (0, .ref (G.2.2.2.2 + 404)), (1, .int a1), (2, .int a2)]) S.1 S.2.1 dX8_sumAt_3 hl (by decide) rfl (fun ls hl => ?_)
  obtain ⟨o12, E1, E⟩ := cd_bE E
  refine L5 cd_fu 0 0 o12 H locs ls E1 hZ (lv_sub hl [0, 1, 2, 3, 4] rfl) (fun H locs ls hZ hl => ?_)
  refine lv_iload_n S.1 S.2.1 dX8_sumAt_45 rfl (lv_at hl 1 rfl) ?_
  exact hret _ _ _ _ _ _ (congrArg (fun z => (z, h)) (Option.some.inj E)) hZ dX8_sumAt_46
abbrev rm_X8_count : Room := { frames := 3, cells := 0, slots := 0, locals := 65 }
theorem cd_v_X8_count : cd_V yX8_count cX8_count 4 (some .int) 3 := ⟨cd_i_X8_count, cd_e_X8_X8_count, cd_n_X8, cd_c_X8_count, by decide +kernel⟩
set_option maxHeartbeats 4000000 in
set_option maxRecDepth 100000 in
theorem c_X8_count (l : Launch) (G : cd_G) (a1 : Int32) (a2 : Int32) (a3 : Int32) (h : cd_Hp) (out : (Int32 × cd_Hp)) (E : f_X8_count a1 a2 a3 h = some out) : cd_Mi l G yX8_count (Cond.code yX8_count cX8_count 4 (some .int) :: cd_T) rm_X8_count [.ref (G.2.2.2.2 + 404), .int a1, .int a2, .int a3] h out := by
  refine cd_ini (by decide) (Nat.le_of_ble_eq_true rfl) ?_
  intro p e s m args below meth c Q ls H locs S hK hZ hl hret
  have hl : lv_has ls 4 [(0, .ref (G.2.2.2.2 + 404)), (1, .int a1), (2, .int a2), (3, .int a3)] := hl
  unfold f_X8_count at E
  refine lv_aload_n S.1 S.2.1 dX8_count_0 rfl (lv_at hl 0 rfl) ?_
  refine lv_iload_n S.1 S.2.1 dX8_count_1 rfl (lv_at hl 1 rfl) ?_
  refine lv_iload_n S.1 S.2.1 dX8_count_2 rfl (lv_at hl 2 rfl) ?_
  obtain ⟨o1, E1, E⟩ := cd_bE E
  refine cd_cVz (As := [.int a1, .int a2]) S hK hZ hl.1 (c_X8_isEvent l G a1 a2 h o1 E1) cd_v_X8_isEvent cd_m_X8_188 ⟨Nat.le_of_ble_eq_true rfl, Nat.le_of_ble_eq_true rfl⟩ ⟨rfl, rfl⟩ (ci := 8) (by decide) rfl cd_this8 rfl rfl (Nat.le_of_ble_eq_true rfl) ⟨Nat.zero_le _, Nat.zero_le _⟩ dX8_count_3 (fun H locs hZ b2 => ?_)
  refine lv_if_eq (tgt := 36) S.1 S.2.1 dX8_count_6 (by decide) (fun c3 => ?_) (fun c3 => ?_)
  · have E := cd_tE c3 E
    refine lv_aload_n S.1 S.2.1 dX8_count_36 rfl (lv_at hl 0 rfl) ?_
    obtain ⟨o4, E1, E⟩ := cd_nmE E
    refine cd_cVi (As := []) S hK hZ hl.1 (c_X8_bad l G  h o4 E1.symm) cd_v_X8_bad cd_m_X8_70 ⟨Nat.le_of_ble_eq_true rfl, Nat.le_of_ble_eq_true rfl⟩ ⟨rfl, rfl⟩ (ci := 8) (by decide) rfl cd_this8 rfl rfl (Nat.le_of_ble_eq_true rfl) ⟨Nat.zero_le _, Nat.zero_le _⟩ dX8_count_37 (fun H locs hZ => ?_)
    exact hret _ _ _ _ _ _ (Option.some.inj E) hZ dX8_count_40
  · have E := cd_fE c3 E
    refine lv_iload_n S.1 S.2.1 dX8_count_9 rfl (lv_at hl 3 rfl) ?_
    refine lv_iconst (v := (-1)) S.1 S.2.1 dX8_count_10 (by decide) ?_
    refine lv_icmp_eq (tgt := 22) S.1 S.2.1 dX8_count_11 (by decide) (fun c6 => ?_) (fun c6 => ?_)
    · have E := cd_tE c6 E
      refine lv_aload_n S.1 S.2.1 dX8_count_22 rfl (lv_at hl 0 rfl) ?_
      refine lv_iload_n S.1 S.2.1 dX8_count_23 rfl (lv_at hl 1 rfl) ?_
      refine lv_iload_n S.1 S.2.1 dX8_count_24 rfl (lv_at hl 2 rfl) ?_
      refine lv_iconst (v := 0) S.1 S.2.1 dX8_count_25 (by decide) ?_
      refine cd_cSi (As := [.int a1, .int a2, .int 0]) S hK hZ hl.1 (c_X8_countAt l G a1 a2 0 h _ rfl) cd_v_X8_countAt cd_m_X8_111 ⟨Nat.le_of_ble_eq_true rfl, Nat.le_of_ble_eq_true rfl⟩ ⟨rfl, rfl⟩ rfl rfl (Nat.le_of_ble_eq_true rfl) ⟨Nat.zero_le _, Nat.zero_le _⟩ dX8_count_26 (fun H locs hZ => ?_)
      refine lv_iload_n S.1 S.2.1 dX8_count_29 rfl (lv_at hl 3 rfl) ?_
      obtain ⟨o8, E1, E⟩ := cd_bE E
      refine cd_cVi (As := [.int (f_X8_countAt a1 a2 0), .int a3]) S hK hZ hl.1 (c_X8_sumAt l G (f_X8_countAt a1 a2 0) a3 h o8 E1) cd_v_X8_sumAt cd_m_X8_191 ⟨Nat.le_of_ble_eq_true rfl, Nat.le_of_ble_eq_true rfl⟩ ⟨rfl, rfl⟩ (ci := 8) (by decide) rfl cd_this8 rfl rfl (Nat.le_of_ble_eq_true rfl) ⟨Nat.zero_le _, Nat.zero_le _⟩ dX8_count_30 (fun H locs hZ => ?_)
      refine lv_goto (tgt := 40) S.1 S.2.1 dX8_count_33 (by decide) ?_
      exact hret _ _ _ _ _ _ (Option.some.inj E) hZ dX8_count_40
    · have E := cd_fE c6 E
      refine lv_aload_n S.1 S.2.1 dX8_count_14 rfl (lv_at hl 0 rfl) ?_
      refine lv_iload_n S.1 S.2.1 dX8_count_15 rfl (lv_at hl 3 rfl) ?_
      refine cd_cVz (As := [.int a3]) S hK hZ hl.1 (c_X8_isTask l G a3 h _ rfl) cd_v_X8_isTask cd_m_X8_86 ⟨Nat.le_of_ble_eq_true rfl, Nat.le_of_ble_eq_true rfl⟩ ⟨rfl, rfl⟩ (ci := 8) (by decide) rfl cd_this8 rfl rfl (Nat.le_of_ble_eq_true rfl) ⟨Nat.zero_le _, Nat.zero_le _⟩ dX8_count_16 (fun H locs hZ b10 => ?_)
      refine lv_if_eq (tgt := 36) S.1 S.2.1 dX8_count_19 (by decide) (fun c11 => ?_) (fun c11 => ?_)
      · have E := cd_tE c11 E
        refine lv_aload_n S.1 S.2.1 dX8_count_36 rfl (lv_at hl 0 rfl) ?_
        obtain ⟨o12, E1, E⟩ := cd_nmE E
        refine cd_cVi (As := []) S hK hZ hl.1 (c_X8_bad l G  h o12 E1.symm) cd_v_X8_bad cd_m_X8_70 ⟨Nat.le_of_ble_eq_true rfl, Nat.le_of_ble_eq_true rfl⟩ ⟨rfl, rfl⟩ (ci := 8) (by decide) rfl cd_this8 rfl rfl (Nat.le_of_ble_eq_true rfl) ⟨Nat.zero_le _, Nat.zero_le _⟩ dX8_count_37 (fun H locs hZ => ?_)
        exact hret _ _ _ _ _ _ (Option.some.inj E) hZ dX8_count_40
      · have E := cd_fE c11 E
        refine lv_aload_n S.1 S.2.1 dX8_count_22 rfl (lv_at hl 0 rfl) ?_
        refine lv_iload_n S.1 S.2.1 dX8_count_23 rfl (lv_at hl 1 rfl) ?_
        refine lv_iload_n S.1 S.2.1 dX8_count_24 rfl (lv_at hl 2 rfl) ?_
        refine lv_iconst (v := 0) S.1 S.2.1 dX8_count_25 (by decide) ?_
        refine cd_cSi (As := [.int a1, .int a2, .int 0]) S hK hZ hl.1 (c_X8_countAt l G a1 a2 0 h _ rfl) cd_v_X8_countAt cd_m_X8_111 ⟨Nat.le_of_ble_eq_true rfl, Nat.le_of_ble_eq_true rfl⟩ ⟨rfl, rfl⟩ rfl rfl (Nat.le_of_ble_eq_true rfl) ⟨Nat.zero_le _, Nat.zero_le _⟩ dX8_count_26 (fun H locs hZ => ?_)
        refine lv_iload_n S.1 S.2.1 dX8_count_29 rfl (lv_at hl 3 rfl) ?_
        obtain ⟨o15, E1, E⟩ := cd_bE E
        refine cd_cVi (As := [.int (f_X8_countAt a1 a2 0), .int a3]) S hK hZ hl.1 (c_X8_sumAt l G (f_X8_countAt a1 a2 0) a3 h o15 E1) cd_v_X8_sumAt cd_m_X8_191 ⟨Nat.le_of_ble_eq_true rfl, Nat.le_of_ble_eq_true rfl⟩ ⟨rfl, rfl⟩ (ci := 8) (by decide) rfl cd_this8 rfl rfl (Nat.le_of_ble_eq_true rfl) ⟨Nat.zero_le _, Nat.zero_le _⟩ dX8_count_30 (fun H locs hZ => ?_)
        refine lv_goto (tgt := 40) S.1 S.2.1 dX8_count_33 (by decide) ?_
        exact hret _ _ _ _ _ _ (Option.some.inj E) hZ dX8_count_40
abbrev rm_X8_times : Room := { frames := 2, cells := 0, slots := 0, locals := 43 }
theorem cd_v_X8_times : cd_V yX8_times cX8_times 5 (some .int) 3 := ⟨cd_i_X8_times, cd_e_X8_X8_times, cd_n_X8, cd_c_X8_times, by decide +kernel⟩
set_option maxHeartbeats 4000000 in
set_option maxRecDepth 100000 in
theorem c_X8_times (l : Launch) (G : cd_G) (a1 : Int32) (a2 : Int32) (a3 : Int32) (h : cd_Hp) (out : (Int32 × cd_Hp)) (E : f_X8_times a1 a2 a3 h = some out) : cd_Mi l G yX8_times (Cond.code yX8_times cX8_times 5 (some .int) :: cd_T) rm_X8_times [.ref (G.2.2.2.2 + 404), .int a1, .int a2, .int a3] h out := by
  refine cd_ini (by decide) (Nat.le_of_ble_eq_true rfl) ?_
  intro p e s m args below meth c Q ls H locs S hK hZ hl hret
  have hl : lv_has ls 5 [(0, .ref (G.2.2.2.2 + 404)), (1, .int a1), (2, .int a2), (3, .int a3)] := hl
  unfold f_X8_times at E
  refine lv_aload_n S.1 S.2.1 dX8_times_0 rfl (lv_at hl 0 rfl) ?_
  refine lv_iload_n S.1 S.2.1 dX8_times_1 rfl (lv_at hl 1 rfl) ?_
  refine cd_cVz (As := [.int a1]) S hK hZ hl.1 (c_X8_isGroup l G a1 h _ rfl) cd_v_X8_isGroup cd_m_X8_59 ⟨Nat.le_of_ble_eq_true rfl, Nat.le_of_ble_eq_true rfl⟩ ⟨rfl, rfl⟩ (ci := 8) (by decide) rfl cd_this8 rfl rfl (Nat.le_of_ble_eq_true rfl) ⟨Nat.zero_le _, Nat.zero_le _⟩ dX8_times_2 (fun H locs hZ b1 => ?_)
  refine lv_if_eq (tgt := 34) S.1 S.2.1 dX8_times_5 (by decide) (fun c2 => ?_) (fun c2 => ?_)
  · have E := cd_tE c2 E
    refine lv_iconst (v := 0) S.1 S.2.1 dX8_times_34 (by decide) ?_
    refine lv_istore (lv' := [(4, .int 0), (0, .ref (G.2.2.2.2 + 404)), (1, .int a1), (2, .int a2), (3, .int a3)]) S.1 S.2.1 dX8_times_35 hl (by decide) rfl (fun ls hl => ?_)
    refine lv_iload S.1 S.2.1 dX8_times_37 (lv_at hl 0 rfl) ?_
    refine lv_if_eq (tgt := 66) S.1 S.2.1 dX8_times_39 (by decide) (fun c3 => ?_) (fun c3 => ?_)
    · have _ := c3
      refine lv_aload_n S.1 S.2.1 dX8_times_66 rfl (lv_at hl 1 rfl) ?_
      obtain ⟨o4, E1, E⟩ := cd_nmE E
      refine cd_cVi (As := []) S hK hZ hl.1 (c_X8_bad l G  h o4 E1.symm) cd_v_X8_bad cd_m_X8_70 ⟨Nat.le_of_ble_eq_true rfl, Nat.le_of_ble_eq_true rfl⟩ ⟨rfl, rfl⟩ (ci := 8) (by decide) rfl cd_this8 rfl rfl (Nat.le_of_ble_eq_true rfl) ⟨Nat.zero_le _, Nat.zero_le _⟩ dX8_times_67 (fun H locs hZ => ?_)
      exact hret _ _ _ _ _ _ (Option.some.inj E) hZ dX8_times_70
    · exact absurd c3 (by decide)
  · have E := cd_fE c2 E
    refine lv_iload_n S.1 S.2.1 dX8_times_8 rfl (lv_at hl 2 rfl) ?_
    refine lv_iconst (v := (-1)) S.1 S.2.1 dX8_times_9 (by decide) ?_
    refine lv_icmp_eq (tgt := 21) S.1 S.2.1 dX8_times_10 (by decide) (fun c6 => ?_) (fun c6 => ?_)
    · have E := cd_tE c6 E
      refine lv_iload_n S.1 S.2.1 dX8_times_21 rfl (lv_at hl 3 rfl) ?_
      refine lv_iconst (v := 0) S.1 S.2.1 dX8_times_22 (by decide) ?_
      refine lv_iconst (v := 1) S.1 S.2.1 dX8_times_23 (by decide) ?_
      refine cd_cSz (As := [.int a3, .int 0, .int 1]) S hK hZ hl.1 (c_X8_in l G a3 0 1 h _ rfl) cd_v_X8_in cd_m_X8_51 ⟨Nat.le_of_ble_eq_true rfl, Nat.le_of_ble_eq_true rfl⟩ ⟨rfl, rfl⟩ rfl rfl (Nat.le_of_ble_eq_true rfl) ⟨Nat.zero_le _, Nat.zero_le _⟩ dX8_times_24 (fun H locs hZ b7 => ?_)
      refine lv_if_eq (tgt := 34) S.1 S.2.1 dX8_times_27 (by decide) (fun c8 => ?_) (fun c8 => ?_)
      · have E := cd_tE c8 E
        refine lv_iconst (v := 0) S.1 S.2.1 dX8_times_34 (by decide) ?_
        refine lv_istore (lv' := [(4, .int 0), (0, .ref (G.2.2.2.2 + 404)), (1, .int a1), (2, .int a2), (3, .int a3)]) S.1 S.2.1 dX8_times_35 hl (by decide) rfl (fun ls hl => ?_)
        refine lv_iload S.1 S.2.1 dX8_times_37 (lv_at hl 0 rfl) ?_
        refine lv_if_eq (tgt := 66) S.1 S.2.1 dX8_times_39 (by decide) (fun c9 => ?_) (fun c9 => ?_)
        · have _ := c9
          refine lv_aload_n S.1 S.2.1 dX8_times_66 rfl (lv_at hl 1 rfl) ?_
          obtain ⟨o10, E1, E⟩ := cd_nmE E
          refine cd_cVi (As := []) S hK hZ hl.1 (c_X8_bad l G  h o10 E1.symm) cd_v_X8_bad cd_m_X8_70 ⟨Nat.le_of_ble_eq_true rfl, Nat.le_of_ble_eq_true rfl⟩ ⟨rfl, rfl⟩ (ci := 8) (by decide) rfl cd_this8 rfl rfl (Nat.le_of_ble_eq_true rfl) ⟨Nat.zero_le _, Nat.zero_le _⟩ dX8_times_67 (fun H locs hZ => ?_)
          exact hret _ _ _ _ _ _ (Option.some.inj E) hZ dX8_times_70
        · exact absurd c9 (by decide)
      · have E := cd_fE c8 E
        refine lv_iconst (v := 1) S.1 S.2.1 dX8_times_30 (by decide) ?_
        refine lv_goto (tgt := 35) S.1 S.2.1 dX8_times_31 (by decide) ?_
        refine lv_istore (lv' := [(4, .int 1), (0, .ref (G.2.2.2.2 + 404)), (1, .int a1), (2, .int a2), (3, .int a3)]) S.1 S.2.1 dX8_times_35 hl (by decide) rfl (fun ls hl => ?_)
        refine lv_iload S.1 S.2.1 dX8_times_37 (lv_at hl 0 rfl) ?_
        refine lv_if_eq (tgt := 66) S.1 S.2.1 dX8_times_39 (by decide) (fun c12 => ?_) (fun c12 => ?_)
        · exact absurd c12 (by decide)
        · have _ := c12
          refine lv_aload_n S.1 S.2.1 dX8_times_42 rfl (lv_at hl 1 rfl) ?_
          refine lv_iload_n S.1 S.2.1 dX8_times_43 rfl (lv_at hl 2 rfl) ?_
          refine cd_cSi (As := [.int a1]) S hK hZ hl.1 (c_X8_groupAt l G a1 h _ rfl) cd_v_X8_groupAt cd_m_X8_55 ⟨Nat.le_of_ble_eq_true rfl, Nat.le_of_ble_eq_true rfl⟩ ⟨rfl, rfl⟩ rfl rfl (Nat.le_of_ble_eq_true rfl) ⟨Nat.zero_le _, Nat.zero_le _⟩ dX8_times_44 (fun H locs hZ => ?_)
          refine lv_iload_n S.1 S.2.1 dX8_times_47 rfl (lv_at hl 4 rfl) ?_
          refine lv_if_ne (tgt := 56) S.1 S.2.1 dX8_times_48 (by decide) (fun c14 => ?_) (fun c14 => ?_)
          · have E := cd_fE c14 E
            refine lv_bipush (v := 52) S.1 S.2.1 dX8_times_56 (by decide) ?_
            refine lv_iadd S.1 S.2.1 dX8_times_58 ?_
            refine lv_iload_n S.1 S.2.1 dX8_times_59 rfl (lv_at hl 3 rfl) ?_
            obtain ⟨o15, E1, E⟩ := cd_bE E
            refine cd_cVi (As := [.int ((f_X8_groupAt a1) + 52), .int a2]) S hK hZ hl.1 (c_X8_sumAt l G ((f_X8_groupAt a1) + 52) a2 h o15 E1) cd_v_X8_sumAt cd_m_X8_191 ⟨Nat.le_of_ble_eq_true rfl, Nat.le_of_ble_eq_true rfl⟩ ⟨rfl, rfl⟩ (ci := 8) (by decide) rfl cd_this8 rfl rfl (Nat.le_of_ble_eq_true rfl) ⟨Nat.zero_le _, Nat.zero_le _⟩ dX8_times_60 (fun H locs hZ => ?_)
            refine lv_goto (tgt := 70) S.1 S.2.1 dX8_times_63 (by decide) ?_
            exact hret _ _ _ _ _ _ (Option.some.inj E) hZ dX8_times_70
          · have E := cd_tE c14 E
            refine lv_bipush (v := 46) S.1 S.2.1 dX8_times_51 (by decide) ?_
            refine lv_goto (tgt := 58) S.1 S.2.1 dX8_times_53 (by decide) ?_
            refine lv_iadd S.1 S.2.1 dX8_times_58 ?_
            refine lv_iload_n S.1 S.2.1 dX8_times_59 rfl (lv_at hl 3 rfl) ?_
            obtain ⟨o17, E1, E⟩ := cd_bE E
            refine cd_cVi (As := [.int ((f_X8_groupAt a1) + 46), .int a2]) S hK hZ hl.1 (c_X8_sumAt l G ((f_X8_groupAt a1) + 46) a2 h o17 E1) cd_v_X8_sumAt cd_m_X8_191 ⟨Nat.le_of_ble_eq_true rfl, Nat.le_of_ble_eq_true rfl⟩ ⟨rfl, rfl⟩ (ci := 8) (by decide) rfl cd_this8 rfl rfl (Nat.le_of_ble_eq_true rfl) ⟨Nat.zero_le _, Nat.zero_le _⟩ dX8_times_60 (fun H locs hZ => ?_)
            refine lv_goto (tgt := 70) S.1 S.2.1 dX8_times_63 (by decide) ?_
            exact hret _ _ _ _ _ _ (Option.some.inj E) hZ dX8_times_70
    · have E := cd_fE c6 E
      refine lv_aload_n S.1 S.2.1 dX8_times_13 rfl (lv_at hl 0 rfl) ?_
      refine lv_iload_n S.1 S.2.1 dX8_times_14 rfl (lv_at hl 2 rfl) ?_
      refine cd_cVz (As := [.int a2]) S hK hZ hl.1 (c_X8_isTask l G a2 h _ rfl) cd_v_X8_isTask cd_m_X8_86 ⟨Nat.le_of_ble_eq_true rfl, Nat.le_of_ble_eq_true rfl⟩ ⟨rfl, rfl⟩ (ci := 8) (by decide) rfl cd_this8 rfl rfl (Nat.le_of_ble_eq_true rfl) ⟨Nat.zero_le _, Nat.zero_le _⟩ dX8_times_15 (fun H locs hZ b19 => ?_)
      refine lv_if_eq (tgt := 34) S.1 S.2.1 dX8_times_18 (by decide) (fun c20 => ?_) (fun c20 => ?_)
      · have E := cd_tE c20 E
        refine lv_iconst (v := 0) S.1 S.2.1 dX8_times_34 (by decide) ?_
        refine lv_istore (lv' := [(4, .int 0), (0, .ref (G.2.2.2.2 + 404)), (1, .int a1), (2, .int a2), (3, .int a3)]) S.1 S.2.1 dX8_times_35 hl (by decide) rfl (fun ls hl => ?_)
        refine lv_iload S.1 S.2.1 dX8_times_37 (lv_at hl 0 rfl) ?_
        refine lv_if_eq (tgt := 66) S.1 S.2.1 dX8_times_39 (by decide) (fun c21 => ?_) (fun c21 => ?_)
        · have _ := c21
          refine lv_aload_n S.1 S.2.1 dX8_times_66 rfl (lv_at hl 1 rfl) ?_
          obtain ⟨o22, E1, E⟩ := cd_nmE E
          refine cd_cVi (As := []) S hK hZ hl.1 (c_X8_bad l G  h o22 E1.symm) cd_v_X8_bad cd_m_X8_70 ⟨Nat.le_of_ble_eq_true rfl, Nat.le_of_ble_eq_true rfl⟩ ⟨rfl, rfl⟩ (ci := 8) (by decide) rfl cd_this8 rfl rfl (Nat.le_of_ble_eq_true rfl) ⟨Nat.zero_le _, Nat.zero_le _⟩ dX8_times_67 (fun H locs hZ => ?_)
          exact hret _ _ _ _ _ _ (Option.some.inj E) hZ dX8_times_70
        · exact absurd c21 (by decide)
      · have E := cd_fE c20 E
        refine lv_iload_n S.1 S.2.1 dX8_times_21 rfl (lv_at hl 3 rfl) ?_
        refine lv_iconst (v := 0) S.1 S.2.1 dX8_times_22 (by decide) ?_
        refine lv_iconst (v := 1) S.1 S.2.1 dX8_times_23 (by decide) ?_
        refine cd_cSz (As := [.int a3, .int 0, .int 1]) S hK hZ hl.1 (c_X8_in l G a3 0 1 h _ rfl) cd_v_X8_in cd_m_X8_51 ⟨Nat.le_of_ble_eq_true rfl, Nat.le_of_ble_eq_true rfl⟩ ⟨rfl, rfl⟩ rfl rfl (Nat.le_of_ble_eq_true rfl) ⟨Nat.zero_le _, Nat.zero_le _⟩ dX8_times_24 (fun H locs hZ b24 => ?_)
        refine lv_if_eq (tgt := 34) S.1 S.2.1 dX8_times_27 (by decide) (fun c25 => ?_) (fun c25 => ?_)
        · have E := cd_tE c25 E
          refine lv_iconst (v := 0) S.1 S.2.1 dX8_times_34 (by decide) ?_
          refine lv_istore (lv' := [(4, .int 0), (0, .ref (G.2.2.2.2 + 404)), (1, .int a1), (2, .int a2), (3, .int a3)]) S.1 S.2.1 dX8_times_35 hl (by decide) rfl (fun ls hl => ?_)
          refine lv_iload S.1 S.2.1 dX8_times_37 (lv_at hl 0 rfl) ?_
          refine lv_if_eq (tgt := 66) S.1 S.2.1 dX8_times_39 (by decide) (fun c26 => ?_) (fun c26 => ?_)
          · have _ := c26
            refine lv_aload_n S.1 S.2.1 dX8_times_66 rfl (lv_at hl 1 rfl) ?_
            obtain ⟨o27, E1, E⟩ := cd_nmE E
            refine cd_cVi (As := []) S hK hZ hl.1 (c_X8_bad l G  h o27 E1.symm) cd_v_X8_bad cd_m_X8_70 ⟨Nat.le_of_ble_eq_true rfl, Nat.le_of_ble_eq_true rfl⟩ ⟨rfl, rfl⟩ (ci := 8) (by decide) rfl cd_this8 rfl rfl (Nat.le_of_ble_eq_true rfl) ⟨Nat.zero_le _, Nat.zero_le _⟩ dX8_times_67 (fun H locs hZ => ?_)
            exact hret _ _ _ _ _ _ (Option.some.inj E) hZ dX8_times_70
          · exact absurd c26 (by decide)
        · have E := cd_fE c25 E
          refine lv_iconst (v := 1) S.1 S.2.1 dX8_times_30 (by decide) ?_
          refine lv_goto (tgt := 35) S.1 S.2.1 dX8_times_31 (by decide) ?_
          refine lv_istore (lv' := [(4, .int 1), (0, .ref (G.2.2.2.2 + 404)), (1, .int a1), (2, .int a2), (3, .int a3)]) S.1 S.2.1 dX8_times_35 hl (by decide) rfl (fun ls hl => ?_)
          refine lv_iload S.1 S.2.1 dX8_times_37 (lv_at hl 0 rfl) ?_
          refine lv_if_eq (tgt := 66) S.1 S.2.1 dX8_times_39 (by decide) (fun c29 => ?_) (fun c29 => ?_)
          · exact absurd c29 (by decide)
          · have _ := c29
            refine lv_aload_n S.1 S.2.1 dX8_times_42 rfl (lv_at hl 1 rfl) ?_
            refine lv_iload_n S.1 S.2.1 dX8_times_43 rfl (lv_at hl 2 rfl) ?_
            refine cd_cSi (As := [.int a1]) S hK hZ hl.1 (c_X8_groupAt l G a1 h _ rfl) cd_v_X8_groupAt cd_m_X8_55 ⟨Nat.le_of_ble_eq_true rfl, Nat.le_of_ble_eq_true rfl⟩ ⟨rfl, rfl⟩ rfl rfl (Nat.le_of_ble_eq_true rfl) ⟨Nat.zero_le _, Nat.zero_le _⟩ dX8_times_44 (fun H locs hZ => ?_)
            refine lv_iload_n S.1 S.2.1 dX8_times_47 rfl (lv_at hl 4 rfl) ?_
            refine lv_if_ne (tgt := 56) S.1 S.2.1 dX8_times_48 (by decide) (fun c31 => ?_) (fun c31 => ?_)
            · have E := cd_fE c31 E
              refine lv_bipush (v := 52) S.1 S.2.1 dX8_times_56 (by decide) ?_
              refine lv_iadd S.1 S.2.1 dX8_times_58 ?_
              refine lv_iload_n S.1 S.2.1 dX8_times_59 rfl (lv_at hl 3 rfl) ?_
              obtain ⟨o32, E1, E⟩ := cd_bE E
              refine cd_cVi (As := [.int ((f_X8_groupAt a1) + 52), .int a2]) S hK hZ hl.1 (c_X8_sumAt l G ((f_X8_groupAt a1) + 52) a2 h o32 E1) cd_v_X8_sumAt cd_m_X8_191 ⟨Nat.le_of_ble_eq_true rfl, Nat.le_of_ble_eq_true rfl⟩ ⟨rfl, rfl⟩ (ci := 8) (by decide) rfl cd_this8 rfl rfl (Nat.le_of_ble_eq_true rfl) ⟨Nat.zero_le _, Nat.zero_le _⟩ dX8_times_60 (fun H locs hZ => ?_)
              refine lv_goto (tgt := 70) S.1 S.2.1 dX8_times_63 (by decide) ?_
              exact hret _ _ _ _ _ _ (Option.some.inj E) hZ dX8_times_70
            · have E := cd_tE c31 E
              refine lv_bipush (v := 46) S.1 S.2.1 dX8_times_51 (by decide) ?_
              refine lv_goto (tgt := 58) S.1 S.2.1 dX8_times_53 (by decide) ?_
              refine lv_iadd S.1 S.2.1 dX8_times_58 ?_
              refine lv_iload_n S.1 S.2.1 dX8_times_59 rfl (lv_at hl 3 rfl) ?_
              obtain ⟨o34, E1, E⟩ := cd_bE E
              refine cd_cVi (As := [.int ((f_X8_groupAt a1) + 46), .int a2]) S hK hZ hl.1 (c_X8_sumAt l G ((f_X8_groupAt a1) + 46) a2 h o34 E1) cd_v_X8_sumAt cd_m_X8_191 ⟨Nat.le_of_ble_eq_true rfl, Nat.le_of_ble_eq_true rfl⟩ ⟨rfl, rfl⟩ (ci := 8) (by decide) rfl cd_this8 rfl rfl (Nat.le_of_ble_eq_true rfl) ⟨Nat.zero_le _, Nat.zero_le _⟩ dX8_times_60 (fun H locs hZ => ?_)
              refine lv_goto (tgt := 70) S.1 S.2.1 dX8_times_63 (by decide) ?_
              exact hret _ _ _ _ _ _ (Option.some.inj E) hZ dX8_times_70
abbrev rm_X8_scaledOf : Room := { frames := 2, cells := 0, slots := 0, locals := 42 }
theorem cd_v_X8_scaledOf : cd_V yX8_scaledOf cX8_scaledOf 7 (some .int) 3 := ⟨cd_i_X8_scaledOf, cd_e_X8_X8_scaledOf, cd_n_X8, cd_c_X8_scaledOf, by decide +kernel⟩
set_option maxHeartbeats 4000000 in
set_option maxRecDepth 100000 in
theorem c_X8_scaledOf (l : Launch) (G : cd_G) (a1 : Int32) (a2 : Int32) (a3 : Int32) (h : cd_Hp) (out : Int32) (E : f_X8_scaledOf a1 a2 a3 h = some out) : cd_Mi l G yX8_scaledOf (Cond.code yX8_scaledOf cX8_scaledOf 7 (some .int) :: cd_T) rm_X8_scaledOf [.ref (G.2.2.2.2 + 404), .int a1, .int a2, .int a3] h (out, h) := by
  refine cd_ini (by decide) (Nat.le_of_ble_eq_true rfl) ?_
  intro p e s m args below meth c Q ls H locs S hK hZ hl hret
  have hl : lv_has ls 7 [(0, .ref (G.2.2.2.2 + 404)), (1, .int a1), (2, .int a2), (3, .int a3)] := hl
  unfold f_X8_scaledOf at E
  refine lv_aload_n S.1 S.2.1 dX8_scaledOf_0 rfl (lv_at hl 0 rfl) ?_
  refine lv_iload_n S.1 S.2.1 dX8_scaledOf_1 rfl (lv_at hl 1 rfl) ?_
  refine lv_iload_n S.1 S.2.1 dX8_scaledOf_2 rfl (lv_at hl 2 rfl) ?_
  refine lv_iconst (v := 0) S.1 S.2.1 dX8_scaledOf_3 (by decide) ?_
  refine cd_cSi (As := [.int a1, .int a2, .int 0]) S hK hZ hl.1 (c_X8_countAt l G a1 a2 0 h _ rfl) cd_v_X8_countAt cd_m_X8_111 ⟨Nat.le_of_ble_eq_true rfl, Nat.le_of_ble_eq_true rfl⟩ ⟨rfl, rfl⟩ rfl rfl (Nat.le_of_ble_eq_true rfl) ⟨Nat.zero_le _, Nat.zero_le _⟩ dX8_scaledOf_4 (fun H locs hZ => ?_)
  refine lv_iconst (v := (-1)) S.1 S.2.1 dX8_scaledOf_7 (by decide) ?_
  obtain ⟨o2, E1, E⟩ := cd_bE E
  refine cd_cVi (As := [.int (f_X8_countAt a1 a2 0), .int ((-1))]) S hK hZ hl.1 (c_X8_sumAt l G (f_X8_countAt a1 a2 0) ((-1)) h o2 E1) cd_v_X8_sumAt cd_m_X8_191 ⟨Nat.le_of_ble_eq_true rfl, Nat.le_of_ble_eq_true rfl⟩ ⟨rfl, rfl⟩ (ci := 8) (by decide) rfl cd_this8 rfl rfl (Nat.le_of_ble_eq_true rfl) ⟨Nat.zero_le _, Nat.zero_le _⟩ dX8_scaledOf_8 (fun H locs hZ => ?_)
  refine lv_istore (lv' := [(4, .int o2), (0, .ref (G.2.2.2.2 + 404)), (1, .int a1), (2, .int a2), (3, .int a3)]) S.1 S.2.1 dX8_scaledOf_11 hl (by decide) rfl (fun ls hl => ?_)
  refine lv_aload_n S.1 S.2.1 dX8_scaledOf_13 rfl (lv_at hl 1 rfl) ?_
  refine lv_iload_n S.1 S.2.1 dX8_scaledOf_14 rfl (lv_at hl 2 rfl) ?_
  refine cd_cSi (As := [.int a1]) S hK hZ hl.1 (c_X8_groupAt l G a1 h _ rfl) cd_v_X8_groupAt cd_m_X8_55 ⟨Nat.le_of_ble_eq_true rfl, Nat.le_of_ble_eq_true rfl⟩ ⟨rfl, rfl⟩ rfl rfl (Nat.le_of_ble_eq_true rfl) ⟨Nat.zero_le _, Nat.zero_le _⟩ dX8_scaledOf_15 (fun H locs hZ => ?_)
  refine lv_bipush (v := 46) S.1 S.2.1 dX8_scaledOf_18 (by decide) ?_
  refine lv_iadd S.1 S.2.1 dX8_scaledOf_20 ?_
  refine lv_iconst (v := (-1)) S.1 S.2.1 dX8_scaledOf_21 (by decide) ?_
  obtain ⟨o5, E1, E⟩ := cd_bE E
  refine cd_cVi (As := [.int ((f_X8_groupAt a1) + 46), .int ((-1))]) S hK hZ hl.1 (c_X8_sumAt l G ((f_X8_groupAt a1) + 46) ((-1)) h o5 E1) cd_v_X8_sumAt cd_m_X8_191 ⟨Nat.le_of_ble_eq_true rfl, Nat.le_of_ble_eq_true rfl⟩ ⟨rfl, rfl⟩ (ci := 8) (by decide) rfl cd_this8 rfl rfl (Nat.le_of_ble_eq_true rfl) ⟨Nat.zero_le _, Nat.zero_le _⟩ dX8_scaledOf_22 (fun H locs hZ => ?_)
  refine lv_istore (lv' := [(5, .int o5), (4, .int o2), (0, .ref (G.2.2.2.2 + 404)), (1, .int a1), (2, .int a2), (3, .int a3)]) S.1 S.2.1 dX8_scaledOf_25 hl (by decide) rfl (fun ls hl => ?_)
  refine lv_aload_n S.1 S.2.1 dX8_scaledOf_27 rfl (lv_at hl 2 rfl) ?_
  refine lv_iload_n S.1 S.2.1 dX8_scaledOf_28 rfl (lv_at hl 3 rfl) ?_
  refine cd_cSi (As := [.int a1]) S hK hZ hl.1 (c_X8_groupAt l G a1 h _ rfl) cd_v_X8_groupAt cd_m_X8_55 ⟨Nat.le_of_ble_eq_true rfl, Nat.le_of_ble_eq_true rfl⟩ ⟨rfl, rfl⟩ rfl rfl (Nat.le_of_ble_eq_true rfl) ⟨Nat.zero_le _, Nat.zero_le _⟩ dX8_scaledOf_29 (fun H locs hZ => ?_)
  refine lv_bipush (v := 52) S.1 S.2.1 dX8_scaledOf_32 (by decide) ?_
  refine lv_iadd S.1 S.2.1 dX8_scaledOf_34 ?_
  refine lv_iconst (v := (-1)) S.1 S.2.1 dX8_scaledOf_35 (by decide) ?_
  obtain ⟨o8, E1, E⟩ := cd_bE E
  refine cd_cVi (As := [.int ((f_X8_groupAt a1) + 52), .int ((-1))]) S hK hZ hl.1 (c_X8_sumAt l G ((f_X8_groupAt a1) + 52) ((-1)) h o8 E1) cd_v_X8_sumAt cd_m_X8_191 ⟨Nat.le_of_ble_eq_true rfl, Nat.le_of_ble_eq_true rfl⟩ ⟨rfl, rfl⟩ (ci := 8) (by decide) rfl cd_this8 rfl rfl (Nat.le_of_ble_eq_true rfl) ⟨Nat.zero_le _, Nat.zero_le _⟩ dX8_scaledOf_36 (fun H locs hZ => ?_)
  refine lv_istore (lv' := [(6, .int o8), (5, .int o5), (4, .int o2), (0, .ref (G.2.2.2.2 + 404)), (1, .int a1), (2, .int a2), (3, .int a3)]) S.1 S.2.1 dX8_scaledOf_39 hl (by decide) rfl (fun ls hl => ?_)
  refine lv_iload_n S.1 S.2.1 dX8_scaledOf_41 rfl (lv_at hl 6 rfl) ?_
  refine lv_iconst (v := 1) S.1 S.2.1 dX8_scaledOf_42 (by decide) ?_
  refine lv_icmp_ne (tgt := 68) S.1 S.2.1 dX8_scaledOf_43 (by decide) (fun c10 => ?_) (fun c10 => ?_)
  · have E := cd_fE c10 E
    refine lv_iload S.1 S.2.1 dX8_scaledOf_68 (lv_at hl 0 rfl) ?_
    refine lv_if_ne (tgt := 77) S.1 S.2.1 dX8_scaledOf_70 (by decide) (fun c11 => ?_) (fun c11 => ?_)
    · have E := cd_fE c11 E
      refine lv_iload S.1 S.2.1 dX8_scaledOf_77 (lv_at hl 2 rfl) ?_
      refine lv_i2l S.1 S.2.1 dX8_scaledOf_79 rfl ?_
      refine lv_iload S.1 S.2.1 dX8_scaledOf_80 (lv_at hl 1 rfl) ?_
      refine lv_i2l S.1 S.2.1 dX8_scaledOf_82 rfl ?_
      refine lv_lmul S.1 S.2.1 dX8_scaledOf_83 ?_
      refine lv_iload S.1 S.2.1 dX8_scaledOf_84 (lv_at hl 0 rfl) ?_
      refine lv_i2l S.1 S.2.1 dX8_scaledOf_86 rfl ?_
      obtain ⟨z12, E⟩ := cd_ckE E
      refine lv_ldiv S.1 S.2.1 dX8_scaledOf_87 (cd_nz z12) ?_
      refine lv_l2i S.1 S.2.1 dX8_scaledOf_88 rfl ?_
      exact hret _ _ _ _ _ _ (congrArg (fun z => (z, h)) (Option.some.inj E)) hZ dX8_scaledOf_89
    · have E := cd_tE c11 E
      refine lv_iconst (v := (-1)) S.1 S.2.1 dX8_scaledOf_73 (by decide) ?_
      refine lv_goto (tgt := 89) S.1 S.2.1 dX8_scaledOf_74 (by decide) ?_
      exact hret _ _ _ _ _ _ (congrArg (fun z => (z, h)) (Option.some.inj E)) hZ dX8_scaledOf_89
  · have E := cd_tE c10 E
    refine lv_iload S.1 S.2.1 dX8_scaledOf_46 (lv_at hl 2 rfl) ?_
    refine lv_iload S.1 S.2.1 dX8_scaledOf_48 (lv_at hl 1 rfl) ?_
    refine lv_iload S.1 S.2.1 dX8_scaledOf_50 (lv_at hl 0 rfl) ?_
    refine lv_isub S.1 S.2.1 dX8_scaledOf_52 ?_
    refine lv_aload_n S.1 S.2.1 dX8_scaledOf_53 rfl (lv_at hl 3 rfl) ?_
    refine cd_get8 (v := .ref (G.2.2.2.2 + 405)) S hK hZ cd_this8 0 cd_f_X8_7 rfl dX8_scaledOf_54 ?_
    refine lv_iload_n S.1 S.2.1 dX8_scaledOf_57 rfl (lv_at hl 4 rfl) ?_
    refine lv_iload_n S.1 S.2.1 dX8_scaledOf_58 rfl (lv_at hl 5 rfl) ?_
    refine cd_cSi (As := [.int a1, .int a2]) S hK hZ hl.1 (c_X8_eventAt l G a1 a2 h _ rfl) cd_v_X8_eventAt cd_m_X8_115 ⟨Nat.le_of_ble_eq_true rfl, Nat.le_of_ble_eq_true rfl⟩ ⟨rfl, rfl⟩ rfl rfl (Nat.le_of_ble_eq_true rfl) ⟨Nat.zero_le _, Nat.zero_le _⟩ dX8_scaledOf_59 (fun H locs hZ => ?_)
    refine lv_iconst (v := 1) S.1 S.2.1 dX8_scaledOf_62 (by decide) ?_
    refine lv_iadd S.1 S.2.1 dX8_scaledOf_63 ?_
    obtain ⟨z14, E⟩ := cd_ckE E
    refine cd_iald S hK hZ (cd_r8_0 cd_this8) z14 dX8_scaledOf_64 ?_
    refine lv_imul S.1 S.2.1 dX8_scaledOf_65 ?_
    refine lv_iadd S.1 S.2.1 dX8_scaledOf_66 ?_
    exact hret _ _ _ _ _ _ (congrArg (fun z => (z, h)) (Option.some.inj E)) hZ dX8_scaledOf_67
abbrev rm_X8_scaled : Room := { frames := 3, cells := 0, slots := 0, locals := 68 }
theorem cd_v_X8_scaled : cd_V yX8_scaled cX8_scaled 4 (some .int) 3 := ⟨cd_i_X8_scaled, cd_e_X8_X8_scaled, cd_n_X8, cd_c_X8_scaled, by decide +kernel⟩
set_option maxHeartbeats 4000000 in
set_option maxRecDepth 100000 in
theorem c_X8_scaled (l : Launch) (G : cd_G) (a1 : Int32) (a2 : Int32) (a3 : Int32) (h : cd_Hp) (out : (Int32 × cd_Hp)) (E : f_X8_scaled a1 a2 a3 h = some out) : cd_Mi l G yX8_scaled (Cond.code yX8_scaled cX8_scaled 4 (some .int) :: cd_T) rm_X8_scaled [.ref (G.2.2.2.2 + 404), .int a1, .int a2, .int a3] h out := by
  refine cd_ini (by decide) (Nat.le_of_ble_eq_true rfl) ?_
  intro p e s m args below meth c Q ls H locs S hK hZ hl hret
  have hl : lv_has ls 4 [(0, .ref (G.2.2.2.2 + 404)), (1, .int a1), (2, .int a2), (3, .int a3)] := hl
  unfold f_X8_scaled at E
  refine lv_aload_n S.1 S.2.1 dX8_scaled_0 rfl (lv_at hl 0 rfl) ?_
  refine lv_iload_n S.1 S.2.1 dX8_scaled_1 rfl (lv_at hl 1 rfl) ?_
  refine lv_iload_n S.1 S.2.1 dX8_scaled_2 rfl (lv_at hl 2 rfl) ?_
  obtain ⟨o1, E1, E⟩ := cd_bE E
  refine cd_cVz (As := [.int a1, .int a2]) S hK hZ hl.1 (c_X8_isEvent l G a1 a2 h o1 E1) cd_v_X8_isEvent cd_m_X8_188 ⟨Nat.le_of_ble_eq_true rfl, Nat.le_of_ble_eq_true rfl⟩ ⟨rfl, rfl⟩ (ci := 8) (by decide) rfl cd_this8 rfl rfl (Nat.le_of_ble_eq_true rfl) ⟨Nat.zero_le _, Nat.zero_le _⟩ dX8_scaled_3 (fun H locs hZ b2 => ?_)
  refine lv_if_eq (tgt := 28) S.1 S.2.1 dX8_scaled_6 (by decide) (fun c3 => ?_) (fun c3 => ?_)
  · have E := cd_tE c3 E
    refine lv_aload_n S.1 S.2.1 dX8_scaled_28 rfl (lv_at hl 0 rfl) ?_
    obtain ⟨o4, E1, E⟩ := cd_nmE E
    refine cd_cVi (As := []) S hK hZ hl.1 (c_X8_bad l G  h o4 E1.symm) cd_v_X8_bad cd_m_X8_70 ⟨Nat.le_of_ble_eq_true rfl, Nat.le_of_ble_eq_true rfl⟩ ⟨rfl, rfl⟩ (ci := 8) (by decide) rfl cd_this8 rfl rfl (Nat.le_of_ble_eq_true rfl) ⟨Nat.zero_le _, Nat.zero_le _⟩ dX8_scaled_29 (fun H locs hZ => ?_)
    exact hret _ _ _ _ _ _ (Option.some.inj E) hZ dX8_scaled_32
  · have E := cd_fE c3 E
    refine lv_iload_n S.1 S.2.1 dX8_scaled_9 rfl (lv_at hl 3 rfl) ?_
    refine lv_iconst (v := 0) S.1 S.2.1 dX8_scaled_10 (by decide) ?_
    refine lv_iconst (v := 1) S.1 S.2.1 dX8_scaled_11 (by decide) ?_
    refine cd_cSz (As := [.int a3, .int 0, .int 1]) S hK hZ hl.1 (c_X8_in l G a3 0 1 h _ rfl) cd_v_X8_in cd_m_X8_51 ⟨Nat.le_of_ble_eq_true rfl, Nat.le_of_ble_eq_true rfl⟩ ⟨rfl, rfl⟩ rfl rfl (Nat.le_of_ble_eq_true rfl) ⟨Nat.zero_le _, Nat.zero_le _⟩ dX8_scaled_12 (fun H locs hZ b6 => ?_)
    refine lv_if_eq (tgt := 28) S.1 S.2.1 dX8_scaled_15 (by decide) (fun c7 => ?_) (fun c7 => ?_)
    · have E := cd_tE c7 E
      refine lv_aload_n S.1 S.2.1 dX8_scaled_28 rfl (lv_at hl 0 rfl) ?_
      obtain ⟨o8, E1, E⟩ := cd_nmE E
      refine cd_cVi (As := []) S hK hZ hl.1 (c_X8_bad l G  h o8 E1.symm) cd_v_X8_bad cd_m_X8_70 ⟨Nat.le_of_ble_eq_true rfl, Nat.le_of_ble_eq_true rfl⟩ ⟨rfl, rfl⟩ (ci := 8) (by decide) rfl cd_this8 rfl rfl (Nat.le_of_ble_eq_true rfl) ⟨Nat.zero_le _, Nat.zero_le _⟩ dX8_scaled_29 (fun H locs hZ => ?_)
      exact hret _ _ _ _ _ _ (Option.some.inj E) hZ dX8_scaled_32
    · have E := cd_fE c7 E
      refine lv_aload_n S.1 S.2.1 dX8_scaled_18 rfl (lv_at hl 0 rfl) ?_
      refine lv_iload_n S.1 S.2.1 dX8_scaled_19 rfl (lv_at hl 1 rfl) ?_
      refine lv_iload_n S.1 S.2.1 dX8_scaled_20 rfl (lv_at hl 2 rfl) ?_
      refine lv_iload_n S.1 S.2.1 dX8_scaled_21 rfl (lv_at hl 3 rfl) ?_
      obtain ⟨o10, E1, E⟩ := cd_bE E
      refine cd_cVi (As := [.int a1, .int a2, .int a3]) S hK hZ hl.1 (c_X8_scaledOf l G a1 a2 a3 h o10 E1) cd_v_X8_scaledOf cd_m_X8_194 ⟨Nat.le_of_ble_eq_true rfl, Nat.le_of_ble_eq_true rfl⟩ ⟨rfl, rfl⟩ (ci := 8) (by decide) rfl cd_this8 rfl rfl (Nat.le_of_ble_eq_true rfl) ⟨Nat.zero_le _, Nat.zero_le _⟩ dX8_scaled_22 (fun H locs hZ => ?_)
      refine lv_goto (tgt := 32) S.1 S.2.1 dX8_scaled_25 (by decide) ?_
      exact hret _ _ _ _ _ _ (Option.some.inj E) hZ dX8_scaled_32
abbrev rm_X8_fitOf : Room := { frames := 4, cells := 0, slots := 0, locals := 92 }
theorem cd_v_X8_fitOf : cd_V yX8_fitOf cX8_fitOf 3 (some .int) 1 := ⟨cd_i_X8_fitOf, cd_e_X8_X8_fitOf, cd_n_X8, cd_c_X8_fitOf, by decide +kernel⟩
set_option maxHeartbeats 4000000 in
set_option maxRecDepth 100000 in
theorem c_X8_fitOf (l : Launch) (G : cd_G) (a1 : Int32) (h : cd_Hp) (out : (Int32 × cd_Hp)) (E : f_X8_fitOf a1 h = some out) : cd_Mi l G yX8_fitOf (Cond.code yX8_fitOf cX8_fitOf 3 (some .int) :: cd_T) rm_X8_fitOf [.ref (G.2.2.2.2 + 404), .int a1] h out := by
  refine cd_ini (by decide) (Nat.le_of_ble_eq_true rfl) ?_
  intro p e s m args below meth c Q ls H locs S hK hZ hl hret
  have hl : lv_has ls 3 [(0, .ref (G.2.2.2.2 + 404)), (1, .int a1)] := hl
  have L7 : ∀ (n : Nat) (v7_2 : Int32) (h7_ : cd_Hp) (o : ((Int32 × cd_Hp) ⊕ (Int32 × cd_Hp))) (H : Heap) (locs : List Loc) (ls : Array Slot), cd_lp (f_X8_fitOf_B7 a1) n (v7_2, h7_) = some o → cd_Z G h7_ s.heap H locs → lv_has ls 3 [(2, .int v7_2), (0, .ref (G.2.2.2.2 + 404)), (1, .int a1)] → (∀ x, o = .inl x → x = out) → (∀ st, o = .inr st → ∀ (H : Heap) (locs : List Loc) (ls : Array Slot), cd_Z G st.2 s.heap H locs → lv_has ls 3 [(2, .int st.1), (0, .ref (G.2.2.2.2 + 404)), (1, .int a1)] → W p l e rm_X8_fitOf s m args below meth c H locs 0 0 Q (F0 m 42 ls [])) → W p l e rm_X8_fitOf s m args below meth c H locs 0 0 Q (F0 m 7 ls []) := by
    intro n
    induction n with
    | zero => intro v7_2 h7_ o H locs ls E; exact nomatch (show (none : Option ((Int32 × cd_Hp) ⊕ (Int32 × cd_Hp))) = some o from E)
    | succ n ih =>
      intro v7_2 h7_ o H locs ls E hZ hl hin hex
      have E : f_X8_fitOf_B7 a1 (cd_lp (f_X8_fitOf_B7 a1) n) (v7_2, h7_) = some o := E
      unfold f_X8_fitOf_B7 at E
      dsimp only at E
      refine lv_iload_n S.1 S.2.1 dX8_fitOf_7 rfl (lv_at hl 0 rfl) ?_
      refine lv_aload_n S.1 S.2.1 dX8_fitOf_8 rfl (lv_at hl 1 rfl) ?_
      refine cd_get8 (v := .ref (G.2.2.2.2 + 405)) S hK hZ cd_this8 0 cd_f_X8_7 rfl dX8_fitOf_9 ?_
      refine lv_bipush (v := 70) S.1 S.2.1 dX8_fitOf_12 (by decide) ?_
      refine cd_iald S hK hZ (cd_r8_0 cd_this8) (by decide) dX8_fitOf_14 ?_
      refine lv_icmp_ge (tgt := 42) S.1 S.2.1 dX8_fitOf_15 (by decide) (fun c2 => ?_) (fun c2 => ?_)
      · have E := cd_tE c2 E
        cases E
        exact hex _ rfl H locs ls hZ (lv_sub hl [0, 1, 2] rfl)
      · have E := cd_fE c2 E
        refine lv_iload_n S.1 S.2.1 dX8_fitOf_18 rfl (lv_at hl 2 rfl) ?_
        refine lv_iload_n S.1 S.2.1 dX8_fitOf_19 rfl (lv_at hl 0 rfl) ?_
        refine cd_cSz (As := [.int a1, .int v7_2]) S hK hZ hl.1 (c_X8_has l G a1 v7_2 h7_ _ rfl) cd_v_X8_has cd_m_X8_135 ⟨Nat.le_of_ble_eq_true rfl, Nat.le_of_ble_eq_true rfl⟩ ⟨rfl, rfl⟩ rfl rfl (Nat.le_of_ble_eq_true rfl) ⟨Nat.zero_le _, Nat.zero_le _⟩ dX8_fitOf_20 (fun H locs hZ b3 => ?_)
        refine lv_if_eq (tgt := 36) S.1 S.2.1 dX8_fitOf_23 (by decide) (fun c4 => ?_) (fun c4 => ?_)
        · have E := cd_tE c4 E
          obtain ⟨x5, ex5, E⟩ := cd_nmE E
          refine lv_iinc (v := x5) (lv' := [(2, .int x5), (0, .ref (G.2.2.2.2 + 404)), (1, .int a1)]) S.1 S.2.1 dX8_fitOf_36 hl (k := 0) rfl (by rw [ex5]; rfl) (by decide) rfl (fun ls hl => ?_)
          refine lv_goto (tgt := 7) S.1 S.2.1 dX8_fitOf_39 (by decide) ?_
          exact ih x5 h7_ o H locs ls E hZ (lv_sub hl [0, 1, 2] rfl) hin hex
        · have E := cd_fE c4 E
          refine lv_aload_n S.1 S.2.1 dX8_fitOf_26 rfl (lv_at hl 1 rfl) ?_
          refine lv_iload_n S.1 S.2.1 dX8_fitOf_27 rfl (lv_at hl 0 rfl) ?_
          obtain ⟨o6, E1, E⟩ := cd_bE E
          refine cd_cVz (As := [.int v7_2]) S hK hZ hl.1 (c_X8_isJoined l G v7_2 h7_ o6 E1) cd_v_X8_isJoined cd_m_X8_148 ⟨Nat.le_of_ble_eq_true rfl, Nat.le_of_ble_eq_true rfl⟩ ⟨rfl, rfl⟩ (ci := 8) (by decide) rfl cd_this8 rfl rfl (Nat.le_of_ble_eq_true rfl) ⟨Nat.zero_le _, Nat.zero_le _⟩ dX8_fitOf_28 (fun H locs hZ b7 => ?_)
          refine lv_if_ne (tgt := 36) S.1 S.2.1 dX8_fitOf_31 (by decide) (fun c8 => ?_) (fun c8 => ?_)
          · have E := cd_fE c8 E
            obtain ⟨x9, ex9, E⟩ := cd_nmE E
            refine lv_iinc (v := x9) (lv' := [(2, .int x9), (0, .ref (G.2.2.2.2 + 404)), (1, .int a1)]) S.1 S.2.1 dX8_fitOf_36 hl (k := 0) rfl (by rw [ex9]; rfl) (by decide) rfl (fun ls hl => ?_)
            refine lv_goto (tgt := 7) S.1 S.2.1 dX8_fitOf_39 (by decide) ?_
            exact ih x9 o6.2 o H locs ls E hZ (lv_sub hl [0, 1, 2] rfl) hin hex
          · have E := cd_tE c8 E
            refine lv_iconst (v := 0) S.1 S.2.1 dX8_fitOf_34 (by decide) ?_
            cases E
            exact hret _ _ _ _ _ _ (hin _ rfl) hZ dX8_fitOf_35
  unfold f_X8_fitOf at E
  refine lv_aload_n S.1 S.2.1 dX8_fitOf_0 rfl (lv_at hl 0 rfl) ?_
  refine lv_iconst (v := 0) S.1 S.2.1 dX8_fitOf_1 (by decide) ?_
  obtain ⟨h1, eh1, E⟩ := cd_nmE E
  refine cd_put8_9 S hK hZ cd_this8 cd_f_X8_132 eh1 dX8_fitOf_2 (fun H locs hZ => ?_)
  refine lv_iconst (v := 0) S.1 S.2.1 dX8_fitOf_5 (by decide) ?_
  refine lv_istore_n (lv' := [(2, .int 0), (0, .ref (G.2.2.2.2 + 404)), (1, .int a1)]) S.1 S.2.1 dX8_fitOf_6 rfl hl (by decide) rfl (fun ls hl => ?_)
  obtain ⟨o10, E1, EL, ER⟩ := cd_b2E E
  refine L7 cd_fu 0 h1 o10 H locs ls E1 hZ (lv_sub hl [0, 1, 2] rfl) EL (fun st11 hst H locs ls hZ hl => ?_)
  have E := ER st11 hst
  refine lv_iconst (v := 1) S.1 S.2.1 dX8_fitOf_42 (by decide) ?_
  exact hret _ _ _ _ _ _ (Option.some.inj E) hZ dX8_fitOf_43
abbrev rm_X8_fit : Room := { frames := 5, cells := 0, slots := 0, locals := 114 }
theorem cd_v_X8_fit : cd_V yX8_fit cX8_fit 2 (some .int) 1 := ⟨cd_i_X8_fit, cd_e_X8_X8_fit, cd_n_X8, cd_c_X8_fit, by decide +kernel⟩
set_option maxHeartbeats 4000000 in
set_option maxRecDepth 100000 in
theorem c_X8_fit (l : Launch) (G : cd_G) (a1 : Int32) (h : cd_Hp) (out : (Int32 × cd_Hp)) (E : f_X8_fit a1 h = some out) : cd_Mi l G yX8_fit (Cond.code yX8_fit cX8_fit 2 (some .int) :: cd_T) rm_X8_fit [.ref (G.2.2.2.2 + 404), .int a1] h out := by
  refine cd_ini (by decide) (Nat.le_of_ble_eq_true rfl) ?_
  intro p e s m args below meth c Q ls H locs S hK hZ hl hret
  have hl : lv_has ls 2 [(0, .ref (G.2.2.2.2 + 404)), (1, .int a1)] := hl
  unfold f_X8_fit at E
  refine lv_iload_n S.1 S.2.1 dX8_fit_0 rfl (lv_at hl 1 rfl) ?_
  refine lv_iconst (v := 0) S.1 S.2.1 dX8_fit_1 (by decide) ?_
  refine lv_iconst (v := 1) S.1 S.2.1 dX8_fit_2 (by decide) ?_
  refine lv_aload_n S.1 S.2.1 dX8_fit_3 rfl (lv_at hl 0 rfl) ?_
  refine cd_get8 (v := .ref (G.2.2.2.2 + 405)) S hK hZ cd_this8 0 cd_f_X8_7 rfl dX8_fit_4 ?_
  refine lv_bipush (v := 70) S.1 S.2.1 dX8_fit_7 (by decide) ?_
  refine cd_iald S hK hZ (cd_r8_0 cd_this8) (by decide) dX8_fit_9 ?_
  refine lv_ishl S.1 S.2.1 dX8_fit_10 ?_
  refine lv_iconst (v := 1) S.1 S.2.1 dX8_fit_11 (by decide) ?_
  refine lv_isub S.1 S.2.1 dX8_fit_12 ?_
  refine cd_cSz (As := [.int a1, .int 0, .int ((1 <<< ((cd_g h 405 (Int32.toNatClampNeg 70)) &&& 31)) - 1)]) S hK hZ hl.1 (c_X8_in l G a1 0 ((1 <<< ((cd_g h 405 (Int32.toNatClampNeg 70)) &&& 31)) - 1) h _ rfl) cd_v_X8_in cd_m_X8_51 ⟨Nat.le_of_ble_eq_true rfl, Nat.le_of_ble_eq_true rfl⟩ ⟨rfl, rfl⟩ rfl rfl (Nat.le_of_ble_eq_true rfl) ⟨Nat.zero_le _, Nat.zero_le _⟩ dX8_fit_13 (fun H locs hZ b1 => ?_)
  refine lv_if_eq (tgt := 27) S.1 S.2.1 dX8_fit_16 (by decide) (fun c2 => ?_) (fun c2 => ?_)
  · have E := cd_tE c2 E
    refine lv_aload_n S.1 S.2.1 dX8_fit_27 rfl (lv_at hl 0 rfl) ?_
    obtain ⟨o3, E1, E⟩ := cd_nmE E
    refine cd_cVi (As := []) S hK hZ hl.1 (c_X8_bad l G  h o3 E1.symm) cd_v_X8_bad cd_m_X8_70 ⟨Nat.le_of_ble_eq_true rfl, Nat.le_of_ble_eq_true rfl⟩ ⟨rfl, rfl⟩ (ci := 8) (by decide) rfl cd_this8 rfl rfl (Nat.le_of_ble_eq_true rfl) ⟨Nat.zero_le _, Nat.zero_le _⟩ dX8_fit_28 (fun H locs hZ => ?_)
    exact hret _ _ _ _ _ _ (Option.some.inj E) hZ dX8_fit_31
  · have E := cd_fE c2 E
    refine lv_aload_n S.1 S.2.1 dX8_fit_19 rfl (lv_at hl 0 rfl) ?_
    refine lv_iload_n S.1 S.2.1 dX8_fit_20 rfl (lv_at hl 1 rfl) ?_
    obtain ⟨o5, E1, E⟩ := cd_bE E
    refine cd_cVi (As := [.int a1]) S hK hZ hl.1 (c_X8_fitOf l G a1 h o5 E1) cd_v_X8_fitOf cd_m_X8_197 ⟨Nat.le_of_ble_eq_true rfl, Nat.le_of_ble_eq_true rfl⟩ ⟨rfl, rfl⟩ (ci := 8) (by decide) rfl cd_this8 rfl rfl (Nat.le_of_ble_eq_true rfl) ⟨Nat.zero_le _, Nat.zero_le _⟩ dX8_fit_21 (fun H locs hZ => ?_)
    refine lv_goto (tgt := 31) S.1 S.2.1 dX8_fit_24 (by decide) ?_
    exact hret _ _ _ _ _ _ (Option.some.inj E) hZ dX8_fit_31
abbrev rm_X8_queue : Room := { frames := 1, cells := 0, slots := 0, locals := 20 }
theorem cd_v_X8_queue : cd_V yX8_queue cX8_queue 2 (some .int) 1 := ⟨cd_i_X8_queue, cd_e_X8_X8_queue, cd_n_X8, cd_c_X8_queue, by decide +kernel⟩
set_option maxHeartbeats 4000000 in
set_option maxRecDepth 100000 in
theorem c_X8_queue (l : Launch) (G : cd_G) (a1 : Int32) (h : cd_Hp) (out : (Int32 × cd_Hp)) (E : f_X8_queue a1 h = some out) : cd_Mi l G yX8_queue (Cond.code yX8_queue cX8_queue 2 (some .int) :: cd_T) rm_X8_queue [.ref (G.2.2.2.2 + 404), .int a1] h out := by
  refine cd_ini (by decide) (Nat.le_of_ble_eq_true rfl) ?_
  intro p e s m args below meth c Q ls H locs S hK hZ hl hret
  have hl : lv_has ls 2 [(0, .ref (G.2.2.2.2 + 404)), (1, .int a1)] := hl
  unfold f_X8_queue at E
  refine lv_iload_n S.1 S.2.1 dX8_queue_0 rfl (lv_at hl 1 rfl) ?_
  refine lv_if_ge (tgt := 9) S.1 S.2.1 dX8_queue_1 (by decide) (fun c1 => ?_) (fun c1 => ?_)
  · have E := cd_tE c1 E
    refine lv_iload_n S.1 S.2.1 dX8_queue_9 rfl (lv_at hl 1 rfl) ?_
    refine lv_aload_n S.1 S.2.1 dX8_queue_10 rfl (lv_at hl 0 rfl) ?_
    refine cd_get8 (v := .ref (G.2.2.2.2 + 405)) S hK hZ cd_this8 0 cd_f_X8_7 rfl dX8_queue_11 ?_
    refine lv_sipush (v := 419) S.1 S.2.1 dX8_queue_14 (by decide) ?_
    refine cd_iald S hK hZ (cd_r8_0 cd_this8) (by decide) dX8_queue_17 ?_
    refine lv_icmp_ge (tgt := 34) S.1 S.2.1 dX8_queue_18 (by decide) (fun c2 => ?_) (fun c2 => ?_)
    · have E := cd_tE c2 E
      refine lv_iconst (v := (-1)) S.1 S.2.1 dX8_queue_34 (by decide) ?_
      exact hret _ _ _ _ _ _ (Option.some.inj E) hZ dX8_queue_35
    · have E := cd_fE c2 E
      refine lv_aload_n S.1 S.2.1 dX8_queue_21 rfl (lv_at hl 0 rfl) ?_
      refine cd_get8 (v := .ref (G.2.2.2.2 + 405)) S hK hZ cd_this8 0 cd_f_X8_7 rfl dX8_queue_22 ?_
      refine lv_sipush (v := 420) S.1 S.2.1 dX8_queue_25 (by decide) ?_
      refine lv_iload_n S.1 S.2.1 dX8_queue_28 rfl (lv_at hl 1 rfl) ?_
      refine lv_iadd S.1 S.2.1 dX8_queue_29 ?_
      obtain ⟨z3, E⟩ := cd_ckE E
      refine cd_iald S hK hZ (cd_r8_0 cd_this8) z3 dX8_queue_30 ?_
      refine lv_goto (tgt := 35) S.1 S.2.1 dX8_queue_31 (by decide) ?_
      exact hret _ _ _ _ _ _ (Option.some.inj E) hZ dX8_queue_35
  · have E := cd_fE c1 E
    refine lv_aload_n S.1 S.2.1 dX8_queue_4 rfl (lv_at hl 0 rfl) ?_
    obtain ⟨o4, E1, E⟩ := cd_nmE E
    refine cd_cVi (As := []) S hK hZ hl.1 (c_X8_bad l G  h o4 E1.symm) cd_v_X8_bad cd_m_X8_70 ⟨Nat.le_of_ble_eq_true rfl, Nat.le_of_ble_eq_true rfl⟩ ⟨rfl, rfl⟩ (ci := 8) (by decide) rfl cd_this8 rfl rfl (Nat.le_of_ble_eq_true rfl) ⟨Nat.zero_le _, Nat.zero_le _⟩ dX8_queue_5 (fun H locs hZ => ?_)
    exact hret _ _ _ _ _ _ (Option.some.inj E) hZ dX8_queue_8
abbrev rm_X8_sample : Room := { frames := 1, cells := 0, slots := 0, locals := 22 }
theorem cd_v_X8_sample : cd_V yX8_sample cX8_sample 3 (some .int) 2 := ⟨cd_i_X8_sample, cd_e_X8_X8_sample, cd_n_X8, cd_c_X8_sample, by decide +kernel⟩
set_option maxHeartbeats 4000000 in
set_option maxRecDepth 100000 in
theorem c_X8_sample (l : Launch) (G : cd_G) (a1 : Int32) (a2 : Int32) (h : cd_Hp) (out : (Int32 × cd_Hp)) (E : f_X8_sample a1 a2 h = some out) : cd_Mi l G yX8_sample (Cond.code yX8_sample cX8_sample 3 (some .int) :: cd_T) rm_X8_sample [.ref (G.2.2.2.2 + 404), .int a1, .int a2] h out := by
  refine cd_ini (by decide) (Nat.le_of_ble_eq_true rfl) ?_
  intro p e s m args below meth c Q ls H locs S hK hZ hl hret
  have hl : lv_has ls 3 [(0, .ref (G.2.2.2.2 + 404)), (1, .int a1), (2, .int a2)] := hl
  unfold f_X8_sample at E
  refine lv_iload_n S.1 S.2.1 dX8_sample_0 rfl (lv_at hl 1 rfl) ?_
  refine lv_if_lt (tgt := 13) S.1 S.2.1 dX8_sample_1 (by decide) (fun c1 => ?_) (fun c1 => ?_)
  · have E := cd_tE c1 E
    refine lv_aload_n S.1 S.2.1 dX8_sample_13 rfl (lv_at hl 0 rfl) ?_
    obtain ⟨o2, E1, E⟩ := cd_nmE E
    refine cd_cVi (As := []) S hK hZ hl.1 (c_X8_bad l G  h o2 E1.symm) cd_v_X8_bad cd_m_X8_70 ⟨Nat.le_of_ble_eq_true rfl, Nat.le_of_ble_eq_true rfl⟩ ⟨rfl, rfl⟩ (ci := 8) (by decide) rfl cd_this8 rfl rfl (Nat.le_of_ble_eq_true rfl) ⟨Nat.zero_le _, Nat.zero_le _⟩ dX8_sample_14 (fun H locs hZ => ?_)
    exact hret _ _ _ _ _ _ (Option.some.inj E) hZ dX8_sample_17
  · have E := cd_fE c1 E
    refine lv_iload_n S.1 S.2.1 dX8_sample_4 rfl (lv_at hl 2 rfl) ?_
    refine lv_iconst (v := 0) S.1 S.2.1 dX8_sample_5 (by decide) ?_
    refine lv_iconst (v := 2) S.1 S.2.1 dX8_sample_6 (by decide) ?_
    refine cd_cSz (As := [.int a2, .int 0, .int 2]) S hK hZ hl.1 (c_X8_in l G a2 0 2 h _ rfl) cd_v_X8_in cd_m_X8_51 ⟨Nat.le_of_ble_eq_true rfl, Nat.le_of_ble_eq_true rfl⟩ ⟨rfl, rfl⟩ rfl rfl (Nat.le_of_ble_eq_true rfl) ⟨Nat.zero_le _, Nat.zero_le _⟩ dX8_sample_7 (fun H locs hZ b4 => ?_)
    refine lv_if_ne (tgt := 18) S.1 S.2.1 dX8_sample_10 (by decide) (fun c5 => ?_) (fun c5 => ?_)
    · have E := cd_fE c5 E
      refine lv_iload_n S.1 S.2.1 dX8_sample_18 rfl (lv_at hl 1 rfl) ?_
      refine lv_aload_n S.1 S.2.1 dX8_sample_19 rfl (lv_at hl 0 rfl) ?_
      refine cd_get8 (v := .ref (G.2.2.2.2 + 405)) S hK hZ cd_this8 0 cd_f_X8_7 rfl dX8_sample_20 ?_
      refine lv_sipush (v := 429) S.1 S.2.1 dX8_sample_23 (by decide) ?_
      refine cd_iald S hK hZ (cd_r8_0 cd_this8) (by decide) dX8_sample_26 ?_
      refine lv_icmp_ge (tgt := 47) S.1 S.2.1 dX8_sample_27 (by decide) (fun c6 => ?_) (fun c6 => ?_)
      · have E := cd_tE c6 E
        refine lv_iconst (v := (-1)) S.1 S.2.1 dX8_sample_47 (by decide) ?_
        exact hret _ _ _ _ _ _ (Option.some.inj E) hZ dX8_sample_48
      · have E := cd_fE c6 E
        refine lv_aload_n S.1 S.2.1 dX8_sample_30 rfl (lv_at hl 0 rfl) ?_
        refine cd_get8 (v := .ref (G.2.2.2.2 + 405)) S hK hZ cd_this8 0 cd_f_X8_7 rfl dX8_sample_31 ?_
        refine lv_sipush (v := 430) S.1 S.2.1 dX8_sample_34 (by decide) ?_
        refine lv_iconst (v := 3) S.1 S.2.1 dX8_sample_37 (by decide) ?_
        refine lv_iload_n S.1 S.2.1 dX8_sample_38 rfl (lv_at hl 1 rfl) ?_
        refine lv_imul S.1 S.2.1 dX8_sample_39 ?_
        refine lv_iadd S.1 S.2.1 dX8_sample_40 ?_
        refine lv_iload_n S.1 S.2.1 dX8_sample_41 rfl (lv_at hl 2 rfl) ?_
        refine lv_iadd S.1 S.2.1 dX8_sample_42 ?_
        obtain ⟨z7, E⟩ := cd_ckE E
        refine cd_iald S hK hZ (cd_r8_0 cd_this8) z7 dX8_sample_43 ?_
        refine lv_goto (tgt := 48) S.1 S.2.1 dX8_sample_44 (by decide) ?_
        exact hret _ _ _ _ _ _ (Option.some.inj E) hZ dX8_sample_48
    · have E := cd_tE c5 E
      refine lv_aload_n S.1 S.2.1 dX8_sample_13 rfl (lv_at hl 0 rfl) ?_
      obtain ⟨o8, E1, E⟩ := cd_nmE E
      refine cd_cVi (As := []) S hK hZ hl.1 (c_X8_bad l G  h o8 E1.symm) cd_v_X8_bad cd_m_X8_70 ⟨Nat.le_of_ble_eq_true rfl, Nat.le_of_ble_eq_true rfl⟩ ⟨rfl, rfl⟩ (ci := 8) (by decide) rfl cd_this8 rfl rfl (Nat.le_of_ble_eq_true rfl) ⟨Nat.zero_le _, Nat.zero_le _⟩ dX8_sample_14 (fun H locs hZ => ?_)
      exact hret _ _ _ _ _ _ (Option.some.inj E) hZ dX8_sample_17
abbrev rm_X8_onNow : Room := { frames := 2, cells := 0, slots := 0, locals := 42 }
theorem cd_v_X8_onNow : cd_V yX8_onNow cX8_onNow 3 (some .int) 0 := ⟨cd_i_X8_onNow, cd_e_X8_X8_onNow, cd_n_X8, cd_c_X8_onNow, by decide +kernel⟩
set_option maxHeartbeats 4000000 in
set_option maxRecDepth 100000 in
theorem c_X8_onNow (l : Launch) (G : cd_G)  (h : cd_Hp) (out : Int32) (E : f_X8_onNow h = some out) : cd_Mi l G yX8_onNow (Cond.code yX8_onNow cX8_onNow 3 (some .int) :: cd_T) rm_X8_onNow [.ref (G.2.2.2.2 + 404)] h (out, h) := by
  refine cd_ini (by decide) (Nat.le_of_ble_eq_true rfl) ?_
  intro p e s m args below meth c Q ls H locs S hK hZ hl hret
  have hl : lv_has ls 3 [(0, .ref (G.2.2.2.2 + 404))] := hl
  have L4 : ∀ (n : Nat) (v4_1 : Int32) (v4_2 : Int32) (o : (Int32 × Int32)) (H : Heap) (locs : List Loc) (ls : Array Slot), cd_lp (f_X8_onNow_B4 h) n (v4_1, v4_2) = some o → cd_Z G h s.heap H locs → lv_has ls 3 [(2, .int v4_2), (1, .int v4_1), (0, .ref (G.2.2.2.2 + 404))] → (∀ (H : Heap) (locs : List Loc) (ls : Array Slot), cd_Z G h s.heap H locs → lv_has ls 3 [(2, .int o.2), (1, .int o.1), (0, .ref (G.2.2.2.2 + 404))] → W p l e rm_X8_onNow s m args below meth c H locs 0 0 Q (F0 m 33 ls [])) → W p l e rm_X8_onNow s m args below meth c H locs 0 0 Q (F0 m 4 ls []) := by
    intro n
    induction n with
    | zero => intro v4_1 v4_2 o H locs ls E; exact nomatch (show (none : Option (Int32 × Int32)) = some o from E)
    | succ n ih =>
      intro v4_1 v4_2 o H locs ls E hZ hl hex
      have E : f_X8_onNow_B4 h (cd_lp (f_X8_onNow_B4 h) n) (v4_1, v4_2) = some o := E
      unfold f_X8_onNow_B4 at E
      dsimp only at E
      refine lv_iload_n S.1 S.2.1 dX8_onNow_4 rfl (lv_at hl 0 rfl) ?_
      refine lv_aload_n S.1 S.2.1 dX8_onNow_5 rfl (lv_at hl 2 rfl) ?_
      refine cd_get8 (v := .ref (G.2.2.2.2 + 405)) S hK hZ cd_this8 0 cd_f_X8_7 rfl dX8_onNow_6 ?_
      refine lv_bipush (v := 70) S.1 S.2.1 dX8_onNow_9 (by decide) ?_
      refine cd_iald S hK hZ (cd_r8_0 cd_this8) (by decide) dX8_onNow_11 ?_
      refine lv_icmp_ge (tgt := 33) S.1 S.2.1 dX8_onNow_12 (by decide) (fun c1 => ?_) (fun c1 => ?_)
      · have E := cd_tE c1 E
        cases E
        exact hex H locs ls hZ (lv_sub hl [0, 1, 2] rfl)
      · have E := cd_fE c1 E
        refine lv_iload_n S.1 S.2.1 dX8_onNow_15 rfl (lv_at hl 1 rfl) ?_
        refine lv_aload_n S.1 S.2.1 dX8_onNow_16 rfl (lv_at hl 2 rfl) ?_
        refine lv_iload_n S.1 S.2.1 dX8_onNow_17 rfl (lv_at hl 0 rfl) ?_
        refine lv_bipush (v := 9) S.1 S.2.1 dX8_onNow_18 (by decide) ?_
        obtain ⟨o2, E1, E⟩ := cd_bE E
        refine cd_cVi (As := [.int v4_2, .int 9]) S hK hZ hl.1 (c_X8_ofGroup l G v4_2 9 h o2 E1) cd_v_X8_ofGroup cd_m_X8_63 ⟨Nat.le_of_ble_eq_true rfl, Nat.le_of_ble_eq_true rfl⟩ ⟨rfl, rfl⟩ (ci := 8) (by decide) rfl cd_this8 rfl rfl (Nat.le_of_ble_eq_true rfl) ⟨Nat.zero_le _, Nat.zero_le _⟩ dX8_onNow_20 (fun H locs hZ => ?_)
        refine lv_iload_n S.1 S.2.1 dX8_onNow_23 rfl (lv_at hl 0 rfl) ?_
        refine lv_ishl S.1 S.2.1 dX8_onNow_24 ?_
        refine lv_ior S.1 S.2.1 dX8_onNow_25 ?_
        obtain ⟨x4, ex4, E⟩ := cd_nmE E
        refine cd_topi ex4 ?_
        refine lv_istore_n (lv' := [(1, .int x4), (2, .int v4_2), (0, .ref (G.2.2.2.2 + 404))]) S.1 S.2.1 dX8_onNow_26 rfl hl (by decide) rfl (fun ls hl => ?_)
        obtain ⟨x5, ex5, E⟩ := cd_nmE E
        refine lv_iinc (v := x5) (lv' := [(2, .int x5), (1, .int x4), (0, .ref (G.2.2.2.2 + 404))]) S.1 S.2.1 dX8_onNow_27 hl (k := 1) rfl (by rw [ex5]; rfl) (by decide) rfl (fun ls hl => ?_)
        refine lv_goto (tgt := 4) S.1 S.2.1 dX8_onNow_30 (by decide) ?_
        exact ih x4 x5 o H locs ls E hZ (lv_sub hl [0, 1, 2] rfl) hex
  unfold f_X8_onNow at E
  refine lv_iconst (v := 0) S.1 S.2.1 dX8_onNow_0 (by decide) ?_
  refine lv_istore_n (lv' := [(1, .int 0), (0, .ref (G.2.2.2.2 + 404))]) S.1 S.2.1 dX8_onNow_1 rfl hl (by decide) rfl (fun ls hl => ?_)
  refine lv_iconst (v := 0) S.1 S.2.1 dX8_onNow_2 (by decide) ?_
  refine lv_istore_n (lv' := [(2, .int 0), (1, .int 0), (0, .ref (G.2.2.2.2 + 404))]) S.1 S.2.1 dX8_onNow_3 rfl hl (by decide) rfl (fun ls hl => ?_)
  obtain ⟨o6, E1, E⟩ := cd_bE E
  refine L4 cd_fu 0 0 o6 H locs ls E1 hZ (lv_sub hl [0, 1, 2] rfl) (fun H locs ls hZ hl => ?_)
  refine lv_iload_n S.1 S.2.1 dX8_onNow_33 rfl (lv_at hl 1 rfl) ?_
  exact hret _ _ _ _ _ _ (congrArg (fun z => (z, h)) (Option.some.inj E)) hZ dX8_onNow_34
abbrev rm_X8_toldOf : Room := { frames := 3, cells := 0, slots := 0, locals := 64 }
theorem cd_v_X8_toldOf : cd_V yX8_toldOf cX8_toldOf 2 (some .int) 1 := ⟨cd_i_X8_toldOf, cd_e_X8_X8_toldOf, cd_n_X8, cd_c_X8_toldOf, by decide +kernel⟩
set_option maxHeartbeats 4000000 in
set_option maxRecDepth 100000 in
theorem c_X8_toldOf (l : Launch) (G : cd_G) (a1 : Int32) (h : cd_Hp) (out : Int32) (E : f_X8_toldOf a1 h = some out) : cd_Mi l G yX8_toldOf (Cond.code yX8_toldOf cX8_toldOf 2 (some .int) :: cd_T) rm_X8_toldOf [.ref (G.2.2.2.2 + 404), .int a1] h (out, h) := by
  refine cd_ini (by decide) (Nat.le_of_ble_eq_true rfl) ?_
  intro p e s m args below meth c Q ls H locs S hK hZ hl hret
  have hl : lv_has ls 2 [(0, .ref (G.2.2.2.2 + 404)), (1, .int a1)] := hl
  unfold f_X8_toldOf at E
  refine lv_iload_n S.1 S.2.1 dX8_toldOf_0 rfl (lv_at hl 1 rfl) ?_
  refine cd_by (p := a1 = 0) (fun c1 => ?_) (fun c1 => ?_)
  · have E := cd_tE c1 E
    refine cd_tabI (k := 0) (off := 47) (tgt := 48) S.1 S.2.1 dX8_toldOf_1 c1 (by decide +kernel) (by decide) ?_
    refine lv_aload_n S.1 S.2.1 dX8_toldOf_48 rfl (lv_at hl 0 rfl) ?_
    refine cd_get8 (v := .ref (G.2.2.2.2 + 405)) S hK hZ cd_this8 0 cd_f_X8_7 rfl dX8_toldOf_49 ?_
    refine lv_iconst (v := 0) S.1 S.2.1 dX8_toldOf_52 (by decide) ?_
    refine cd_iald S hK hZ (cd_r8_0 cd_this8) (by decide) dX8_toldOf_53 ?_
    exact hret _ _ _ _ _ _ (congrArg (fun z => (z, h)) (Option.some.inj E)) hZ dX8_toldOf_54
  · have E := cd_fE c1 E
    refine cd_by (p := a1 = 1) (fun c2 => ?_) (fun c2 => ?_)
    · have E := cd_tE c2 E
      refine cd_tabI (k := 1) (off := 54) (tgt := 55) S.1 S.2.1 dX8_toldOf_1 c2 (by decide +kernel) (by decide) ?_
      refine lv_aload_n S.1 S.2.1 dX8_toldOf_55 rfl (lv_at hl 0 rfl) ?_
      refine cd_get8 (v := .ref (G.2.2.2.2 + 405)) S hK hZ cd_this8 0 cd_f_X8_7 rfl dX8_toldOf_56 ?_
      refine lv_bipush (v := 9) S.1 S.2.1 dX8_toldOf_59 (by decide) ?_
      refine cd_iald S hK hZ (cd_r8_0 cd_this8) (by decide) dX8_toldOf_61 ?_
      exact hret _ _ _ _ _ _ (congrArg (fun z => (z, h)) (Option.some.inj E)) hZ dX8_toldOf_62
    · have E := cd_fE c2 E
      refine cd_by (p := a1 = 2) (fun c3 => ?_) (fun c3 => ?_)
      · have E := cd_tE c3 E
        refine cd_tabI (k := 2) (off := 62) (tgt := 63) S.1 S.2.1 dX8_toldOf_1 c3 (by decide +kernel) (by decide) ?_
        refine lv_aload_n S.1 S.2.1 dX8_toldOf_63 rfl (lv_at hl 0 rfl) ?_
        refine cd_get8 (v := .ref (G.2.2.2.2 + 405)) S hK hZ cd_this8 0 cd_f_X8_7 rfl dX8_toldOf_64 ?_
        refine lv_bipush (v := 70) S.1 S.2.1 dX8_toldOf_67 (by decide) ?_
        refine cd_iald S hK hZ (cd_r8_0 cd_this8) (by decide) dX8_toldOf_69 ?_
        exact hret _ _ _ _ _ _ (congrArg (fun z => (z, h)) (Option.some.inj E)) hZ dX8_toldOf_70
      · have E := cd_fE c3 E
        refine cd_by (p := a1 = 3) (fun c4 => ?_) (fun c4 => ?_)
        · have E := cd_tE c4 E
          refine cd_tabI (k := 3) (off := 70) (tgt := 71) S.1 S.2.1 dX8_toldOf_1 c4 (by decide +kernel) (by decide) ?_
          refine lv_aload_n S.1 S.2.1 dX8_toldOf_71 rfl (lv_at hl 0 rfl) ?_
          refine cd_get8 (v := .ref (G.2.2.2.2 + 405)) S hK hZ cd_this8 0 cd_f_X8_7 rfl dX8_toldOf_72 ?_
          refine lv_sipush (v := 426) S.1 S.2.1 dX8_toldOf_75 (by decide) ?_
          refine cd_iald S hK hZ (cd_r8_0 cd_this8) (by decide) dX8_toldOf_78 ?_
          exact hret _ _ _ _ _ _ (congrArg (fun z => (z, h)) (Option.some.inj E)) hZ dX8_toldOf_79
        · have E := cd_fE c4 E
          refine cd_by (p := a1 = 4) (fun c5 => ?_) (fun c5 => ?_)
          · have E := cd_tE c5 E
            refine cd_tabI (k := 4) (off := 79) (tgt := 80) S.1 S.2.1 dX8_toldOf_1 c5 (by decide +kernel) (by decide) ?_
            refine lv_aload_n S.1 S.2.1 dX8_toldOf_80 rfl (lv_at hl 0 rfl) ?_
            refine cd_get8 (v := .ref (G.2.2.2.2 + 405)) S hK hZ cd_this8 0 cd_f_X8_7 rfl dX8_toldOf_81 ?_
            refine lv_sipush (v := 429) S.1 S.2.1 dX8_toldOf_84 (by decide) ?_
            refine cd_iald S hK hZ (cd_r8_0 cd_this8) (by decide) dX8_toldOf_87 ?_
            exact hret _ _ _ _ _ _ (congrArg (fun z => (z, h)) (Option.some.inj E)) hZ dX8_toldOf_88
          · have E := cd_fE c5 E
            refine cd_by (p := a1 = 5) (fun c6 => ?_) (fun c6 => ?_)
            · have E := cd_tE c6 E
              refine cd_tabI (k := 5) (off := 88) (tgt := 89) S.1 S.2.1 dX8_toldOf_1 c6 (by decide +kernel) (by decide) ?_
              refine lv_aload_n S.1 S.2.1 dX8_toldOf_89 rfl (lv_at hl 0 rfl) ?_
              refine cd_get8 (v := .ref (G.2.2.2.2 + 405)) S hK hZ cd_this8 0 cd_f_X8_7 rfl dX8_toldOf_90 ?_
              refine lv_sipush (v := 466) S.1 S.2.1 dX8_toldOf_93 (by decide) ?_
              refine cd_iald S hK hZ (cd_r8_0 cd_this8) (by decide) dX8_toldOf_96 ?_
              exact hret _ _ _ _ _ _ (congrArg (fun z => (z, h)) (Option.some.inj E)) hZ dX8_toldOf_97
            · have E := cd_fE c6 E
              refine cd_by (p := a1 = 6) (fun c7 => ?_) (fun c7 => ?_)
              · have E := cd_tE c7 E
                refine cd_tabI (k := 6) (off := 97) (tgt := 98) S.1 S.2.1 dX8_toldOf_1 c7 (by decide +kernel) (by decide) ?_
                refine lv_aload_n S.1 S.2.1 dX8_toldOf_98 rfl (lv_at hl 0 rfl) ?_
                refine cd_get8 (v := .ref (G.2.2.2.2 + 405)) S hK hZ cd_this8 0 cd_f_X8_7 rfl dX8_toldOf_99 ?_
                refine lv_sipush (v := 428) S.1 S.2.1 dX8_toldOf_102 (by decide) ?_
                refine cd_iald S hK hZ (cd_r8_0 cd_this8) (by decide) dX8_toldOf_105 ?_
                exact hret _ _ _ _ _ _ (congrArg (fun z => (z, h)) (Option.some.inj E)) hZ dX8_toldOf_106
              · have E := cd_fE c7 E
                refine cd_by (p := a1 = 7) (fun c8 => ?_) (fun c8 => ?_)
                · have E := cd_tE c8 E
                  refine cd_tabI (k := 7) (off := 106) (tgt := 107) S.1 S.2.1 dX8_toldOf_1 c8 (by decide +kernel) (by decide) ?_
                  refine lv_aload_n S.1 S.2.1 dX8_toldOf_107 rfl (lv_at hl 0 rfl) ?_
                  obtain ⟨o9, E1, E⟩ := cd_bE E
                  refine cd_cVi (As := []) S hK hZ hl.1 (c_X8_onNow l G  h o9 E1) cd_v_X8_onNow cd_m_X8_200 ⟨Nat.le_of_ble_eq_true rfl, Nat.le_of_ble_eq_true rfl⟩ ⟨rfl, rfl⟩ (ci := 8) (by decide) rfl cd_this8 rfl rfl (Nat.le_of_ble_eq_true rfl) ⟨Nat.zero_le _, Nat.zero_le _⟩ dX8_toldOf_108 (fun H locs hZ => ?_)
                  exact hret _ _ _ _ _ _ (congrArg (fun z => (z, h)) (Option.some.inj E)) hZ dX8_toldOf_111
                · have E := cd_fE c8 E
                  refine lv_tableOut (tgt := 112) S.1 S.2.1 dX8_toldOf_1 (by have z0 := lv_neT c1 (a := 0) (by decide); have z1 := lv_neT c2 (a := 1) (by decide); have z2 := lv_neT c3 (a := 2) (by decide); have z3 := lv_neT c4 (a := 3) (by decide); have z4 := lv_neT c5 (a := 4) (by decide); have z5 := lv_neT c6 (a := 5) (by decide); have z6 := lv_neT c7 (a := 6) (by decide); have z7 := lv_neT c8 (a := 7) (by decide); omega) (by decide) ?_
                  refine lv_aload_n S.1 S.2.1 dX8_toldOf_112 rfl (lv_at hl 0 rfl) ?_
                  refine cd_get8 (v := .ref (G.2.2.2.2 + 405)) S hK hZ cd_this8 0 cd_f_X8_7 rfl dX8_toldOf_113 ?_
                  refine lv_sipush (v := 427) S.1 S.2.1 dX8_toldOf_116 (by decide) ?_
                  refine cd_iald S hK hZ (cd_r8_0 cd_this8) (by decide) dX8_toldOf_119 ?_
                  exact hret _ _ _ _ _ _ (congrArg (fun z => (z, h)) (Option.some.inj E)) hZ dX8_toldOf_120
abbrev rm_X8_told : Room := { frames := 4, cells := 0, slots := 0, locals := 85 }
theorem cd_v_X8_told : cd_V yX8_told cX8_told 2 (some .int) 1 := ⟨cd_i_X8_told, cd_e_X8_X8_told, cd_n_X8, cd_c_X8_told, by decide +kernel⟩
set_option maxHeartbeats 4000000 in
set_option maxRecDepth 100000 in
theorem c_X8_told (l : Launch) (G : cd_G) (a1 : Int32) (h : cd_Hp) (out : (Int32 × cd_Hp)) (E : f_X8_told a1 h = some out) : cd_Mi l G yX8_told (Cond.code yX8_told cX8_told 2 (some .int) :: cd_T) rm_X8_told [.ref (G.2.2.2.2 + 404), .int a1] h out := by
  refine cd_ini (by decide) (Nat.le_of_ble_eq_true rfl) ?_
  intro p e s m args below meth c Q ls H locs S hK hZ hl hret
  have hl : lv_has ls 2 [(0, .ref (G.2.2.2.2 + 404)), (1, .int a1)] := hl
  unfold f_X8_told at E
  refine lv_iload_n S.1 S.2.1 dX8_told_0 rfl (lv_at hl 1 rfl) ?_
  refine lv_iconst (v := 0) S.1 S.2.1 dX8_told_1 (by decide) ?_
  refine lv_bipush (v := 8) S.1 S.2.1 dX8_told_2 (by decide) ?_
  refine cd_cSz (As := [.int a1, .int 0, .int 8]) S hK hZ hl.1 (c_X8_in l G a1 0 8 h _ rfl) cd_v_X8_in cd_m_X8_51 ⟨Nat.le_of_ble_eq_true rfl, Nat.le_of_ble_eq_true rfl⟩ ⟨rfl, rfl⟩ rfl rfl (Nat.le_of_ble_eq_true rfl) ⟨Nat.zero_le _, Nat.zero_le _⟩ dX8_told_4 (fun H locs hZ b1 => ?_)
  refine lv_if_eq (tgt := 18) S.1 S.2.1 dX8_told_7 (by decide) (fun c2 => ?_) (fun c2 => ?_)
  · have E := cd_tE c2 E
    refine lv_aload_n S.1 S.2.1 dX8_told_18 rfl (lv_at hl 0 rfl) ?_
    obtain ⟨o3, E1, E⟩ := cd_nmE E
    refine cd_cVi (As := []) S hK hZ hl.1 (c_X8_bad l G  h o3 E1.symm) cd_v_X8_bad cd_m_X8_70 ⟨Nat.le_of_ble_eq_true rfl, Nat.le_of_ble_eq_true rfl⟩ ⟨rfl, rfl⟩ (ci := 8) (by decide) rfl cd_this8 rfl rfl (Nat.le_of_ble_eq_true rfl) ⟨Nat.zero_le _, Nat.zero_le _⟩ dX8_told_19 (fun H locs hZ => ?_)
    exact hret _ _ _ _ _ _ (Option.some.inj E) hZ dX8_told_22
  · have E := cd_fE c2 E
    refine lv_aload_n S.1 S.2.1 dX8_told_10 rfl (lv_at hl 0 rfl) ?_
    refine lv_iload_n S.1 S.2.1 dX8_told_11 rfl (lv_at hl 1 rfl) ?_
    obtain ⟨o5, E1, E⟩ := cd_bE E
    refine cd_cVi (As := [.int a1]) S hK hZ hl.1 (c_X8_toldOf l G a1 h o5 E1) cd_v_X8_toldOf cd_m_X8_203 ⟨Nat.le_of_ble_eq_true rfl, Nat.le_of_ble_eq_true rfl⟩ ⟨rfl, rfl⟩ (ci := 8) (by decide) rfl cd_this8 rfl rfl (Nat.le_of_ble_eq_true rfl) ⟨Nat.zero_le _, Nat.zero_le _⟩ dX8_told_12 (fun H locs hZ => ?_)
    refine lv_goto (tgt := 22) S.1 S.2.1 dX8_told_15 (by decide) ?_
    exact hret _ _ _ _ _ _ (Option.some.inj E) hZ dX8_told_22
abbrev rm_X8_type : Room := { frames := 1, cells := 0, slots := 0, locals := 22 }
theorem cd_v_X8_type : cd_V yX8_type cX8_type 2 (some .int) 1 := ⟨cd_i_X8_type, cd_e_X8_X8_type, cd_n_X8, cd_c_X8_type, by decide +kernel⟩
set_option maxHeartbeats 4000000 in
set_option maxRecDepth 100000 in
theorem c_X8_type (l : Launch) (G : cd_G) (a1 : Int32) (h : cd_Hp) (out : (Int32 × cd_Hp)) (E : f_X8_type a1 h = some out) : cd_Mi l G yX8_type (Cond.code yX8_type cX8_type 2 (some .int) :: cd_T) rm_X8_type [.ref (G.2.2.2.2 + 404), .int a1] h out := by
  refine cd_ini (by decide) (Nat.le_of_ble_eq_true rfl) ?_
  intro p e s m args below meth c Q ls H locs S hK hZ hl hret
  have hl : lv_has ls 2 [(0, .ref (G.2.2.2.2 + 404)), (1, .int a1)] := hl
  unfold f_X8_type at E
  refine lv_iload_n S.1 S.2.1 dX8_type_0 rfl (lv_at hl 1 rfl) ?_
  refine lv_iconst (v := 0) S.1 S.2.1 dX8_type_1 (by decide) ?_
  refine lv_bipush (v := 127) S.1 S.2.1 dX8_type_2 (by decide) ?_
  refine cd_cSz (As := [.int a1, .int 0, .int 127]) S hK hZ hl.1 (c_X8_in l G a1 0 127 h _ rfl) cd_v_X8_in cd_m_X8_51 ⟨Nat.le_of_ble_eq_true rfl, Nat.le_of_ble_eq_true rfl⟩ ⟨rfl, rfl⟩ rfl rfl (Nat.le_of_ble_eq_true rfl) ⟨Nat.zero_le _, Nat.zero_le _⟩ dX8_type_4 (fun H locs hZ b1 => ?_)
  refine lv_if_ne (tgt := 15) S.1 S.2.1 dX8_type_7 (by decide) (fun c2 => ?_) (fun c2 => ?_)
  · have E := cd_fE c2 E
    refine lv_aload_n S.1 S.2.1 dX8_type_15 rfl (lv_at hl 0 rfl) ?_
    refine cd_get8 (v := .int (cd_g h 404 6)) S hK hZ cd_this8 6 cd_f_X8_206 rfl dX8_type_16 ?_
    refine lv_bipush (v := 120) S.1 S.2.1 dX8_type_19 (by decide) ?_
    refine lv_icmp_ne (tgt := 29) S.1 S.2.1 dX8_type_21 (by decide) (fun c3 => ?_) (fun c3 => ?_)
    · have E := cd_fE c3 E
      refine lv_aload_n S.1 S.2.1 dX8_type_29 rfl (lv_at hl 0 rfl) ?_
      refine cd_get8 (v := .ref (G.2.2.2.2 + 409)) S hK hZ cd_this8 5 cd_f_X8_22 rfl dX8_type_30 ?_
      refine lv_aload_n S.1 S.2.1 dX8_type_33 rfl (lv_at hl 0 rfl) ?_
      refine cd_get8 (v := .int (cd_g h 404 6)) S hK hZ cd_this8 6 cd_f_X8_206 rfl dX8_type_34 ?_
      refine lv_iload_n S.1 S.2.1 dX8_type_37 rfl (lv_at hl 1 rfl) ?_
      obtain ⟨z4, E⟩ := cd_ckE E
      obtain ⟨h5, eh5, E⟩ := cd_nmE E
      refine cd_iast S hK hZ (cd_r8_5 cd_this8) z4 eh5 dX8_type_38 (fun H locs hZ => ?_)
      refine lv_aload_n S.1 S.2.1 dX8_type_39 rfl (lv_at hl 0 rfl) ?_
      refine lv_dup S.1 S.2.1 dX8_type_40 rfl ?_
      refine cd_get8 (v := .int (cd_g h5 404 6)) S hK hZ cd_this8 6 cd_f_X8_206 rfl dX8_type_41 ?_
      refine lv_iconst (v := 1) S.1 S.2.1 dX8_type_44 (by decide) ?_
      refine lv_iadd S.1 S.2.1 dX8_type_45 ?_
      obtain ⟨h6, eh6, E⟩ := cd_nmE E
      refine cd_put8_6 S hK hZ cd_this8 cd_f_X8_206 eh6 dX8_type_46 (fun H locs hZ => ?_)
      refine lv_aload_n S.1 S.2.1 dX8_type_49 rfl (lv_at hl 0 rfl) ?_
      refine cd_get8 (v := .int (cd_g h6 404 6)) S hK hZ cd_this8 6 cd_f_X8_206 rfl dX8_type_50 ?_
      exact hret _ _ _ _ _ _ (Option.some.inj E) hZ dX8_type_53
    · have E := cd_tE c3 E
      refine lv_aload_n S.1 S.2.1 dX8_type_24 rfl (lv_at hl 0 rfl) ?_
      obtain ⟨o7, E1, E⟩ := cd_nmE E
      refine cd_cVi (As := []) S hK hZ hl.1 (c_X8_full l G  h o7 E1.symm) cd_v_X8_full cd_m_X8_98 ⟨Nat.le_of_ble_eq_true rfl, Nat.le_of_ble_eq_true rfl⟩ ⟨rfl, rfl⟩ (ci := 8) (by decide) rfl cd_this8 rfl rfl (Nat.le_of_ble_eq_true rfl) ⟨Nat.zero_le _, Nat.zero_le _⟩ dX8_type_25 (fun H locs hZ => ?_)
      exact hret _ _ _ _ _ _ (Option.some.inj E) hZ dX8_type_28
  · have E := cd_tE c2 E
    refine lv_aload_n S.1 S.2.1 dX8_type_10 rfl (lv_at hl 0 rfl) ?_
    obtain ⟨o9, E1, E⟩ := cd_nmE E
    refine cd_cVi (As := []) S hK hZ hl.1 (c_X8_bad l G  h o9 E1.symm) cd_v_X8_bad cd_m_X8_70 ⟨Nat.le_of_ble_eq_true rfl, Nat.le_of_ble_eq_true rfl⟩ ⟨rfl, rfl⟩ (ci := 8) (by decide) rfl cd_this8 rfl rfl (Nat.le_of_ble_eq_true rfl) ⟨Nat.zero_le _, Nat.zero_le _⟩ dX8_type_11 (fun H locs hZ => ?_)
    exact hret _ _ _ _ _ _ (Option.some.inj E) hZ dX8_type_14
abbrev rm_X8_clear : Room := { frames := 0, cells := 0, slots := 0, locals := 0 }
theorem cd_v_X8_clear : cd_V yX8_clear cX8_clear 2 (some .int) 0 := ⟨cd_i_X8_clear, cd_e_X8_X8_clear, cd_n_X8, cd_c_X8_clear, by decide +kernel⟩
set_option maxHeartbeats 4000000 in
set_option maxRecDepth 100000 in
theorem c_X8_clear (l : Launch) (G : cd_G)  (h : cd_Hp) (out : (Int32 × cd_Hp)) (E : f_X8_clear h = out) : cd_Mi l G yX8_clear (Cond.code yX8_clear cX8_clear 2 (some .int) :: cd_T) rm_X8_clear [.ref (G.2.2.2.2 + 404)] h out := by
  refine cd_ini (by decide) (Nat.le_of_ble_eq_true rfl) ?_
  intro p e s m args below meth c Q ls H locs S hK hZ hl hret
  have hl : lv_has ls 2 [(0, .ref (G.2.2.2.2 + 404))] := hl
  unfold f_X8_clear at E
  refine lv_aload_n S.1 S.2.1 dX8_clear_0 rfl (lv_at hl 0 rfl) ?_
  refine cd_get8 (v := .int (cd_g h 404 6)) S hK hZ cd_this8 6 cd_f_X8_206 rfl dX8_clear_1 ?_
  obtain ⟨x1, ex1, E⟩ := cd_nmE E
  refine cd_topi ex1 ?_
  refine lv_istore_n (lv' := [(1, .int x1), (0, .ref (G.2.2.2.2 + 404))]) S.1 S.2.1 dX8_clear_4 rfl hl (by decide) rfl (fun ls hl => ?_)
  refine lv_aload_n S.1 S.2.1 dX8_clear_5 rfl (lv_at hl 1 rfl) ?_
  refine lv_iconst (v := 0) S.1 S.2.1 dX8_clear_6 (by decide) ?_
  obtain ⟨h2, eh2, E⟩ := cd_nmE E
  refine cd_put8_6 S hK hZ cd_this8 cd_f_X8_206 eh2 dX8_clear_7 (fun H locs hZ => ?_)
  refine lv_iload_n S.1 S.2.1 dX8_clear_10 rfl (lv_at hl 0 rfl) ?_
  exact hret _ _ _ _ _ _ (E) hZ dX8_clear_11
abbrev rm_X8_isAt : Room := { frames := 1, cells := 0, slots := 0, locals := 22 }
theorem cd_v_X8_isAt : cd_V yX8_isAt cX8_isAt 3 (some .boolean) 2 := ⟨cd_i_X8_isAt, cd_e_X8_X8_isAt, cd_n_X8, cd_c_X8_isAt, by decide +kernel⟩
set_option maxHeartbeats 4000000 in
set_option maxRecDepth 100000 in
theorem c_X8_isAt (l : Launch) (G : cd_G) (a1 : Int32) (a2 : Int32) (h : cd_Hp) (out : Int32) (E : f_X8_isAt a1 a2 h = some out) : cd_Mz l G yX8_isAt (Cond.code yX8_isAt cX8_isAt 3 (some .boolean) :: cd_T) rm_X8_isAt [.ref (G.2.2.2.2 + 404), .int a1, .int a2] h (out, h) := by
  refine cd_inz (by decide) (Nat.le_of_ble_eq_true rfl) ?_
  intro p e s m args below meth c Q ls H locs S hK hZ hl hret
  have hl : lv_has ls 3 [(0, .ref (G.2.2.2.2 + 404)), (1, .int a1), (2, .int a2)] := hl
  unfold f_X8_isAt at E
  refine lv_aload_n S.1 S.2.1 dX8_isAt_0 rfl (lv_at hl 0 rfl) ?_
  refine cd_get8 (v := .int (cd_g h 404 15)) S hK hZ cd_this8 15 cd_f_X8_209 rfl dX8_isAt_1 ?_
  refine lv_aload_n S.1 S.2.1 dX8_isAt_4 rfl (lv_at hl 0 rfl) ?_
  refine cd_get8 (v := .int (cd_g h 404 6)) S hK hZ cd_this8 6 cd_f_X8_206 rfl dX8_isAt_5 ?_
  refine lv_icmp_ge (tgt := 32) S.1 S.2.1 dX8_isAt_8 (by decide) (fun c1 => ?_) (fun c1 => ?_)
  · have E := cd_tE c1 E
    refine lv_iconst (v := 0) S.1 S.2.1 dX8_isAt_32 (by decide) ?_
    exact hret _ _ _ _ _ _ (by decide) (congrArg (fun z => (z, h)) (Option.some.inj E)) hZ dX8_isAt_33
  · have E := cd_fE c1 E
    refine lv_aload_n S.1 S.2.1 dX8_isAt_11 rfl (lv_at hl 0 rfl) ?_
    refine cd_get8 (v := .ref (G.2.2.2.2 + 409)) S hK hZ cd_this8 5 cd_f_X8_22 rfl dX8_isAt_12 ?_
    refine lv_aload_n S.1 S.2.1 dX8_isAt_15 rfl (lv_at hl 0 rfl) ?_
    refine cd_get8 (v := .int (cd_g h 404 15)) S hK hZ cd_this8 15 cd_f_X8_209 rfl dX8_isAt_16 ?_
    obtain ⟨z2, E⟩ := cd_ckE E
    refine cd_iald S hK hZ (cd_r8_5 cd_this8) z2 dX8_isAt_19 ?_
    refine lv_iload_n S.1 S.2.1 dX8_isAt_20 rfl (lv_at hl 1 rfl) ?_
    refine lv_iload_n S.1 S.2.1 dX8_isAt_21 rfl (lv_at hl 2 rfl) ?_
    refine cd_cSz (As := [.int (cd_g h 409 ((cd_g h 404 15).toNatClampNeg)), .int a1, .int a2]) S hK hZ hl.1 (c_X8_in l G (cd_g h 409 ((cd_g h 404 15).toNatClampNeg)) a1 a2 h _ rfl) cd_v_X8_in cd_m_X8_51 ⟨Nat.le_of_ble_eq_true rfl, Nat.le_of_ble_eq_true rfl⟩ ⟨rfl, rfl⟩ rfl rfl (Nat.le_of_ble_eq_true rfl) ⟨Nat.zero_le _, Nat.zero_le _⟩ dX8_isAt_22 (fun H locs hZ b3 => ?_)
    refine lv_if_eq (tgt := 32) S.1 S.2.1 dX8_isAt_25 (by decide) (fun c4 => ?_) (fun c4 => ?_)
    · have E := cd_tE c4 E
      refine lv_iconst (v := 0) S.1 S.2.1 dX8_isAt_32 (by decide) ?_
      exact hret _ _ _ _ _ _ (by decide) (congrArg (fun z => (z, h)) (Option.some.inj E)) hZ dX8_isAt_33
    · have E := cd_fE c4 E
      refine lv_iconst (v := 1) S.1 S.2.1 dX8_isAt_28 (by decide) ?_
      refine lv_goto (tgt := 33) S.1 S.2.1 dX8_isAt_29 (by decide) ?_
      exact hret _ _ _ _ _ _ (by decide) (congrArg (fun z => (z, h)) (Option.some.inj E)) hZ dX8_isAt_33
abbrev rm_X8_blanks : Room := { frames := 2, cells := 0, slots := 0, locals := 44 }
theorem cd_v_X8_blanks : cd_V yX8_blanks cX8_blanks 1 none 0 := ⟨cd_i_X8_blanks, cd_e_X8_X8_blanks, cd_n_X8, cd_c_X8_blanks, by decide +kernel⟩
set_option maxHeartbeats 4000000 in
set_option maxRecDepth 100000 in
theorem c_X8_blanks (l : Launch) (G : cd_G)  (h : cd_Hp) (out : cd_Hp) (E : f_X8_blanks h = some out) : cd_Mv l G yX8_blanks (Cond.code yX8_blanks cX8_blanks 1 none :: cd_T) rm_X8_blanks [.ref (G.2.2.2.2 + 404)] h out := by
  refine cd_inv (by decide) (Nat.le_of_ble_eq_true rfl) ?_
  intro p e s m args below meth c Q ls H locs S hK hZ hl hret
  have hl : lv_has ls 1 [(0, .ref (G.2.2.2.2 + 404))] := hl
  have L0 : ∀ (n : Nat) (h0_ : cd_Hp) (o : (cd_Hp)) (H : Heap) (locs : List Loc) (ls : Array Slot), cd_lp (f_X8_blanks_B0) n h0_ = some o → cd_Z G h0_ s.heap H locs → lv_has ls 1 [(0, .ref (G.2.2.2.2 + 404))] → (∀ (H : Heap) (locs : List Loc) (ls : Array Slot), cd_Z G o s.heap H locs → lv_has ls 1 [(0, .ref (G.2.2.2.2 + 404))] → W p l e rm_X8_blanks s m args below meth c H locs 0 0 Q (F0 m 24 ls [])) → W p l e rm_X8_blanks s m args below meth c H locs 0 0 Q (F0 m 0 ls []) := by
    intro n
    induction n with
    | zero => intro h0_ o H locs ls E; exact nomatch (show (none : Option (cd_Hp)) = some o from E)
    | succ n ih =>
      intro h0_ o H locs ls E hZ hl hex
      have E : f_X8_blanks_B0 (cd_lp (f_X8_blanks_B0) n) h0_ = some o := E
      unfold f_X8_blanks_B0 at E
      refine lv_aload_n S.1 S.2.1 dX8_blanks_0 rfl (lv_at hl 0 rfl) ?_
      refine lv_bipush (v := 32) S.1 S.2.1 dX8_blanks_1 (by decide) ?_
      refine lv_bipush (v := 32) S.1 S.2.1 dX8_blanks_3 (by decide) ?_
      obtain ⟨o1, E1, E⟩ := cd_bE E
      refine cd_cVz (As := [.int 32, .int 32]) S hK hZ hl.1 (c_X8_isAt l G 32 32 h0_ o1 E1) cd_v_X8_isAt cd_m_X8_212 ⟨Nat.le_of_ble_eq_true rfl, Nat.le_of_ble_eq_true rfl⟩ ⟨rfl, rfl⟩ (ci := 8) (by decide) rfl cd_this8 rfl rfl (Nat.le_of_ble_eq_true rfl) ⟨Nat.zero_le _, Nat.zero_le _⟩ dX8_blanks_5 (fun H locs hZ b2 => ?_)
      refine lv_if_eq (tgt := 24) S.1 S.2.1 dX8_blanks_8 (by decide) (fun c3 => ?_) (fun c3 => ?_)
      · have E := cd_tE c3 E
        cases E
        exact hex H locs ls hZ (lv_sub hl [0] rfl)
      · have E := cd_fE c3 E
        refine lv_aload_n S.1 S.2.1 dX8_blanks_11 rfl (lv_at hl 0 rfl) ?_
        refine lv_dup S.1 S.2.1 dX8_blanks_12 rfl ?_
        refine cd_get8 (v := .int (cd_g h0_ 404 15)) S hK hZ cd_this8 15 cd_f_X8_209 rfl dX8_blanks_13 ?_
        refine lv_iconst (v := 1) S.1 S.2.1 dX8_blanks_16 (by decide) ?_
        refine lv_iadd S.1 S.2.1 dX8_blanks_17 ?_
        obtain ⟨h4, eh4, E⟩ := cd_nmE E
        refine cd_put8_15 S hK hZ cd_this8 cd_f_X8_209 eh4 dX8_blanks_18 (fun H locs hZ => ?_)
        refine lv_goto (tgt := 0) S.1 S.2.1 dX8_blanks_21 (by decide) ?_
        exact ih h4 o H locs ls E hZ (lv_sub hl [0] rfl) hex
  unfold f_X8_blanks at E
  obtain ⟨o5, E1, E⟩ := cd_bE E
  refine L0 cd_fu h o5 H locs ls E1 hZ (lv_sub hl [0] rfl) (fun H locs ls hZ hl => ?_)
  exact hret _ _ _ _ _ (Option.some.inj E) hZ dX8_blanks_24
abbrev rm_X8_fails : Room := { frames := 0, cells := 0, slots := 0, locals := 0 }
theorem cd_v_X8_fails : cd_V yX8_fails cX8_fails 2 (some .boolean) 1 := ⟨cd_i_X8_fails, cd_e_X8_X8_fails, cd_n_X8, cd_c_X8_fails, by decide +kernel⟩
set_option maxHeartbeats 4000000 in
set_option maxRecDepth 100000 in
theorem c_X8_fails (l : Launch) (G : cd_G) (a1 : Int32) (h : cd_Hp) (out : (Int32 × cd_Hp)) (E : f_X8_fails a1 h = out) : cd_Mz l G yX8_fails (Cond.code yX8_fails cX8_fails 2 (some .boolean) :: cd_T) rm_X8_fails [.ref (G.2.2.2.2 + 404), .int a1] h out := by
  refine cd_inz (by decide) (Nat.le_of_ble_eq_true rfl) ?_
  intro p e s m args below meth c Q ls H locs S hK hZ hl hret
  have hl : lv_has ls 2 [(0, .ref (G.2.2.2.2 + 404)), (1, .int a1)] := hl
  unfold f_X8_fails at E
  refine lv_aload_n S.1 S.2.1 dX8_fails_0 rfl (lv_at hl 0 rfl) ?_
  refine lv_iload_n S.1 S.2.1 dX8_fails_1 rfl (lv_at hl 1 rfl) ?_
  obtain ⟨h1, eh1, E⟩ := cd_nmE E
  refine cd_put8_16 S hK hZ cd_this8 cd_f_X8_215 eh1 dX8_fails_2 (fun H locs hZ => ?_)
  refine lv_iconst (v := 0) S.1 S.2.1 dX8_fails_5 (by decide) ?_
  exact hret _ _ _ _ _ _ (by decide) (E) hZ dX8_fails_6
abbrev rm_X8_leastOf : Room := { frames := 0, cells := 0, slots := 0, locals := 0 }
theorem cd_v_X8_leastOf : cd_Vs yX8_leastOf cX8_leastOf 1 (some .int) 1 := ⟨cd_s_X8_leastOf, cd_n_X8, cd_c_X8_leastOf, by decide +kernel⟩
set_option maxHeartbeats 4000000 in
set_option maxRecDepth 100000 in
theorem c_X8_leastOf (l : Launch) (G : cd_G) (a0 : Int32) (h : cd_Hp) (out : Int32) (E : f_X8_leastOf a0 = out) : cd_Mi l G yX8_leastOf (Cond.code yX8_leastOf cX8_leastOf 1 (some .int) :: cd_T) rm_X8_leastOf [.int a0] h (out, h) := by
  refine cd_ini (by decide) (Nat.le_of_ble_eq_true rfl) ?_
  intro p e s m args below meth c Q ls H locs S hK hZ hl hret
  have hl : lv_has ls 1 [(0, .int a0)] := hl
  unfold f_X8_leastOf at E
  refine lv_iload_n S.1 S.2.1 dX8_leastOf_0 rfl (lv_at hl 0 rfl) ?_
  refine lv_bipush (v := 109) S.1 S.2.1 dX8_leastOf_1 (by decide) ?_
  refine lv_icmp_eq (tgt := 12) S.1 S.2.1 dX8_leastOf_3 (by decide) (fun c1 => ?_) (fun c1 => ?_)
  · have E := cd_tE c1 E
    refine lv_iconst (v := 2) S.1 S.2.1 dX8_leastOf_12 (by decide) ?_
    refine lv_goto (tgt := 47) S.1 S.2.1 dX8_leastOf_13 (by decide) ?_
    exact hret _ _ _ _ _ _ (congrArg (fun z => (z, h)) (E)) hZ dX8_leastOf_47
  · have E := cd_fE c1 E
    refine lv_iload_n S.1 S.2.1 dX8_leastOf_6 rfl (lv_at hl 0 rfl) ?_
    refine lv_bipush (v := 114) S.1 S.2.1 dX8_leastOf_7 (by decide) ?_
    refine lv_icmp_ne (tgt := 16) S.1 S.2.1 dX8_leastOf_9 (by decide) (fun c2 => ?_) (fun c2 => ?_)
    · have E := cd_fE c2 E
      refine lv_iload_n S.1 S.2.1 dX8_leastOf_16 rfl (lv_at hl 0 rfl) ?_
      refine lv_bipush (v := 99) S.1 S.2.1 dX8_leastOf_17 (by decide) ?_
      refine lv_icmp_ne (tgt := 26) S.1 S.2.1 dX8_leastOf_19 (by decide) (fun c3 => ?_) (fun c3 => ?_)
      · have E := cd_fE c3 E
        refine lv_iload_n S.1 S.2.1 dX8_leastOf_26 rfl (lv_at hl 0 rfl) ?_
        refine lv_bipush (v := 102) S.1 S.2.1 dX8_leastOf_27 (by decide) ?_
        refine lv_icmp_ne (tgt := 36) S.1 S.2.1 dX8_leastOf_29 (by decide) (fun c4 => ?_) (fun c4 => ?_)
        · have E := cd_fE c4 E
          refine lv_iload_n S.1 S.2.1 dX8_leastOf_36 rfl (lv_at hl 0 rfl) ?_
          refine lv_bipush (v := 103) S.1 S.2.1 dX8_leastOf_37 (by decide) ?_
          refine lv_icmp_ne (tgt := 46) S.1 S.2.1 dX8_leastOf_39 (by decide) (fun c5 => ?_) (fun c5 => ?_)
          · have E := cd_fE c5 E
            refine lv_iconst (v := (-1)) S.1 S.2.1 dX8_leastOf_46 (by decide) ?_
            exact hret _ _ _ _ _ _ (congrArg (fun z => (z, h)) (E)) hZ dX8_leastOf_47
          · have E := cd_tE c5 E
            refine lv_iconst (v := 5) S.1 S.2.1 dX8_leastOf_42 (by decide) ?_
            refine lv_goto (tgt := 47) S.1 S.2.1 dX8_leastOf_43 (by decide) ?_
            exact hret _ _ _ _ _ _ (congrArg (fun z => (z, h)) (E)) hZ dX8_leastOf_47
        · have E := cd_tE c4 E
          refine lv_iconst (v := 1) S.1 S.2.1 dX8_leastOf_32 (by decide) ?_
          refine lv_goto (tgt := 47) S.1 S.2.1 dX8_leastOf_33 (by decide) ?_
          exact hret _ _ _ _ _ _ (congrArg (fun z => (z, h)) (E)) hZ dX8_leastOf_47
      · have E := cd_tE c3 E
        refine lv_iconst (v := 3) S.1 S.2.1 dX8_leastOf_22 (by decide) ?_
        refine lv_goto (tgt := 47) S.1 S.2.1 dX8_leastOf_23 (by decide) ?_
        exact hret _ _ _ _ _ _ (congrArg (fun z => (z, h)) (E)) hZ dX8_leastOf_47
    · have E := cd_tE c2 E
      refine lv_iconst (v := 2) S.1 S.2.1 dX8_leastOf_12 (by decide) ?_
      refine lv_goto (tgt := 47) S.1 S.2.1 dX8_leastOf_13 (by decide) ?_
      exact hret _ _ _ _ _ _ (congrArg (fun z => (z, h)) (E)) hZ dX8_leastOf_47
abbrev rm_X8_takesNumber : Room := { frames := 2, cells := 0, slots := 0, locals := 44 }
theorem cd_v_X8_takesNumber : cd_V yX8_takesNumber cX8_takesNumber 4 (some .boolean) 1 := ⟨cd_i_X8_takesNumber, cd_e_X8_X8_takesNumber, cd_n_X8, cd_c_X8_takesNumber, by decide +kernel⟩
set_option maxHeartbeats 4000000 in
set_option maxRecDepth 100000 in
theorem c_X8_takesNumber (l : Launch) (G : cd_G) (a1 : Int32) (h : cd_Hp) (out : (Int32 × cd_Hp)) (E : f_X8_takesNumber a1 h = some out) : cd_Mz l G yX8_takesNumber (Cond.code yX8_takesNumber cX8_takesNumber 4 (some .boolean) :: cd_T) rm_X8_takesNumber [.ref (G.2.2.2.2 + 404), .int a1] h out := by
  refine cd_inz (by decide) (Nat.le_of_ble_eq_true rfl) ?_
  intro p e s m args below meth c Q ls H locs S hK hZ hl hret
  have hl : lv_has ls 4 [(0, .ref (G.2.2.2.2 + 404)), (1, .int a1)] := hl
  have L7 : ∀ (p7_2 : Int32), ∀ (n : Nat) (v7_3 : Int32) (h7_ : cd_Hp) (o : ((Int32 × cd_Hp) ⊕ (Int32 × cd_Hp))) (H : Heap) (locs : List Loc) (ls : Array Slot), cd_lp (f_X8_takesNumber_B7 a1 p7_2) n (v7_3, h7_) = some o → cd_Z G h7_ s.heap H locs → lv_has ls 4 [(3, .int v7_3), (2, .int p7_2), (0, .ref (G.2.2.2.2 + 404)), (1, .int a1)] → (∀ x, o = .inl x → x = out) → (∀ st, o = .inr st → ∀ (H : Heap) (locs : List Loc) (ls : Array Slot), cd_Z G st.2 s.heap H locs → lv_has ls 4 [(3, .int st.1), (2, .int p7_2), (0, .ref (G.2.2.2.2 + 404)), (1, .int a1)] → W p l e rm_X8_takesNumber s m args below meth c H locs 0 0 Q (F0 m 68 ls [])) → W p l e rm_X8_takesNumber s m args below meth c H locs 0 0 Q (F0 m 7 ls []) := by
    intro p7_2
    intro n
    induction n with
    | zero => intro v7_3 h7_ o H locs ls E; exact nomatch (show (none : Option ((Int32 × cd_Hp) ⊕ (Int32 × cd_Hp))) = some o from E)
    | succ n ih =>
      intro v7_3 h7_ o H locs ls E hZ hl hin hex
      have E : f_X8_takesNumber_B7 a1 p7_2 (cd_lp (f_X8_takesNumber_B7 a1 p7_2) n) (v7_3, h7_) = some o := E
      unfold f_X8_takesNumber_B7 at E
      dsimp only at E
      refine lv_aload_n S.1 S.2.1 dX8_takesNumber_7 rfl (lv_at hl 2 rfl) ?_
      refine lv_bipush (v := 48) S.1 S.2.1 dX8_takesNumber_8 (by decide) ?_
      refine lv_bipush (v := 57) S.1 S.2.1 dX8_takesNumber_10 (by decide) ?_
      obtain ⟨o2, E1, E⟩ := cd_bE E
      refine cd_cVz (As := [.int 48, .int 57]) S hK hZ hl.1 (c_X8_isAt l G 48 57 h7_ o2 E1) cd_v_X8_isAt cd_m_X8_212 ⟨Nat.le_of_ble_eq_true rfl, Nat.le_of_ble_eq_true rfl⟩ ⟨rfl, rfl⟩ (ci := 8) (by decide) rfl cd_this8 rfl rfl (Nat.le_of_ble_eq_true rfl) ⟨Nat.zero_le _, Nat.zero_le _⟩ dX8_takesNumber_12 (fun H locs hZ b3 => ?_)
      refine lv_if_eq (tgt := 68) S.1 S.2.1 dX8_takesNumber_15 (by decide) (fun c4 => ?_) (fun c4 => ?_)
      · have E := cd_tE c4 E
        cases E
        exact hex _ rfl H locs ls hZ (lv_sub hl [0, 1, 2, 3] rfl)
      · have E := cd_fE c4 E
        refine lv_aload_n S.1 S.2.1 dX8_takesNumber_18 rfl (lv_at hl 2 rfl) ?_
        refine cd_get8 (v := .int (cd_g h7_ 404 15)) S hK hZ cd_this8 15 cd_f_X8_209 rfl dX8_takesNumber_19 ?_
        refine lv_iload_n S.1 S.2.1 dX8_takesNumber_22 rfl (lv_at hl 1 rfl) ?_
        refine lv_iconst (v := 3) S.1 S.2.1 dX8_takesNumber_23 (by decide) ?_
        refine lv_iadd S.1 S.2.1 dX8_takesNumber_24 ?_
        refine lv_icmp_ne (tgt := 37) S.1 S.2.1 dX8_takesNumber_25 (by decide) (fun c5 => ?_) (fun c5 => ?_)
        · have E := cd_fE c5 E
          refine lv_bipush (v := 10) S.1 S.2.1 dX8_takesNumber_37 (by decide) ?_
          refine lv_iload_n S.1 S.2.1 dX8_takesNumber_39 rfl (lv_at hl 0 rfl) ?_
          refine lv_imul S.1 S.2.1 dX8_takesNumber_40 ?_
          refine lv_aload_n S.1 S.2.1 dX8_takesNumber_41 rfl (lv_at hl 2 rfl) ?_
          refine cd_get8 (v := .ref (G.2.2.2.2 + 409)) S hK hZ cd_this8 5 cd_f_X8_22 rfl dX8_takesNumber_42 ?_
          refine lv_aload_n S.1 S.2.1 dX8_takesNumber_45 rfl (lv_at hl 2 rfl) ?_
          refine cd_get8 (v := .int (cd_g h7_ 404 15)) S hK hZ cd_this8 15 cd_f_X8_209 rfl dX8_takesNumber_46 ?_
          obtain ⟨z6, E⟩ := cd_ckE E
          refine cd_iald S hK hZ (cd_r8_5 cd_this8) z6 dX8_takesNumber_49 ?_
          refine lv_iadd S.1 S.2.1 dX8_takesNumber_50 ?_
          refine lv_bipush (v := 48) S.1 S.2.1 dX8_takesNumber_51 (by decide) ?_
          refine lv_isub S.1 S.2.1 dX8_takesNumber_53 ?_
          obtain ⟨x7, ex7, E⟩ := cd_nmE E
          refine cd_topi ex7 ?_
          refine lv_istore_n (lv' := [(3, .int x7), (2, .int p7_2), (0, .ref (G.2.2.2.2 + 404)), (1, .int a1)]) S.1 S.2.1 dX8_takesNumber_54 rfl hl (by decide) rfl (fun ls hl => ?_)
          refine lv_aload_n S.1 S.2.1 dX8_takesNumber_55 rfl (lv_at hl 2 rfl) ?_
          refine lv_dup S.1 S.2.1 dX8_takesNumber_56 rfl ?_
          refine cd_get8 (v := .int (cd_g h7_ 404 15)) S hK hZ cd_this8 15 cd_f_X8_209 rfl dX8_takesNumber_57 ?_
          refine lv_iconst (v := 1) S.1 S.2.1 dX8_takesNumber_60 (by decide) ?_
          refine lv_iadd S.1 S.2.1 dX8_takesNumber_61 ?_
          obtain ⟨h8, eh8, E⟩ := cd_nmE E
          refine cd_put8_15 S hK hZ cd_this8 cd_f_X8_209 eh8 dX8_takesNumber_62 (fun H locs hZ => ?_)
          refine lv_goto (tgt := 7) S.1 S.2.1 dX8_takesNumber_65 (by decide) ?_
          exact ih x7 h8 o H locs ls E hZ (lv_sub hl [0, 1, 2, 3] rfl) hin hex
        · have E := cd_tE c5 E
          refine lv_aload_n S.1 S.2.1 dX8_takesNumber_28 rfl (lv_at hl 2 rfl) ?_
          refine lv_aload_n S.1 S.2.1 dX8_takesNumber_29 rfl (lv_at hl 2 rfl) ?_
          refine cd_get8 (v := .int (cd_g h7_ 404 15)) S hK hZ cd_this8 15 cd_f_X8_209 rfl dX8_takesNumber_30 ?_
          obtain ⟨o9, E1, E⟩ := cd_nmE E
          refine cd_cVz (As := [.int (cd_g h7_ 404 15)]) S hK hZ hl.1 (c_X8_fails l G (cd_g h7_ 404 15) h7_ o9 E1.symm) cd_v_X8_fails cd_m_X8_218 ⟨Nat.le_of_ble_eq_true rfl, Nat.le_of_ble_eq_true rfl⟩ ⟨rfl, rfl⟩ (ci := 8) (by decide) rfl cd_this8 rfl rfl (Nat.le_of_ble_eq_true rfl) ⟨Nat.zero_le _, Nat.zero_le _⟩ dX8_takesNumber_33 (fun H locs hZ b10 => ?_)
          cases E
          exact hret _ _ _ _ _ _ b10 (hin _ rfl) hZ dX8_takesNumber_36
  unfold f_X8_takesNumber at E
  refine lv_aload_n S.1 S.2.1 dX8_takesNumber_0 rfl (lv_at hl 0 rfl) ?_
  refine cd_get8 (v := .int (cd_g h 404 15)) S hK hZ cd_this8 15 cd_f_X8_209 rfl dX8_takesNumber_1 ?_
  obtain ⟨x1, ex1, E⟩ := cd_nmE E
  refine cd_topi ex1 ?_
  refine lv_istore_n (lv' := [(2, .int x1), (0, .ref (G.2.2.2.2 + 404)), (1, .int a1)]) S.1 S.2.1 dX8_takesNumber_4 rfl hl (by decide) rfl (fun ls hl => ?_)
  refine lv_iconst (v := 0) S.1 S.2.1 dX8_takesNumber_5 (by decide) ?_
  refine lv_istore_n (lv' := [(3, .int 0), (2, .int x1), (0, .ref (G.2.2.2.2 + 404)), (1, .int a1)]) S.1 S.2.1 dX8_takesNumber_6 rfl hl (by decide) rfl (fun ls hl => ?_)
  obtain ⟨o11, E1, EL, ER⟩ := cd_b2E E
  refine L7 x1 cd_fu 0 h o11 H locs ls E1 hZ (lv_sub hl [0, 1, 2, 3] rfl) EL (fun st12 hst H locs ls hZ hl => ?_)
  have E := ER st12 hst
  refine lv_aload_n S.1 S.2.1 dX8_takesNumber_68 rfl (lv_at hl 2 rfl) ?_
  refine cd_get8 (v := .ref (G.2.2.2.2 + 415)) S hK hZ cd_this8 13 cd_f_X8_40 rfl dX8_takesNumber_69 ?_
  refine lv_iload_n S.1 S.2.1 dX8_takesNumber_72 rfl (lv_at hl 3 rfl) ?_
  refine lv_iload_n S.1 S.2.1 dX8_takesNumber_73 rfl (lv_at hl 0 rfl) ?_
  obtain ⟨z13, E⟩ := cd_ckE E
  obtain ⟨h14, eh14, E⟩ := cd_nmE E
  refine cd_iast S hK hZ (cd_r8_13 cd_this8) z13 eh14 dX8_takesNumber_74 (fun H locs hZ => ?_)
  refine lv_iconst (v := 1) S.1 S.2.1 dX8_takesNumber_75 (by decide) ?_
  exact hret _ _ _ _ _ _ (by decide) (Option.some.inj E) hZ dX8_takesNumber_76
abbrev rm_X8_takesOrder : Room := { frames := 3, cells := 0, slots := 0, locals := 67 }
theorem cd_v_X8_takesOrder : cd_V yX8_takesOrder cX8_takesOrder 5 (some .boolean) 0 := ⟨cd_i_X8_takesOrder, cd_e_X8_X8_takesOrder, cd_n_X8, cd_c_X8_takesOrder, by decide +kernel⟩
set_option maxHeartbeats 4000000 in
set_option maxRecDepth 100000 in
theorem c_X8_takesOrder (l : Launch) (G : cd_G)  (h : cd_Hp) (out : (Int32 × cd_Hp)) (E : f_X8_takesOrder h = some out) : cd_Mz l G yX8_takesOrder (Cond.code yX8_takesOrder cX8_takesOrder 5 (some .boolean) :: cd_T) rm_X8_takesOrder [.ref (G.2.2.2.2 + 404)] h out := by
  refine cd_inz (by decide) (Nat.le_of_ble_eq_true rfl) ?_
  intro p e s m args below meth c Q ls H locs S hK hZ hl hret
  have hl : lv_has ls 5 [(0, .ref (G.2.2.2.2 + 404))] := hl
  have L68 : ∀ (p68_2 : Int32) (p68_3 : Int32), ∀ (n : Nat) (v68_4 : Int32) (h68_ : cd_Hp) (o : ((Int32 × cd_Hp) ⊕ (Int32 × cd_Hp))) (H : Heap) (locs : List Loc) (ls : Array Slot), cd_lp (f_X8_takesOrder_B68 p68_2 p68_3) n (v68_4, h68_) = some o → cd_Z G h68_ s.heap H locs → lv_has ls 5 [(4, .int v68_4), (3, .int p68_3), (2, .int p68_2), (0, .ref (G.2.2.2.2 + 404))] → (∀ x, o = .inl x → x = out) → (∀ st, o = .inr st → ∀ (H : Heap) (locs : List Loc) (ls : Array Slot), cd_Z G st.2 s.heap H locs → lv_has ls 5 [(4, .int st.1), (3, .int p68_3), (2, .int p68_2), (0, .ref (G.2.2.2.2 + 404))] → W p l e rm_X8_takesOrder s m args below meth c H locs 0 0 Q (F0 m 116 ls [])) → W p l e rm_X8_takesOrder s m args below meth c H locs 0 0 Q (F0 m 68 ls []) := by
    intro p68_2 p68_3
    intro n
    induction n with
    | zero => intro v68_4 h68_ o H locs ls E; exact nomatch (show (none : Option ((Int32 × cd_Hp) ⊕ (Int32 × cd_Hp))) = some o from E)
    | succ n ih =>
      intro v68_4 h68_ o H locs ls E hZ hl hin hex
      have E : f_X8_takesOrder_B68 p68_2 p68_3 (cd_lp (f_X8_takesOrder_B68 p68_2 p68_3) n) (v68_4, h68_) = some o := E
      unfold f_X8_takesOrder_B68 at E
      dsimp only at E
      refine lv_aload_n S.1 S.2.1 dX8_takesOrder_68 rfl (lv_at hl 3 rfl) ?_
      refine lv_bipush (v := 48) S.1 S.2.1 dX8_takesOrder_69 (by decide) ?_
      refine lv_bipush (v := 57) S.1 S.2.1 dX8_takesOrder_71 (by decide) ?_
      obtain ⟨o12, E1, E⟩ := cd_bE E
      refine cd_cVz (As := [.int 48, .int 57]) S hK hZ hl.1 (c_X8_isAt l G 48 57 h68_ o12 E1) cd_v_X8_isAt cd_m_X8_212 ⟨Nat.le_of_ble_eq_true rfl, Nat.le_of_ble_eq_true rfl⟩ ⟨rfl, rfl⟩ (ci := 8) (by decide) rfl cd_this8 rfl rfl (Nat.le_of_ble_eq_true rfl) ⟨Nat.zero_le _, Nat.zero_le _⟩ dX8_takesOrder_73 (fun H locs hZ b13 => ?_)
      refine lv_if_eq (tgt := 116) S.1 S.2.1 dX8_takesOrder_76 (by decide) (fun c14 => ?_) (fun c14 => ?_)
      · have E := cd_tE c14 E
        cases E
        exact hex _ rfl H locs ls hZ (lv_sub hl [0, 1, 2, 3] rfl)
      · have E := cd_fE c14 E
        refine lv_iload S.1 S.2.1 dX8_takesOrder_79 (lv_at hl 0 rfl) ?_
        refine lv_iload_n S.1 S.2.1 dX8_takesOrder_81 rfl (lv_at hl 1 rfl) ?_
        refine lv_icmp_ge (tgt := 116) S.1 S.2.1 dX8_takesOrder_82 (by decide) (fun c15 => ?_) (fun c15 => ?_)
        · have E := cd_tE c15 E
          cases E
          exact hex _ rfl H locs ls hZ (lv_sub hl [0, 1, 2, 3] rfl)
        · have E := cd_fE c15 E
          refine lv_aload_n S.1 S.2.1 dX8_takesOrder_85 rfl (lv_at hl 3 rfl) ?_
          refine lv_aload_n S.1 S.2.1 dX8_takesOrder_86 rfl (lv_at hl 3 rfl) ?_
          refine cd_get8 (v := .ref (G.2.2.2.2 + 414)) S hK hZ cd_this8 12 cd_f_X8_37 rfl dX8_takesOrder_87 ?_
          refine lv_aload_n S.1 S.2.1 dX8_takesOrder_90 rfl (lv_at hl 3 rfl) ?_
          refine cd_get8 (v := .int (cd_g h68_ 404 14)) S hK hZ cd_this8 14 cd_f_X8_224 rfl dX8_takesOrder_91 ?_
          obtain ⟨z16, E⟩ := cd_ckE E
          refine cd_iald S hK hZ (cd_r8_12 cd_this8) z16 dX8_takesOrder_94 ?_
          refine lv_iload S.1 S.2.1 dX8_takesOrder_95 (lv_at hl 0 rfl) ?_
          refine lv_iadd S.1 S.2.1 dX8_takesOrder_97 ?_
          obtain ⟨o17, E1, E⟩ := cd_bE E
          refine cd_cVz (As := [.int ((cd_g h68_ 414 ((cd_g h68_ 404 14).toNatClampNeg)) + v68_4)]) S hK hZ hl.1 (c_X8_takesNumber l G ((cd_g h68_ 414 ((cd_g h68_ 404 14).toNatClampNeg)) + v68_4) h68_ o17 E1) cd_v_X8_takesNumber cd_m_X8_230 ⟨Nat.le_of_ble_eq_true rfl, Nat.le_of_ble_eq_true rfl⟩ ⟨rfl, rfl⟩ (ci := 8) (by decide) rfl cd_this8 rfl rfl (Nat.le_of_ble_eq_true rfl) ⟨Nat.zero_le _, Nat.zero_le _⟩ dX8_takesOrder_98 (fun H locs hZ b18 => ?_)
          refine lv_if_ne (tgt := 106) S.1 S.2.1 dX8_takesOrder_101 (by decide) (fun c19 => ?_) (fun c19 => ?_)
          · have E := cd_fE c19 E
            obtain ⟨x20, ex20, E⟩ := cd_nmE E
            refine lv_iinc (v := x20) (lv' := [(4, .int x20), (3, .int p68_3), (2, .int p68_2), (0, .ref (G.2.2.2.2 + 404))]) S.1 S.2.1 dX8_takesOrder_106 hl (k := 0) rfl (by rw [ex20]; rfl) (by decide) rfl (fun ls hl => ?_)
            refine lv_aload_n S.1 S.2.1 dX8_takesOrder_109 rfl (lv_at hl 3 rfl) ?_
            obtain ⟨o21, E1, E⟩ := cd_bE E
            refine cd_cVv (As := []) S hK hZ hl.1 (c_X8_blanks l G  o17.2 o21 E1) cd_v_X8_blanks cd_m_X8_227 ⟨Nat.le_of_ble_eq_true rfl, Nat.le_of_ble_eq_true rfl⟩ ⟨rfl, rfl⟩ (ci := 8) (by decide) rfl cd_this8 rfl rfl (Nat.le_of_ble_eq_true rfl) ⟨Nat.zero_le _, Nat.zero_le _⟩ dX8_takesOrder_110 (fun H locs hZ => ?_)
            refine lv_goto (tgt := 68) S.1 S.2.1 dX8_takesOrder_113 (by decide) ?_
            exact ih x20 o21 o H locs ls E hZ (lv_sub hl [0, 1, 2, 3] rfl) hin hex
          · have E := cd_tE c19 E
            refine lv_iconst (v := 0) S.1 S.2.1 dX8_takesOrder_104 (by decide) ?_
            cases E
            exact hret _ _ _ _ _ _ (by decide) (hin _ rfl) hZ dX8_takesOrder_105
  unfold f_X8_takesOrder at E
  refine lv_aload_n S.1 S.2.1 dX8_takesOrder_0 rfl (lv_at hl 0 rfl) ?_
  refine cd_get8 (v := .ref (G.2.2.2.2 + 409)) S hK hZ cd_this8 5 cd_f_X8_22 rfl dX8_takesOrder_1 ?_
  refine lv_aload_n S.1 S.2.1 dX8_takesOrder_4 rfl (lv_at hl 0 rfl) ?_
  refine cd_get8 (v := .int (cd_g h 404 15)) S hK hZ cd_this8 15 cd_f_X8_209 rfl dX8_takesOrder_5 ?_
  obtain ⟨z1, E⟩ := cd_ckE E
  refine cd_iald S hK hZ (cd_r8_5 cd_this8) z1 dX8_takesOrder_8 ?_
  obtain ⟨x2, ex2, E⟩ := cd_nmE E
  refine cd_topi ex2 ?_
  refine lv_istore_n (lv' := [(1, .int x2), (0, .ref (G.2.2.2.2 + 404))]) S.1 S.2.1 dX8_takesOrder_9 rfl hl (by decide) rfl (fun ls hl => ?_)
  refine lv_iload_n S.1 S.2.1 dX8_takesOrder_10 rfl (lv_at hl 0 rfl) ?_
  refine cd_cSi (As := [.int x2]) S hK hZ hl.1 (c_X8_leastOf l G x2 h _ rfl) cd_v_X8_leastOf cd_m_X8_221 ⟨Nat.le_of_ble_eq_true rfl, Nat.le_of_ble_eq_true rfl⟩ ⟨rfl, rfl⟩ rfl rfl (Nat.le_of_ble_eq_true rfl) ⟨Nat.zero_le _, Nat.zero_le _⟩ dX8_takesOrder_11 (fun H locs hZ => ?_)
  obtain ⟨x4, ex4, E⟩ := cd_nmE E
  refine cd_topi ex4 ?_
  refine lv_istore_n (lv' := [(2, .int x4), (1, .int x2), (0, .ref (G.2.2.2.2 + 404))]) S.1 S.2.1 dX8_takesOrder_14 rfl hl (by decide) rfl (fun ls hl => ?_)
  refine lv_iload_n S.1 S.2.1 dX8_takesOrder_15 rfl (lv_at hl 0 rfl) ?_
  refine lv_if_ge (tgt := 28) S.1 S.2.1 dX8_takesOrder_16 (by decide) (fun c5 => ?_) (fun c5 => ?_)
  · have E := cd_tE c5 E
    refine lv_aload_n S.1 S.2.1 dX8_takesOrder_28 rfl (lv_at hl 2 rfl) ?_
    refine cd_get8 (v := .ref (G.2.2.2.2 + 413)) S hK hZ cd_this8 11 cd_f_X8_34 rfl dX8_takesOrder_29 ?_
    refine lv_aload_n S.1 S.2.1 dX8_takesOrder_32 rfl (lv_at hl 2 rfl) ?_
    refine cd_get8 (v := .int (cd_g h 404 14)) S hK hZ cd_this8 14 cd_f_X8_224 rfl dX8_takesOrder_33 ?_
    refine lv_iload_n S.1 S.2.1 dX8_takesOrder_36 rfl (lv_at hl 1 rfl) ?_
    obtain ⟨z6, E⟩ := cd_ckE E
    obtain ⟨h7, eh7, E⟩ := cd_nmE E
    refine cd_iast S hK hZ (cd_r8_11 cd_this8) z6 eh7 dX8_takesOrder_37 (fun H locs hZ => ?_)
    refine lv_aload_n S.1 S.2.1 dX8_takesOrder_38 rfl (lv_at hl 2 rfl) ?_
    refine lv_dup S.1 S.2.1 dX8_takesOrder_39 rfl ?_
    refine cd_get8 (v := .int (cd_g h7 404 15)) S hK hZ cd_this8 15 cd_f_X8_209 rfl dX8_takesOrder_40 ?_
    refine lv_iconst (v := 1) S.1 S.2.1 dX8_takesOrder_43 (by decide) ?_
    refine lv_iadd S.1 S.2.1 dX8_takesOrder_44 ?_
    obtain ⟨h8, eh8, E⟩ := cd_nmE E
    refine cd_put8_15 S hK hZ cd_this8 cd_f_X8_209 eh8 dX8_takesOrder_45 (fun H locs hZ => ?_)
    refine lv_iload_n S.1 S.2.1 dX8_takesOrder_48 rfl (lv_at hl 1 rfl) ?_
    refine lv_bipush (v := 103) S.1 S.2.1 dX8_takesOrder_49 (by decide) ?_
    refine lv_icmp_ne (tgt := 59) S.1 S.2.1 dX8_takesOrder_51 (by decide) (fun c9 => ?_) (fun c9 => ?_)
    · have E := cd_fE c9 E
      refine lv_iload_n S.1 S.2.1 dX8_takesOrder_59 rfl (lv_at hl 0 rfl) ?_
      refine lv_istore_n (lv' := [(3, .int x4), (2, .int x4), (1, .int x2), (0, .ref (G.2.2.2.2 + 404))]) S.1 S.2.1 dX8_takesOrder_60 rfl hl (by decide) rfl (fun ls hl => ?_)
      refine lv_iconst (v := 0) S.1 S.2.1 dX8_takesOrder_61 (by decide) ?_
      refine lv_istore (lv' := [(4, .int 0), (3, .int x4), (2, .int x4), (1, .int x2), (0, .ref (G.2.2.2.2 + 404))]) S.1 S.2.1 dX8_takesOrder_62 hl (by decide) rfl (fun ls hl => ?_)
      refine lv_aload_n S.1 S.2.1 dX8_takesOrder_64 rfl (lv_at hl 4 rfl) ?_
      obtain ⟨o10, E1, E⟩ := cd_bE E
      refine cd_cVv (As := []) S hK hZ hl.1 (c_X8_blanks l G  h8 o10 E1) cd_v_X8_blanks cd_m_X8_227 ⟨Nat.le_of_ble_eq_true rfl, Nat.le_of_ble_eq_true rfl⟩ ⟨rfl, rfl⟩ (ci := 8) (by decide) rfl cd_this8 rfl rfl (Nat.le_of_ble_eq_true rfl) ⟨Nat.zero_le _, Nat.zero_le _⟩ dX8_takesOrder_65 (fun H locs hZ => ?_)
      obtain ⟨o23, E1, EL, ER⟩ := cd_b2E E
      refine L68 x4 x4 cd_fu 0 o10 o23 H locs ls E1 hZ (lv_sub hl [0, 1, 2, 4] rfl) EL (fun st24 hst H locs ls hZ hl => ?_)
      have E := ER st24 hst
      refine lv_iload S.1 S.2.1 dX8_takesOrder_116 (lv_at hl 0 rfl) ?_
      refine lv_iload_n S.1 S.2.1 dX8_takesOrder_118 rfl (lv_at hl 2 rfl) ?_
      refine lv_icmp_lt (tgt := 133) S.1 S.2.1 dX8_takesOrder_119 (by decide) (fun c25 => ?_) (fun c25 => ?_)
      · have E := cd_tE c25 E
        refine lv_aload_n S.1 S.2.1 dX8_takesOrder_133 rfl (lv_at hl 3 rfl) ?_
        refine lv_aload_n S.1 S.2.1 dX8_takesOrder_134 rfl (lv_at hl 3 rfl) ?_
        refine cd_get8 (v := .int (cd_g st24.2 404 15)) S hK hZ cd_this8 15 cd_f_X8_209 rfl dX8_takesOrder_135 ?_
        obtain ⟨o26, E1, E⟩ := cd_nmE E
        refine cd_cVz (As := [.int (cd_g st24.2 404 15)]) S hK hZ hl.1 (c_X8_fails l G (cd_g st24.2 404 15) st24.2 o26 E1.symm) cd_v_X8_fails cd_m_X8_218 ⟨Nat.le_of_ble_eq_true rfl, Nat.le_of_ble_eq_true rfl⟩ ⟨rfl, rfl⟩ (ci := 8) (by decide) rfl cd_this8 rfl rfl (Nat.le_of_ble_eq_true rfl) ⟨Nat.zero_le _, Nat.zero_le _⟩ dX8_takesOrder_138 (fun H locs hZ b27 => ?_)
        exact hret _ _ _ _ _ _ b27 (Option.some.inj E) hZ dX8_takesOrder_141
      · have E := cd_fE c25 E
        refine lv_aload_n S.1 S.2.1 dX8_takesOrder_122 rfl (lv_at hl 3 rfl) ?_
        refine lv_bipush (v := 59) S.1 S.2.1 dX8_takesOrder_123 (by decide) ?_
        refine lv_bipush (v := 59) S.1 S.2.1 dX8_takesOrder_125 (by decide) ?_
        obtain ⟨o28, E1, E⟩ := cd_bE E
        refine cd_cVz (As := [.int 59, .int 59]) S hK hZ hl.1 (c_X8_isAt l G 59 59 st24.2 o28 E1) cd_v_X8_isAt cd_m_X8_212 ⟨Nat.le_of_ble_eq_true rfl, Nat.le_of_ble_eq_true rfl⟩ ⟨rfl, rfl⟩ (ci := 8) (by decide) rfl cd_this8 rfl rfl (Nat.le_of_ble_eq_true rfl) ⟨Nat.zero_le _, Nat.zero_le _⟩ dX8_takesOrder_127 (fun H locs hZ b29 => ?_)
        refine lv_if_ne (tgt := 142) S.1 S.2.1 dX8_takesOrder_130 (by decide) (fun c30 => ?_) (fun c30 => ?_)
        · have E := cd_fE c30 E
          refine lv_aload_n S.1 S.2.1 dX8_takesOrder_142 rfl (lv_at hl 3 rfl) ?_
          refine lv_dup S.1 S.2.1 dX8_takesOrder_143 rfl ?_
          refine cd_get8 (v := .int (cd_g st24.2 404 15)) S hK hZ cd_this8 15 cd_f_X8_209 rfl dX8_takesOrder_144 ?_
          refine lv_iconst (v := 1) S.1 S.2.1 dX8_takesOrder_147 (by decide) ?_
          refine lv_iadd S.1 S.2.1 dX8_takesOrder_148 ?_
          obtain ⟨h31, eh31, E⟩ := cd_nmE E
          refine cd_put8_15 S hK hZ cd_this8 cd_f_X8_209 eh31 dX8_takesOrder_149 (fun H locs hZ => ?_)
          refine lv_aload_n S.1 S.2.1 dX8_takesOrder_152 rfl (lv_at hl 3 rfl) ?_
          refine lv_dup S.1 S.2.1 dX8_takesOrder_153 rfl ?_
          refine cd_get8 (v := .int (cd_g h31 404 14)) S hK hZ cd_this8 14 cd_f_X8_224 rfl dX8_takesOrder_154 ?_
          refine lv_iconst (v := 1) S.1 S.2.1 dX8_takesOrder_157 (by decide) ?_
          refine lv_iadd S.1 S.2.1 dX8_takesOrder_158 ?_
          obtain ⟨h32, eh32, E⟩ := cd_nmE E
          refine cd_put8_14 S hK hZ cd_this8 cd_f_X8_224 eh32 dX8_takesOrder_159 (fun H locs hZ => ?_)
          refine lv_aload_n S.1 S.2.1 dX8_takesOrder_162 rfl (lv_at hl 3 rfl) ?_
          refine cd_get8 (v := .ref (G.2.2.2.2 + 414)) S hK hZ cd_this8 12 cd_f_X8_37 rfl dX8_takesOrder_163 ?_
          refine lv_aload_n S.1 S.2.1 dX8_takesOrder_166 rfl (lv_at hl 3 rfl) ?_
          refine cd_get8 (v := .int (cd_g h32 404 14)) S hK hZ cd_this8 14 cd_f_X8_224 rfl dX8_takesOrder_167 ?_
          refine lv_aload_n S.1 S.2.1 dX8_takesOrder_170 rfl (lv_at hl 3 rfl) ?_
          refine cd_get8 (v := .ref (G.2.2.2.2 + 414)) S hK hZ cd_this8 12 cd_f_X8_37 rfl dX8_takesOrder_171 ?_
          refine lv_aload_n S.1 S.2.1 dX8_takesOrder_174 rfl (lv_at hl 3 rfl) ?_
          refine cd_get8 (v := .int (cd_g h32 404 14)) S hK hZ cd_this8 14 cd_f_X8_224 rfl dX8_takesOrder_175 ?_
          refine lv_iconst (v := 1) S.1 S.2.1 dX8_takesOrder_178 (by decide) ?_
          refine lv_isub S.1 S.2.1 dX8_takesOrder_179 ?_
          obtain ⟨z33, E⟩ := cd_ckE E
          refine cd_iald S hK hZ (cd_r8_12 cd_this8) z33 dX8_takesOrder_180 ?_
          refine lv_iload S.1 S.2.1 dX8_takesOrder_181 (lv_at hl 0 rfl) ?_
          refine lv_iadd S.1 S.2.1 dX8_takesOrder_183 ?_
          obtain ⟨z34, E⟩ := cd_ckE E
          obtain ⟨h35, eh35, E⟩ := cd_nmE E
          refine cd_iast S hK hZ (cd_r8_12 cd_this8) z34 eh35 dX8_takesOrder_184 (fun H locs hZ => ?_)
          refine lv_iconst (v := 1) S.1 S.2.1 dX8_takesOrder_185 (by decide) ?_
          exact hret _ _ _ _ _ _ (by decide) (Option.some.inj E) hZ dX8_takesOrder_186
        · have E := cd_tE c30 E
          refine lv_aload_n S.1 S.2.1 dX8_takesOrder_133 rfl (lv_at hl 3 rfl) ?_
          refine lv_aload_n S.1 S.2.1 dX8_takesOrder_134 rfl (lv_at hl 3 rfl) ?_
          refine cd_get8 (v := .int (cd_g st24.2 404 15)) S hK hZ cd_this8 15 cd_f_X8_209 rfl dX8_takesOrder_135 ?_
          obtain ⟨o36, E1, E⟩ := cd_nmE E
          refine cd_cVz (As := [.int (cd_g st24.2 404 15)]) S hK hZ hl.1 (c_X8_fails l G (cd_g st24.2 404 15) st24.2 o36 E1.symm) cd_v_X8_fails cd_m_X8_218 ⟨Nat.le_of_ble_eq_true rfl, Nat.le_of_ble_eq_true rfl⟩ ⟨rfl, rfl⟩ (ci := 8) (by decide) rfl cd_this8 rfl rfl (Nat.le_of_ble_eq_true rfl) ⟨Nat.zero_le _, Nat.zero_le _⟩ dX8_takesOrder_138 (fun H locs hZ b37 => ?_)
          exact hret _ _ _ _ _ _ b37 (Option.some.inj E) hZ dX8_takesOrder_141
    · have E := cd_tE c9 E
      refine lv_bipush (v := 8) S.1 S.2.1 dX8_takesOrder_54 (by decide) ?_
      refine lv_goto (tgt := 60) S.1 S.2.1 dX8_takesOrder_56 (by decide) ?_
      refine lv_istore_n (lv' := [(3, .int 8), (2, .int x4), (1, .int x2), (0, .ref (G.2.2.2.2 + 404))]) S.1 S.2.1 dX8_takesOrder_60 rfl hl (by decide) rfl (fun ls hl => ?_)
      refine lv_iconst (v := 0) S.1 S.2.1 dX8_takesOrder_61 (by decide) ?_
      refine lv_istore (lv' := [(4, .int 0), (3, .int 8), (2, .int x4), (1, .int x2), (0, .ref (G.2.2.2.2 + 404))]) S.1 S.2.1 dX8_takesOrder_62 hl (by decide) rfl (fun ls hl => ?_)
      refine lv_aload_n S.1 S.2.1 dX8_takesOrder_64 rfl (lv_at hl 4 rfl) ?_
      obtain ⟨o38, E1, E⟩ := cd_bE E
      refine cd_cVv (As := []) S hK hZ hl.1 (c_X8_blanks l G  h8 o38 E1) cd_v_X8_blanks cd_m_X8_227 ⟨Nat.le_of_ble_eq_true rfl, Nat.le_of_ble_eq_true rfl⟩ ⟨rfl, rfl⟩ (ci := 8) (by decide) rfl cd_this8 rfl rfl (Nat.le_of_ble_eq_true rfl) ⟨Nat.zero_le _, Nat.zero_le _⟩ dX8_takesOrder_65 (fun H locs hZ => ?_)
      obtain ⟨o40, E1, EL, ER⟩ := cd_b2E E
      refine L68 x4 8 cd_fu 0 o38 o40 H locs ls E1 hZ (lv_sub hl [0, 1, 2, 4] rfl) EL (fun st41 hst H locs ls hZ hl => ?_)
      have E := ER st41 hst
      refine lv_iload S.1 S.2.1 dX8_takesOrder_116 (lv_at hl 0 rfl) ?_
      refine lv_iload_n S.1 S.2.1 dX8_takesOrder_118 rfl (lv_at hl 2 rfl) ?_
      refine lv_icmp_lt (tgt := 133) S.1 S.2.1 dX8_takesOrder_119 (by decide) (fun c42 => ?_) (fun c42 => ?_)
      · have E := cd_tE c42 E
        refine lv_aload_n S.1 S.2.1 dX8_takesOrder_133 rfl (lv_at hl 3 rfl) ?_
        refine lv_aload_n S.1 S.2.1 dX8_takesOrder_134 rfl (lv_at hl 3 rfl) ?_
        refine cd_get8 (v := .int (cd_g st41.2 404 15)) S hK hZ cd_this8 15 cd_f_X8_209 rfl dX8_takesOrder_135 ?_
        obtain ⟨o43, E1, E⟩ := cd_nmE E
        refine cd_cVz (As := [.int (cd_g st41.2 404 15)]) S hK hZ hl.1 (c_X8_fails l G (cd_g st41.2 404 15) st41.2 o43 E1.symm) cd_v_X8_fails cd_m_X8_218 ⟨Nat.le_of_ble_eq_true rfl, Nat.le_of_ble_eq_true rfl⟩ ⟨rfl, rfl⟩ (ci := 8) (by decide) rfl cd_this8 rfl rfl (Nat.le_of_ble_eq_true rfl) ⟨Nat.zero_le _, Nat.zero_le _⟩ dX8_takesOrder_138 (fun H locs hZ b44 => ?_)
        exact hret _ _ _ _ _ _ b44 (Option.some.inj E) hZ dX8_takesOrder_141
      · have E := cd_fE c42 E
        refine lv_aload_n S.1 S.2.1 dX8_takesOrder_122 rfl (lv_at hl 3 rfl) ?_
        refine lv_bipush (v := 59) S.1 S.2.1 dX8_takesOrder_123 (by decide) ?_
        refine lv_bipush (v := 59) S.1 S.2.1 dX8_takesOrder_125 (by decide) ?_
        obtain ⟨o45, E1, E⟩ := cd_bE E
        refine cd_cVz (As := [.int 59, .int 59]) S hK hZ hl.1 (c_X8_isAt l G 59 59 st41.2 o45 E1) cd_v_X8_isAt cd_m_X8_212 ⟨Nat.le_of_ble_eq_true rfl, Nat.le_of_ble_eq_true rfl⟩ ⟨rfl, rfl⟩ (ci := 8) (by decide) rfl cd_this8 rfl rfl (Nat.le_of_ble_eq_true rfl) ⟨Nat.zero_le _, Nat.zero_le _⟩ dX8_takesOrder_127 (fun H locs hZ b46 => ?_)
        refine lv_if_ne (tgt := 142) S.1 S.2.1 dX8_takesOrder_130 (by decide) (fun c47 => ?_) (fun c47 => ?_)
        · have E := cd_fE c47 E
          refine lv_aload_n S.1 S.2.1 dX8_takesOrder_142 rfl (lv_at hl 3 rfl) ?_
          refine lv_dup S.1 S.2.1 dX8_takesOrder_143 rfl ?_
          refine cd_get8 (v := .int (cd_g st41.2 404 15)) S hK hZ cd_this8 15 cd_f_X8_209 rfl dX8_takesOrder_144 ?_
          refine lv_iconst (v := 1) S.1 S.2.1 dX8_takesOrder_147 (by decide) ?_
          refine lv_iadd S.1 S.2.1 dX8_takesOrder_148 ?_
          obtain ⟨h48, eh48, E⟩ := cd_nmE E
          refine cd_put8_15 S hK hZ cd_this8 cd_f_X8_209 eh48 dX8_takesOrder_149 (fun H locs hZ => ?_)
          refine lv_aload_n S.1 S.2.1 dX8_takesOrder_152 rfl (lv_at hl 3 rfl) ?_
          refine lv_dup S.1 S.2.1 dX8_takesOrder_153 rfl ?_
          refine cd_get8 (v := .int (cd_g h48 404 14)) S hK hZ cd_this8 14 cd_f_X8_224 rfl dX8_takesOrder_154 ?_
          refine lv_iconst (v := 1) S.1 S.2.1 dX8_takesOrder_157 (by decide) ?_
          refine lv_iadd S.1 S.2.1 dX8_takesOrder_158 ?_
          obtain ⟨h49, eh49, E⟩ := cd_nmE E
          refine cd_put8_14 S hK hZ cd_this8 cd_f_X8_224 eh49 dX8_takesOrder_159 (fun H locs hZ => ?_)
          refine lv_aload_n S.1 S.2.1 dX8_takesOrder_162 rfl (lv_at hl 3 rfl) ?_
          refine cd_get8 (v := .ref (G.2.2.2.2 + 414)) S hK hZ cd_this8 12 cd_f_X8_37 rfl dX8_takesOrder_163 ?_
          refine lv_aload_n S.1 S.2.1 dX8_takesOrder_166 rfl (lv_at hl 3 rfl) ?_
          refine cd_get8 (v := .int (cd_g h49 404 14)) S hK hZ cd_this8 14 cd_f_X8_224 rfl dX8_takesOrder_167 ?_
          refine lv_aload_n S.1 S.2.1 dX8_takesOrder_170 rfl (lv_at hl 3 rfl) ?_
          refine cd_get8 (v := .ref (G.2.2.2.2 + 414)) S hK hZ cd_this8 12 cd_f_X8_37 rfl dX8_takesOrder_171 ?_
          refine lv_aload_n S.1 S.2.1 dX8_takesOrder_174 rfl (lv_at hl 3 rfl) ?_
          refine cd_get8 (v := .int (cd_g h49 404 14)) S hK hZ cd_this8 14 cd_f_X8_224 rfl dX8_takesOrder_175 ?_
          refine lv_iconst (v := 1) S.1 S.2.1 dX8_takesOrder_178 (by decide) ?_
          refine lv_isub S.1 S.2.1 dX8_takesOrder_179 ?_
          obtain ⟨z50, E⟩ := cd_ckE E
          refine cd_iald S hK hZ (cd_r8_12 cd_this8) z50 dX8_takesOrder_180 ?_
          refine lv_iload S.1 S.2.1 dX8_takesOrder_181 (lv_at hl 0 rfl) ?_
          refine lv_iadd S.1 S.2.1 dX8_takesOrder_183 ?_
          obtain ⟨z51, E⟩ := cd_ckE E
          obtain ⟨h52, eh52, E⟩ := cd_nmE E
          refine cd_iast S hK hZ (cd_r8_12 cd_this8) z51 eh52 dX8_takesOrder_184 (fun H locs hZ => ?_)
          refine lv_iconst (v := 1) S.1 S.2.1 dX8_takesOrder_185 (by decide) ?_
          exact hret _ _ _ _ _ _ (by decide) (Option.some.inj E) hZ dX8_takesOrder_186
        · have E := cd_tE c47 E
          refine lv_aload_n S.1 S.2.1 dX8_takesOrder_133 rfl (lv_at hl 3 rfl) ?_
          refine lv_aload_n S.1 S.2.1 dX8_takesOrder_134 rfl (lv_at hl 3 rfl) ?_
          refine cd_get8 (v := .int (cd_g st41.2 404 15)) S hK hZ cd_this8 15 cd_f_X8_209 rfl dX8_takesOrder_135 ?_
          obtain ⟨o53, E1, E⟩ := cd_nmE E
          refine cd_cVz (As := [.int (cd_g st41.2 404 15)]) S hK hZ hl.1 (c_X8_fails l G (cd_g st41.2 404 15) st41.2 o53 E1.symm) cd_v_X8_fails cd_m_X8_218 ⟨Nat.le_of_ble_eq_true rfl, Nat.le_of_ble_eq_true rfl⟩ ⟨rfl, rfl⟩ (ci := 8) (by decide) rfl cd_this8 rfl rfl (Nat.le_of_ble_eq_true rfl) ⟨Nat.zero_le _, Nat.zero_le _⟩ dX8_takesOrder_138 (fun H locs hZ b54 => ?_)
          exact hret _ _ _ _ _ _ b54 (Option.some.inj E) hZ dX8_takesOrder_141
  · have E := cd_fE c5 E
    refine lv_aload_n S.1 S.2.1 dX8_takesOrder_19 rfl (lv_at hl 2 rfl) ?_
    refine lv_aload_n S.1 S.2.1 dX8_takesOrder_20 rfl (lv_at hl 2 rfl) ?_
    refine cd_get8 (v := .int (cd_g h 404 15)) S hK hZ cd_this8 15 cd_f_X8_209 rfl dX8_takesOrder_21 ?_
    obtain ⟨o55, E1, E⟩ := cd_nmE E
    refine cd_cVz (As := [.int (cd_g h 404 15)]) S hK hZ hl.1 (c_X8_fails l G (cd_g h 404 15) h o55 E1.symm) cd_v_X8_fails cd_m_X8_218 ⟨Nat.le_of_ble_eq_true rfl, Nat.le_of_ble_eq_true rfl⟩ ⟨rfl, rfl⟩ (ci := 8) (by decide) rfl cd_this8 rfl rfl (Nat.le_of_ble_eq_true rfl) ⟨Nat.zero_le _, Nat.zero_le _⟩ dX8_takesOrder_24 (fun H locs hZ b56 => ?_)
    exact hret _ _ _ _ _ _ b56 (Option.some.inj E) hZ dX8_takesOrder_27
abbrev rm_X8_isRead : Room := { frames := 4, cells := 0, slots := 0, locals := 91 }
theorem cd_v_X8_isRead : cd_V yX8_isRead cX8_isRead 1 (some .boolean) 0 := ⟨cd_i_X8_isRead, cd_e_X8_X8_isRead, cd_n_X8, cd_c_X8_isRead, by decide +kernel⟩
set_option maxHeartbeats 4000000 in
set_option maxRecDepth 100000 in
theorem c_X8_isRead (l : Launch) (G : cd_G)  (h : cd_Hp) (out : (Int32 × cd_Hp)) (E : f_X8_isRead h = some out) : cd_Mz l G yX8_isRead (Cond.code yX8_isRead cX8_isRead 1 (some .boolean) :: cd_T) rm_X8_isRead [.ref (G.2.2.2.2 + 404)] h out := by
  refine cd_inz (by decide) (Nat.le_of_ble_eq_true rfl) ?_
  intro p e s m args below meth c Q ls H locs S hK hZ hl hret
  have hl : lv_has ls 1 [(0, .ref (G.2.2.2.2 + 404))] := hl
  have L21 : ∀ (n : Nat) (h21_ : cd_Hp) (o : ((Int32 × cd_Hp) ⊕ (cd_Hp))) (H : Heap) (locs : List Loc) (ls : Array Slot), cd_lp (f_X8_isRead_B21) n h21_ = some o → cd_Z G h21_ s.heap H locs → lv_has ls 1 [(0, .ref (G.2.2.2.2 + 404))] → (∀ x, o = .inl x → x = out) → (∀ st, o = .inr st → ∀ (H : Heap) (locs : List Loc) (ls : Array Slot), cd_Z G st s.heap H locs → lv_has ls 1 [(0, .ref (G.2.2.2.2 + 404))] → W p l e rm_X8_isRead s m args below meth c H locs 0 0 Q (F0 m 48 ls [])) → W p l e rm_X8_isRead s m args below meth c H locs 0 0 Q (F0 m 21 ls []) := by
    intro n
    induction n with
    | zero => intro h21_ o H locs ls E; exact nomatch (show (none : Option ((Int32 × cd_Hp) ⊕ (cd_Hp))) = some o from E)
    | succ n ih =>
      intro h21_ o H locs ls E hZ hl hin hex
      have E : f_X8_isRead_B21 (cd_lp (f_X8_isRead_B21) n) h21_ = some o := E
      unfold f_X8_isRead_B21 at E
      refine lv_aload_n S.1 S.2.1 dX8_isRead_21 rfl (lv_at hl 0 rfl) ?_
      refine cd_get8 (v := .int (cd_g h21_ 404 15)) S hK hZ cd_this8 15 cd_f_X8_209 rfl dX8_isRead_22 ?_
      refine lv_aload_n S.1 S.2.1 dX8_isRead_25 rfl (lv_at hl 0 rfl) ?_
      refine cd_get8 (v := .int (cd_g h21_ 404 6)) S hK hZ cd_this8 6 cd_f_X8_206 rfl dX8_isRead_26 ?_
      refine lv_icmp_ge (tgt := 48) S.1 S.2.1 dX8_isRead_29 (by decide) (fun c6 => ?_) (fun c6 => ?_)
      · have E := cd_tE c6 E
        cases E
        exact hex _ rfl H locs ls hZ (lv_sub hl [0] rfl)
      · have E := cd_fE c6 E
        refine lv_aload_n S.1 S.2.1 dX8_isRead_32 rfl (lv_at hl 0 rfl) ?_
        obtain ⟨o7, E1, E⟩ := cd_bE E
        refine cd_cVz (As := []) S hK hZ hl.1 (c_X8_takesOrder l G  h21_ o7 E1) cd_v_X8_takesOrder cd_m_X8_233 ⟨Nat.le_of_ble_eq_true rfl, Nat.le_of_ble_eq_true rfl⟩ ⟨rfl, rfl⟩ (ci := 8) (by decide) rfl cd_this8 rfl rfl (Nat.le_of_ble_eq_true rfl) ⟨Nat.zero_le _, Nat.zero_le _⟩ dX8_isRead_33 (fun H locs hZ b8 => ?_)
        refine lv_if_ne (tgt := 41) S.1 S.2.1 dX8_isRead_36 (by decide) (fun c9 => ?_) (fun c9 => ?_)
        · have E := cd_fE c9 E
          refine lv_aload_n S.1 S.2.1 dX8_isRead_41 rfl (lv_at hl 0 rfl) ?_
          obtain ⟨o10, E1, E⟩ := cd_bE E
          refine cd_cVv (As := []) S hK hZ hl.1 (c_X8_blanks l G  o7.2 o10 E1) cd_v_X8_blanks cd_m_X8_227 ⟨Nat.le_of_ble_eq_true rfl, Nat.le_of_ble_eq_true rfl⟩ ⟨rfl, rfl⟩ (ci := 8) (by decide) rfl cd_this8 rfl rfl (Nat.le_of_ble_eq_true rfl) ⟨Nat.zero_le _, Nat.zero_le _⟩ dX8_isRead_42 (fun H locs hZ => ?_)
          refine lv_goto (tgt := 21) S.1 S.2.1 dX8_isRead_45 (by decide) ?_
          exact ih o10 o H locs ls E hZ (lv_sub hl [0] rfl) hin hex
        · have E := cd_tE c9 E
          refine lv_iconst (v := 0) S.1 S.2.1 dX8_isRead_39 (by decide) ?_
          cases E
          exact hret _ _ _ _ _ _ (by decide) (hin _ rfl) hZ dX8_isRead_40
  unfold f_X8_isRead at E
  refine lv_aload_n S.1 S.2.1 dX8_isRead_0 rfl (lv_at hl 0 rfl) ?_
  refine lv_iconst (v := 0) S.1 S.2.1 dX8_isRead_1 (by decide) ?_
  obtain ⟨h1, eh1, E⟩ := cd_nmE E
  refine cd_put8_15 S hK hZ cd_this8 cd_f_X8_209 eh1 dX8_isRead_2 (fun H locs hZ => ?_)
  refine lv_aload_n S.1 S.2.1 dX8_isRead_5 rfl (lv_at hl 0 rfl) ?_
  refine lv_iconst (v := 0) S.1 S.2.1 dX8_isRead_6 (by decide) ?_
  obtain ⟨h2, eh2, E⟩ := cd_nmE E
  refine cd_put8_14 S hK hZ cd_this8 cd_f_X8_224 eh2 dX8_isRead_7 (fun H locs hZ => ?_)
  refine lv_aload_n S.1 S.2.1 dX8_isRead_10 rfl (lv_at hl 0 rfl) ?_
  refine cd_get8 (v := .ref (G.2.2.2.2 + 414)) S hK hZ cd_this8 12 cd_f_X8_37 rfl dX8_isRead_11 ?_
  refine lv_iconst (v := 0) S.1 S.2.1 dX8_isRead_14 (by decide) ?_
  refine lv_iconst (v := 0) S.1 S.2.1 dX8_isRead_15 (by decide) ?_
  obtain ⟨h3, eh3, E⟩ := cd_nmE E
  refine cd_iast S hK hZ (cd_r8_12 cd_this8) (by decide) eh3 dX8_isRead_16 (fun H locs hZ => ?_)
  refine lv_aload_n S.1 S.2.1 dX8_isRead_17 rfl (lv_at hl 0 rfl) ?_
  obtain ⟨o4, E1, E⟩ := cd_bE E
  refine cd_cVv (As := []) S hK hZ hl.1 (c_X8_blanks l G  h3 o4 E1) cd_v_X8_blanks cd_m_X8_227 ⟨Nat.le_of_ble_eq_true rfl, Nat.le_of_ble_eq_true rfl⟩ ⟨rfl, rfl⟩ (ci := 8) (by decide) rfl cd_this8 rfl rfl (Nat.le_of_ble_eq_true rfl) ⟨Nat.zero_le _, Nat.zero_le _⟩ dX8_isRead_18 (fun H locs hZ => ?_)
  obtain ⟨o12, E1, EL, ER⟩ := cd_b2E E
  refine L21 cd_fu o4 o12 H locs ls E1 hZ (lv_sub hl [0] rfl) EL (fun st13 hst H locs ls hZ hl => ?_)
  have E := ER st13 hst
  refine lv_aload_n S.1 S.2.1 dX8_isRead_48 rfl (lv_at hl 0 rfl) ?_
  refine cd_get8 (v := .int (cd_g st13 404 14)) S hK hZ cd_this8 14 cd_f_X8_224 rfl dX8_isRead_49 ?_
  refine lv_if_gt (tgt := 66) S.1 S.2.1 dX8_isRead_52 (by decide) (fun c14 => ?_) (fun c14 => ?_)
  · have E := cd_tE c14 E
    refine lv_iconst (v := 1) S.1 S.2.1 dX8_isRead_66 (by decide) ?_
    refine lv_goto (tgt := 71) S.1 S.2.1 dX8_isRead_67 (by decide) ?_
    exact hret _ _ _ _ _ _ (by decide) (Option.some.inj E) hZ dX8_isRead_71
  · have E := cd_fE c14 E
    refine lv_aload_n S.1 S.2.1 dX8_isRead_55 rfl (lv_at hl 0 rfl) ?_
    refine lv_aload_n S.1 S.2.1 dX8_isRead_56 rfl (lv_at hl 0 rfl) ?_
    refine cd_get8 (v := .int (cd_g st13 404 6)) S hK hZ cd_this8 6 cd_f_X8_206 rfl dX8_isRead_57 ?_
    obtain ⟨o15, E1, E⟩ := cd_nmE E
    refine cd_cVz (As := [.int (cd_g st13 404 6)]) S hK hZ hl.1 (c_X8_fails l G (cd_g st13 404 6) st13 o15 E1.symm) cd_v_X8_fails cd_m_X8_218 ⟨Nat.le_of_ble_eq_true rfl, Nat.le_of_ble_eq_true rfl⟩ ⟨rfl, rfl⟩ (ci := 8) (by decide) rfl cd_this8 rfl rfl (Nat.le_of_ble_eq_true rfl) ⟨Nat.zero_le _, Nat.zero_le _⟩ dX8_isRead_60 (fun H locs hZ b16 => ?_)
    refine lv_if_eq (tgt := 70) S.1 S.2.1 dX8_isRead_63 (by decide) (fun c17 => ?_) (fun c17 => ?_)
    · have E := cd_tE c17 E
      refine lv_iconst (v := 0) S.1 S.2.1 dX8_isRead_70 (by decide) ?_
      exact hret _ _ _ _ _ _ (by decide) (Option.some.inj E) hZ dX8_isRead_71
    · have E := cd_fE c17 E
      refine lv_iconst (v := 1) S.1 S.2.1 dX8_isRead_66 (by decide) ?_
      refine lv_goto (tgt := 71) S.1 S.2.1 dX8_isRead_67 (by decide) ?_
      exact hret _ _ _ _ _ _ (by decide) (Option.some.inj E) hZ dX8_isRead_71
abbrev rm_X8_puts : Room := { frames := 0, cells := 0, slots := 0, locals := 0 }
theorem cd_v_X8_puts : cd_V yX8_puts cX8_puts 4 (some .boolean) 3 := ⟨cd_i_X8_puts, cd_e_X8_X8_puts, cd_n_X8, cd_c_X8_puts, by decide +kernel⟩
set_option maxHeartbeats 4000000 in
set_option maxRecDepth 100000 in
theorem c_X8_puts (l : Launch) (G : cd_G) (a1 : Int32) (a2 : Int32) (a3 : Int32) (h : cd_Hp) (out : (Int32 × cd_Hp)) (E : f_X8_puts a1 a2 a3 h = some out) : cd_Mz l G yX8_puts (Cond.code yX8_puts cX8_puts 4 (some .boolean) :: cd_T) rm_X8_puts [.ref (G.2.2.2.2 + 404), .int a1, .int a2, .int a3] h out := by
  refine cd_inz (by decide) (Nat.le_of_ble_eq_true rfl) ?_
  intro p e s m args below meth c Q ls H locs S hK hZ hl hret
  have hl : lv_has ls 4 [(0, .ref (G.2.2.2.2 + 404)), (1, .int a1), (2, .int a2), (3, .int a3)] := hl
  unfold f_X8_puts at E
  refine lv_iload_n S.1 S.2.1 dX8_puts_0 rfl (lv_at hl 1 rfl) ?_
  refine lv_if_eq (tgt := 11) S.1 S.2.1 dX8_puts_1 (by decide) (fun c1 => ?_) (fun c1 => ?_)
  · have E := cd_tE c1 E
    refine lv_iload_n S.1 S.2.1 dX8_puts_11 rfl (lv_at hl 1 rfl) ?_
    obtain ⟨z2, E⟩ := cd_ckE E
    exact hret _ _ _ _ _ _ z2 (Option.some.inj E) hZ dX8_puts_12
  · have E := cd_fE c1 E
    refine lv_aload_n S.1 S.2.1 dX8_puts_4 rfl (lv_at hl 0 rfl) ?_
    refine cd_get8 (v := .ref (G.2.2.2.2 + 405)) S hK hZ cd_this8 0 cd_f_X8_7 rfl dX8_puts_5 ?_
    refine lv_iload_n S.1 S.2.1 dX8_puts_8 rfl (lv_at hl 2 rfl) ?_
    refine lv_iload_n S.1 S.2.1 dX8_puts_9 rfl (lv_at hl 3 rfl) ?_
    obtain ⟨z3, E⟩ := cd_ckE E
    obtain ⟨h4, eh4, E⟩ := cd_nmE E
    refine cd_iast S hK hZ (cd_r8_0 cd_this8) z3 eh4 dX8_puts_10 (fun H locs hZ => ?_)
    refine lv_iload_n S.1 S.2.1 dX8_puts_11 rfl (lv_at hl 1 rfl) ?_
    obtain ⟨z5, E⟩ := cd_ckE E
    exact hret _ _ _ _ _ _ z5 (Option.some.inj E) hZ dX8_puts_12
