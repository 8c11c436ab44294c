-- THE LAW: what the pure functions owe (cd_stp), and the law's loop over it (written by wip/whole/genlaw.py)
def cd_q0 (Inv : Nat → cd_Hp → Prop) (n : Nat) (h : cd_Hp) : Prop := ∀ a1 : Int32, ∃ (r : Int32) (h1 : cd_Hp) (h2 : cd_Hp), f_X7_counters a1 h = some (r, h1) ∧ f_X8_counters a1 h1 = some (r, h2) ∧ Inv (n + 1) h2
def cd_q1 (Inv : Nat → cd_Hp → Prop) (n : Nat) (h : cd_Hp) : Prop := ∀ a1 a2 : Int32, ∃ (r : Int32) (h1 : cd_Hp) (h2 : cd_Hp), f_X7_masks a1 a2 h = some (r, h1) ∧ f_X8_masks a1 a2 h1 = some (r, h2) ∧ Inv (n + 1) h2
def cd_q2 (Inv : Nat → cd_Hp → Prop) (n : Nat) (h : cd_Hp) : Prop := ∀ a1 a2 a3 : Int32, ∃ (r : Int32) (h1 : cd_Hp) (h2 : cd_Hp), f_X7_rates a1 a2 a3 h = some (r, h1) ∧ f_X8_rates a1 a2 a3 h1 = some (r, h2) ∧ Inv (n + 1) h2
def cd_q3 (Inv : Nat → cd_Hp → Prop) (n : Nat) (h : cd_Hp) : Prop := ∀ a1 : Int32, ∃ (r : Int32) (h1 : cd_Hp) (h2 : cd_Hp), f_X7_forks a1 h = some (r, h1) ∧ f_X8_forks a1 h1 = some (r, h2) ∧ Inv (n + 1) h2
def cd_q4 (Inv : Nat → cd_Hp → Prop) (n : Nat) (h : cd_Hp) : Prop := ∀ a1 : Int32, ∃ (r : Int32) (h1 : cd_Hp) (h2 : cd_Hp), f_X7_exits a1 h = some (r, h1) ∧ f_X8_exits a1 h1 = some (r, h2) ∧ Inv (n + 1) h2
def cd_q5 (Inv : Nat → cd_Hp → Prop) (n : Nat) (h : cd_Hp) : Prop := ∀ a1 a2 a3 a4 a5 : Int32, ∃ (r : Int32) (h1 : cd_Hp) (h2 : cd_Hp), f_X7_group a1 a2 a3 a4 a5 h = some (r, h1) ∧ f_X8_group a1 a2 a3 a4 a5 h1 = some (r, h2) ∧ Inv (n + 1) h2
def cd_q6 (Inv : Nat → cd_Hp → Prop) (n : Nat) (h : cd_Hp) : Prop := ∀ a1 a2 : Int32, ∃ (r : Int32) (h1 : cd_Hp) (h2 : cd_Hp), f_X7_event a1 a2 h = some (r, h1) ∧ f_X8_event a1 a2 h1 = some (r, h2) ∧ Inv (n + 1) h2
def cd_q7 (Inv : Nat → cd_Hp → Prop) (n : Nat) (h : cd_Hp) : Prop := ∀ a1 a2 : Int32, ∃ (r : Int32) (h1 : cd_Hp) (h2 : cd_Hp), f_X7_periods a1 a2 h = some (r, h1) ∧ f_X8_periods a1 a2 h1 = some (r, h2) ∧ Inv (n + 1) h2
def cd_q8 (Inv : Nat → cd_Hp → Prop) (n : Nat) (h : cd_Hp) : Prop := ∀ a1 : Int32, ∃ (r : Int32) (h1 : cd_Hp) (h2 : cd_Hp), f_X7_skids a1 h = some (r, h1) ∧ f_X8_skids a1 h1 = some (r, h2) ∧ Inv (n + 1) h2
def cd_q9 (Inv : Nat → cd_Hp → Prop) (n : Nat) (h : cd_Hp) : Prop := ∀ a1 a2 : Int32, ∃ (r : Int32) (h1 : cd_Hp) (h2 : cd_Hp), f_X7_lives a1 a2 h = some (r, h1) ∧ f_X8_lives a1 a2 h1 = some (r, h2) ∧ Inv (n + 1) h2
def cd_q10 (Inv : Nat → cd_Hp → Prop) (n : Nat) (h : cd_Hp) : Prop := ∀ a1 a2 : Int32, ∃ (r : Int32) (h1 : cd_Hp) (h2 : cd_Hp), f_X7_runs a1 a2 h = some (r, h1) ∧ f_X8_runs a1 a2 h1 = some (r, h2) ∧ Inv (n + 1) h2
def cd_q11 (Inv : Nat → cd_Hp → Prop) (n : Nat) (h : cd_Hp) : Prop := ∀ a1 a2 : Int32, ∃ (r : Int32) (h1 : cd_Hp) (h2 : cd_Hp), f_X7_task a1 a2 h = some (r, h1) ∧ f_X8_task a1 a2 h1 = some (r, h2) ∧ Inv (n + 1) h2
def cd_q12 (Inv : Nat → cd_Hp → Prop) (n : Nat) (h : cd_Hp) : Prop := ∀ a1 a2 : Int32, ∃ (r : Int32) (h1 : cd_Hp) (h2 : cd_Hp), f_X7_of a1 a2 h = some (r, h1) ∧ f_X8_of a1 a2 h1 = some (r, h2) ∧ Inv (n + 1) h2
def cd_q13 (Inv : Nat → cd_Hp → Prop) (n : Nat) (h : cd_Hp) : Prop := ∀ a1 a2 a3 : Int32, ∃ (r : Int32) (h1 : cd_Hp) (h2 : cd_Hp), f_X7_about a1 a2 a3 h = some (r, h1) ∧ f_X8_about a1 a2 a3 h1 = some (r, h2) ∧ Inv (n + 1) h2
def cd_q14 (Inv : Nat → cd_Hp → Prop) (n : Nat) (h : cd_Hp) : Prop := ∀ a1 a2 a3 : Int32, ∃ (r : Int32) (h1 : cd_Hp) (h2 : cd_Hp), f_X7_count a1 a2 a3 h = some (r, h1) ∧ f_X8_count a1 a2 a3 h1 = some (r, h2) ∧ Inv (n + 1) h2
def cd_q15 (Inv : Nat → cd_Hp → Prop) (n : Nat) (h : cd_Hp) : Prop := ∀ a1 a2 a3 : Int32, ∃ (r : Int32) (h1 : cd_Hp) (h2 : cd_Hp), f_X7_times a1 a2 a3 h = some (r, h1) ∧ f_X8_times a1 a2 a3 h1 = some (r, h2) ∧ Inv (n + 1) h2
def cd_q16 (Inv : Nat → cd_Hp → Prop) (n : Nat) (h : cd_Hp) : Prop := ∀ a1 a2 a3 : Int32, ∃ (r : Int32) (h1 : cd_Hp) (h2 : cd_Hp), f_X7_scaled a1 a2 a3 h = some (r, h1) ∧ f_X8_scaled a1 a2 a3 h1 = some (r, h2) ∧ Inv (n + 1) h2
def cd_q17 (Inv : Nat → cd_Hp → Prop) (n : Nat) (h : cd_Hp) : Prop := ∀ a1 : Int32, ∃ (r : Int32) (h1 : cd_Hp) (h2 : cd_Hp), f_X7_fit a1 h = some (r, h1) ∧ f_X8_fit a1 h1 = some (r, h2) ∧ Inv (n + 1) h2
def cd_q18 (Inv : Nat → cd_Hp → Prop) (n : Nat) (h : cd_Hp) : Prop := ∀ a1 : Int32, ∃ (r : Int32) (h1 : cd_Hp) (h2 : cd_Hp), f_X7_queue a1 h = some (r, h1) ∧ f_X8_queue a1 h1 = some (r, h2) ∧ Inv (n + 1) h2
def cd_q19 (Inv : Nat → cd_Hp → Prop) (n : Nat) (h : cd_Hp) : Prop := ∀ a1 a2 : Int32, ∃ (r : Int32) (h1 : cd_Hp) (h2 : cd_Hp), f_X7_sample a1 a2 h = some (r, h1) ∧ f_X8_sample a1 a2 h1 = some (r, h2) ∧ Inv (n + 1) h2
def cd_q20 (Inv : Nat → cd_Hp → Prop) (n : Nat) (h : cd_Hp) : Prop := ∀ a1 : Int32, ∃ (r : Int32) (h1 : cd_Hp) (h2 : cd_Hp), f_X7_told a1 h = some (r, h1) ∧ f_X8_told a1 h1 = some (r, h2) ∧ Inv (n + 1) h2
def cd_q21 (Inv : Nat → cd_Hp → Prop) (n : Nat) (h : cd_Hp) : Prop := ∀ a1 : Int32, ∃ (r : Int32) (h1 : cd_Hp) (h2 : cd_Hp), f_X7_type a1 h = some (r, h1) ∧ f_X8_type a1 h1 = some (r, h2) ∧ Inv (n + 1) h2
def cd_q22 (Inv : Nat → cd_Hp → Prop) (n : Nat) (h : cd_Hp) : Prop := ∃ (r : Int32) (h1 : cd_Hp) (h2 : cd_Hp), f_X7_clear  h = (r, h1) ∧ f_X8_clear  h1 = (r, h2) ∧ Inv (n + 1) h2
def cd_q23 (Inv : Nat → cd_Hp → Prop) (n : Nat) (h : cd_Hp) : Prop := ∃ (r : Int32) (h1 : cd_Hp) (h2 : cd_Hp), f_X7_does  h = some (r, h1) ∧ f_X8_does  h1 = some (r, h2) ∧ Inv (n + 1) h2
def cd_q24 (Inv : Nat → cd_Hp → Prop) (n : Nat) (h : cd_Hp) : Prop := ∃ (r : Int32) (h1 : cd_Hp) (h2 : cd_Hp), f_X7_back  h = some (r, h1) ∧ f_X8_back  h1 = some (r, h2) ∧ Inv (n + 1) h2
def cd_q25 (Inv : Nat → cd_Hp → Prop) (n : Nat) (h : cd_Hp) : Prop := ∀ a1 : Int32, ∃ (r : Int32) (h1 : cd_Hp) (h2 : cd_Hp), f_X7_refused a1 h = some (r, h1) ∧ f_X8_refused a1 h1 = some (r, h2) ∧ Inv (n + 1) h2
def cd_q26 (Inv : Nat → cd_Hp → Prop) (n : Nat) (h : cd_Hp) : Prop := ∃ (r : Int64) (h2 : cd_Hp), f_X7_digest  h = some r ∧ f_X8_digest  h = some (r, h2) ∧ Inv (n + 1) h2
def cd_stp (Inv : Nat → cd_Hp → Prop) : Prop := ∀ (n : Nat) (h : cd_Hp), n < 512 → Inv n h → cd_q0 Inv n h ∧ cd_q1 Inv n h ∧ cd_q2 Inv n h ∧ cd_q3 Inv n h ∧ cd_q4 Inv n h ∧ cd_q5 Inv n h ∧ cd_q6 Inv n h ∧ cd_q7 Inv n h ∧ cd_q8 Inv n h ∧ cd_q9 Inv n h ∧ cd_q10 Inv n h ∧ cd_q11 Inv n h ∧ cd_q12 Inv n h ∧ cd_q13 Inv n h ∧ cd_q14 Inv n h ∧ cd_q15 Inv n h ∧ cd_q16 Inv n h ∧ cd_q17 Inv n h ∧ cd_q18 Inv n h ∧ cd_q19 Inv n h ∧ cd_q20 Inv n h ∧ cd_q21 Inv n h ∧ cd_q22 Inv n h ∧ cd_q23 Inv n h ∧ cd_q24 Inv n h ∧ cd_q25 Inv n h ∧ cd_q26 Inv n h ∧ Inv (n + 1) h
theorem cd_hd {L n : Nat} (hL : L ≤ 3072) (hn : n ≤ 512) (c : ¬ (Int32.ofNat L - 6 < nI (6 * n))) : 6 * n + 6 ≤ L := by
  rcases Nat.lt_or_ge L (6 * n + 6) with h | h
  · exfalso
    apply c
    have e1 : (Int32.ofNat L).toInt = (L : Int) := nI_toInt (n := L) (by omega)
    have e2 : (nI (6 * n)).toInt = ((6 * n : Nat) : Int) := nI_toInt (by omega)
    rw [Int32.lt_iff_toInt_lt, Int32.toInt_sub, e1, e2]
    show ((L : Int) - 6).bmod (2 ^ 32) < _
    rw [Int.bmod_eq_of_le (by omega) (by omega)]
    omega
  · exact h
theorem cd_scr {n j L : Nat} (hL : L ≤ 3072) (h : 6 * n + j < L) : vp_in (nI (6 * n) + nI j) L := by
  rw [nI_add]
  exact vp_in_nI h (by omega)
theorem cd_scr0 {n L : Nat} (hL : L ≤ 3072) (h : 6 * n < L) : vp_in (nI (6 * n)) L := vp_in_nI h (by omega)
set_option maxHeartbeats 4000000 in
set_option maxRecDepth 100000 in
theorem law_loop {p : Program} {l : Launch} {e : Env} {s : State} {m : MethodId} {below : List Frame} {meth : Method} {c : Code} {G : cd_G} {b L : Nat} {xs : Nat → Int32} (hL : L ≤ 3072) (C0 : lw_At p s m meth c b L xs) (hK : cd_K G s) (hg0 : G.2.2.2.2 = s.heap.size) {Inv : Nat → cd_Hp → Prop} (hI : cd_stp Inv) :
    ∀ (k n : Nat) (h : cd_Hp) (H : Heap) (locs : List Loc) (ls : Array Slot), 513 ≤ n + k → n ≤ 512 → 6 * n ≤ L → Inv n h → cd_Z G h s.heap H locs → lv_has ls 4 [(0, .ref b), (1, .ref (G.2.2.2.2 + 0)), (2, .ref (G.2.2.2.2 + 404)), (3, .int (nI (6 * n)))] → W p l e room_1 s m #[Value.ref b] below meth c H locs 416 10128 (lw_Z below #[Value.ref b] s) (F0 m 18 ls []) := by
  obtain ⟨hx, hb, hr, hml, hown, hts, hX, hbl, hlocks, hgv⟩ := C0
  have S : CallFix p m c cL_law 4 s #[Value.ref b] cd_T RL := ⟨hx, hb, hml, hown, fun w hw => hts w (cd_T_in hw)⟩
  have hbA : ¬ cd_A G b := fun z => absurd (Nat.lt_of_lt_of_le hbl (hg0 ▸ z)) (Nat.lt_irrefl _)
  intro k
  induction k with
  | zero => intro n h H locs ls h1 h2; exact absurd h1 (by omega)
  | succ k ih =>
    intro n h H locs ls hnk hn512 h6 hIn hZ hl
    refine lv_iload_n S.1 S.2.1 dL_law_18 rfl (lv_at hl 3 rfl) ?_
    refine lv_aload_n S.1 S.2.1 dL_law_19 rfl (lv_at hl 0 rfl) ?_
    refine va_slen S.1 S.2.1 hX hbl hbA hZ.2 dL_law_20 ?_
    refine lv_bipush (v := 6) S.1 S.2.1 dL_law_21 (by decide) ?_
    refine lv_isub S.1 S.2.1 dL_law_23 ?_
    refine lv_icmp_gt (tgt := 964) S.1 S.2.1 dL_law_24 (by decide) (fun c1 => ?_) (fun c1 => ?_)
    · refine lv_iconst (v := 1) S.1 S.2.1 dL_law_964 (by decide) ?_
      refine va_forget (fun q hq => hg0 ▸ hZ.2.2.2 q hq) ?_
      refine W.widen (k := 600000) (n := 7302250) (Nat.le_of_ble_eq_true rfl) (Nat.le_of_ble_eq_true rfl) ?_
      exact lw_ret hx hb hr hlocks dL_law_965
    · have hlen := cd_hd hL hn512 c1
      have hn : n < 512 := by omega
      have hq := hI n h hn hIn
      have go : ∀ (h' : cd_Hp) (H : Heap) (locs : List Loc) (ls : Array Slot), Inv (n + 1) h' → cd_Z G h' s.heap H locs → lv_has ls 4 [(0, .ref b), (1, .ref (G.2.2.2.2 + 0)), (2, .ref (G.2.2.2.2 + 404)), (3, .int (nI (6 * n)))] → W p l e room_1 s m #[Value.ref b] below meth c H locs 416 10128 (lw_Z below #[Value.ref b] s) (F0 m 958 ls []) := by
        intro h' H locs ls hIn hZ hl
        refine lv_iinc (v := nI (6 * (n + 1))) (lv' := [(3, .int (nI (6 * (n + 1)))), (0, .ref b), (1, .ref (G.2.2.2.2 + 0)), (2, .ref (G.2.2.2.2 + 404))]) S.1 S.2.1 dL_law_958 hl (k := 3) rfl (by show nI (6 * n) + nI 6 = _; rw [nI_add]; congr 1) (by decide) rfl (fun ls hl => ?_)
        refine lv_goto (tgt := 18) S.1 S.2.1 dL_law_961 (by decide) ?_
        exact ih (n + 1) h' H locs ls (by omega) (by omega) (by omega) hIn hZ (lv_sub hl [1, 2, 3, 0] rfl)
      refine lv_aload_n S.1 S.2.1 dL_law_27 rfl (lv_at hl 0 rfl) ?_
      refine lv_iload_n S.1 S.2.1 dL_law_28 rfl (lv_at hl 3 rfl) ?_
      refine va_sld S.1 S.2.1 hX hbl hbA hZ.2 (cd_scr0 hL (by omega)) dL_law_29 ?_
      refine lv_bipush (v := 31) S.1 S.2.1 dL_law_30 (by decide) ?_
      refine lv_iand S.1 S.2.1 dL_law_32 ?_
      refine lv_topi (fun x5 ex5 => ?_)
      refine cd_by (p := x5 = 0) (fun c10 => ?_) (fun c10 => ?_)
      · refine cd_tabI (k := 0) (off := 123) (tgt := 156) S.1 S.2.1 dL_law_33 c10 (by decide +kernel) (by decide) ?_
        obtain ⟨r, h1, h2, e1, e2, hIn⟩ := hq.1 (xs (nI (6 * n) + 1).toNatClampNeg)
        refine lv_aload_n S.1 S.2.1 dL_law_156 rfl (lv_at hl 1 rfl) ?_
        refine lv_aload_n S.1 S.2.1 dL_law_157 rfl (lv_at hl 0 rfl) ?_
        refine lv_iload_n S.1 S.2.1 dL_law_158 rfl (lv_at hl 3 rfl) ?_
        refine lv_iconst (v := 1) S.1 S.2.1 dL_law_159 (by decide) ?_
        refine lv_iadd S.1 S.2.1 dL_law_160 ?_
        refine va_sld S.1 S.2.1 hX hbl hbA hZ.2 (cd_scr (j := 1) hL (by omega)) dL_law_161 ?_
        refine cd_cVi (q := 0) (As := [.int (xs (nI (6 * n) + 1).toNatClampNeg)]) S hK hZ hl.1 (c_X7_counters l G (xs (nI (6 * n) + 1).toNatClampNeg) h _ e1) cd_v_X7_counters cd_m_L_13 ⟨Nat.le_of_ble_eq_true rfl, Nat.le_of_ble_eq_true rfl⟩ ⟨rfl, rfl⟩ (ci := 7) (by decide) rfl cd_this7 rfl rfl (Nat.le_of_ble_eq_true rfl) ⟨Nat.le_of_ble_eq_true rfl, Nat.le_of_ble_eq_true rfl⟩ dL_law_162 (fun H locs hZ => ?_)
        refine lv_aload_n S.1 S.2.1 dL_law_165 rfl (lv_at hl 2 rfl) ?_
        refine lv_aload_n S.1 S.2.1 dL_law_166 rfl (lv_at hl 0 rfl) ?_
        refine lv_iload_n S.1 S.2.1 dL_law_167 rfl (lv_at hl 3 rfl) ?_
        refine lv_iconst (v := 1) S.1 S.2.1 dL_law_168 (by decide) ?_
        refine lv_iadd S.1 S.2.1 dL_law_169 ?_
        refine va_sld S.1 S.2.1 hX hbl hbA hZ.2 (cd_scr (j := 1) hL (by omega)) dL_law_170 ?_
        refine cd_cVi (q := 404) (As := [.int (xs (nI (6 * n) + 1).toNatClampNeg)]) S hK hZ hl.1 (c_X8_counters l G (xs (nI (6 * n) + 1).toNatClampNeg) h1 _ e2) cd_v_X8_counters cd_m_L_17 ⟨Nat.le_of_ble_eq_true rfl, Nat.le_of_ble_eq_true rfl⟩ ⟨rfl, rfl⟩ (ci := 8) (by decide) rfl cd_this8 rfl rfl (Nat.le_of_ble_eq_true rfl) ⟨Nat.le_of_ble_eq_true rfl, Nat.le_of_ble_eq_true rfl⟩ dL_law_171 (fun H locs hZ => ?_)
        refine lv_icmp_eq (tgt := 958) S.1 S.2.1 dL_law_174 (by decide) (fun c9 => ?_) (fun c9 => ?_)
        · exact go _ H locs ls hIn hZ hl
        · exact absurd rfl c9
      · have _ := c10
        refine cd_by (p := x5 = 1) (fun c11 => ?_) (fun c11 => ?_)
        · refine cd_tabI (k := 1) (off := 146) (tgt := 179) S.1 S.2.1 dL_law_33 c11 (by decide +kernel) (by decide) ?_
          obtain ⟨r, h1, h2, e1, e2, hIn⟩ := hq.2.1 (xs (nI (6 * n) + 1).toNatClampNeg) (xs (nI (6 * n) + 2).toNatClampNeg)
          refine lv_aload_n S.1 S.2.1 dL_law_179 rfl (lv_at hl 1 rfl) ?_
          refine lv_aload_n S.1 S.2.1 dL_law_180 rfl (lv_at hl 0 rfl) ?_
          refine lv_iload_n S.1 S.2.1 dL_law_181 rfl (lv_at hl 3 rfl) ?_
          refine lv_iconst (v := 1) S.1 S.2.1 dL_law_182 (by decide) ?_
          refine lv_iadd S.1 S.2.1 dL_law_183 ?_
          refine va_sld S.1 S.2.1 hX hbl hbA hZ.2 (cd_scr (j := 1) hL (by omega)) dL_law_184 ?_
          refine lv_aload_n S.1 S.2.1 dL_law_185 rfl (lv_at hl 0 rfl) ?_
          refine lv_iload_n S.1 S.2.1 dL_law_186 rfl (lv_at hl 3 rfl) ?_
          refine lv_iconst (v := 2) S.1 S.2.1 dL_law_187 (by decide) ?_
          refine lv_iadd S.1 S.2.1 dL_law_188 ?_
          refine va_sld S.1 S.2.1 hX hbl hbA hZ.2 (cd_scr (j := 2) hL (by omega)) dL_law_189 ?_
          refine cd_cVi (q := 0) (As := [.int (xs (nI (6 * n) + 1).toNatClampNeg), .int (xs (nI (6 * n) + 2).toNatClampNeg)]) S hK hZ hl.1 (c_X7_masks l G (xs (nI (6 * n) + 1).toNatClampNeg) (xs (nI (6 * n) + 2).toNatClampNeg) h _ e1) cd_v_X7_masks cd_m_L_18 ⟨Nat.le_of_ble_eq_true rfl, Nat.le_of_ble_eq_true rfl⟩ ⟨rfl, rfl⟩ (ci := 7) (by decide) rfl cd_this7 rfl rfl (Nat.le_of_ble_eq_true rfl) ⟨Nat.le_of_ble_eq_true rfl, Nat.le_of_ble_eq_true rfl⟩ dL_law_190 (fun H locs hZ => ?_)
          refine lv_aload_n S.1 S.2.1 dL_law_193 rfl (lv_at hl 2 rfl) ?_
          refine lv_aload_n S.1 S.2.1 dL_law_194 rfl (lv_at hl 0 rfl) ?_
          refine lv_iload_n S.1 S.2.1 dL_law_195 rfl (lv_at hl 3 rfl) ?_
          refine lv_iconst (v := 1) S.1 S.2.1 dL_law_196 (by decide) ?_
          refine lv_iadd S.1 S.2.1 dL_law_197 ?_
          refine va_sld S.1 S.2.1 hX hbl hbA hZ.2 (cd_scr (j := 1) hL (by omega)) dL_law_198 ?_
          refine lv_aload_n S.1 S.2.1 dL_law_199 rfl (lv_at hl 0 rfl) ?_
          refine lv_iload_n S.1 S.2.1 dL_law_200 rfl (lv_at hl 3 rfl) ?_
          refine lv_iconst (v := 2) S.1 S.2.1 dL_law_201 (by decide) ?_
          refine lv_iadd S.1 S.2.1 dL_law_202 ?_
          refine va_sld S.1 S.2.1 hX hbl hbA hZ.2 (cd_scr (j := 2) hL (by omega)) dL_law_203 ?_
          refine cd_cVi (q := 404) (As := [.int (xs (nI (6 * n) + 1).toNatClampNeg), .int (xs (nI (6 * n) + 2).toNatClampNeg)]) S hK hZ hl.1 (c_X8_masks l G (xs (nI (6 * n) + 1).toNatClampNeg) (xs (nI (6 * n) + 2).toNatClampNeg) h1 _ e2) cd_v_X8_masks cd_m_L_22 ⟨Nat.le_of_ble_eq_true rfl, Nat.le_of_ble_eq_true rfl⟩ ⟨rfl, rfl⟩ (ci := 8) (by decide) rfl cd_this8 rfl rfl (Nat.le_of_ble_eq_true rfl) ⟨Nat.le_of_ble_eq_true rfl, Nat.le_of_ble_eq_true rfl⟩ dL_law_204 (fun H locs hZ => ?_)
          refine lv_icmp_eq (tgt := 958) S.1 S.2.1 dL_law_207 (by decide) (fun c9 => ?_) (fun c9 => ?_)
          · exact go _ H locs ls hIn hZ hl
          · exact absurd rfl c9
        · have _ := c11
          refine cd_by (p := x5 = 2) (fun c12 => ?_) (fun c12 => ?_)
          · refine cd_tabI (k := 2) (off := 179) (tgt := 212) S.1 S.2.1 dL_law_33 c12 (by decide +kernel) (by decide) ?_
            obtain ⟨r, h1, h2, e1, e2, hIn⟩ := hq.2.2.1 (xs (nI (6 * n) + 1).toNatClampNeg) (xs (nI (6 * n) + 2).toNatClampNeg) (xs (nI (6 * n) + 3).toNatClampNeg)
            refine lv_aload_n S.1 S.2.1 dL_law_212 rfl (lv_at hl 1 rfl) ?_
            refine lv_aload_n S.1 S.2.1 dL_law_213 rfl (lv_at hl 0 rfl) ?_
            refine lv_iload_n S.1 S.2.1 dL_law_214 rfl (lv_at hl 3 rfl) ?_
            refine lv_iconst (v := 1) S.1 S.2.1 dL_law_215 (by decide) ?_
            refine lv_iadd S.1 S.2.1 dL_law_216 ?_
            refine va_sld S.1 S.2.1 hX hbl hbA hZ.2 (cd_scr (j := 1) hL (by omega)) dL_law_217 ?_
            refine lv_aload_n S.1 S.2.1 dL_law_218 rfl (lv_at hl 0 rfl) ?_
            refine lv_iload_n S.1 S.2.1 dL_law_219 rfl (lv_at hl 3 rfl) ?_
            refine lv_iconst (v := 2) S.1 S.2.1 dL_law_220 (by decide) ?_
            refine lv_iadd S.1 S.2.1 dL_law_221 ?_
            refine va_sld S.1 S.2.1 hX hbl hbA hZ.2 (cd_scr (j := 2) hL (by omega)) dL_law_222 ?_
            refine lv_aload_n S.1 S.2.1 dL_law_223 rfl (lv_at hl 0 rfl) ?_
            refine lv_iload_n S.1 S.2.1 dL_law_224 rfl (lv_at hl 3 rfl) ?_
            refine lv_iconst (v := 3) S.1 S.2.1 dL_law_225 (by decide) ?_
            refine lv_iadd S.1 S.2.1 dL_law_226 ?_
            refine va_sld S.1 S.2.1 hX hbl hbA hZ.2 (cd_scr (j := 3) hL (by omega)) dL_law_227 ?_
            refine cd_cVi (q := 0) (As := [.int (xs (nI (6 * n) + 1).toNatClampNeg), .int (xs (nI (6 * n) + 2).toNatClampNeg), .int (xs (nI (6 * n) + 3).toNatClampNeg)]) S hK hZ hl.1 (c_X7_rates l G (xs (nI (6 * n) + 1).toNatClampNeg) (xs (nI (6 * n) + 2).toNatClampNeg) (xs (nI (6 * n) + 3).toNatClampNeg) h _ e1) cd_v_X7_rates cd_m_L_23 ⟨Nat.le_of_ble_eq_true rfl, Nat.le_of_ble_eq_true rfl⟩ ⟨rfl, rfl⟩ (ci := 7) (by decide) rfl cd_this7 rfl rfl (Nat.le_of_ble_eq_true rfl) ⟨Nat.le_of_ble_eq_true rfl, Nat.le_of_ble_eq_true rfl⟩ dL_law_228 (fun H locs hZ => ?_)
            refine lv_aload_n S.1 S.2.1 dL_law_231 rfl (lv_at hl 2 rfl) ?_
            refine lv_aload_n S.1 S.2.1 dL_law_232 rfl (lv_at hl 0 rfl) ?_
            refine lv_iload_n S.1 S.2.1 dL_law_233 rfl (lv_at hl 3 rfl) ?_
            refine lv_iconst (v := 1) S.1 S.2.1 dL_law_234 (by decide) ?_
            refine lv_iadd S.1 S.2.1 dL_law_235 ?_
            refine va_sld S.1 S.2.1 hX hbl hbA hZ.2 (cd_scr (j := 1) hL (by omega)) dL_law_236 ?_
            refine lv_aload_n S.1 S.2.1 dL_law_237 rfl (lv_at hl 0 rfl) ?_
            refine lv_iload_n S.1 S.2.1 dL_law_238 rfl (lv_at hl 3 rfl) ?_
            refine lv_iconst (v := 2) S.1 S.2.1 dL_law_239 (by decide) ?_
            refine lv_iadd S.1 S.2.1 dL_law_240 ?_
            refine va_sld S.1 S.2.1 hX hbl hbA hZ.2 (cd_scr (j := 2) hL (by omega)) dL_law_241 ?_
            refine lv_aload_n S.1 S.2.1 dL_law_242 rfl (lv_at hl 0 rfl) ?_
            refine lv_iload_n S.1 S.2.1 dL_law_243 rfl (lv_at hl 3 rfl) ?_
            refine lv_iconst (v := 3) S.1 S.2.1 dL_law_244 (by decide) ?_
            refine lv_iadd S.1 S.2.1 dL_law_245 ?_
            refine va_sld S.1 S.2.1 hX hbl hbA hZ.2 (cd_scr (j := 3) hL (by omega)) dL_law_246 ?_
            refine cd_cVi (q := 404) (As := [.int (xs (nI (6 * n) + 1).toNatClampNeg), .int (xs (nI (6 * n) + 2).toNatClampNeg), .int (xs (nI (6 * n) + 3).toNatClampNeg)]) S hK hZ hl.1 (c_X8_rates l G (xs (nI (6 * n) + 1).toNatClampNeg) (xs (nI (6 * n) + 2).toNatClampNeg) (xs (nI (6 * n) + 3).toNatClampNeg) h1 _ e2) cd_v_X8_rates cd_m_L_27 ⟨Nat.le_of_ble_eq_true rfl, Nat.le_of_ble_eq_true rfl⟩ ⟨rfl, rfl⟩ (ci := 8) (by decide) rfl cd_this8 rfl rfl (Nat.le_of_ble_eq_true rfl) ⟨Nat.le_of_ble_eq_true rfl, Nat.le_of_ble_eq_true rfl⟩ dL_law_247 (fun H locs hZ => ?_)
            refine lv_icmp_eq (tgt := 958) S.1 S.2.1 dL_law_250 (by decide) (fun c9 => ?_) (fun c9 => ?_)
            · exact go _ H locs ls hIn hZ hl
            · exact absurd rfl c9
          · have _ := c12
            refine cd_by (p := x5 = 3) (fun c13 => ?_) (fun c13 => ?_)
            · refine cd_tabI (k := 3) (off := 222) (tgt := 255) S.1 S.2.1 dL_law_33 c13 (by decide +kernel) (by decide) ?_
              obtain ⟨r, h1, h2, e1, e2, hIn⟩ := hq.2.2.2.1 (xs (nI (6 * n) + 1).toNatClampNeg)
              refine lv_aload_n S.1 S.2.1 dL_law_255 rfl (lv_at hl 1 rfl) ?_
              refine lv_aload_n S.1 S.2.1 dL_law_256 rfl (lv_at hl 0 rfl) ?_
              refine lv_iload_n S.1 S.2.1 dL_law_257 rfl (lv_at hl 3 rfl) ?_
              refine lv_iconst (v := 1) S.1 S.2.1 dL_law_258 (by decide) ?_
              refine lv_iadd S.1 S.2.1 dL_law_259 ?_
              refine va_sld S.1 S.2.1 hX hbl hbA hZ.2 (cd_scr (j := 1) hL (by omega)) dL_law_260 ?_
              refine cd_cVi (q := 0) (As := [.int (xs (nI (6 * n) + 1).toNatClampNeg)]) S hK hZ hl.1 (c_X7_forks l G (xs (nI (6 * n) + 1).toNatClampNeg) h _ e1) cd_v_X7_forks cd_m_L_28 ⟨Nat.le_of_ble_eq_true rfl, Nat.le_of_ble_eq_true rfl⟩ ⟨rfl, rfl⟩ (ci := 7) (by decide) rfl cd_this7 rfl rfl (Nat.le_of_ble_eq_true rfl) ⟨Nat.le_of_ble_eq_true rfl, Nat.le_of_ble_eq_true rfl⟩ dL_law_261 (fun H locs hZ => ?_)
              refine lv_aload_n S.1 S.2.1 dL_law_264 rfl (lv_at hl 2 rfl) ?_
              refine lv_aload_n S.1 S.2.1 dL_law_265 rfl (lv_at hl 0 rfl) ?_
              refine lv_iload_n S.1 S.2.1 dL_law_266 rfl (lv_at hl 3 rfl) ?_
              refine lv_iconst (v := 1) S.1 S.2.1 dL_law_267 (by decide) ?_
              refine lv_iadd S.1 S.2.1 dL_law_268 ?_
              refine va_sld S.1 S.2.1 hX hbl hbA hZ.2 (cd_scr (j := 1) hL (by omega)) dL_law_269 ?_
              refine cd_cVi (q := 404) (As := [.int (xs (nI (6 * n) + 1).toNatClampNeg)]) S hK hZ hl.1 (c_X8_forks l G (xs (nI (6 * n) + 1).toNatClampNeg) h1 _ e2) cd_v_X8_forks cd_m_L_31 ⟨Nat.le_of_ble_eq_true rfl, Nat.le_of_ble_eq_true rfl⟩ ⟨rfl, rfl⟩ (ci := 8) (by decide) rfl cd_this8 rfl rfl (Nat.le_of_ble_eq_true rfl) ⟨Nat.le_of_ble_eq_true rfl, Nat.le_of_ble_eq_true rfl⟩ dL_law_270 (fun H locs hZ => ?_)
              refine lv_icmp_eq (tgt := 958) S.1 S.2.1 dL_law_273 (by decide) (fun c9 => ?_) (fun c9 => ?_)
              · exact go _ H locs ls hIn hZ hl
              · exact absurd rfl c9
            · have _ := c13
              refine cd_by (p := x5 = 4) (fun c14 => ?_) (fun c14 => ?_)
              · refine cd_tabI (k := 4) (off := 245) (tgt := 278) S.1 S.2.1 dL_law_33 c14 (by decide +kernel) (by decide) ?_
                obtain ⟨r, h1, h2, e1, e2, hIn⟩ := hq.2.2.2.2.1 (xs (nI (6 * n) + 1).toNatClampNeg)
                refine lv_aload_n S.1 S.2.1 dL_law_278 rfl (lv_at hl 1 rfl) ?_
                refine lv_aload_n S.1 S.2.1 dL_law_279 rfl (lv_at hl 0 rfl) ?_
                refine lv_iload_n S.1 S.2.1 dL_law_280 rfl (lv_at hl 3 rfl) ?_
                refine lv_iconst (v := 1) S.1 S.2.1 dL_law_281 (by decide) ?_
                refine lv_iadd S.1 S.2.1 dL_law_282 ?_
                refine va_sld S.1 S.2.1 hX hbl hbA hZ.2 (cd_scr (j := 1) hL (by omega)) dL_law_283 ?_
                refine cd_cVi (q := 0) (As := [.int (xs (nI (6 * n) + 1).toNatClampNeg)]) S hK hZ hl.1 (c_X7_exits l G (xs (nI (6 * n) + 1).toNatClampNeg) h _ e1) cd_v_X7_exits cd_m_L_32 ⟨Nat.le_of_ble_eq_true rfl, Nat.le_of_ble_eq_true rfl⟩ ⟨rfl, rfl⟩ (ci := 7) (by decide) rfl cd_this7 rfl rfl (Nat.le_of_ble_eq_true rfl) ⟨Nat.le_of_ble_eq_true rfl, Nat.le_of_ble_eq_true rfl⟩ dL_law_284 (fun H locs hZ => ?_)
                refine lv_aload_n S.1 S.2.1 dL_law_287 rfl (lv_at hl 2 rfl) ?_
                refine lv_aload_n S.1 S.2.1 dL_law_288 rfl (lv_at hl 0 rfl) ?_
                refine lv_iload_n S.1 S.2.1 dL_law_289 rfl (lv_at hl 3 rfl) ?_
                refine lv_iconst (v := 1) S.1 S.2.1 dL_law_290 (by decide) ?_
                refine lv_iadd S.1 S.2.1 dL_law_291 ?_
                refine va_sld S.1 S.2.1 hX hbl hbA hZ.2 (cd_scr (j := 1) hL (by omega)) dL_law_292 ?_
                refine cd_cVi (q := 404) (As := [.int (xs (nI (6 * n) + 1).toNatClampNeg)]) S hK hZ hl.1 (c_X8_exits l G (xs (nI (6 * n) + 1).toNatClampNeg) h1 _ e2) cd_v_X8_exits cd_m_L_35 ⟨Nat.le_of_ble_eq_true rfl, Nat.le_of_ble_eq_true rfl⟩ ⟨rfl, rfl⟩ (ci := 8) (by decide) rfl cd_this8 rfl rfl (Nat.le_of_ble_eq_true rfl) ⟨Nat.le_of_ble_eq_true rfl, Nat.le_of_ble_eq_true rfl⟩ dL_law_293 (fun H locs hZ => ?_)
                refine lv_icmp_eq (tgt := 958) S.1 S.2.1 dL_law_296 (by decide) (fun c9 => ?_) (fun c9 => ?_)
                · exact go _ H locs ls hIn hZ hl
                · exact absurd rfl c9
              · have _ := c14
                refine cd_by (p := x5 = 5) (fun c15 => ?_) (fun c15 => ?_)
                · refine cd_tabI (k := 5) (off := 268) (tgt := 301) S.1 S.2.1 dL_law_33 c15 (by decide +kernel) (by decide) ?_
                  obtain ⟨r, h1, h2, e1, e2, hIn⟩ := hq.2.2.2.2.2.1 (xs (nI (6 * n) + 1).toNatClampNeg) (xs (nI (6 * n) + 2).toNatClampNeg) (xs (nI (6 * n) + 3).toNatClampNeg) (xs (nI (6 * n) + 4).toNatClampNeg) (xs (nI (6 * n) + 5).toNatClampNeg)
                  refine lv_aload_n S.1 S.2.1 dL_law_301 rfl (lv_at hl 1 rfl) ?_
                  refine lv_aload_n S.1 S.2.1 dL_law_302 rfl (lv_at hl 0 rfl) ?_
                  refine lv_iload_n S.1 S.2.1 dL_law_303 rfl (lv_at hl 3 rfl) ?_
                  refine lv_iconst (v := 1) S.1 S.2.1 dL_law_304 (by decide) ?_
                  refine lv_iadd S.1 S.2.1 dL_law_305 ?_
                  refine va_sld S.1 S.2.1 hX hbl hbA hZ.2 (cd_scr (j := 1) hL (by omega)) dL_law_306 ?_
                  refine lv_aload_n S.1 S.2.1 dL_law_307 rfl (lv_at hl 0 rfl) ?_
                  refine lv_iload_n S.1 S.2.1 dL_law_308 rfl (lv_at hl 3 rfl) ?_
                  refine lv_iconst (v := 2) S.1 S.2.1 dL_law_309 (by decide) ?_
                  refine lv_iadd S.1 S.2.1 dL_law_310 ?_
                  refine va_sld S.1 S.2.1 hX hbl hbA hZ.2 (cd_scr (j := 2) hL (by omega)) dL_law_311 ?_
                  refine lv_aload_n S.1 S.2.1 dL_law_312 rfl (lv_at hl 0 rfl) ?_
                  refine lv_iload_n S.1 S.2.1 dL_law_313 rfl (lv_at hl 3 rfl) ?_
                  refine lv_iconst (v := 3) S.1 S.2.1 dL_law_314 (by decide) ?_
                  refine lv_iadd S.1 S.2.1 dL_law_315 ?_
                  refine va_sld S.1 S.2.1 hX hbl hbA hZ.2 (cd_scr (j := 3) hL (by omega)) dL_law_316 ?_
                  refine lv_aload_n S.1 S.2.1 dL_law_317 rfl (lv_at hl 0 rfl) ?_
                  refine lv_iload_n S.1 S.2.1 dL_law_318 rfl (lv_at hl 3 rfl) ?_
                  refine lv_iconst (v := 4) S.1 S.2.1 dL_law_319 (by decide) ?_
                  refine lv_iadd S.1 S.2.1 dL_law_320 ?_
                  refine va_sld S.1 S.2.1 hX hbl hbA hZ.2 (cd_scr (j := 4) hL (by omega)) dL_law_321 ?_
                  refine lv_aload_n S.1 S.2.1 dL_law_322 rfl (lv_at hl 0 rfl) ?_
                  refine lv_iload_n S.1 S.2.1 dL_law_323 rfl (lv_at hl 3 rfl) ?_
                  refine lv_iconst (v := 5) S.1 S.2.1 dL_law_324 (by decide) ?_
                  refine lv_iadd S.1 S.2.1 dL_law_325 ?_
                  refine va_sld S.1 S.2.1 hX hbl hbA hZ.2 (cd_scr (j := 5) hL (by omega)) dL_law_326 ?_
                  refine cd_cVi (q := 0) (As := [.int (xs (nI (6 * n) + 1).toNatClampNeg), .int (xs (nI (6 * n) + 2).toNatClampNeg), .int (xs (nI (6 * n) + 3).toNatClampNeg), .int (xs (nI (6 * n) + 4).toNatClampNeg), .int (xs (nI (6 * n) + 5).toNatClampNeg)]) S hK hZ hl.1 (c_X7_group l G (xs (nI (6 * n) + 1).toNatClampNeg) (xs (nI (6 * n) + 2).toNatClampNeg) (xs (nI (6 * n) + 3).toNatClampNeg) (xs (nI (6 * n) + 4).toNatClampNeg) (xs (nI (6 * n) + 5).toNatClampNeg) h _ e1) cd_v_X7_group cd_m_L_36 ⟨Nat.le_of_ble_eq_true rfl, Nat.le_of_ble_eq_true rfl⟩ ⟨rfl, rfl⟩ (ci := 7) (by decide) rfl cd_this7 rfl rfl (Nat.le_of_ble_eq_true rfl) ⟨Nat.le_of_ble_eq_true rfl, Nat.le_of_ble_eq_true rfl⟩ dL_law_327 (fun H locs hZ => ?_)
                  refine lv_aload_n S.1 S.2.1 dL_law_330 rfl (lv_at hl 2 rfl) ?_
                  refine lv_aload_n S.1 S.2.1 dL_law_331 rfl (lv_at hl 0 rfl) ?_
                  refine lv_iload_n S.1 S.2.1 dL_law_332 rfl (lv_at hl 3 rfl) ?_
                  refine lv_iconst (v := 1) S.1 S.2.1 dL_law_333 (by decide) ?_
                  refine lv_iadd S.1 S.2.1 dL_law_334 ?_
                  refine va_sld S.1 S.2.1 hX hbl hbA hZ.2 (cd_scr (j := 1) hL (by omega)) dL_law_335 ?_
                  refine lv_aload_n S.1 S.2.1 dL_law_336 rfl (lv_at hl 0 rfl) ?_
                  refine lv_iload_n S.1 S.2.1 dL_law_337 rfl (lv_at hl 3 rfl) ?_
                  refine lv_iconst (v := 2) S.1 S.2.1 dL_law_338 (by decide) ?_
                  refine lv_iadd S.1 S.2.1 dL_law_339 ?_
                  refine va_sld S.1 S.2.1 hX hbl hbA hZ.2 (cd_scr (j := 2) hL (by omega)) dL_law_340 ?_
                  refine lv_aload_n S.1 S.2.1 dL_law_341 rfl (lv_at hl 0 rfl) ?_
                  refine lv_iload_n S.1 S.2.1 dL_law_342 rfl (lv_at hl 3 rfl) ?_
                  refine lv_iconst (v := 3) S.1 S.2.1 dL_law_343 (by decide) ?_
                  refine lv_iadd S.1 S.2.1 dL_law_344 ?_
                  refine va_sld S.1 S.2.1 hX hbl hbA hZ.2 (cd_scr (j := 3) hL (by omega)) dL_law_345 ?_
                  refine lv_aload_n S.1 S.2.1 dL_law_346 rfl (lv_at hl 0 rfl) ?_
                  refine lv_iload_n S.1 S.2.1 dL_law_347 rfl (lv_at hl 3 rfl) ?_
                  refine lv_iconst (v := 4) S.1 S.2.1 dL_law_348 (by decide) ?_
                  refine lv_iadd S.1 S.2.1 dL_law_349 ?_
                  refine va_sld S.1 S.2.1 hX hbl hbA hZ.2 (cd_scr (j := 4) hL (by omega)) dL_law_350 ?_
                  refine lv_aload_n S.1 S.2.1 dL_law_351 rfl (lv_at hl 0 rfl) ?_
                  refine lv_iload_n S.1 S.2.1 dL_law_352 rfl (lv_at hl 3 rfl) ?_
                  refine lv_iconst (v := 5) S.1 S.2.1 dL_law_353 (by decide) ?_
                  refine lv_iadd S.1 S.2.1 dL_law_354 ?_
                  refine va_sld S.1 S.2.1 hX hbl hbA hZ.2 (cd_scr (j := 5) hL (by omega)) dL_law_355 ?_
                  refine cd_cVi (q := 404) (As := [.int (xs (nI (6 * n) + 1).toNatClampNeg), .int (xs (nI (6 * n) + 2).toNatClampNeg), .int (xs (nI (6 * n) + 3).toNatClampNeg), .int (xs (nI (6 * n) + 4).toNatClampNeg), .int (xs (nI (6 * n) + 5).toNatClampNeg)]) S hK hZ hl.1 (c_X8_group l G (xs (nI (6 * n) + 1).toNatClampNeg) (xs (nI (6 * n) + 2).toNatClampNeg) (xs (nI (6 * n) + 3).toNatClampNeg) (xs (nI (6 * n) + 4).toNatClampNeg) (xs (nI (6 * n) + 5).toNatClampNeg) h1 _ e2) cd_v_X8_group cd_m_L_40 ⟨Nat.le_of_ble_eq_true rfl, Nat.le_of_ble_eq_true rfl⟩ ⟨rfl, rfl⟩ (ci := 8) (by decide) rfl cd_this8 rfl rfl (Nat.le_of_ble_eq_true rfl) ⟨Nat.le_of_ble_eq_true rfl, Nat.le_of_ble_eq_true rfl⟩ dL_law_356 (fun H locs hZ => ?_)
                  refine lv_icmp_eq (tgt := 958) S.1 S.2.1 dL_law_359 (by decide) (fun c9 => ?_) (fun c9 => ?_)
                  · exact go _ H locs ls hIn hZ hl
                  · exact absurd rfl c9
                · have _ := c15
                  refine cd_by (p := x5 = 6) (fun c16 => ?_) (fun c16 => ?_)
                  · refine cd_tabI (k := 6) (off := 331) (tgt := 364) S.1 S.2.1 dL_law_33 c16 (by decide +kernel) (by decide) ?_
                    obtain ⟨r, h1, h2, e1, e2, hIn⟩ := hq.2.2.2.2.2.2.1 (xs (nI (6 * n) + 1).toNatClampNeg) (xs (nI (6 * n) + 2).toNatClampNeg)
                    refine lv_aload_n S.1 S.2.1 dL_law_364 rfl (lv_at hl 1 rfl) ?_
                    refine lv_aload_n S.1 S.2.1 dL_law_365 rfl (lv_at hl 0 rfl) ?_
                    refine lv_iload_n S.1 S.2.1 dL_law_366 rfl (lv_at hl 3 rfl) ?_
                    refine lv_iconst (v := 1) S.1 S.2.1 dL_law_367 (by decide) ?_
                    refine lv_iadd S.1 S.2.1 dL_law_368 ?_
                    refine va_sld S.1 S.2.1 hX hbl hbA hZ.2 (cd_scr (j := 1) hL (by omega)) dL_law_369 ?_
                    refine lv_aload_n S.1 S.2.1 dL_law_370 rfl (lv_at hl 0 rfl) ?_
                    refine lv_iload_n S.1 S.2.1 dL_law_371 rfl (lv_at hl 3 rfl) ?_
                    refine lv_iconst (v := 2) S.1 S.2.1 dL_law_372 (by decide) ?_
                    refine lv_iadd S.1 S.2.1 dL_law_373 ?_
                    refine va_sld S.1 S.2.1 hX hbl hbA hZ.2 (cd_scr (j := 2) hL (by omega)) dL_law_374 ?_
                    refine cd_cVi (q := 0) (As := [.int (xs (nI (6 * n) + 1).toNatClampNeg), .int (xs (nI (6 * n) + 2).toNatClampNeg)]) S hK hZ hl.1 (c_X7_event l G (xs (nI (6 * n) + 1).toNatClampNeg) (xs (nI (6 * n) + 2).toNatClampNeg) h _ e1) cd_v_X7_event cd_m_L_41 ⟨Nat.le_of_ble_eq_true rfl, Nat.le_of_ble_eq_true rfl⟩ ⟨rfl, rfl⟩ (ci := 7) (by decide) rfl cd_this7 rfl rfl (Nat.le_of_ble_eq_true rfl) ⟨Nat.le_of_ble_eq_true rfl, Nat.le_of_ble_eq_true rfl⟩ dL_law_375 (fun H locs hZ => ?_)
                    refine lv_aload_n S.1 S.2.1 dL_law_378 rfl (lv_at hl 2 rfl) ?_
                    refine lv_aload_n S.1 S.2.1 dL_law_379 rfl (lv_at hl 0 rfl) ?_
                    refine lv_iload_n S.1 S.2.1 dL_law_380 rfl (lv_at hl 3 rfl) ?_
                    refine lv_iconst (v := 1) S.1 S.2.1 dL_law_381 (by decide) ?_
                    refine lv_iadd S.1 S.2.1 dL_law_382 ?_
                    refine va_sld S.1 S.2.1 hX hbl hbA hZ.2 (cd_scr (j := 1) hL (by omega)) dL_law_383 ?_
                    refine lv_aload_n S.1 S.2.1 dL_law_384 rfl (lv_at hl 0 rfl) ?_
                    refine lv_iload_n S.1 S.2.1 dL_law_385 rfl (lv_at hl 3 rfl) ?_
                    refine lv_iconst (v := 2) S.1 S.2.1 dL_law_386 (by decide) ?_
                    refine lv_iadd S.1 S.2.1 dL_law_387 ?_
                    refine va_sld S.1 S.2.1 hX hbl hbA hZ.2 (cd_scr (j := 2) hL (by omega)) dL_law_388 ?_
                    refine cd_cVi (q := 404) (As := [.int (xs (nI (6 * n) + 1).toNatClampNeg), .int (xs (nI (6 * n) + 2).toNatClampNeg)]) S hK hZ hl.1 (c_X8_event l G (xs (nI (6 * n) + 1).toNatClampNeg) (xs (nI (6 * n) + 2).toNatClampNeg) h1 _ e2) cd_v_X8_event cd_m_L_44 ⟨Nat.le_of_ble_eq_true rfl, Nat.le_of_ble_eq_true rfl⟩ ⟨rfl, rfl⟩ (ci := 8) (by decide) rfl cd_this8 rfl rfl (Nat.le_of_ble_eq_true rfl) ⟨Nat.le_of_ble_eq_true rfl, Nat.le_of_ble_eq_true rfl⟩ dL_law_389 (fun H locs hZ => ?_)
                    refine lv_icmp_eq (tgt := 958) S.1 S.2.1 dL_law_392 (by decide) (fun c9 => ?_) (fun c9 => ?_)
                    · exact go _ H locs ls hIn hZ hl
                    · exact absurd rfl c9
                  · have _ := c16
                    refine cd_by (p := x5 = 7) (fun c17 => ?_) (fun c17 => ?_)
                    · refine cd_tabI (k := 7) (off := 364) (tgt := 397) S.1 S.2.1 dL_law_33 c17 (by decide +kernel) (by decide) ?_
                      obtain ⟨r, h1, h2, e1, e2, hIn⟩ := hq.2.2.2.2.2.2.2.1 (xs (nI (6 * n) + 1).toNatClampNeg) (xs (nI (6 * n) + 2).toNatClampNeg)
                      refine lv_aload_n S.1 S.2.1 dL_law_397 rfl (lv_at hl 1 rfl) ?_
                      refine lv_aload_n S.1 S.2.1 dL_law_398 rfl (lv_at hl 0 rfl) ?_
                      refine lv_iload_n S.1 S.2.1 dL_law_399 rfl (lv_at hl 3 rfl) ?_
                      refine lv_iconst (v := 1) S.1 S.2.1 dL_law_400 (by decide) ?_
                      refine lv_iadd S.1 S.2.1 dL_law_401 ?_
                      refine va_sld S.1 S.2.1 hX hbl hbA hZ.2 (cd_scr (j := 1) hL (by omega)) dL_law_402 ?_
                      refine lv_aload_n S.1 S.2.1 dL_law_403 rfl (lv_at hl 0 rfl) ?_
                      refine lv_iload_n S.1 S.2.1 dL_law_404 rfl (lv_at hl 3 rfl) ?_
                      refine lv_iconst (v := 2) S.1 S.2.1 dL_law_405 (by decide) ?_
                      refine lv_iadd S.1 S.2.1 dL_law_406 ?_
                      refine va_sld S.1 S.2.1 hX hbl hbA hZ.2 (cd_scr (j := 2) hL (by omega)) dL_law_407 ?_
                      refine cd_cVi (q := 0) (As := [.int (xs (nI (6 * n) + 1).toNatClampNeg), .int (xs (nI (6 * n) + 2).toNatClampNeg)]) S hK hZ hl.1 (c_X7_periods l G (xs (nI (6 * n) + 1).toNatClampNeg) (xs (nI (6 * n) + 2).toNatClampNeg) h _ e1) cd_v_X7_periods cd_m_L_45 ⟨Nat.le_of_ble_eq_true rfl, Nat.le_of_ble_eq_true rfl⟩ ⟨rfl, rfl⟩ (ci := 7) (by decide) rfl cd_this7 rfl rfl (Nat.le_of_ble_eq_true rfl) ⟨Nat.le_of_ble_eq_true rfl, Nat.le_of_ble_eq_true rfl⟩ dL_law_408 (fun H locs hZ => ?_)
                      refine lv_aload_n S.1 S.2.1 dL_law_411 rfl (lv_at hl 2 rfl) ?_
                      refine lv_aload_n S.1 S.2.1 dL_law_412 rfl (lv_at hl 0 rfl) ?_
                      refine lv_iload_n S.1 S.2.1 dL_law_413 rfl (lv_at hl 3 rfl) ?_
                      refine lv_iconst (v := 1) S.1 S.2.1 dL_law_414 (by decide) ?_
                      refine lv_iadd S.1 S.2.1 dL_law_415 ?_
                      refine va_sld S.1 S.2.1 hX hbl hbA hZ.2 (cd_scr (j := 1) hL (by omega)) dL_law_416 ?_
                      refine lv_aload_n S.1 S.2.1 dL_law_417 rfl (lv_at hl 0 rfl) ?_
                      refine lv_iload_n S.1 S.2.1 dL_law_418 rfl (lv_at hl 3 rfl) ?_
                      refine lv_iconst (v := 2) S.1 S.2.1 dL_law_419 (by decide) ?_
                      refine lv_iadd S.1 S.2.1 dL_law_420 ?_
                      refine va_sld S.1 S.2.1 hX hbl hbA hZ.2 (cd_scr (j := 2) hL (by omega)) dL_law_421 ?_
                      refine cd_cVi (q := 404) (As := [.int (xs (nI (6 * n) + 1).toNatClampNeg), .int (xs (nI (6 * n) + 2).toNatClampNeg)]) S hK hZ hl.1 (c_X8_periods l G (xs (nI (6 * n) + 1).toNatClampNeg) (xs (nI (6 * n) + 2).toNatClampNeg) h1 _ e2) cd_v_X8_periods cd_m_L_48 ⟨Nat.le_of_ble_eq_true rfl, Nat.le_of_ble_eq_true rfl⟩ ⟨rfl, rfl⟩ (ci := 8) (by decide) rfl cd_this8 rfl rfl (Nat.le_of_ble_eq_true rfl) ⟨Nat.le_of_ble_eq_true rfl, Nat.le_of_ble_eq_true rfl⟩ dL_law_422 (fun H locs hZ => ?_)
                      refine lv_icmp_eq (tgt := 958) S.1 S.2.1 dL_law_425 (by decide) (fun c9 => ?_) (fun c9 => ?_)
                      · exact go _ H locs ls hIn hZ hl
                      · exact absurd rfl c9
                    · have _ := c17
                      refine cd_by (p := x5 = 8) (fun c18 => ?_) (fun c18 => ?_)
                      · refine cd_tabI (k := 8) (off := 397) (tgt := 430) S.1 S.2.1 dL_law_33 c18 (by decide +kernel) (by decide) ?_
                        obtain ⟨r, h1, h2, e1, e2, hIn⟩ := hq.2.2.2.2.2.2.2.2.1 (xs (nI (6 * n) + 1).toNatClampNeg)
                        refine lv_aload_n S.1 S.2.1 dL_law_430 rfl (lv_at hl 1 rfl) ?_
                        refine lv_aload_n S.1 S.2.1 dL_law_431 rfl (lv_at hl 0 rfl) ?_
                        refine lv_iload_n S.1 S.2.1 dL_law_432 rfl (lv_at hl 3 rfl) ?_
                        refine lv_iconst (v := 1) S.1 S.2.1 dL_law_433 (by decide) ?_
                        refine lv_iadd S.1 S.2.1 dL_law_434 ?_
                        refine va_sld S.1 S.2.1 hX hbl hbA hZ.2 (cd_scr (j := 1) hL (by omega)) dL_law_435 ?_
                        refine cd_cVi (q := 0) (As := [.int (xs (nI (6 * n) + 1).toNatClampNeg)]) S hK hZ hl.1 (c_X7_skids l G (xs (nI (6 * n) + 1).toNatClampNeg) h _ e1) cd_v_X7_skids cd_m_L_49 ⟨Nat.le_of_ble_eq_true rfl, Nat.le_of_ble_eq_true rfl⟩ ⟨rfl, rfl⟩ (ci := 7) (by decide) rfl cd_this7 rfl rfl (Nat.le_of_ble_eq_true rfl) ⟨Nat.le_of_ble_eq_true rfl, Nat.le_of_ble_eq_true rfl⟩ dL_law_436 (fun H locs hZ => ?_)
                        refine lv_aload_n S.1 S.2.1 dL_law_439 rfl (lv_at hl 2 rfl) ?_
                        refine lv_aload_n S.1 S.2.1 dL_law_440 rfl (lv_at hl 0 rfl) ?_
                        refine lv_iload_n S.1 S.2.1 dL_law_441 rfl (lv_at hl 3 rfl) ?_
                        refine lv_iconst (v := 1) S.1 S.2.1 dL_law_442 (by decide) ?_
                        refine lv_iadd S.1 S.2.1 dL_law_443 ?_
                        refine va_sld S.1 S.2.1 hX hbl hbA hZ.2 (cd_scr (j := 1) hL (by omega)) dL_law_444 ?_
                        refine cd_cVi (q := 404) (As := [.int (xs (nI (6 * n) + 1).toNatClampNeg)]) S hK hZ hl.1 (c_X8_skids l G (xs (nI (6 * n) + 1).toNatClampNeg) h1 _ e2) cd_v_X8_skids cd_m_L_52 ⟨Nat.le_of_ble_eq_true rfl, Nat.le_of_ble_eq_true rfl⟩ ⟨rfl, rfl⟩ (ci := 8) (by decide) rfl cd_this8 rfl rfl (Nat.le_of_ble_eq_true rfl) ⟨Nat.le_of_ble_eq_true rfl, Nat.le_of_ble_eq_true rfl⟩ dL_law_445 (fun H locs hZ => ?_)
                        refine lv_icmp_eq (tgt := 958) S.1 S.2.1 dL_law_448 (by decide) (fun c9 => ?_) (fun c9 => ?_)
                        · exact go _ H locs ls hIn hZ hl
                        · exact absurd rfl c9
                      · have _ := c18
                        refine cd_by (p := x5 = 9) (fun c19 => ?_) (fun c19 => ?_)
                        · refine cd_tabI (k := 9) (off := 420) (tgt := 453) S.1 S.2.1 dL_law_33 c19 (by decide +kernel) (by decide) ?_
                          obtain ⟨r, h1, h2, e1, e2, hIn⟩ := hq.2.2.2.2.2.2.2.2.2.1 (xs (nI (6 * n) + 1).toNatClampNeg) (xs (nI (6 * n) + 2).toNatClampNeg)
                          refine lv_aload_n S.1 S.2.1 dL_law_453 rfl (lv_at hl 1 rfl) ?_
                          refine lv_aload_n S.1 S.2.1 dL_law_454 rfl (lv_at hl 0 rfl) ?_
                          refine lv_iload_n S.1 S.2.1 dL_law_455 rfl (lv_at hl 3 rfl) ?_
                          refine lv_iconst (v := 1) S.1 S.2.1 dL_law_456 (by decide) ?_
                          refine lv_iadd S.1 S.2.1 dL_law_457 ?_
                          refine va_sld S.1 S.2.1 hX hbl hbA hZ.2 (cd_scr (j := 1) hL (by omega)) dL_law_458 ?_
                          refine lv_aload_n S.1 S.2.1 dL_law_459 rfl (lv_at hl 0 rfl) ?_
                          refine lv_iload_n S.1 S.2.1 dL_law_460 rfl (lv_at hl 3 rfl) ?_
                          refine lv_iconst (v := 2) S.1 S.2.1 dL_law_461 (by decide) ?_
                          refine lv_iadd S.1 S.2.1 dL_law_462 ?_
                          refine va_sld S.1 S.2.1 hX hbl hbA hZ.2 (cd_scr (j := 2) hL (by omega)) dL_law_463 ?_
                          refine cd_cVi (q := 0) (As := [.int (xs (nI (6 * n) + 1).toNatClampNeg), .int (xs (nI (6 * n) + 2).toNatClampNeg)]) S hK hZ hl.1 (c_X7_lives l G (xs (nI (6 * n) + 1).toNatClampNeg) (xs (nI (6 * n) + 2).toNatClampNeg) h _ e1) cd_v_X7_lives cd_m_L_53 ⟨Nat.le_of_ble_eq_true rfl, Nat.le_of_ble_eq_true rfl⟩ ⟨rfl, rfl⟩ (ci := 7) (by decide) rfl cd_this7 rfl rfl (Nat.le_of_ble_eq_true rfl) ⟨Nat.le_of_ble_eq_true rfl, Nat.le_of_ble_eq_true rfl⟩ dL_law_464 (fun H locs hZ => ?_)
                          refine lv_aload_n S.1 S.2.1 dL_law_467 rfl (lv_at hl 2 rfl) ?_
                          refine lv_aload_n S.1 S.2.1 dL_law_468 rfl (lv_at hl 0 rfl) ?_
                          refine lv_iload_n S.1 S.2.1 dL_law_469 rfl (lv_at hl 3 rfl) ?_
                          refine lv_iconst (v := 1) S.1 S.2.1 dL_law_470 (by decide) ?_
                          refine lv_iadd S.1 S.2.1 dL_law_471 ?_
                          refine va_sld S.1 S.2.1 hX hbl hbA hZ.2 (cd_scr (j := 1) hL (by omega)) dL_law_472 ?_
                          refine lv_aload_n S.1 S.2.1 dL_law_473 rfl (lv_at hl 0 rfl) ?_
                          refine lv_iload_n S.1 S.2.1 dL_law_474 rfl (lv_at hl 3 rfl) ?_
                          refine lv_iconst (v := 2) S.1 S.2.1 dL_law_475 (by decide) ?_
                          refine lv_iadd S.1 S.2.1 dL_law_476 ?_
                          refine va_sld S.1 S.2.1 hX hbl hbA hZ.2 (cd_scr (j := 2) hL (by omega)) dL_law_477 ?_
                          refine cd_cVi (q := 404) (As := [.int (xs (nI (6 * n) + 1).toNatClampNeg), .int (xs (nI (6 * n) + 2).toNatClampNeg)]) S hK hZ hl.1 (c_X8_lives l G (xs (nI (6 * n) + 1).toNatClampNeg) (xs (nI (6 * n) + 2).toNatClampNeg) h1 _ e2) cd_v_X8_lives cd_m_L_56 ⟨Nat.le_of_ble_eq_true rfl, Nat.le_of_ble_eq_true rfl⟩ ⟨rfl, rfl⟩ (ci := 8) (by decide) rfl cd_this8 rfl rfl (Nat.le_of_ble_eq_true rfl) ⟨Nat.le_of_ble_eq_true rfl, Nat.le_of_ble_eq_true rfl⟩ dL_law_478 (fun H locs hZ => ?_)
                          refine lv_icmp_eq (tgt := 958) S.1 S.2.1 dL_law_481 (by decide) (fun c9 => ?_) (fun c9 => ?_)
                          · exact go _ H locs ls hIn hZ hl
                          · exact absurd rfl c9
                        · have _ := c19
                          refine cd_by (p := x5 = 10) (fun c20 => ?_) (fun c20 => ?_)
                          · refine cd_tabI (k := 10) (off := 453) (tgt := 486) S.1 S.2.1 dL_law_33 c20 (by decide +kernel) (by decide) ?_
                            obtain ⟨r, h1, h2, e1, e2, hIn⟩ := hq.2.2.2.2.2.2.2.2.2.2.1 (xs (nI (6 * n) + 1).toNatClampNeg) (xs (nI (6 * n) + 2).toNatClampNeg)
                            refine lv_aload_n S.1 S.2.1 dL_law_486 rfl (lv_at hl 1 rfl) ?_
                            refine lv_aload_n S.1 S.2.1 dL_law_487 rfl (lv_at hl 0 rfl) ?_
                            refine lv_iload_n S.1 S.2.1 dL_law_488 rfl (lv_at hl 3 rfl) ?_
                            refine lv_iconst (v := 1) S.1 S.2.1 dL_law_489 (by decide) ?_
                            refine lv_iadd S.1 S.2.1 dL_law_490 ?_
                            refine va_sld S.1 S.2.1 hX hbl hbA hZ.2 (cd_scr (j := 1) hL (by omega)) dL_law_491 ?_
                            refine lv_aload_n S.1 S.2.1 dL_law_492 rfl (lv_at hl 0 rfl) ?_
                            refine lv_iload_n S.1 S.2.1 dL_law_493 rfl (lv_at hl 3 rfl) ?_
                            refine lv_iconst (v := 2) S.1 S.2.1 dL_law_494 (by decide) ?_
                            refine lv_iadd S.1 S.2.1 dL_law_495 ?_
                            refine va_sld S.1 S.2.1 hX hbl hbA hZ.2 (cd_scr (j := 2) hL (by omega)) dL_law_496 ?_
                            refine cd_cVi (q := 0) (As := [.int (xs (nI (6 * n) + 1).toNatClampNeg), .int (xs (nI (6 * n) + 2).toNatClampNeg)]) S hK hZ hl.1 (c_X7_runs l G (xs (nI (6 * n) + 1).toNatClampNeg) (xs (nI (6 * n) + 2).toNatClampNeg) h _ e1) cd_v_X7_runs cd_m_L_57 ⟨Nat.le_of_ble_eq_true rfl, Nat.le_of_ble_eq_true rfl⟩ ⟨rfl, rfl⟩ (ci := 7) (by decide) rfl cd_this7 rfl rfl (Nat.le_of_ble_eq_true rfl) ⟨Nat.le_of_ble_eq_true rfl, Nat.le_of_ble_eq_true rfl⟩ dL_law_497 (fun H locs hZ => ?_)
                            refine lv_aload_n S.1 S.2.1 dL_law_500 rfl (lv_at hl 2 rfl) ?_
                            refine lv_aload_n S.1 S.2.1 dL_law_501 rfl (lv_at hl 0 rfl) ?_
                            refine lv_iload_n S.1 S.2.1 dL_law_502 rfl (lv_at hl 3 rfl) ?_
                            refine lv_iconst (v := 1) S.1 S.2.1 dL_law_503 (by decide) ?_
                            refine lv_iadd S.1 S.2.1 dL_law_504 ?_
                            refine va_sld S.1 S.2.1 hX hbl hbA hZ.2 (cd_scr (j := 1) hL (by omega)) dL_law_505 ?_
                            refine lv_aload_n S.1 S.2.1 dL_law_506 rfl (lv_at hl 0 rfl) ?_
                            refine lv_iload_n S.1 S.2.1 dL_law_507 rfl (lv_at hl 3 rfl) ?_
                            refine lv_iconst (v := 2) S.1 S.2.1 dL_law_508 (by decide) ?_
                            refine lv_iadd S.1 S.2.1 dL_law_509 ?_
                            refine va_sld S.1 S.2.1 hX hbl hbA hZ.2 (cd_scr (j := 2) hL (by omega)) dL_law_510 ?_
                            refine cd_cVi (q := 404) (As := [.int (xs (nI (6 * n) + 1).toNatClampNeg), .int (xs (nI (6 * n) + 2).toNatClampNeg)]) S hK hZ hl.1 (c_X8_runs l G (xs (nI (6 * n) + 1).toNatClampNeg) (xs (nI (6 * n) + 2).toNatClampNeg) h1 _ e2) cd_v_X8_runs cd_m_L_60 ⟨Nat.le_of_ble_eq_true rfl, Nat.le_of_ble_eq_true rfl⟩ ⟨rfl, rfl⟩ (ci := 8) (by decide) rfl cd_this8 rfl rfl (Nat.le_of_ble_eq_true rfl) ⟨Nat.le_of_ble_eq_true rfl, Nat.le_of_ble_eq_true rfl⟩ dL_law_511 (fun H locs hZ => ?_)
                            refine lv_icmp_eq (tgt := 958) S.1 S.2.1 dL_law_514 (by decide) (fun c9 => ?_) (fun c9 => ?_)
                            · exact go _ H locs ls hIn hZ hl
                            · exact absurd rfl c9
                          · have _ := c20
                            refine cd_by (p := x5 = 11) (fun c21 => ?_) (fun c21 => ?_)
                            · refine cd_tabI (k := 11) (off := 486) (tgt := 519) S.1 S.2.1 dL_law_33 c21 (by decide +kernel) (by decide) ?_
                              obtain ⟨r, h1, h2, e1, e2, hIn⟩ := hq.2.2.2.2.2.2.2.2.2.2.2.1 (xs (nI (6 * n) + 1).toNatClampNeg) (xs (nI (6 * n) + 2).toNatClampNeg)
                              refine lv_aload_n S.1 S.2.1 dL_law_519 rfl (lv_at hl 1 rfl) ?_
                              refine lv_aload_n S.1 S.2.1 dL_law_520 rfl (lv_at hl 0 rfl) ?_
                              refine lv_iload_n S.1 S.2.1 dL_law_521 rfl (lv_at hl 3 rfl) ?_
                              refine lv_iconst (v := 1) S.1 S.2.1 dL_law_522 (by decide) ?_
                              refine lv_iadd S.1 S.2.1 dL_law_523 ?_
                              refine va_sld S.1 S.2.1 hX hbl hbA hZ.2 (cd_scr (j := 1) hL (by omega)) dL_law_524 ?_
                              refine lv_aload_n S.1 S.2.1 dL_law_525 rfl (lv_at hl 0 rfl) ?_
                              refine lv_iload_n S.1 S.2.1 dL_law_526 rfl (lv_at hl 3 rfl) ?_
                              refine lv_iconst (v := 2) S.1 S.2.1 dL_law_527 (by decide) ?_
                              refine lv_iadd S.1 S.2.1 dL_law_528 ?_
                              refine va_sld S.1 S.2.1 hX hbl hbA hZ.2 (cd_scr (j := 2) hL (by omega)) dL_law_529 ?_
                              refine cd_cVi (q := 0) (As := [.int (xs (nI (6 * n) + 1).toNatClampNeg), .int (xs (nI (6 * n) + 2).toNatClampNeg)]) S hK hZ hl.1 (c_X7_task l G (xs (nI (6 * n) + 1).toNatClampNeg) (xs (nI (6 * n) + 2).toNatClampNeg) h _ e1) cd_v_X7_task cd_m_L_61 ⟨Nat.le_of_ble_eq_true rfl, Nat.le_of_ble_eq_true rfl⟩ ⟨rfl, rfl⟩ (ci := 7) (by decide) rfl cd_this7 rfl rfl (Nat.le_of_ble_eq_true rfl) ⟨Nat.le_of_ble_eq_true rfl, Nat.le_of_ble_eq_true rfl⟩ dL_law_530 (fun H locs hZ => ?_)
                              refine lv_aload_n S.1 S.2.1 dL_law_533 rfl (lv_at hl 2 rfl) ?_
                              refine lv_aload_n S.1 S.2.1 dL_law_534 rfl (lv_at hl 0 rfl) ?_
                              refine lv_iload_n S.1 S.2.1 dL_law_535 rfl (lv_at hl 3 rfl) ?_
                              refine lv_iconst (v := 1) S.1 S.2.1 dL_law_536 (by decide) ?_
                              refine lv_iadd S.1 S.2.1 dL_law_537 ?_
                              refine va_sld S.1 S.2.1 hX hbl hbA hZ.2 (cd_scr (j := 1) hL (by omega)) dL_law_538 ?_
                              refine lv_aload_n S.1 S.2.1 dL_law_539 rfl (lv_at hl 0 rfl) ?_
                              refine lv_iload_n S.1 S.2.1 dL_law_540 rfl (lv_at hl 3 rfl) ?_
                              refine lv_iconst (v := 2) S.1 S.2.1 dL_law_541 (by decide) ?_
                              refine lv_iadd S.1 S.2.1 dL_law_542 ?_
                              refine va_sld S.1 S.2.1 hX hbl hbA hZ.2 (cd_scr (j := 2) hL (by omega)) dL_law_543 ?_
                              refine cd_cVi (q := 404) (As := [.int (xs (nI (6 * n) + 1).toNatClampNeg), .int (xs (nI (6 * n) + 2).toNatClampNeg)]) S hK hZ hl.1 (c_X8_task l G (xs (nI (6 * n) + 1).toNatClampNeg) (xs (nI (6 * n) + 2).toNatClampNeg) h1 _ e2) cd_v_X8_task cd_m_L_64 ⟨Nat.le_of_ble_eq_true rfl, Nat.le_of_ble_eq_true rfl⟩ ⟨rfl, rfl⟩ (ci := 8) (by decide) rfl cd_this8 rfl rfl (Nat.le_of_ble_eq_true rfl) ⟨Nat.le_of_ble_eq_true rfl, Nat.le_of_ble_eq_true rfl⟩ dL_law_544 (fun H locs hZ => ?_)
                              refine lv_icmp_eq (tgt := 958) S.1 S.2.1 dL_law_547 (by decide) (fun c9 => ?_) (fun c9 => ?_)
                              · exact go _ H locs ls hIn hZ hl
                              · exact absurd rfl c9
                            · have _ := c21
                              refine cd_by (p := x5 = 12) (fun c22 => ?_) (fun c22 => ?_)
                              · refine cd_tabI (k := 12) (off := 519) (tgt := 552) S.1 S.2.1 dL_law_33 c22 (by decide +kernel) (by decide) ?_
                                obtain ⟨r, h1, h2, e1, e2, hIn⟩ := hq.2.2.2.2.2.2.2.2.2.2.2.2.1 (xs (nI (6 * n) + 1).toNatClampNeg) (xs (nI (6 * n) + 2).toNatClampNeg)
                                refine lv_aload_n S.1 S.2.1 dL_law_552 rfl (lv_at hl 1 rfl) ?_
                                refine lv_aload_n S.1 S.2.1 dL_law_553 rfl (lv_at hl 0 rfl) ?_
                                refine lv_iload_n S.1 S.2.1 dL_law_554 rfl (lv_at hl 3 rfl) ?_
                                refine lv_iconst (v := 1) S.1 S.2.1 dL_law_555 (by decide) ?_
                                refine lv_iadd S.1 S.2.1 dL_law_556 ?_
                                refine va_sld S.1 S.2.1 hX hbl hbA hZ.2 (cd_scr (j := 1) hL (by omega)) dL_law_557 ?_
                                refine lv_aload_n S.1 S.2.1 dL_law_558 rfl (lv_at hl 0 rfl) ?_
                                refine lv_iload_n S.1 S.2.1 dL_law_559 rfl (lv_at hl 3 rfl) ?_
                                refine lv_iconst (v := 2) S.1 S.2.1 dL_law_560 (by decide) ?_
                                refine lv_iadd S.1 S.2.1 dL_law_561 ?_
                                refine va_sld S.1 S.2.1 hX hbl hbA hZ.2 (cd_scr (j := 2) hL (by omega)) dL_law_562 ?_
                                refine cd_cVi (q := 0) (As := [.int (xs (nI (6 * n) + 1).toNatClampNeg), .int (xs (nI (6 * n) + 2).toNatClampNeg)]) S hK hZ hl.1 (c_X7_of l G (xs (nI (6 * n) + 1).toNatClampNeg) (xs (nI (6 * n) + 2).toNatClampNeg) h _ e1) cd_v_X7_of cd_m_L_65 ⟨Nat.le_of_ble_eq_true rfl, Nat.le_of_ble_eq_true rfl⟩ ⟨rfl, rfl⟩ (ci := 7) (by decide) rfl cd_this7 rfl rfl (Nat.le_of_ble_eq_true rfl) ⟨Nat.le_of_ble_eq_true rfl, Nat.le_of_ble_eq_true rfl⟩ dL_law_563 (fun H locs hZ => ?_)
                                refine lv_aload_n S.1 S.2.1 dL_law_566 rfl (lv_at hl 2 rfl) ?_
                                refine lv_aload_n S.1 S.2.1 dL_law_567 rfl (lv_at hl 0 rfl) ?_
                                refine lv_iload_n S.1 S.2.1 dL_law_568 rfl (lv_at hl 3 rfl) ?_
                                refine lv_iconst (v := 1) S.1 S.2.1 dL_law_569 (by decide) ?_
                                refine lv_iadd S.1 S.2.1 dL_law_570 ?_
                                refine va_sld S.1 S.2.1 hX hbl hbA hZ.2 (cd_scr (j := 1) hL (by omega)) dL_law_571 ?_
                                refine lv_aload_n S.1 S.2.1 dL_law_572 rfl (lv_at hl 0 rfl) ?_
                                refine lv_iload_n S.1 S.2.1 dL_law_573 rfl (lv_at hl 3 rfl) ?_
                                refine lv_iconst (v := 2) S.1 S.2.1 dL_law_574 (by decide) ?_
                                refine lv_iadd S.1 S.2.1 dL_law_575 ?_
                                refine va_sld S.1 S.2.1 hX hbl hbA hZ.2 (cd_scr (j := 2) hL (by omega)) dL_law_576 ?_
                                refine cd_cVi (q := 404) (As := [.int (xs (nI (6 * n) + 1).toNatClampNeg), .int (xs (nI (6 * n) + 2).toNatClampNeg)]) S hK hZ hl.1 (c_X8_of l G (xs (nI (6 * n) + 1).toNatClampNeg) (xs (nI (6 * n) + 2).toNatClampNeg) h1 _ e2) cd_v_X8_of cd_m_L_68 ⟨Nat.le_of_ble_eq_true rfl, Nat.le_of_ble_eq_true rfl⟩ ⟨rfl, rfl⟩ (ci := 8) (by decide) rfl cd_this8 rfl rfl (Nat.le_of_ble_eq_true rfl) ⟨Nat.le_of_ble_eq_true rfl, Nat.le_of_ble_eq_true rfl⟩ dL_law_577 (fun H locs hZ => ?_)
                                refine lv_icmp_eq (tgt := 958) S.1 S.2.1 dL_law_580 (by decide) (fun c9 => ?_) (fun c9 => ?_)
                                · exact go _ H locs ls hIn hZ hl
                                · exact absurd rfl c9
                              · have _ := c22
                                refine cd_by (p := x5 = 13) (fun c23 => ?_) (fun c23 => ?_)
                                · refine cd_tabI (k := 13) (off := 552) (tgt := 585) S.1 S.2.1 dL_law_33 c23 (by decide +kernel) (by decide) ?_
                                  obtain ⟨r, h1, h2, e1, e2, hIn⟩ := hq.2.2.2.2.2.2.2.2.2.2.2.2.2.1 (xs (nI (6 * n) + 1).toNatClampNeg) (xs (nI (6 * n) + 2).toNatClampNeg) (xs (nI (6 * n) + 3).toNatClampNeg)
                                  refine lv_aload_n S.1 S.2.1 dL_law_585 rfl (lv_at hl 1 rfl) ?_
                                  refine lv_aload_n S.1 S.2.1 dL_law_586 rfl (lv_at hl 0 rfl) ?_
                                  refine lv_iload_n S.1 S.2.1 dL_law_587 rfl (lv_at hl 3 rfl) ?_
                                  refine lv_iconst (v := 1) S.1 S.2.1 dL_law_588 (by decide) ?_
                                  refine lv_iadd S.1 S.2.1 dL_law_589 ?_
                                  refine va_sld S.1 S.2.1 hX hbl hbA hZ.2 (cd_scr (j := 1) hL (by omega)) dL_law_590 ?_
                                  refine lv_aload_n S.1 S.2.1 dL_law_591 rfl (lv_at hl 0 rfl) ?_
                                  refine lv_iload_n S.1 S.2.1 dL_law_592 rfl (lv_at hl 3 rfl) ?_
                                  refine lv_iconst (v := 2) S.1 S.2.1 dL_law_593 (by decide) ?_
                                  refine lv_iadd S.1 S.2.1 dL_law_594 ?_
                                  refine va_sld S.1 S.2.1 hX hbl hbA hZ.2 (cd_scr (j := 2) hL (by omega)) dL_law_595 ?_
                                  refine lv_aload_n S.1 S.2.1 dL_law_596 rfl (lv_at hl 0 rfl) ?_
                                  refine lv_iload_n S.1 S.2.1 dL_law_597 rfl (lv_at hl 3 rfl) ?_
                                  refine lv_iconst (v := 3) S.1 S.2.1 dL_law_598 (by decide) ?_
                                  refine lv_iadd S.1 S.2.1 dL_law_599 ?_
                                  refine va_sld S.1 S.2.1 hX hbl hbA hZ.2 (cd_scr (j := 3) hL (by omega)) dL_law_600 ?_
                                  refine cd_cVi (q := 0) (As := [.int (xs (nI (6 * n) + 1).toNatClampNeg), .int (xs (nI (6 * n) + 2).toNatClampNeg), .int (xs (nI (6 * n) + 3).toNatClampNeg)]) S hK hZ hl.1 (c_X7_about l G (xs (nI (6 * n) + 1).toNatClampNeg) (xs (nI (6 * n) + 2).toNatClampNeg) (xs (nI (6 * n) + 3).toNatClampNeg) h _ e1) cd_v_X7_about cd_m_L_69 ⟨Nat.le_of_ble_eq_true rfl, Nat.le_of_ble_eq_true rfl⟩ ⟨rfl, rfl⟩ (ci := 7) (by decide) rfl cd_this7 rfl rfl (Nat.le_of_ble_eq_true rfl) ⟨Nat.le_of_ble_eq_true rfl, Nat.le_of_ble_eq_true rfl⟩ dL_law_601 (fun H locs hZ => ?_)
                                  refine lv_aload_n S.1 S.2.1 dL_law_604 rfl (lv_at hl 2 rfl) ?_
                                  refine lv_aload_n S.1 S.2.1 dL_law_605 rfl (lv_at hl 0 rfl) ?_
                                  refine lv_iload_n S.1 S.2.1 dL_law_606 rfl (lv_at hl 3 rfl) ?_
                                  refine lv_iconst (v := 1) S.1 S.2.1 dL_law_607 (by decide) ?_
                                  refine lv_iadd S.1 S.2.1 dL_law_608 ?_
                                  refine va_sld S.1 S.2.1 hX hbl hbA hZ.2 (cd_scr (j := 1) hL (by omega)) dL_law_609 ?_
                                  refine lv_aload_n S.1 S.2.1 dL_law_610 rfl (lv_at hl 0 rfl) ?_
                                  refine lv_iload_n S.1 S.2.1 dL_law_611 rfl (lv_at hl 3 rfl) ?_
                                  refine lv_iconst (v := 2) S.1 S.2.1 dL_law_612 (by decide) ?_
                                  refine lv_iadd S.1 S.2.1 dL_law_613 ?_
                                  refine va_sld S.1 S.2.1 hX hbl hbA hZ.2 (cd_scr (j := 2) hL (by omega)) dL_law_614 ?_
                                  refine lv_aload_n S.1 S.2.1 dL_law_615 rfl (lv_at hl 0 rfl) ?_
                                  refine lv_iload_n S.1 S.2.1 dL_law_616 rfl (lv_at hl 3 rfl) ?_
                                  refine lv_iconst (v := 3) S.1 S.2.1 dL_law_617 (by decide) ?_
                                  refine lv_iadd S.1 S.2.1 dL_law_618 ?_
                                  refine va_sld S.1 S.2.1 hX hbl hbA hZ.2 (cd_scr (j := 3) hL (by omega)) dL_law_619 ?_
                                  refine cd_cVi (q := 404) (As := [.int (xs (nI (6 * n) + 1).toNatClampNeg), .int (xs (nI (6 * n) + 2).toNatClampNeg), .int (xs (nI (6 * n) + 3).toNatClampNeg)]) S hK hZ hl.1 (c_X8_about l G (xs (nI (6 * n) + 1).toNatClampNeg) (xs (nI (6 * n) + 2).toNatClampNeg) (xs (nI (6 * n) + 3).toNatClampNeg) h1 _ e2) cd_v_X8_about cd_m_L_72 ⟨Nat.le_of_ble_eq_true rfl, Nat.le_of_ble_eq_true rfl⟩ ⟨rfl, rfl⟩ (ci := 8) (by decide) rfl cd_this8 rfl rfl (Nat.le_of_ble_eq_true rfl) ⟨Nat.le_of_ble_eq_true rfl, Nat.le_of_ble_eq_true rfl⟩ dL_law_620 (fun H locs hZ => ?_)
                                  refine lv_icmp_eq (tgt := 958) S.1 S.2.1 dL_law_623 (by decide) (fun c9 => ?_) (fun c9 => ?_)
                                  · exact go _ H locs ls hIn hZ hl
                                  · exact absurd rfl c9
                                · have _ := c23
                                  refine cd_by (p := x5 = 14) (fun c24 => ?_) (fun c24 => ?_)
                                  · refine cd_tabI (k := 14) (off := 595) (tgt := 628) S.1 S.2.1 dL_law_33 c24 (by decide +kernel) (by decide) ?_
                                    obtain ⟨r, h1, h2, e1, e2, hIn⟩ := hq.2.2.2.2.2.2.2.2.2.2.2.2.2.2.1 (xs (nI (6 * n) + 1).toNatClampNeg) (xs (nI (6 * n) + 2).toNatClampNeg) (xs (nI (6 * n) + 3).toNatClampNeg)
                                    refine lv_aload_n S.1 S.2.1 dL_law_628 rfl (lv_at hl 1 rfl) ?_
                                    refine lv_aload_n S.1 S.2.1 dL_law_629 rfl (lv_at hl 0 rfl) ?_
                                    refine lv_iload_n S.1 S.2.1 dL_law_630 rfl (lv_at hl 3 rfl) ?_
                                    refine lv_iconst (v := 1) S.1 S.2.1 dL_law_631 (by decide) ?_
                                    refine lv_iadd S.1 S.2.1 dL_law_632 ?_
                                    refine va_sld S.1 S.2.1 hX hbl hbA hZ.2 (cd_scr (j := 1) hL (by omega)) dL_law_633 ?_
                                    refine lv_aload_n S.1 S.2.1 dL_law_634 rfl (lv_at hl 0 rfl) ?_
                                    refine lv_iload_n S.1 S.2.1 dL_law_635 rfl (lv_at hl 3 rfl) ?_
                                    refine lv_iconst (v := 2) S.1 S.2.1 dL_law_636 (by decide) ?_
                                    refine lv_iadd S.1 S.2.1 dL_law_637 ?_
                                    refine va_sld S.1 S.2.1 hX hbl hbA hZ.2 (cd_scr (j := 2) hL (by omega)) dL_law_638 ?_
                                    refine lv_aload_n S.1 S.2.1 dL_law_639 rfl (lv_at hl 0 rfl) ?_
                                    refine lv_iload_n S.1 S.2.1 dL_law_640 rfl (lv_at hl 3 rfl) ?_
                                    refine lv_iconst (v := 3) S.1 S.2.1 dL_law_641 (by decide) ?_
                                    refine lv_iadd S.1 S.2.1 dL_law_642 ?_
                                    refine va_sld S.1 S.2.1 hX hbl hbA hZ.2 (cd_scr (j := 3) hL (by omega)) dL_law_643 ?_
                                    refine cd_cVi (q := 0) (As := [.int (xs (nI (6 * n) + 1).toNatClampNeg), .int (xs (nI (6 * n) + 2).toNatClampNeg), .int (xs (nI (6 * n) + 3).toNatClampNeg)]) S hK hZ hl.1 (c_X7_count l G (xs (nI (6 * n) + 1).toNatClampNeg) (xs (nI (6 * n) + 2).toNatClampNeg) (xs (nI (6 * n) + 3).toNatClampNeg) h _ e1) cd_v_X7_count cd_m_L_73 ⟨Nat.le_of_ble_eq_true rfl, Nat.le_of_ble_eq_true rfl⟩ ⟨rfl, rfl⟩ (ci := 7) (by decide) rfl cd_this7 rfl rfl (Nat.le_of_ble_eq_true rfl) ⟨Nat.le_of_ble_eq_true rfl, Nat.le_of_ble_eq_true rfl⟩ dL_law_644 (fun H locs hZ => ?_)
                                    refine lv_aload_n S.1 S.2.1 dL_law_647 rfl (lv_at hl 2 rfl) ?_
                                    refine lv_aload_n S.1 S.2.1 dL_law_648 rfl (lv_at hl 0 rfl) ?_
                                    refine lv_iload_n S.1 S.2.1 dL_law_649 rfl (lv_at hl 3 rfl) ?_
                                    refine lv_iconst (v := 1) S.1 S.2.1 dL_law_650 (by decide) ?_
                                    refine lv_iadd S.1 S.2.1 dL_law_651 ?_
                                    refine va_sld S.1 S.2.1 hX hbl hbA hZ.2 (cd_scr (j := 1) hL (by omega)) dL_law_652 ?_
                                    refine lv_aload_n S.1 S.2.1 dL_law_653 rfl (lv_at hl 0 rfl) ?_
                                    refine lv_iload_n S.1 S.2.1 dL_law_654 rfl (lv_at hl 3 rfl) ?_
                                    refine lv_iconst (v := 2) S.1 S.2.1 dL_law_655 (by decide) ?_
                                    refine lv_iadd S.1 S.2.1 dL_law_656 ?_
                                    refine va_sld S.1 S.2.1 hX hbl hbA hZ.2 (cd_scr (j := 2) hL (by omega)) dL_law_657 ?_
                                    refine lv_aload_n S.1 S.2.1 dL_law_658 rfl (lv_at hl 0 rfl) ?_
                                    refine lv_iload_n S.1 S.2.1 dL_law_659 rfl (lv_at hl 3 rfl) ?_
                                    refine lv_iconst (v := 3) S.1 S.2.1 dL_law_660 (by decide) ?_
                                    refine lv_iadd S.1 S.2.1 dL_law_661 ?_
                                    refine va_sld S.1 S.2.1 hX hbl hbA hZ.2 (cd_scr (j := 3) hL (by omega)) dL_law_662 ?_
                                    refine cd_cVi (q := 404) (As := [.int (xs (nI (6 * n) + 1).toNatClampNeg), .int (xs (nI (6 * n) + 2).toNatClampNeg), .int (xs (nI (6 * n) + 3).toNatClampNeg)]) S hK hZ hl.1 (c_X8_count l G (xs (nI (6 * n) + 1).toNatClampNeg) (xs (nI (6 * n) + 2).toNatClampNeg) (xs (nI (6 * n) + 3).toNatClampNeg) h1 _ e2) cd_v_X8_count cd_m_L_76 ⟨Nat.le_of_ble_eq_true rfl, Nat.le_of_ble_eq_true rfl⟩ ⟨rfl, rfl⟩ (ci := 8) (by decide) rfl cd_this8 rfl rfl (Nat.le_of_ble_eq_true rfl) ⟨Nat.le_of_ble_eq_true rfl, Nat.le_of_ble_eq_true rfl⟩ dL_law_663 (fun H locs hZ => ?_)
                                    refine lv_icmp_eq (tgt := 958) S.1 S.2.1 dL_law_666 (by decide) (fun c9 => ?_) (fun c9 => ?_)
                                    · exact go _ H locs ls hIn hZ hl
                                    · exact absurd rfl c9
                                  · have _ := c24
                                    refine cd_by (p := x5 = 15) (fun c25 => ?_) (fun c25 => ?_)
                                    · refine cd_tabI (k := 15) (off := 638) (tgt := 671) S.1 S.2.1 dL_law_33 c25 (by decide +kernel) (by decide) ?_
                                      obtain ⟨r, h1, h2, e1, e2, hIn⟩ := hq.2.2.2.2.2.2.2.2.2.2.2.2.2.2.2.1 (xs (nI (6 * n) + 1).toNatClampNeg) (xs (nI (6 * n) + 2).toNatClampNeg) (xs (nI (6 * n) + 3).toNatClampNeg)
                                      refine lv_aload_n S.1 S.2.1 dL_law_671 rfl (lv_at hl 1 rfl) ?_
                                      refine lv_aload_n S.1 S.2.1 dL_law_672 rfl (lv_at hl 0 rfl) ?_
                                      refine lv_iload_n S.1 S.2.1 dL_law_673 rfl (lv_at hl 3 rfl) ?_
                                      refine lv_iconst (v := 1) S.1 S.2.1 dL_law_674 (by decide) ?_
                                      refine lv_iadd S.1 S.2.1 dL_law_675 ?_
                                      refine va_sld S.1 S.2.1 hX hbl hbA hZ.2 (cd_scr (j := 1) hL (by omega)) dL_law_676 ?_
                                      refine lv_aload_n S.1 S.2.1 dL_law_677 rfl (lv_at hl 0 rfl) ?_
                                      refine lv_iload_n S.1 S.2.1 dL_law_678 rfl (lv_at hl 3 rfl) ?_
                                      refine lv_iconst (v := 2) S.1 S.2.1 dL_law_679 (by decide) ?_
                                      refine lv_iadd S.1 S.2.1 dL_law_680 ?_
                                      refine va_sld S.1 S.2.1 hX hbl hbA hZ.2 (cd_scr (j := 2) hL (by omega)) dL_law_681 ?_
                                      refine lv_aload_n S.1 S.2.1 dL_law_682 rfl (lv_at hl 0 rfl) ?_
                                      refine lv_iload_n S.1 S.2.1 dL_law_683 rfl (lv_at hl 3 rfl) ?_
                                      refine lv_iconst (v := 3) S.1 S.2.1 dL_law_684 (by decide) ?_
                                      refine lv_iadd S.1 S.2.1 dL_law_685 ?_
                                      refine va_sld S.1 S.2.1 hX hbl hbA hZ.2 (cd_scr (j := 3) hL (by omega)) dL_law_686 ?_
                                      refine cd_cVi (q := 0) (As := [.int (xs (nI (6 * n) + 1).toNatClampNeg), .int (xs (nI (6 * n) + 2).toNatClampNeg), .int (xs (nI (6 * n) + 3).toNatClampNeg)]) S hK hZ hl.1 (c_X7_times l G (xs (nI (6 * n) + 1).toNatClampNeg) (xs (nI (6 * n) + 2).toNatClampNeg) (xs (nI (6 * n) + 3).toNatClampNeg) h _ e1) cd_v_X7_times cd_m_L_77 ⟨Nat.le_of_ble_eq_true rfl, Nat.le_of_ble_eq_true rfl⟩ ⟨rfl, rfl⟩ (ci := 7) (by decide) rfl cd_this7 rfl rfl (Nat.le_of_ble_eq_true rfl) ⟨Nat.le_of_ble_eq_true rfl, Nat.le_of_ble_eq_true rfl⟩ dL_law_687 (fun H locs hZ => ?_)
                                      refine lv_aload_n S.1 S.2.1 dL_law_690 rfl (lv_at hl 2 rfl) ?_
                                      refine lv_aload_n S.1 S.2.1 dL_law_691 rfl (lv_at hl 0 rfl) ?_
                                      refine lv_iload_n S.1 S.2.1 dL_law_692 rfl (lv_at hl 3 rfl) ?_
                                      refine lv_iconst (v := 1) S.1 S.2.1 dL_law_693 (by decide) ?_
                                      refine lv_iadd S.1 S.2.1 dL_law_694 ?_
                                      refine va_sld S.1 S.2.1 hX hbl hbA hZ.2 (cd_scr (j := 1) hL (by omega)) dL_law_695 ?_
                                      refine lv_aload_n S.1 S.2.1 dL_law_696 rfl (lv_at hl 0 rfl) ?_
                                      refine lv_iload_n S.1 S.2.1 dL_law_697 rfl (lv_at hl 3 rfl) ?_
                                      refine lv_iconst (v := 2) S.1 S.2.1 dL_law_698 (by decide) ?_
                                      refine lv_iadd S.1 S.2.1 dL_law_699 ?_
                                      refine va_sld S.1 S.2.1 hX hbl hbA hZ.2 (cd_scr (j := 2) hL (by omega)) dL_law_700 ?_
                                      refine lv_aload_n S.1 S.2.1 dL_law_701 rfl (lv_at hl 0 rfl) ?_
                                      refine lv_iload_n S.1 S.2.1 dL_law_702 rfl (lv_at hl 3 rfl) ?_
                                      refine lv_iconst (v := 3) S.1 S.2.1 dL_law_703 (by decide) ?_
                                      refine lv_iadd S.1 S.2.1 dL_law_704 ?_
                                      refine va_sld S.1 S.2.1 hX hbl hbA hZ.2 (cd_scr (j := 3) hL (by omega)) dL_law_705 ?_
                                      refine cd_cVi (q := 404) (As := [.int (xs (nI (6 * n) + 1).toNatClampNeg), .int (xs (nI (6 * n) + 2).toNatClampNeg), .int (xs (nI (6 * n) + 3).toNatClampNeg)]) S hK hZ hl.1 (c_X8_times l G (xs (nI (6 * n) + 1).toNatClampNeg) (xs (nI (6 * n) + 2).toNatClampNeg) (xs (nI (6 * n) + 3).toNatClampNeg) h1 _ e2) cd_v_X8_times cd_m_L_80 ⟨Nat.le_of_ble_eq_true rfl, Nat.le_of_ble_eq_true rfl⟩ ⟨rfl, rfl⟩ (ci := 8) (by decide) rfl cd_this8 rfl rfl (Nat.le_of_ble_eq_true rfl) ⟨Nat.le_of_ble_eq_true rfl, Nat.le_of_ble_eq_true rfl⟩ dL_law_706 (fun H locs hZ => ?_)
                                      refine lv_icmp_eq (tgt := 958) S.1 S.2.1 dL_law_709 (by decide) (fun c9 => ?_) (fun c9 => ?_)
                                      · exact go _ H locs ls hIn hZ hl
                                      · exact absurd rfl c9
                                    · have _ := c25
                                      refine cd_by (p := x5 = 16) (fun c26 => ?_) (fun c26 => ?_)
                                      · refine cd_tabI (k := 16) (off := 681) (tgt := 714) S.1 S.2.1 dL_law_33 c26 (by decide +kernel) (by decide) ?_
                                        obtain ⟨r, h1, h2, e1, e2, hIn⟩ := hq.2.2.2.2.2.2.2.2.2.2.2.2.2.2.2.2.1 (xs (nI (6 * n) + 1).toNatClampNeg) (xs (nI (6 * n) + 2).toNatClampNeg) (xs (nI (6 * n) + 3).toNatClampNeg)
                                        refine lv_aload_n S.1 S.2.1 dL_law_714 rfl (lv_at hl 1 rfl) ?_
                                        refine lv_aload_n S.1 S.2.1 dL_law_715 rfl (lv_at hl 0 rfl) ?_
                                        refine lv_iload_n S.1 S.2.1 dL_law_716 rfl (lv_at hl 3 rfl) ?_
                                        refine lv_iconst (v := 1) S.1 S.2.1 dL_law_717 (by decide) ?_
                                        refine lv_iadd S.1 S.2.1 dL_law_718 ?_
                                        refine va_sld S.1 S.2.1 hX hbl hbA hZ.2 (cd_scr (j := 1) hL (by omega)) dL_law_719 ?_
                                        refine lv_aload_n S.1 S.2.1 dL_law_720 rfl (lv_at hl 0 rfl) ?_
                                        refine lv_iload_n S.1 S.2.1 dL_law_721 rfl (lv_at hl 3 rfl) ?_
                                        refine lv_iconst (v := 2) S.1 S.2.1 dL_law_722 (by decide) ?_
                                        refine lv_iadd S.1 S.2.1 dL_law_723 ?_
                                        refine va_sld S.1 S.2.1 hX hbl hbA hZ.2 (cd_scr (j := 2) hL (by omega)) dL_law_724 ?_
                                        refine lv_aload_n S.1 S.2.1 dL_law_725 rfl (lv_at hl 0 rfl) ?_
                                        refine lv_iload_n S.1 S.2.1 dL_law_726 rfl (lv_at hl 3 rfl) ?_
                                        refine lv_iconst (v := 3) S.1 S.2.1 dL_law_727 (by decide) ?_
                                        refine lv_iadd S.1 S.2.1 dL_law_728 ?_
                                        refine va_sld S.1 S.2.1 hX hbl hbA hZ.2 (cd_scr (j := 3) hL (by omega)) dL_law_729 ?_
                                        refine cd_cVi (q := 0) (As := [.int (xs (nI (6 * n) + 1).toNatClampNeg), .int (xs (nI (6 * n) + 2).toNatClampNeg), .int (xs (nI (6 * n) + 3).toNatClampNeg)]) S hK hZ hl.1 (c_X7_scaled l G (xs (nI (6 * n) + 1).toNatClampNeg) (xs (nI (6 * n) + 2).toNatClampNeg) (xs (nI (6 * n) + 3).toNatClampNeg) h _ e1) cd_v_X7_scaled cd_m_L_81 ⟨Nat.le_of_ble_eq_true rfl, Nat.le_of_ble_eq_true rfl⟩ ⟨rfl, rfl⟩ (ci := 7) (by decide) rfl cd_this7 rfl rfl (Nat.le_of_ble_eq_true rfl) ⟨Nat.le_of_ble_eq_true rfl, Nat.le_of_ble_eq_true rfl⟩ dL_law_730 (fun H locs hZ => ?_)
                                        refine lv_aload_n S.1 S.2.1 dL_law_733 rfl (lv_at hl 2 rfl) ?_
                                        refine lv_aload_n S.1 S.2.1 dL_law_734 rfl (lv_at hl 0 rfl) ?_
                                        refine lv_iload_n S.1 S.2.1 dL_law_735 rfl (lv_at hl 3 rfl) ?_
                                        refine lv_iconst (v := 1) S.1 S.2.1 dL_law_736 (by decide) ?_
                                        refine lv_iadd S.1 S.2.1 dL_law_737 ?_
                                        refine va_sld S.1 S.2.1 hX hbl hbA hZ.2 (cd_scr (j := 1) hL (by omega)) dL_law_738 ?_
                                        refine lv_aload_n S.1 S.2.1 dL_law_739 rfl (lv_at hl 0 rfl) ?_
                                        refine lv_iload_n S.1 S.2.1 dL_law_740 rfl (lv_at hl 3 rfl) ?_
                                        refine lv_iconst (v := 2) S.1 S.2.1 dL_law_741 (by decide) ?_
                                        refine lv_iadd S.1 S.2.1 dL_law_742 ?_
                                        refine va_sld S.1 S.2.1 hX hbl hbA hZ.2 (cd_scr (j := 2) hL (by omega)) dL_law_743 ?_
                                        refine lv_aload_n S.1 S.2.1 dL_law_744 rfl (lv_at hl 0 rfl) ?_
                                        refine lv_iload_n S.1 S.2.1 dL_law_745 rfl (lv_at hl 3 rfl) ?_
                                        refine lv_iconst (v := 3) S.1 S.2.1 dL_law_746 (by decide) ?_
                                        refine lv_iadd S.1 S.2.1 dL_law_747 ?_
                                        refine va_sld S.1 S.2.1 hX hbl hbA hZ.2 (cd_scr (j := 3) hL (by omega)) dL_law_748 ?_
                                        refine cd_cVi (q := 404) (As := [.int (xs (nI (6 * n) + 1).toNatClampNeg), .int (xs (nI (6 * n) + 2).toNatClampNeg), .int (xs (nI (6 * n) + 3).toNatClampNeg)]) S hK hZ hl.1 (c_X8_scaled l G (xs (nI (6 * n) + 1).toNatClampNeg) (xs (nI (6 * n) + 2).toNatClampNeg) (xs (nI (6 * n) + 3).toNatClampNeg) h1 _ e2) cd_v_X8_scaled cd_m_L_84 ⟨Nat.le_of_ble_eq_true rfl, Nat.le_of_ble_eq_true rfl⟩ ⟨rfl, rfl⟩ (ci := 8) (by decide) rfl cd_this8 rfl rfl (Nat.le_of_ble_eq_true rfl) ⟨Nat.le_of_ble_eq_true rfl, Nat.le_of_ble_eq_true rfl⟩ dL_law_749 (fun H locs hZ => ?_)
                                        refine lv_icmp_eq (tgt := 958) S.1 S.2.1 dL_law_752 (by decide) (fun c9 => ?_) (fun c9 => ?_)
                                        · exact go _ H locs ls hIn hZ hl
                                        · exact absurd rfl c9
                                      · have _ := c26
                                        refine cd_by (p := x5 = 17) (fun c27 => ?_) (fun c27 => ?_)
                                        · refine cd_tabI (k := 17) (off := 724) (tgt := 757) S.1 S.2.1 dL_law_33 c27 (by decide +kernel) (by decide) ?_
                                          obtain ⟨r, h1, h2, e1, e2, hIn⟩ := hq.2.2.2.2.2.2.2.2.2.2.2.2.2.2.2.2.2.1 (xs (nI (6 * n) + 1).toNatClampNeg)
                                          refine lv_aload_n S.1 S.2.1 dL_law_757 rfl (lv_at hl 1 rfl) ?_
                                          refine lv_aload_n S.1 S.2.1 dL_law_758 rfl (lv_at hl 0 rfl) ?_
                                          refine lv_iload_n S.1 S.2.1 dL_law_759 rfl (lv_at hl 3 rfl) ?_
                                          refine lv_iconst (v := 1) S.1 S.2.1 dL_law_760 (by decide) ?_
                                          refine lv_iadd S.1 S.2.1 dL_law_761 ?_
                                          refine va_sld S.1 S.2.1 hX hbl hbA hZ.2 (cd_scr (j := 1) hL (by omega)) dL_law_762 ?_
                                          refine cd_cVi (q := 0) (As := [.int (xs (nI (6 * n) + 1).toNatClampNeg)]) S hK hZ hl.1 (c_X7_fit l G (xs (nI (6 * n) + 1).toNatClampNeg) h _ e1) cd_v_X7_fit cd_m_L_85 ⟨Nat.le_of_ble_eq_true rfl, Nat.le_of_ble_eq_true rfl⟩ ⟨rfl, rfl⟩ (ci := 7) (by decide) rfl cd_this7 rfl rfl (Nat.le_of_ble_eq_true rfl) ⟨Nat.le_of_ble_eq_true rfl, Nat.le_of_ble_eq_true rfl⟩ dL_law_763 (fun H locs hZ => ?_)
                                          refine lv_aload_n S.1 S.2.1 dL_law_766 rfl (lv_at hl 2 rfl) ?_
                                          refine lv_aload_n S.1 S.2.1 dL_law_767 rfl (lv_at hl 0 rfl) ?_
                                          refine lv_iload_n S.1 S.2.1 dL_law_768 rfl (lv_at hl 3 rfl) ?_
                                          refine lv_iconst (v := 1) S.1 S.2.1 dL_law_769 (by decide) ?_
                                          refine lv_iadd S.1 S.2.1 dL_law_770 ?_
                                          refine va_sld S.1 S.2.1 hX hbl hbA hZ.2 (cd_scr (j := 1) hL (by omega)) dL_law_771 ?_
                                          refine cd_cVi (q := 404) (As := [.int (xs (nI (6 * n) + 1).toNatClampNeg)]) S hK hZ hl.1 (c_X8_fit l G (xs (nI (6 * n) + 1).toNatClampNeg) h1 _ e2) cd_v_X8_fit cd_m_L_88 ⟨Nat.le_of_ble_eq_true rfl, Nat.le_of_ble_eq_true rfl⟩ ⟨rfl, rfl⟩ (ci := 8) (by decide) rfl cd_this8 rfl rfl (Nat.le_of_ble_eq_true rfl) ⟨Nat.le_of_ble_eq_true rfl, Nat.le_of_ble_eq_true rfl⟩ dL_law_772 (fun H locs hZ => ?_)
                                          refine lv_icmp_eq (tgt := 958) S.1 S.2.1 dL_law_775 (by decide) (fun c9 => ?_) (fun c9 => ?_)
                                          · exact go _ H locs ls hIn hZ hl
                                          · exact absurd rfl c9
                                        · have _ := c27
                                          refine cd_by (p := x5 = 18) (fun c28 => ?_) (fun c28 => ?_)
                                          · refine cd_tabI (k := 18) (off := 747) (tgt := 780) S.1 S.2.1 dL_law_33 c28 (by decide +kernel) (by decide) ?_
                                            obtain ⟨r, h1, h2, e1, e2, hIn⟩ := hq.2.2.2.2.2.2.2.2.2.2.2.2.2.2.2.2.2.2.1 (xs (nI (6 * n) + 1).toNatClampNeg)
                                            refine lv_aload_n S.1 S.2.1 dL_law_780 rfl (lv_at hl 1 rfl) ?_
                                            refine lv_aload_n S.1 S.2.1 dL_law_781 rfl (lv_at hl 0 rfl) ?_
                                            refine lv_iload_n S.1 S.2.1 dL_law_782 rfl (lv_at hl 3 rfl) ?_
                                            refine lv_iconst (v := 1) S.1 S.2.1 dL_law_783 (by decide) ?_
                                            refine lv_iadd S.1 S.2.1 dL_law_784 ?_
                                            refine va_sld S.1 S.2.1 hX hbl hbA hZ.2 (cd_scr (j := 1) hL (by omega)) dL_law_785 ?_
                                            refine cd_cVi (q := 0) (As := [.int (xs (nI (6 * n) + 1).toNatClampNeg)]) S hK hZ hl.1 (c_X7_queue l G (xs (nI (6 * n) + 1).toNatClampNeg) h _ e1) cd_v_X7_queue cd_m_L_89 ⟨Nat.le_of_ble_eq_true rfl, Nat.le_of_ble_eq_true rfl⟩ ⟨rfl, rfl⟩ (ci := 7) (by decide) rfl cd_this7 rfl rfl (Nat.le_of_ble_eq_true rfl) ⟨Nat.le_of_ble_eq_true rfl, Nat.le_of_ble_eq_true rfl⟩ dL_law_786 (fun H locs hZ => ?_)
                                            refine lv_aload_n S.1 S.2.1 dL_law_789 rfl (lv_at hl 2 rfl) ?_
                                            refine lv_aload_n S.1 S.2.1 dL_law_790 rfl (lv_at hl 0 rfl) ?_
                                            refine lv_iload_n S.1 S.2.1 dL_law_791 rfl (lv_at hl 3 rfl) ?_
                                            refine lv_iconst (v := 1) S.1 S.2.1 dL_law_792 (by decide) ?_
                                            refine lv_iadd S.1 S.2.1 dL_law_793 ?_
                                            refine va_sld S.1 S.2.1 hX hbl hbA hZ.2 (cd_scr (j := 1) hL (by omega)) dL_law_794 ?_
                                            refine cd_cVi (q := 404) (As := [.int (xs (nI (6 * n) + 1).toNatClampNeg)]) S hK hZ hl.1 (c_X8_queue l G (xs (nI (6 * n) + 1).toNatClampNeg) h1 _ e2) cd_v_X8_queue cd_m_L_92 ⟨Nat.le_of_ble_eq_true rfl, Nat.le_of_ble_eq_true rfl⟩ ⟨rfl, rfl⟩ (ci := 8) (by decide) rfl cd_this8 rfl rfl (Nat.le_of_ble_eq_true rfl) ⟨Nat.le_of_ble_eq_true rfl, Nat.le_of_ble_eq_true rfl⟩ dL_law_795 (fun H locs hZ => ?_)
                                            refine lv_icmp_eq (tgt := 958) S.1 S.2.1 dL_law_798 (by decide) (fun c9 => ?_) (fun c9 => ?_)
                                            · exact go _ H locs ls hIn hZ hl
                                            · exact absurd rfl c9
                                          · have _ := c28
                                            refine cd_by (p := x5 = 19) (fun c29 => ?_) (fun c29 => ?_)
                                            · refine cd_tabI (k := 19) (off := 770) (tgt := 803) S.1 S.2.1 dL_law_33 c29 (by decide +kernel) (by decide) ?_
                                              obtain ⟨r, h1, h2, e1, e2, hIn⟩ := hq.2.2.2.2.2.2.2.2.2.2.2.2.2.2.2.2.2.2.2.1 (xs (nI (6 * n) + 1).toNatClampNeg) (xs (nI (6 * n) + 2).toNatClampNeg)
                                              refine lv_aload_n S.1 S.2.1 dL_law_803 rfl (lv_at hl 1 rfl) ?_
                                              refine lv_aload_n S.1 S.2.1 dL_law_804 rfl (lv_at hl 0 rfl) ?_
                                              refine lv_iload_n S.1 S.2.1 dL_law_805 rfl (lv_at hl 3 rfl) ?_
                                              refine lv_iconst (v := 1) S.1 S.2.1 dL_law_806 (by decide) ?_
                                              refine lv_iadd S.1 S.2.1 dL_law_807 ?_
                                              refine va_sld S.1 S.2.1 hX hbl hbA hZ.2 (cd_scr (j := 1) hL (by omega)) dL_law_808 ?_
                                              refine lv_aload_n S.1 S.2.1 dL_law_809 rfl (lv_at hl 0 rfl) ?_
                                              refine lv_iload_n S.1 S.2.1 dL_law_810 rfl (lv_at hl 3 rfl) ?_
                                              refine lv_iconst (v := 2) S.1 S.2.1 dL_law_811 (by decide) ?_
                                              refine lv_iadd S.1 S.2.1 dL_law_812 ?_
                                              refine va_sld S.1 S.2.1 hX hbl hbA hZ.2 (cd_scr (j := 2) hL (by omega)) dL_law_813 ?_
                                              refine cd_cVi (q := 0) (As := [.int (xs (nI (6 * n) + 1).toNatClampNeg), .int (xs (nI (6 * n) + 2).toNatClampNeg)]) S hK hZ hl.1 (c_X7_sample l G (xs (nI (6 * n) + 1).toNatClampNeg) (xs (nI (6 * n) + 2).toNatClampNeg) h _ e1) cd_v_X7_sample cd_m_L_93 ⟨Nat.le_of_ble_eq_true rfl, Nat.le_of_ble_eq_true rfl⟩ ⟨rfl, rfl⟩ (ci := 7) (by decide) rfl cd_this7 rfl rfl (Nat.le_of_ble_eq_true rfl) ⟨Nat.le_of_ble_eq_true rfl, Nat.le_of_ble_eq_true rfl⟩ dL_law_814 (fun H locs hZ => ?_)
                                              refine lv_aload_n S.1 S.2.1 dL_law_817 rfl (lv_at hl 2 rfl) ?_
                                              refine lv_aload_n S.1 S.2.1 dL_law_818 rfl (lv_at hl 0 rfl) ?_
                                              refine lv_iload_n S.1 S.2.1 dL_law_819 rfl (lv_at hl 3 rfl) ?_
                                              refine lv_iconst (v := 1) S.1 S.2.1 dL_law_820 (by decide) ?_
                                              refine lv_iadd S.1 S.2.1 dL_law_821 ?_
                                              refine va_sld S.1 S.2.1 hX hbl hbA hZ.2 (cd_scr (j := 1) hL (by omega)) dL_law_822 ?_
                                              refine lv_aload_n S.1 S.2.1 dL_law_823 rfl (lv_at hl 0 rfl) ?_
                                              refine lv_iload_n S.1 S.2.1 dL_law_824 rfl (lv_at hl 3 rfl) ?_
                                              refine lv_iconst (v := 2) S.1 S.2.1 dL_law_825 (by decide) ?_
                                              refine lv_iadd S.1 S.2.1 dL_law_826 ?_
                                              refine va_sld S.1 S.2.1 hX hbl hbA hZ.2 (cd_scr (j := 2) hL (by omega)) dL_law_827 ?_
                                              refine cd_cVi (q := 404) (As := [.int (xs (nI (6 * n) + 1).toNatClampNeg), .int (xs (nI (6 * n) + 2).toNatClampNeg)]) S hK hZ hl.1 (c_X8_sample l G (xs (nI (6 * n) + 1).toNatClampNeg) (xs (nI (6 * n) + 2).toNatClampNeg) h1 _ e2) cd_v_X8_sample cd_m_L_96 ⟨Nat.le_of_ble_eq_true rfl, Nat.le_of_ble_eq_true rfl⟩ ⟨rfl, rfl⟩ (ci := 8) (by decide) rfl cd_this8 rfl rfl (Nat.le_of_ble_eq_true rfl) ⟨Nat.le_of_ble_eq_true rfl, Nat.le_of_ble_eq_true rfl⟩ dL_law_828 (fun H locs hZ => ?_)
                                              refine lv_icmp_eq (tgt := 958) S.1 S.2.1 dL_law_831 (by decide) (fun c9 => ?_) (fun c9 => ?_)
                                              · exact go _ H locs ls hIn hZ hl
                                              · exact absurd rfl c9
                                            · have _ := c29
                                              refine cd_by (p := x5 = 20) (fun c30 => ?_) (fun c30 => ?_)
                                              · refine cd_tabI (k := 20) (off := 803) (tgt := 836) S.1 S.2.1 dL_law_33 c30 (by decide +kernel) (by decide) ?_
                                                obtain ⟨r, h1, h2, e1, e2, hIn⟩ := hq.2.2.2.2.2.2.2.2.2.2.2.2.2.2.2.2.2.2.2.2.1 (xs (nI (6 * n) + 1).toNatClampNeg)
                                                refine lv_aload_n S.1 S.2.1 dL_law_836 rfl (lv_at hl 1 rfl) ?_
                                                refine lv_aload_n S.1 S.2.1 dL_law_837 rfl (lv_at hl 0 rfl) ?_
                                                refine lv_iload_n S.1 S.2.1 dL_law_838 rfl (lv_at hl 3 rfl) ?_
                                                refine lv_iconst (v := 1) S.1 S.2.1 dL_law_839 (by decide) ?_
                                                refine lv_iadd S.1 S.2.1 dL_law_840 ?_
                                                refine va_sld S.1 S.2.1 hX hbl hbA hZ.2 (cd_scr (j := 1) hL (by omega)) dL_law_841 ?_
                                                refine cd_cVi (q := 0) (As := [.int (xs (nI (6 * n) + 1).toNatClampNeg)]) S hK hZ hl.1 (c_X7_told l G (xs (nI (6 * n) + 1).toNatClampNeg) h _ e1) cd_v_X7_told cd_m_L_97 ⟨Nat.le_of_ble_eq_true rfl, Nat.le_of_ble_eq_true rfl⟩ ⟨rfl, rfl⟩ (ci := 7) (by decide) rfl cd_this7 rfl rfl (Nat.le_of_ble_eq_true rfl) ⟨Nat.le_of_ble_eq_true rfl, Nat.le_of_ble_eq_true rfl⟩ dL_law_842 (fun H locs hZ => ?_)
                                                refine lv_aload_n S.1 S.2.1 dL_law_845 rfl (lv_at hl 2 rfl) ?_
                                                refine lv_aload_n S.1 S.2.1 dL_law_846 rfl (lv_at hl 0 rfl) ?_
                                                refine lv_iload_n S.1 S.2.1 dL_law_847 rfl (lv_at hl 3 rfl) ?_
                                                refine lv_iconst (v := 1) S.1 S.2.1 dL_law_848 (by decide) ?_
                                                refine lv_iadd S.1 S.2.1 dL_law_849 ?_
                                                refine va_sld S.1 S.2.1 hX hbl hbA hZ.2 (cd_scr (j := 1) hL (by omega)) dL_law_850 ?_
                                                refine cd_cVi (q := 404) (As := [.int (xs (nI (6 * n) + 1).toNatClampNeg)]) S hK hZ hl.1 (c_X8_told l G (xs (nI (6 * n) + 1).toNatClampNeg) h1 _ e2) cd_v_X8_told cd_m_L_100 ⟨Nat.le_of_ble_eq_true rfl, Nat.le_of_ble_eq_true rfl⟩ ⟨rfl, rfl⟩ (ci := 8) (by decide) rfl cd_this8 rfl rfl (Nat.le_of_ble_eq_true rfl) ⟨Nat.le_of_ble_eq_true rfl, Nat.le_of_ble_eq_true rfl⟩ dL_law_851 (fun H locs hZ => ?_)
                                                refine lv_icmp_eq (tgt := 958) S.1 S.2.1 dL_law_854 (by decide) (fun c9 => ?_) (fun c9 => ?_)
                                                · exact go _ H locs ls hIn hZ hl
                                                · exact absurd rfl c9
                                              · have _ := c30
                                                refine cd_by (p := x5 = 21) (fun c31 => ?_) (fun c31 => ?_)
                                                · refine cd_tabI (k := 21) (off := 826) (tgt := 859) S.1 S.2.1 dL_law_33 c31 (by decide +kernel) (by decide) ?_
                                                  obtain ⟨r, h1, h2, e1, e2, hIn⟩ := hq.2.2.2.2.2.2.2.2.2.2.2.2.2.2.2.2.2.2.2.2.2.1 (xs (nI (6 * n) + 1).toNatClampNeg)
                                                  refine lv_aload_n S.1 S.2.1 dL_law_859 rfl (lv_at hl 1 rfl) ?_
                                                  refine lv_aload_n S.1 S.2.1 dL_law_860 rfl (lv_at hl 0 rfl) ?_
                                                  refine lv_iload_n S.1 S.2.1 dL_law_861 rfl (lv_at hl 3 rfl) ?_
                                                  refine lv_iconst (v := 1) S.1 S.2.1 dL_law_862 (by decide) ?_
                                                  refine lv_iadd S.1 S.2.1 dL_law_863 ?_
                                                  refine va_sld S.1 S.2.1 hX hbl hbA hZ.2 (cd_scr (j := 1) hL (by omega)) dL_law_864 ?_
                                                  refine cd_cVi (q := 0) (As := [.int (xs (nI (6 * n) + 1).toNatClampNeg)]) S hK hZ hl.1 (c_X7_type l G (xs (nI (6 * n) + 1).toNatClampNeg) h _ e1) cd_v_X7_type cd_m_L_101 ⟨Nat.le_of_ble_eq_true rfl, Nat.le_of_ble_eq_true rfl⟩ ⟨rfl, rfl⟩ (ci := 7) (by decide) rfl cd_this7 rfl rfl (Nat.le_of_ble_eq_true rfl) ⟨Nat.le_of_ble_eq_true rfl, Nat.le_of_ble_eq_true rfl⟩ dL_law_865 (fun H locs hZ => ?_)
                                                  refine lv_aload_n S.1 S.2.1 dL_law_868 rfl (lv_at hl 2 rfl) ?_
                                                  refine lv_aload_n S.1 S.2.1 dL_law_869 rfl (lv_at hl 0 rfl) ?_
                                                  refine lv_iload_n S.1 S.2.1 dL_law_870 rfl (lv_at hl 3 rfl) ?_
                                                  refine lv_iconst (v := 1) S.1 S.2.1 dL_law_871 (by decide) ?_
                                                  refine lv_iadd S.1 S.2.1 dL_law_872 ?_
                                                  refine va_sld S.1 S.2.1 hX hbl hbA hZ.2 (cd_scr (j := 1) hL (by omega)) dL_law_873 ?_
                                                  refine cd_cVi (q := 404) (As := [.int (xs (nI (6 * n) + 1).toNatClampNeg)]) S hK hZ hl.1 (c_X8_type l G (xs (nI (6 * n) + 1).toNatClampNeg) h1 _ e2) cd_v_X8_type cd_m_L_104 ⟨Nat.le_of_ble_eq_true rfl, Nat.le_of_ble_eq_true rfl⟩ ⟨rfl, rfl⟩ (ci := 8) (by decide) rfl cd_this8 rfl rfl (Nat.le_of_ble_eq_true rfl) ⟨Nat.le_of_ble_eq_true rfl, Nat.le_of_ble_eq_true rfl⟩ dL_law_874 (fun H locs hZ => ?_)
                                                  refine lv_icmp_eq (tgt := 958) S.1 S.2.1 dL_law_877 (by decide) (fun c9 => ?_) (fun c9 => ?_)
                                                  · exact go _ H locs ls hIn hZ hl
                                                  · exact absurd rfl c9
                                                · have _ := c31
                                                  refine cd_by (p := x5 = 22) (fun c32 => ?_) (fun c32 => ?_)
                                                  · refine cd_tabI (k := 22) (off := 849) (tgt := 882) S.1 S.2.1 dL_law_33 c32 (by decide +kernel) (by decide) ?_
                                                    obtain ⟨r, h1, h2, e1, e2, hIn⟩ := hq.2.2.2.2.2.2.2.2.2.2.2.2.2.2.2.2.2.2.2.2.2.2.1 
                                                    refine lv_aload_n S.1 S.2.1 dL_law_882 rfl (lv_at hl 1 rfl) ?_
                                                    refine cd_cVi (q := 0) (As := []) S hK hZ hl.1 (c_X7_clear l G  h _ e1) cd_v_X7_clear cd_m_L_105 ⟨Nat.le_of_ble_eq_true rfl, Nat.le_of_ble_eq_true rfl⟩ ⟨rfl, rfl⟩ (ci := 7) (by decide) rfl cd_this7 rfl rfl (Nat.le_of_ble_eq_true rfl) ⟨Nat.le_of_ble_eq_true rfl, Nat.le_of_ble_eq_true rfl⟩ dL_law_883 (fun H locs hZ => ?_)
                                                    refine lv_aload_n S.1 S.2.1 dL_law_886 rfl (lv_at hl 2 rfl) ?_
                                                    refine cd_cVi (q := 404) (As := []) S hK hZ hl.1 (c_X8_clear l G  h1 _ e2) cd_v_X8_clear cd_m_L_109 ⟨Nat.le_of_ble_eq_true rfl, Nat.le_of_ble_eq_true rfl⟩ ⟨rfl, rfl⟩ (ci := 8) (by decide) rfl cd_this8 rfl rfl (Nat.le_of_ble_eq_true rfl) ⟨Nat.le_of_ble_eq_true rfl, Nat.le_of_ble_eq_true rfl⟩ dL_law_887 (fun H locs hZ => ?_)
                                                    refine lv_icmp_eq (tgt := 958) S.1 S.2.1 dL_law_890 (by decide) (fun c9 => ?_) (fun c9 => ?_)
                                                    · exact go _ H locs ls hIn hZ hl
                                                    · exact absurd rfl c9
                                                  · have _ := c32
                                                    refine cd_by (p := x5 = 23) (fun c33 => ?_) (fun c33 => ?_)
                                                    · refine cd_tabI (k := 23) (off := 862) (tgt := 895) S.1 S.2.1 dL_law_33 c33 (by decide +kernel) (by decide) ?_
                                                      obtain ⟨r, h1, h2, e1, e2, hIn⟩ := hq.2.2.2.2.2.2.2.2.2.2.2.2.2.2.2.2.2.2.2.2.2.2.2.1 
                                                      refine lv_aload_n S.1 S.2.1 dL_law_895 rfl (lv_at hl 1 rfl) ?_
                                                      refine cd_cVi (q := 0) (As := []) S hK hZ hl.1 (c_X7_does l G  h _ e1) cd_v_X7_does cd_m_L_110 ⟨Nat.le_of_ble_eq_true rfl, Nat.le_of_ble_eq_true rfl⟩ ⟨rfl, rfl⟩ (ci := 7) (by decide) rfl cd_this7 rfl rfl (Nat.le_of_ble_eq_true rfl) ⟨Nat.le_of_ble_eq_true rfl, Nat.le_of_ble_eq_true rfl⟩ dL_law_896 (fun H locs hZ => ?_)
                                                      refine lv_aload_n S.1 S.2.1 dL_law_899 rfl (lv_at hl 2 rfl) ?_
                                                      refine cd_cVi (q := 404) (As := []) S hK hZ hl.1 (c_X8_does l G  h1 _ e2) cd_v_X8_does cd_m_L_113 ⟨Nat.le_of_ble_eq_true rfl, Nat.le_of_ble_eq_true rfl⟩ ⟨rfl, rfl⟩ (ci := 8) (by decide) rfl cd_this8 rfl rfl (Nat.le_of_ble_eq_true rfl) ⟨Nat.le_of_ble_eq_true rfl, Nat.le_of_ble_eq_true rfl⟩ dL_law_900 (fun H locs hZ => ?_)
                                                      refine lv_icmp_eq (tgt := 958) S.1 S.2.1 dL_law_903 (by decide) (fun c9 => ?_) (fun c9 => ?_)
                                                      · exact go _ H locs ls hIn hZ hl
                                                      · exact absurd rfl c9
                                                    · have _ := c33
                                                      refine cd_by (p := x5 = 24) (fun c34 => ?_) (fun c34 => ?_)
                                                      · refine cd_tabI (k := 24) (off := 875) (tgt := 908) S.1 S.2.1 dL_law_33 c34 (by decide +kernel) (by decide) ?_
                                                        obtain ⟨r, h1, h2, e1, e2, hIn⟩ := hq.2.2.2.2.2.2.2.2.2.2.2.2.2.2.2.2.2.2.2.2.2.2.2.2.1 
                                                        refine lv_aload_n S.1 S.2.1 dL_law_908 rfl (lv_at hl 1 rfl) ?_
                                                        refine cd_cVi (q := 0) (As := []) S hK hZ hl.1 (c_X7_back l G  h _ e1) cd_v_X7_back cd_m_L_114 ⟨Nat.le_of_ble_eq_true rfl, Nat.le_of_ble_eq_true rfl⟩ ⟨rfl, rfl⟩ (ci := 7) (by decide) rfl cd_this7 rfl rfl (Nat.le_of_ble_eq_true rfl) ⟨Nat.le_of_ble_eq_true rfl, Nat.le_of_ble_eq_true rfl⟩ dL_law_909 (fun H locs hZ => ?_)
                                                        refine lv_aload_n S.1 S.2.1 dL_law_912 rfl (lv_at hl 2 rfl) ?_
                                                        refine cd_cVi (q := 404) (As := []) S hK hZ hl.1 (c_X8_back l G  h1 _ e2) cd_v_X8_back cd_m_L_117 ⟨Nat.le_of_ble_eq_true rfl, Nat.le_of_ble_eq_true rfl⟩ ⟨rfl, rfl⟩ (ci := 8) (by decide) rfl cd_this8 rfl rfl (Nat.le_of_ble_eq_true rfl) ⟨Nat.le_of_ble_eq_true rfl, Nat.le_of_ble_eq_true rfl⟩ dL_law_913 (fun H locs hZ => ?_)
                                                        refine lv_icmp_eq (tgt := 958) S.1 S.2.1 dL_law_916 (by decide) (fun c9 => ?_) (fun c9 => ?_)
                                                        · exact go _ H locs ls hIn hZ hl
                                                        · exact absurd rfl c9
                                                      · have _ := c34
                                                        refine cd_by (p := x5 = 25) (fun c35 => ?_) (fun c35 => ?_)
                                                        · refine cd_tabI (k := 25) (off := 888) (tgt := 921) S.1 S.2.1 dL_law_33 c35 (by decide +kernel) (by decide) ?_
                                                          obtain ⟨r, h1, h2, e1, e2, hIn⟩ := hq.2.2.2.2.2.2.2.2.2.2.2.2.2.2.2.2.2.2.2.2.2.2.2.2.2.1 (xs (nI (6 * n) + 1).toNatClampNeg)
                                                          refine lv_aload_n S.1 S.2.1 dL_law_921 rfl (lv_at hl 1 rfl) ?_
                                                          refine lv_aload_n S.1 S.2.1 dL_law_922 rfl (lv_at hl 0 rfl) ?_
                                                          refine lv_iload_n S.1 S.2.1 dL_law_923 rfl (lv_at hl 3 rfl) ?_
                                                          refine lv_iconst (v := 1) S.1 S.2.1 dL_law_924 (by decide) ?_
                                                          refine lv_iadd S.1 S.2.1 dL_law_925 ?_
                                                          refine va_sld S.1 S.2.1 hX hbl hbA hZ.2 (cd_scr (j := 1) hL (by omega)) dL_law_926 ?_
                                                          refine cd_cVi (q := 0) (As := [.int (xs (nI (6 * n) + 1).toNatClampNeg)]) S hK hZ hl.1 (c_X7_refused l G (xs (nI (6 * n) + 1).toNatClampNeg) h _ e1) cd_v_X7_refused cd_m_L_118 ⟨Nat.le_of_ble_eq_true rfl, Nat.le_of_ble_eq_true rfl⟩ ⟨rfl, rfl⟩ (ci := 7) (by decide) rfl cd_this7 rfl rfl (Nat.le_of_ble_eq_true rfl) ⟨Nat.le_of_ble_eq_true rfl, Nat.le_of_ble_eq_true rfl⟩ dL_law_927 (fun H locs hZ => ?_)
                                                          refine lv_aload_n S.1 S.2.1 dL_law_930 rfl (lv_at hl 2 rfl) ?_
                                                          refine lv_aload_n S.1 S.2.1 dL_law_931 rfl (lv_at hl 0 rfl) ?_
                                                          refine lv_iload_n S.1 S.2.1 dL_law_932 rfl (lv_at hl 3 rfl) ?_
                                                          refine lv_iconst (v := 1) S.1 S.2.1 dL_law_933 (by decide) ?_
                                                          refine lv_iadd S.1 S.2.1 dL_law_934 ?_
                                                          refine va_sld S.1 S.2.1 hX hbl hbA hZ.2 (cd_scr (j := 1) hL (by omega)) dL_law_935 ?_
                                                          refine cd_cVi (q := 404) (As := [.int (xs (nI (6 * n) + 1).toNatClampNeg)]) S hK hZ hl.1 (c_X8_refused l G (xs (nI (6 * n) + 1).toNatClampNeg) h1 _ e2) cd_v_X8_refused cd_m_L_121 ⟨Nat.le_of_ble_eq_true rfl, Nat.le_of_ble_eq_true rfl⟩ ⟨rfl, rfl⟩ (ci := 8) (by decide) rfl cd_this8 rfl rfl (Nat.le_of_ble_eq_true rfl) ⟨Nat.le_of_ble_eq_true rfl, Nat.le_of_ble_eq_true rfl⟩ dL_law_936 (fun H locs hZ => ?_)
                                                          refine lv_icmp_eq (tgt := 958) S.1 S.2.1 dL_law_939 (by decide) (fun c9 => ?_) (fun c9 => ?_)
                                                          · exact go _ H locs ls hIn hZ hl
                                                          · exact absurd rfl c9
                                                        · have _ := c35
                                                          refine cd_by (p := x5 = 26) (fun c36 => ?_) (fun c36 => ?_)
                                                          · refine cd_tabI (k := 26) (off := 911) (tgt := 944) S.1 S.2.1 dL_law_33 c36 (by decide +kernel) (by decide) ?_
                                                            obtain ⟨r, h2, e1, e2, hIn⟩ := hq.2.2.2.2.2.2.2.2.2.2.2.2.2.2.2.2.2.2.2.2.2.2.2.2.2.2.1 
                                                            refine lv_aload_n S.1 S.2.1 dL_law_944 rfl (lv_at hl 1 rfl) ?_
                                                            refine cd_cVl (q := 0) (As := []) S hK hZ hl.1 (c_X7_digest l G  h _ e1) cd_v_X7_digest cd_m_L_122 ⟨Nat.le_of_ble_eq_true rfl, Nat.le_of_ble_eq_true rfl⟩ ⟨rfl, rfl⟩ (ci := 7) (by decide) rfl cd_this7 rfl rfl (Nat.le_of_ble_eq_true rfl) ⟨Nat.le_of_ble_eq_true rfl, Nat.le_of_ble_eq_true rfl⟩ dL_law_945 (fun H locs hZ => ?_)
                                                            refine lv_aload_n S.1 S.2.1 dL_law_948 rfl (lv_at hl 2 rfl) ?_
                                                            refine cd_cVl (q := 404) (As := []) S hK hZ hl.1 (c_X8_digest l G  h _ e2) cd_v_X8_digest cd_m_L_126 ⟨Nat.le_of_ble_eq_true rfl, Nat.le_of_ble_eq_true rfl⟩ ⟨rfl, rfl⟩ (ci := 8) (by decide) rfl cd_this8 rfl rfl (Nat.le_of_ble_eq_true rfl) ⟨Nat.le_of_ble_eq_true rfl, Nat.le_of_ble_eq_true rfl⟩ dL_law_949 (fun H locs hZ => ?_)
                                                            refine W.lcmp S.1 S.2.1 dL_law_952 ?_
                                                            refine lv_if_eq (tgt := 958) S.1 S.2.1 dL_law_953 (by decide) (fun c9 => ?_) (fun c9 => ?_)
                                                            · exact go _ H locs ls hIn hZ hl
                                                            · exact absurd (by simp [lg_cmp]) c9
                                                          · have _ := c36
                                                            refine lv_tableOut (tgt := 958) S.1 S.2.1 dL_law_33 (by have z0 := lv_neT c10 (a := 0) (by decide); have z1 := lv_neT c11 (a := 1) (by decide); have z2 := lv_neT c12 (a := 2) (by decide); have z3 := lv_neT c13 (a := 3) (by decide); have z4 := lv_neT c14 (a := 4) (by decide); have z5 := lv_neT c15 (a := 5) (by decide); have z6 := lv_neT c16 (a := 6) (by decide); have z7 := lv_neT c17 (a := 7) (by decide); have z8 := lv_neT c18 (a := 8) (by decide); have z9 := lv_neT c19 (a := 9) (by decide); have z10 := lv_neT c20 (a := 10) (by decide); have z11 := lv_neT c21 (a := 11) (by decide); have z12 := lv_neT c22 (a := 12) (by decide); have z13 := lv_neT c23 (a := 13) (by decide); have z14 := lv_neT c24 (a := 14) (by decide); have z15 := lv_neT c25 (a := 15) (by decide); have z16 := lv_neT c26 (a := 16) (by decide); have z17 := lv_neT c27 (a := 17) (by decide); have z18 := lv_neT c28 (a := 18) (by decide); have z19 := lv_neT c29 (a := 19) (by decide); have z20 := lv_neT c30 (a := 20) (by decide); have z21 := lv_neT c31 (a := 21) (by decide); have z22 := lv_neT c32 (a := 22) (by decide); have z23 := lv_neT c33 (a := 23) (by decide); have z24 := lv_neT c34 (a := 24) (by decide); have z25 := lv_neT c35 (a := 25) (by decide); have z26 := lv_neT c36 (a := 26) (by decide); omega) (by decide) ?_
                                                            exact go h H locs ls (hq.2.2.2.2.2.2.2.2.2.2.2.2.2.2.2.2.2.2.2.2.2.2.2.2.2.2.2) hZ hl
