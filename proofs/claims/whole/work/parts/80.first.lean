-- A NEW OBJECT
theorem cd_g0 {q k : Nat} : cd_g cd_h0 q k = if q = 405 then (if k = 0 then 2 else if k < 9 then 15 else if k = 9 then 1 else if k = 10 then -1 else if k = 427 then 1 else 0) else match cd_of q with
  | 0 => if k = 0 then 2 else if k = 1 then 1 else 0
  | 1 => if k < 8 then 15 else 0
  | 2 => if k = 0 then 1 else 0
  | 3 => if k = 0 then -1 else 0
  | _ => 0 := rfl
theorem cd_R0 {k : Nat} (h : 11 ≤ k) (h2 : k ≠ 427) : cd_R cd_h0 k = nI 0 := by
  show cd_g cd_h0 405 k = _
  rw [cd_g0, if_pos rfl, if_neg (by omega), if_neg (by omega), if_neg (by omega), if_neg (by omega), if_neg h2]
  rfl
theorem cd_n0 {k : Nat} (h : 11 ≤ k) (h2 : k ≠ 427) : cd_n (cd_R cd_h0) k = 0 := cd_n_nI (cd_R0 h h2) (by omega)
theorem cd_num0 {k m : Nat} (h : 11 ≤ k) (h2 : k ≠ 427) (hm : m < 2147483648) : cd_num (cd_R cd_h0) k m := cd_numI (cd_R0 h h2) (Nat.zero_le _) hm
theorem cd_Ok0 : cd_Ok (cd_R cd_h0) 0 := by
  have r0 : cd_R cd_h0 0 = nI 2 := by decide +kernel
  have r9 : cd_R cd_h0 9 = nI 1 := by decide +kernel
  have r427 : cd_R cd_h0 427 = nI 1 := by decide +kernel
  have rm : ∀ k, k < 8 → cd_R cd_h0 (1 + k) = nI 15 := by decide +kernel
  have n9 : cd_n (cd_R cd_h0) 9 = 1 := cd_n_nI r9 (by omega)
  have n70 := cd_n0 (k := 70) (by omega) (by omega)
  have n419 := cd_n0 (k := 419) (by omega) (by omega)
  have n429 := cd_n0 (k := 429) (by omega) (by omega)
  have n466 := cd_n0 (k := 466) (by omega) (by omega)
  refine ⟨by omega, ⟨cd_numI r0 (by omega) (by omega), by rw [cd_n_nI r0 (by omega)]; omega⟩, fun k hk => cd_numI (rm k hk) (by omega) (by omega), ⟨⟨cd_numI r9 (by omega) (by omega), by omega⟩, ⟨by decide +kernel, by decide +kernel⟩, fun t h1 h2 => by omega, fun t ht => ⟨cd_num0 (by omega) (by omega) (by omega), fun k hk => cd_num0 (by omega) (by omega) (by omega)⟩⟩, cd_num0 (by omega) (by omega) (by omega), fun g hg => by omega, ⟨cd_num0 (by omega) (by omega) (by omega), fun i hi => by omega, fun i j h1 h2 => by omega⟩, cd_num0 (by omega) (by omega) (by omega), cd_numI r427 (by omega) (by omega), cd_num0 (by omega) (by omega) (by omega), ⟨cd_num0 (by omega) (by omega) (by omega), fun i hi => by omega⟩, ⟨cd_num0 (by omega) (by omega) (by omega), fun i hi => by omega⟩, fun j hj => by rw [n466]; exact Nat.zero_le _⟩
theorem cd_St0 : cd_St 4 (cd_R cd_h0) cd_h0 := by
  have n70 := cd_n0 (k := 70) (by omega) (by omega)
  have n429 := cd_n0 (k := 429) (by omega) (by omega)
  have n466 := cd_n0 (k := 466) (by omega) (by omega)
  refine ⟨by decide +kernel, by decide +kernel, ⟨by decide +kernel, by decide +kernel, fun t k ht hk => ?_⟩, fun g hg => by omega, by decide +kernel, by decide +kernel, fun i hi => by omega, fun i hi => by omega⟩
  rw [cd_R0 (by omega) (by omega)]
  rfl
theorem cd_Inv0 : cd_Inv 0 cd_h0 := by
  refine ⟨0, 0, ⟨⟨by decide +kernel, by decide +kernel, by omega, by omega⟩, ⟨cd_Ok0, cd_St0⟩, fun i hi => by omega⟩, by decide +kernel, ⟨0, by omega, by decide +kernel, by decide +kernel, fun i hi => by omega⟩, fun i hi => ⟨0, by omega, ?_, ?_⟩⟩
  · rfl
  · rfl
theorem cd_steps : cd_stp cd_Inv := fun n h hn hI => ⟨cd_call0 hI hn, cd_call1 hI hn, cd_call2 hI hn, cd_call3 hI hn, cd_call4 hI hn, cd_call5 hI hn, cd_call6 hI hn, cd_call7 hI hn, cd_call8 hI hn, cd_call9 hI hn, cd_call10 hI hn, cd_call11 hI hn, cd_call12 hI hn, cd_call13 hI hn, cd_call14 hI hn, cd_call15 hI hn, cd_call16 hI hn, cd_call17 hI hn, cd_call18 hI hn, cd_call19 hI hn, cd_call20 hI hn, cd_call21 hI hn, cd_call22 hI hn, cd_call23 hI hn, cd_call24 hI hn, cd_call25 hI hn, cd_call26 hI hn, hI.mono hn⟩
