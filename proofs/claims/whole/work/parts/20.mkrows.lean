-- CONSTRUCTORS, the rows: a world that grows, cell by cell, at known addresses
/-- the place of a cell in its State (999: in none) -/
def cd_of (q : Nat) : Nat := if 4 ≤ q ∧ q < 60 then q - 4 else if 62 ≤ q ∧ q < 398 then (q - 62) % 56 else 999
/-- what all cells hold at first -/
def cd_h0 : cd_Hp := (fun q k => if q = 405 then (if k = 0 then 2 else if k < 9 then 15 else if k = 9 then 1 else if k = 10 then -1 else if k = 427 then 1 else 0) else match cd_of q with
  | 0 => if k = 0 then 2 else if k = 1 then 1 else 0
  | 1 => if k < 8 then 15 else 0
  | 2 => if k = 0 then 1 else 0
  | 3 => if k = 0 then -1 else 0
  | _ => 0, 0)
def cd_e0 (G : cd_G) (k : Nat) : va_E := cd_en G cd_h0 k (cd_tb.getD k (0, 0))
theorem cd_e0_at {G : cd_G} {k : Nat} {kn : Nat × Nat} (h : cd_tb[k]? = some kn) : cd_e0 G k = cd_en G cd_h0 k kn := by
  unfold cd_e0
  rw [List.getD_eq_getElem?_getD, h]
  rfl
def cd_Wf (G : cd_G) (n : Nat) (f : Nat → va_E) : va_W := (List.range n).map fun k => (G.2.2.2.2 + k, f k)
theorem cd_Wf_get {G : cd_G} {n k : Nat} {f : Nat → va_E} (hk : k < n) : (cd_Wf G n f)[k]? = some (G.2.2.2.2 + k, f k) := by
  unfold cd_Wf
  rw [List.getElem?_map, List.getElem?_range hk]
  rfl
theorem cd_Wf_lt {G : cd_G} {n k : Nat} {f : Nat → va_E} {x : Nat × va_E} (hx : (cd_Wf G n f)[k]? = some x) : k < n ∧ x.1 = G.2.2.2.2 + k := by
  have hl : k < n := by
    have := (List.getElem?_eq_some_iff.mp hx).1
    simpa [cd_Wf] using this
  rw [cd_Wf_get hl] at hx
  cases hx
  exact ⟨hl, rfl⟩
theorem cd_Wf_set {G : cd_G} {n k : Nat} {f : Nat → va_E} {e : va_E} (hk : k < n) : (cd_Wf G n f).set k (G.2.2.2.2 + k, e) = cd_Wf G n (va_up f k e) := by
  apply List.ext_getElem?
  intro i
  rw [List.getElem?_set]
  by_cases hi : k = i
  · subst hi
    rw [if_pos rfl, cd_Wf_get hk, if_pos (by simpa [cd_Wf] using hk)]
    simp [va_up]
  · rw [if_neg hi]
    unfold cd_Wf
    rw [List.getElem?_map, List.getElem?_map]
    by_cases hl2 : i < n
    · rw [List.getElem?_range hl2]
      have hi2 : ¬ i = k := fun z => hi z.symm
      simp only [Option.map_some, va_up, if_neg hi2]
    · rw [List.getElem?_eq_none (by simpa using hl2)]
      rfl
theorem cd_Wf_push {G : cd_G} {n : Nat} {f : Nat → va_E} {e : va_E} : cd_Wf G n f ++ [(G.2.2.2.2 + n, e)] = cd_Wf G (n + 1) (va_up f n e) := by
  unfold cd_Wf
  rw [List.range_succ, List.map_append]
  congr 1
  · apply List.map_congr_left
    intro k hk
    have hk := List.mem_range.mp hk
    simp only [va_up, if_neg (Nat.ne_of_lt hk)]
  · simp [va_up]
theorem cd_Wf_D (G : cd_G) (n : Nat) (f : Nat → va_E) : va_D (cd_A G) (cd_Wf G n f) := by
  refine ⟨fun i j x y hi hj hxy => ?_, fun k x hk => ?_⟩
  · have h1 := (cd_Wf_lt hi).2
    have h2 := (cd_Wf_lt hj).2
    omega
  · have h1 := (cd_Wf_lt hk).2
    show G.2.2.2.2 ≤ x.1
    omega
/-- n cells stand, as f says -/
def cd_C (G : cd_G) (n : Nat) (f : Nat → va_E) (H0 H : Heap) (locs : List Loc) : Prop := H.size = G.2.2.2.2 + n ∧ va_P G.1 vwCl (cd_Wf G n f) H ∧ va_S (cd_A G) H0 H locs
def cd_KK (G : cd_G) (U : State) : Prop := cd_K G U ∧ va_AO RX0 U ∧ va_AO RX4 U
theorem cd_KK.warm {G : cd_G} {s U : State} (hW : s.WarmedH U.vm) (h : cd_KK G s) : cd_KK G U := ⟨h.1.warm hW, h.2.1.moved hW.alike, h.2.2.moved hW.alike⟩
/-- a constructor's contract: the blank object at q is the last cell; behind it q .. q + len - 1 stand as at first -/
def cd_Mk (l : Launch) (G : cd_G) (y : MethodName) (ws : List Cond) (rm : Room) (av : List Value) (q len mc ms : Nat) (f : Nat → va_E) : Prop := Met l y ws rm (va_Pc av fun U => (U.heap.size = G.2.2.2.2 + (q + 1) ∧ va_P G.1 vwCl (cd_Wf G (q + 1) f) U.heap) ∧ cd_KK G U) (va_Qv (fun f' : Nat → va_E => (∀ k, k < q → f' k = f k) ∧ ∀ k, q ≤ k → k < q + len → f' k = cd_e0 G k) (fun f' t => t.heap.size = G.2.2.2.2 + (q + len) ∧ va_P G.1 vwCl (cd_Wf G (q + len) f') t.heap) (cd_A G)) mc ms (cd_A G)
section CDK
variable {p : Program} {l : Launch} {e : Env} {R : Room} {s : State} {m : MethodId} {args : Array Value} {below : List Frame} {meth : Method} {c : Code} {H : Heap} {locs : List Loc} {cells slots : Nat} {Q : State → Prop}
variable {cc : ByteArray} {pc : Nat} {ls : Array Slot} {rest : List Value} {nL : Nat} {own : String} {G : cd_G} {H0 : Heap} {q n : Nat} {f f' : Nat → va_E}
theorem cd_knew (S : CallFix p m c cc nL s args cd_T own) (hK : cd_KK G s) (hC : cd_C G n f H0 H locs) {C : String} {T : u_T} {N ci index : Nat} (hc : vwCl[ci]? = some (C, T, N)) (hx : ∀ w ∈ u_ws C T N, w ∈ cd_T) (ty : Nat → FieldType) (hty : ∀ k, k < N → parseFieldDescriptor (T k).2.2.1 = some (ty k)) (hcl : Cond.classLink own index C ∈ cd_T) (hinst : Cond.instantiable C N ∈ cd_T) (hini : Cond.initialized C ∈ cd_T) {fs : List Value} (hfs : ∀ j, j < N → defaultValue (ty j) = vp_V fs j) (he : f' = va_up f n (.inr (ci, fs))) (hcells : cells + 1 ≤ R.cells) (hslots : slots + N ≤ R.slots) (hdg : decode cc pc = .ok (.new index, 3))
    (kk : ∀ H1 : Heap, cd_C G (n + 1) f' H0 H1 locs → W p l e R s m args below meth c H1 locs (cells + 1) (slots + N) Q (F0 m (pc + 3) ls (.ref (G.2.2.2.2 + n) :: rest))) : W p l e R s m args below meth c H locs cells slots Q (F0 m pc ls rest) := by
  obtain ⟨hsz, hP, hS⟩ := hC
  have hKn := hK.1.1.1 ci _ hc
  refine W.newcK S.1 S.2.1 S.2.2.2.1 (S.2.2.2.2 _ hcl) (S.2.2.2.2 _ hinst) (S.2.2.2.2 _ hini) rfl hdg hcells hslots hKn.2.1 hsz fun H1 kC hkC e1 z1 o1 => ?_
  have hk : ∀ (k : Nat) (x : Nat × va_E), (cd_Wf G n f)[k]? = some x → H1[x.1]? = H[x.1]? := fun k x hx => o1 x.1 (by rw [← hsz]; exact (hP k x hx).lt)
  refine kk H1 ⟨z1, ?_, Nat.le_trans hS.1 (by omega), fun x h1 h2 => (o1 x (by rw [← hsz]; exact Nat.lt_of_lt_of_le h1 hS.1)).trans (hS.2.1 x h1 h2), hS.2.2⟩
  rw [he, ← cd_Wf_push]
  refine (hP.kept hk).app (fun k x hx => ?_)
  have hz : k < 1 := (List.getElem?_eq_some_iff.mp hx).1
  rw [show k = 0 by omega] at hx
  cases hx
  exact ⟨_, hc, (u_born ty S.2.2.2.2 (by assumption) hKn hkC e1 hty).to hfs⟩
theorem cd_knewa (S : CallFix p m c cc nL s args cd_T own) (hK : cd_KK G s) (hC : cd_C G n f H0 H locs) {i : Int32} {N' : Nat} (hn : ¬ i < 0) (hN : i.toNatClampNeg = N') (hbytes : N' * componentBytes .int ≤ 536870912) (he : f' = va_up f n (.inl (G.2.1, N', .inl (fun _ => 0)))) (hcells : cells + 1 ≤ R.cells) (hslots : slots + N' ≤ R.slots) (hdg : decode cc pc = .ok (.newarray .int, 2))
    (kk : ∀ H1 : Heap, cd_C G (n + 1) f' H0 H1 locs → W p l e R s m args below meth c H1 locs (cells + 1) (slots + N') Q (F0 m (pc + 2) ls (.ref (G.2.2.2.2 + n) :: rest))) : W p l e R s m args below meth c H locs cells slots Q (F0 m pc ls (.int i :: rest)) := by
  obtain ⟨hsz, hP, hS⟩ := hC
  refine va_newaK (atype := .int) S.1 S.2.1 (S.2.2.2.2 _ cd_a_Jvm_ClassFile_FieldType_int) rfl hdg rfl hn hN hbytes hcells hslots hsz fun H1 cA e1 z1 o1 hAr hNm => ?_
  have hcA : cA = G.2.1 := Option.some.inj (hNm.symm.trans (hK.1.1.2 0 _ rfl).2)
  subst hcA
  have hk : ∀ (k : Nat) (x : Nat × va_E), (cd_Wf G n f)[k]? = some x → H1[x.1]? = H[x.1]? := fun k x hx => o1 x.1 (by rw [← hsz]; exact (hP k x hx).lt)
  refine kk H1 ⟨z1, ?_, Nat.le_trans hS.1 (by omega), fun x h1 h2 => (o1 x (by rw [← hsz]; exact Nat.lt_of_lt_of_le h1 hS.1)).trans (hS.2.1 x h1 h2), hS.2.2⟩
  rw [he, ← cd_Wf_push]
  refine (hP.kept hk).app (fun k x hx => ?_)
  have hz : k < 1 := (List.getElem?_eq_some_iff.mp hx).1
  rw [show k = 0 by omega] at hx
  cases hx
  exact e1
theorem cd_kanew (S : CallFix p m c cc nL s args cd_T own) (hK : cd_KK G s) (hC : cd_C G n f H0 H locs) {C : String} {index t0 : Nat} {cA0 : ClassId} (hcl : Cond.classLink own index C ∈ cd_T) (hover : va_AO C s) (ht : (cd_ty G)[t0]? = some (cA0, .object C)) {i : Int32} {N' : Nat} (hn : ¬ i < 0) (hN : i.toNatClampNeg = N') (hbytes : N' * 4 ≤ 536870912) (he : f' = va_up f n (.inl (cA0, N', .inr (.inr (.inr (.inr (fun _ => none))))))) (hcells : cells + 1 ≤ R.cells) (hslots : slots + N' ≤ R.slots) (hdg : decode cc pc = .ok (.anewarray index, 3))
    (kk : ∀ H1 : Heap, cd_C G (n + 1) f' H0 H1 locs → W p l e R s m args below meth c H1 locs (cells + 1) (slots + N') Q (F0 m (pc + 3) ls (.ref (G.2.2.2.2 + n) :: rest))) : W p l e R s m args below meth c H locs cells slots Q (F0 m pc ls (.int i :: rest)) := by
  obtain ⟨hsz, hP, hS⟩ := hC
  subst hN
  refine W.anew S.1 S.2.1 S.2.2.2.1 (S.2.2.2.2 _ hcl) (va_AO.use hover) rfl hdg rfl hn hbytes hcells hslots fun cA kA comp f1 f2 f3 f4 => ?_
  obtain ⟨_, _, _, _, _, g4⟩ := (hK.1.1.2 t0 _ ht).2
  have hcA : cA = cA0 := Option.some.inj (f1.symm.trans g4)
  subst hcA
  generalize hH1 : H.push ({ cls := cA, slots := Array.replicate i.toNatClampNeg .null, vm := .none } : Cell) = H1
  have z1 : H1.size = H.size + 1 := by rw [← hH1, Array.size_push]
  have e1 : H1[H.size]? = some (arrV cA i.toNatClampNeg (fun _ => .null)) := by rw [← hH1, Array.getElem?_push_size, ← arrV_new]
  have o1 : ∀ q : Nat, q < H.size → H1[q]? = H[q]? := fun q hq => by rw [← hH1, Array.getElem?_push, if_neg (Nat.ne_of_lt hq)]
  have hk : ∀ (k : Nat) (x : Nat × va_E), (cd_Wf G n f)[k]? = some x → H1[x.1]? = H[x.1]? := fun k x hx => o1 x.1 ((hP k x hx).lt)
  rw [hsz] at e1 ⊢
  refine kk H1 ⟨by rw [z1, hsz]; rfl, ?_, Nat.le_trans hS.1 (by omega), fun x h1 h2 => (o1 x (Nat.lt_of_lt_of_le h1 hS.1)).trans (hS.2.1 x h1 h2), hS.2.2⟩
  rw [he, ← cd_Wf_push]
  refine (hP.kept hk).app (fun k x hx => ?_)
  have hz : k < 1 := (List.getElem?_eq_some_iff.mp hx).1
  rw [show k = 0 by omega] at hx
  cases hx
  exact e1
theorem cd_kget (S : CallFix p m c cc nL s args cd_T own) (hK : cd_KK G s) (hC : cd_C G n f H0 H locs) {C : String} {T : u_T} {N ci index : Nat} (hc : vwCl[ci]? = some (C, T, N)) (hx : ∀ w ∈ u_ws C T N, w ∈ cd_T) {fs : List Value} (hq : q < n) (hf : f q = .inr (ci, fs)) (k : Nat) (hk : k < N) (hl : Cond.fieldLink own index (T k).1 (T k).2.1 (T k).2.2.1 ∈ cd_T) {v : Value} (hv : fs[k]? = some v) (hdg : decode cc pc = .ok (.getfield index, 3)) (kk : W p l e R s m args below meth c H locs cells slots Q (F0 m (pc + 3) ls (v :: rest))) : W p l e R s m args below meth c H locs cells slots Q (F0 m pc ls (.ref (G.2.2.2.2 + q) :: rest)) :=
  va_get (D := G.1) (ci := ci) (C := C) (T := T) (N := N) S.1 S.2.1 S.2.2.2.2 hx S.2.2.2.1 hK.1.1 hC.2.1 q (by rw [cd_Wf_get hq, hf]) hc k hk (S.2.2.2.2 _ hl) (fun _ z => z) hv hdg kk
theorem cd_kput (S : CallFix p m c cc nL s args cd_T own) (hK : cd_KK G s) (hC : cd_C G n f H0 H locs) {C : String} {T : u_T} {N ci index : Nat} (hc : vwCl[ci]? = some (C, T, N)) (hx : ∀ w ∈ u_ws C T N, w ∈ cd_T) (ty0 : Nat → FieldType) (hty : ∀ k, k < N → parseFieldDescriptor (T k).2.2.1 = some (ty0 k)) (hnm : ∀ a, a < N → ∀ b, b < N → a ≠ b → (T a).2.1 ≠ (T b).2.1) {fs : List Value} (hq : q < n) (hf : f q = .inr (ci, fs)) (k : Nat) (hk : k < N) (hl : Cond.fieldLink own index (T k).1 (T k).2.1 (T k).2.2.1 ∈ cd_T) (hfin : (T k).2.2.2 = false) {v : Value} (hn : narrow (ty0 k) v = v) (hfit : fits (ty0 k) v = true) (hle : k < fs.length) (he : f' = va_up f q (.inr (ci, fs.set k v))) (hdg : decode cc pc = .ok (.putfield index, 3))
    (kk : ∀ (H1 : Heap) (locs1 : List Loc), cd_C G n f' H0 H1 locs1 → W p l e R s m args below meth c H1 locs1 cells slots Q (F0 m (pc + 3) ls rest)) : W p l e R s m args below meth c H locs cells slots Q (F0 m pc ls (v :: .ref (G.2.2.2.2 + q) :: rest)) := by
  obtain ⟨hsz, hP, hS0⟩ := hC
  have hts := S.2.2.2.2
  have hKv := hK.1.1
  have hD := cd_Wf_D G n f
  have hE : (cd_Wf G n f)[q]? = some (G.2.2.2.2 + q, .inr (ci, fs)) := by rw [cd_Wf_get hq, hf]
  have hap := va_apart (own := own) hts hx ty0 hty hnm hKv hc
  obtain ⟨r, h1, cell, q1, q2, q3, q4⟩ := hP q _ hE
  have hr : r = (C, T, N) := Option.some.inj (h1.symm.trans hc)
  subst hr
  obtain ⟨hS, hfc, kC, hkC, hkind⟩ := hKv.1 ci _ hc
  obtain ⟨cf, kf, fi, fd, hi, hsl⟩ := hS k hk
  have hlay := hts _ (hx _ (u_in_lay hk))
  unfold u_lay at hlay
  rw [if_neg (by rw [hfin]; decide)] at hlay
  have hst := (u_facts hfc hkC (u_lays hts hx hk) hi).1
  have h6 := u_store hfc hkC hkind hlay hi (hty k hk) hn hfit
  refine W.putK S.1 S.2.1 (f := fd) ⟨S.2.2.2.1, hts _ hl, ⟨_, _, _, hi⟩, hst⟩ (by rw [q2]; exact h6) q1 q3 (by rw [hsl]; exact k2_hasslot (q4 k hk)) rfl rfl hdg fun H' e1 e2 e3 => ?_
  rw [hsl] at e1 ⊢
  refine kk H' _ ⟨e2.trans hsz, ?_, hS0.put e2 e3 (hD.2 q _ hE)⟩
  rw [he, ← cd_Wf_set hq]
  exact hP.set hD hE ⟨_, hc, t_OB.to (V := updV (vp_V fs) k v) ⟨_, e1, q2, q3, t_set q4 hap hk v⟩ (fun j _ => vp_updV_set hle v j)⟩ e3
theorem cd_kputF (S : CallFix p m c cc nL s args cd_T own) (hK : cd_KK G s) (hin2 : meth.name = "<init>") (hC : cd_C G n f H0 H locs) {C : String} {T : u_T} {N ci index : Nat} (hc : vwCl[ci]? = some (C, T, N)) (hx : ∀ w ∈ u_ws C T N, w ∈ cd_T) (ty0 : Nat → FieldType) (hty : ∀ k, k < N → parseFieldDescriptor (T k).2.2.1 = some (ty0 k)) (hnm : ∀ a, a < N → ∀ b, b < N → a ≠ b → (T a).2.1 ≠ (T b).2.1) {fs : List Value} (hq : q < n) (hf : f q = .inr (ci, fs)) (k : Nat) (hk : k < N) (hl : Cond.fieldLink own index (T k).1 (T k).2.1 (T k).2.2.1 ∈ cd_T) (hfin : (T k).2.2.2 = true) (hdecl : (T k).1 = own) {v : Value} (hn : narrow (ty0 k) v = v) (hfit : fits (ty0 k) v = true) (hle : k < fs.length) (he : f' = va_up f q (.inr (ci, fs.set k v))) (hdg : decode cc pc = .ok (.putfield index, 3))
    (kk : ∀ (H1 : Heap) (locs1 : List Loc), cd_C G n f' H0 H1 locs1 → W p l e R s m args below meth c H1 locs1 cells slots Q (F0 m (pc + 3) ls rest)) : W p l e R s m args below meth c H locs cells slots Q (F0 m pc ls (v :: .ref (G.2.2.2.2 + q) :: rest)) := by
  obtain ⟨hsz, hP, hS0⟩ := hC
  have hts := S.2.2.2.2
  have hKv := hK.1.1
  have hown := S.2.2.2.1
  have hD := cd_Wf_D G n f
  have hE : (cd_Wf G n f)[q]? = some (G.2.2.2.2 + q, .inr (ci, fs)) := by rw [cd_Wf_get hq, hf]
  have hap := va_apart (own := own) hts hx ty0 hty hnm hKv hc
  obtain ⟨r, h1, cell, q1, q2, q3, q4⟩ := hP q _ hE
  have hr : r = (C, T, N) := Option.some.inj (h1.symm.trans hc)
  subst hr
  obtain ⟨hS, hfc, kC, hkC, hkind⟩ := hKv.1 ci _ hc
  obtain ⟨cf, kf, fi, fd, hi, hsl⟩ := hS k hk
  have hlay := hts _ (hx _ (u_in_lay hk))
  unfold u_lay at hlay
  rw [if_pos hfin] at hlay
  have hst := (u_facts hfc hkC (u_lays hts hx hk) hi).1
  have hcf : m.cls = cf := by
    obtain ⟨_, _, c', _, _, _, -, -, hf', -, -, -, hown2, -⟩ := Cond.laysFinal_spec hlay
    have e1 : c' = cf := by have := hi.symm.trans hf'; simp at this; exact this.1.symm
    rw [hdecl] at hown2
    rw [← e1]; exact Option.some.inj (hown.symm.trans hown2)
  have h6 := u_fits hfc hkC hkind (Or.inr hlay) hi (hty k hk) hn hfit
  refine W.putFinK S.1 S.2.1 hown (hts _ hl) hi hst hcf hin2 (by rw [q2]; exact h6) q1 q3 (by rw [hsl]; exact k2_hasslot (q4 k hk)) rfl rfl hdg fun H' e1 e2 e3 => ?_
  rw [hsl] at e1 ⊢
  refine kk H' _ ⟨e2.trans hsz, ?_, hS0.put e2 e3 (hD.2 q _ hE)⟩
  rw [he, ← cd_Wf_set hq]
  exact hP.set hD hE ⟨_, hc, t_OB.to (V := updV (vp_V fs) k v) ⟨_, e1, q2, q3, t_set q4 hap hk v⟩ (fun j _ => vp_updV_set hle v j)⟩ e3
theorem cd_kiast (S : CallFix p m c cc nL s args cd_T own) (hK : cd_KK G s) (hC : cd_C G n f H0 H locs) {N : Nat} {g : Nat → Int32} (hq : q < n) (hf : f q = .inl (G.2.1, N, .inl g)) {i x : Int32} (hin : vp_in i N) (he : f' = va_up f q (.inl (G.2.1, N, .inl (upd g i.toNatClampNeg x)))) (hdg : decode cc pc = .ok (.iastore, 1))
    (kk : ∀ (H1 : Heap) (locs1 : List Loc), cd_C G n f' H0 H1 locs1 → W p l e R s m args below meth c H1 locs1 cells slots Q (F0 m (pc + 1) ls rest)) : W p l e R s m args below meth c H locs cells slots Q (F0 m pc ls (.int x :: .int i :: .ref (G.2.2.2.2 + q) :: rest)) := by
  obtain ⟨hsz, hP, hS⟩ := hC
  have hD := cd_Wf_D G n f
  have hE : (cd_Wf G n f)[q]? = some (G.2.2.2.2 + q, .inl (G.2.1, N, .inl g)) := by rw [cd_Wf_get hq, hf]
  refine W.iast S.1 S.2.1 (hP q _ hE) ((hK.1.1.2 0 _ rfl).1 N (fun j => .int (g j))) (fun q => by cases q) (by show ¬ (i < 0 ∨ (arrV _ _ _).slots.size ≤ _); rw [arrV_size]; exact hin) rfl rfl hdg fun H1 e z oq => ?_
  refine kk H1 _ ⟨z.trans hsz, ?_, hS.put z oq (hD.2 q _ hE)⟩
  rw [he, ← cd_Wf_set hq]
  refine hP.set hD hE ?_ oq
  show H1[G.2.2.2.2 + q]? = some (vp_cell _ _)
  rw [e]
  rw [vp_cell_i, vp_cell_i, arrV_store]
  congr 2
  funext j
  by_cases hj : j = i.toNatClampNeg
  · subst hj
    simp [updV, upd]
  · simp [updV, upd, hj]
theorem cd_kaast (S : CallFix p m c cc nL s args cd_T own) (hK : cd_KK G s) (hC : cd_C G n f H0 H locs) {t0 ci r N : Nat} {cA : ClassId} {x : vw_C} {g : Nat → Option Nat} {vs : List Value} (hq : q < n) (hf : f q = .inl (cA, N, .inr (.inr (.inr (.inr g))))) (ht : (cd_ty G)[t0]? = some (cA, .object x.1)) (hr : r < n) (hfr : f r = .inr (ci, vs)) (hc : vwCl[ci]? = some x) {i : Int32} (hin : vp_in i N) (he : f' = va_up f q (.inl (cA, N, .inr (.inr (.inr (.inr (va_up g i.toNatClampNeg (some (G.2.2.2.2 + r))))))))) (hdg : decode cc pc = .ok (.aastore, 1))
    (kk : ∀ (H1 : Heap) (locs1 : List Loc), cd_C G n f' H0 H1 locs1 → W p l e R s m args below meth c H1 locs1 cells slots Q (F0 m (pc + 1) ls rest)) : W p l e R s m args below meth c H locs cells slots Q (F0 m pc ls (.ref (G.2.2.2.2 + r) :: .int i :: .ref (G.2.2.2.2 + q) :: rest)) := by
  obtain ⟨hsz, hP, hS⟩ := hC
  have hD := cd_Wf_D G n f
  have hE : (cd_Wf G n f)[q]? = some (G.2.2.2.2 + q, .inl (cA, N, .inr (.inr (.inr (.inr g))))) := by rw [cd_Wf_get hq, hf]
  have hV : (cd_Wf G n f)[r]? = some (G.2.2.2.2 + r, .inr (ci, vs)) := by rw [cd_Wf_get hr, hfr]
  have hlt : i.toNatClampNeg < N := Nat.not_le.mp fun q => hin (Or.inr q)
  have h0 : ¬ i < 0 := fun q => hin (Or.inl q)
  obtain ⟨r', hr', cellV, g1, g2, g3, -⟩ := hP r _ hV
  have hcls := (hK.1.1.1 ci x hc).2
  obtain ⟨kA, comp, k1, k2, k3, -⟩ := (hK.1.1.2 t0 _ ht).2
  have hcomp : comp = G.1.1 ci := Option.some.inj (k3.symm.trans hcls.1)
  subst hcomp
  obtain ⟨kC, hkC, -⟩ := hcls.2
  refine W.aast S.1 S.2.1 (hP q _ hE) (fun q h => by cases h) (fun h => by cases h) k1 k2 rfl hkC ⟨h0, by show _ < (arrV _ _ _).slots.size; rw [arrV_size]; exact hlt⟩ g1 (fun q h => by rw [g3] at h; cases h) (by rw [g2]; exact hkC) (by rw [g2]; exact va_assign hcls) rfl rfl hdg fun H1 e z oq => ?_
  refine kk H1 _ ⟨z.trans hsz, ?_, hS.put z oq (hD.2 q _ hE)⟩
  rw [he, ← cd_Wf_set hq]
  refine hP.set hD hE ?_ oq
  show H1[G.2.2.2.2 + q]? = some (vp_cell _ _)
  rw [e]
  rw [vp_cell_q, vp_cell_q, arrV_store]
  congr 2
  funext j
  by_cases hj : j = i.toNatClampNeg
  · subst hj
    simp [updV, va_up, va_rf]
  · simp [updV, va_up, hj]
theorem cd_kinit (S : CallFix p m c cc nL s args cd_T own) (hsz : ls.size = nL) {index : Nat} (hl : Cond.methodLink own index objectInit ∈ cd_T) (hf : 1 ≤ R.frames) (hlo : (rest.map fun v => v.category).sum + 12 ≤ R.locals) {a : Nat} (hdg : decode cc pc = .ok (.invokespecial index, 3)) (kk : W p l e R s m args below meth c H locs cells slots Q (F0 m (pc + 3) ls rest)) : W p l e R s m args below meth c H locs cells slots Q (F0 m pc ls (.ref a :: rest)) :=
  W.objInit S.1 S.2.1 S.2.2.2.1 (S.2.2.2.2 _ hl) (S.2.2.2.2 _ cd_i_java_lang_Object__init_) (S.2.2.2.2 _ cd_c_java_lang_Object__init_) rfl (by rw [S.2.2.1]; exact hsz) rfl hdg hf (by show 2 * 0 + _ + 12 ≤ _; omega) kk
/-- a constructor is called -/
theorem cd_kcall (S : CallFix p m c cc nL s args cd_T own) (hK : cd_KK G s) (hC : cd_C G (q + 1) f H0 H locs) (hsz : ls.size = nL) {y : MethodName} {rm : Room} {As : List Value} {bytes : ByteArray} {maxL N index len mc ms : Nat} (hM : cd_Mk l G y (Cond.code y bytes maxL none :: cd_T) rm (.ref (G.2.2.2.2 + q) :: As) q len mc ms f) (hl : Cond.methodLink own index y ∈ cd_T) (hi : Cond.instanceMethod y ∈ cd_T) (hini : Cond.initialized y.cls ∈ cd_T) (hcode : Cond.code y bytes maxL none ∈ cd_T) (hd : y.name = "<init>" ∧ y.cls ≠ "java/lang/invoke/MethodHandle" ∧ y.cls ≠ "java/lang/invoke/VarHandle" ∧ (parseMethodDescriptor y.desc).map (fun d => d.parameters.length) = some N) (hR : rm.frames + 1 ≤ R.frames ∧ 8 + (maxL + 11) + rm.locals ≤ R.locals) (hr0 : rm.cells = mc ∧ rm.slots = ms) (hn : As.length = N) {st : List Value} (hst : st = As.reverse ++ .ref (G.2.2.2.2 + q) :: rest) (hw : (rest.map fun v => v.category).sum ≤ 8) (hcs : cells + mc ≤ R.cells ∧ slots + ms ≤ R.slots) (hdg : decode cc pc = .ok (.invokespecial index, 3))
    (kk : ∀ (f' : Nat → va_E) (H1 : Heap) (locs1 : List Loc), (∀ k, k < q → f' k = f k) → (∀ k, q ≤ k → k < q + len → f' k = cd_e0 G k) → cd_C G (q + len) f' H0 H1 locs1 → W p l e R s m args below meth c H1 locs1 (cells + mc) (slots + ms) Q (F0 m (pc + 3) ls rest)) : W p l e R s m args below meth c H locs cells slots Q (F0 m pc ls st) := by
  subst hst
  have cw : CallB R s args own index y bytes maxL none (Cond.code y bytes maxL none :: cd_T) rm mc ms N ∧ y.name = "<init>" ∧ (Cond.instanceMethod y).before args s = true := ⟨callB_of N S.2.2.2.2 (cd_goodIn hcode) rfl hr0.1 hr0.2 (S.2.2.2.2 _ hini) (S.2.2.2.2 _ hl) hd.2 hR, hd.1, S.2.2.2.2 _ hi⟩
  refine va_callv (va_runI (g := F0 m pc ls (As.reverse ++ .ref (G.2.2.2.2 + q) :: rest)) (As := As) (rest := rest) S hM cw ⟨?_, ?_⟩ rfl hn hsz rfl (lv_room hw) hdg hcs) hC.2.2 (fun _ _ z => z) (fun _ z => z) (fun f' t H1 locs1 ht hvm hw hB hz1 hk1 hS => kk f' H1 locs1 hw.1 hw.2 ⟨by rw [← ht]; exact hB.1, by rw [← ht]; exact hB.2, hS⟩)
  · intro a U g mk z
    obtain ⟨z1, z2, z3⟩ := z
    exact ⟨z1, z2, ⟨va_K.moved (u := U) (U := U.calling g mk a) (Vm.Alike.refl U.vm) z3.1.1, z3.1.2⟩, z3.2⟩
  · intro U hU hW
    exact ⟨rfl, by rw [hU]; exact ⟨hC.1, hC.2.1⟩, hK.warm hW⟩
end CDK
/-- a constructor's entry -/
theorem cd_kin {l : Launch} {G : cd_G} {y : MethodName} {rm : Room} {av : List Value} {q len mc ms : Nat} {f : Nat → va_E} {cc : ByteArray} {maxL : Nat} (hy : plainName y.cls = true) (hyn : y.name = "<init>") (hle : (lg_sl av).length ≤ maxL)
    (body : ∀ (p : Program) (e : Env) (s : State) (m : MethodId) (args : Array Value) (below : List Frame) (meth : Method) (c : Code) (Q : State → Prop) (ls : Array Slot) (H : Heap) (locs : List Loc), CallFix p m c cc maxL s args cd_T y.cls → cd_KK G s → meth.name = "<init>" → cd_C G (q + 1) f s.heap H locs → lv_has ls maxL (lv_args 0 av) →
      (∀ (f' : Nat → va_E) (H : Heap) (locs : List Loc) (pc : Nat) (ls : Array Slot), (∀ k, k < q → f' k = f k) → (∀ k, q ≤ k → k < q + len → f' k = cd_e0 G k) → cd_C G (q + len) f' s.heap H locs → decode cc pc = .ok (.return_, 1) → W p l e rm s m args below meth c H locs mc ms Q (F0 m pc ls [])) → W p l e rm s m args below meth c H locs 0 0 Q (F0 m 0 ls [])) : cd_Mk l G y (Cond.code y cc maxL none :: cd_T) rm av q len mc ms f := by
  refine Met.ofW (cc := cc) (maxL := maxL) (ret := none) hy rfl ?_
  intro p e s m args below meth c s₁ B hml hv
  obtain ⟨rfl, hP, hK⟩ := hv
  have hl := lv_entry av (n := maxL) hle
  have hin : meth.name = "<init>" := (name_of_methodNamed B.named B.method).1.trans hyn
  rw [lg_entry_eq]
  refine body p e s m _ below meth c _ _ _ _ ⟨B.exec, B.bytes, hml, findClass_of_methodNamed B.named, fun w hw => atoms_spec (ws := Cond.code y cc maxL none :: cd_T) B.pre w (List.mem_cons_of_mem _ hw)⟩ hK hin ⟨hP.1, hP.2, va_S.rf⟩ hl ?_
  intro f' H locs pc ls h1 h2 hC hd
  exact W.vret B.exec B.bytes B.returns (fun t ht hW => ⟨⟨f', rfl, ⟨h1, h2⟩, by show t.heap.size = _ ∧ va_P _ _ _ t.heap; rw [ht]; exact ⟨hC.1, hC.2.1⟩⟩, hC.2.2.F ht⟩) hC.2.2.2.2 hd
