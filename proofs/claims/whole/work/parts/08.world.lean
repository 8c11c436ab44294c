-- THE WORLD: all cells of the class's object and of the reference's object, numbered in the order in which the law makes them (cell q lies at address b + q)
/-- what can change: an Int32 at each place of each cell; the one long (the reference's hash) -/
abbrev cd_Hp : Type := (Nat → Nat → Int32) × Int64
def cd_g (h : cd_Hp) (q k : Nat) : Int32 := h.1 q k
def cd_u (h : cd_Hp) (q k : Nat) (v : Int32) : cd_Hp := (fun a c => if a = q ∧ c = k then v else h.1 a c, h.2)
def cd_ul (h : cd_Hp) (v : Int64) : cd_Hp := (h.1, v)
/-- System.arraycopy of ints, from cell q place x to cell r place y, n of them -/
def cd_cp (h : cd_Hp) (q x r y n : Nat) : cd_Hp := (fun a c => if a = r ∧ y ≤ c ∧ c < y + n then h.1 q (x + (c - y)) else h.1 a c, h.2)
/-- class numbers and slots, the classes of int[], Group[], State[], the first address -/
abbrev cd_G : Type := va_G × ClassId × ClassId × ClassId × Nat
def cd_fs0 (b : Nat) (h : cd_Hp) (q : Nat) : List Value := [.int (cd_g h q 0), .int (cd_g h q 1), .int (cd_g h q 2), .int (cd_g h q 3), .int (cd_g h q 4), .int (cd_g h q 5), .int (cd_g h q 6), .int (cd_g h q 7), .int (cd_g h q 8), .int (cd_g h q 9), .ref (b + (q + 1)), .ref (b + (q + 2)), .ref (b + (q + 3)), .ref (b + (q + 4)), .ref (b + (q + 5)), .ref (b + (q + 6))]
def cd_fs1 (b : Nat) (h : cd_Hp) (q : Nat) : List Value := [.int (cd_g h q 0), .int (cd_g h q 1), .ref (b + (q + 1))]
def cd_fs2 (b : Nat) (h : cd_Hp) (q : Nat) : List Value := [.int (cd_g h q 0), .int (cd_g h q 1), .int (cd_g h q 2), .ref (b + (q + 1)), .ref (b + (q + 2)), .ref (b + (q + 3)), .ref (b + (q + 4)), .ref (b + (q + 5))]
def cd_fs3 (b : Nat) (h : cd_Hp) (q : Nat) : List Value := [.int (cd_g h q 0), .int (cd_g h q 1), .ref (b + (q + 1)), .ref (b + (q + 2))]
def cd_fs4 (b : Nat) (h : cd_Hp) (q : Nat) : List Value := [.int (cd_g h q 0), .int (cd_g h q 1), .int (cd_g h q 2), .int (cd_g h q 3), .int (cd_g h q 4), .ref (b + (q + 1)), .ref (b + (q + 2)), .ref (b + (q + 6)), .ref (b + (q + 7)), .ref (b + (q + 8)), .ref (b + (1))]
def cd_fs5 (b : Nat) (h : cd_Hp) (q : Nat) : List Value := [.int (cd_g h q 0), .ref (b + (q + 1)), .ref (b + (q + 2)), .ref (b + (q + 3))]
def cd_fs6 (b : Nat) (h : cd_Hp) (q : Nat) : List Value := [.int (cd_g h q 0), .int (cd_g h q 1), .ref (b + (q + 1)), .ref (b + (q + 2)), .ref (b + (q + 3)), .ref (b + (q + 4)), .int (cd_g h q 6), .int (cd_g h q 7)]
def cd_fs7 (b : Nat) (h : cd_Hp) (q : Nat) : List Value := [.ref (b + (4)), .ref (b + (60)), .ref (b + (398)), .ref (b + (403))]
def cd_fs8 (b : Nat) (h : cd_Hp) (q : Nat) : List Value := [.ref (b + (405)), .ref (b + (406)), .ref (b + (407)), .int (cd_g h q 3), .ref (b + (408)), .ref (b + (409)), .int (cd_g h q 6), .ref (b + (410)), .ref (b + (411)), .int (cd_g h q 9), .ref (b + (412)), .ref (b + (413)), .ref (b + (414)), .ref (b + (415)), .int (cd_g h q 14), .int (cd_g h q 15), .int (cd_g h q 16), .long h.2]
def cd_en (G : cd_G) (h : cd_Hp) (q : Nat) (kn : Nat × Nat) : va_E := match kn.1 with
  | 0 => .inr (0, cd_fs0 G.2.2.2.2 h q)
  | 1 => .inr (1, cd_fs1 G.2.2.2.2 h q)
  | 2 => .inr (2, cd_fs2 G.2.2.2.2 h q)
  | 3 => .inr (3, cd_fs3 G.2.2.2.2 h q)
  | 4 => .inr (4, cd_fs4 G.2.2.2.2 h q)
  | 5 => .inr (5, cd_fs5 G.2.2.2.2 h q)
  | 6 => .inr (6, cd_fs6 G.2.2.2.2 h q)
  | 7 => .inr (7, cd_fs7 G.2.2.2.2 h q)
  | 8 => .inr (8, cd_fs8 G.2.2.2.2 h q)
  | 9 => .inl (G.2.2.1, 6, .inr (.inr (.inr (.inr (fun i => if i < 6 then some (G.2.2.2.2 + (q + 8 + 7 * i)) else none)))))
  | 10 => .inl (G.2.2.2.1, 6, .inr (.inr (.inr (.inr (fun i => if i < 6 then some (G.2.2.2.2 + (q + 1 + 56 * i)) else none)))))
  | _ => .inl (G.2.1, kn.2, .inl (fun i => cd_g h q i))
def cd_W (G : cd_G) (h : cd_Hp) : va_W := (List.range 416).map fun q => (G.2.2.2.2 + q, cd_en G h q (cd_tb.getD q (0, 0)))
theorem cd_W_get {G : cd_G} {h : cd_Hp} {q : Nat} {kn : Nat × Nat} (hk : cd_tb[q]? = some kn) : (cd_W G h)[q]? = some (G.2.2.2.2 + q, cd_en G h q kn) := by
  have hl : q < 416 := by rw [← cd_tb_len]; exact (List.getElem?_eq_some_iff.mp hk).1
  have e : cd_tb.getD q (0, 0) = kn := by rw [List.getD_eq_getElem?_getD, hk]; rfl
  unfold cd_W
  rw [List.getElem?_map, List.getElem?_range hl]
  simp only [Option.map_some, e]
theorem cd_W_lt {G : cd_G} {h : cd_Hp} {k : Nat} {x : Nat × va_E} (hx : (cd_W G h)[k]? = some x) : k < 416 ∧ x.1 = G.2.2.2.2 + k := by
  have hl : k < 416 := by
    have := (List.getElem?_eq_some_iff.mp hx).1
    simpa [cd_W] using this
  refine ⟨hl, ?_⟩
  unfold cd_W at hx
  rw [List.getElem?_map, List.getElem?_range hl] at hx
  simp only [Option.map_some] at hx
  cases hx
  rfl
/-- where a cell of ours can lie -/
abbrev cd_A (G : cd_G) : Nat → Prop := fun a => G.2.2.2.2 ≤ a
theorem cd_W_D (G : cd_G) (h : cd_Hp) : va_D (cd_A G) (cd_W G h) := by
  refine ⟨fun i j x y hi hj hxy => ?_, fun k x hk => ?_⟩
  · have h1 := (cd_W_lt hi).2
    have h2 := (cd_W_lt hj).2
    omega
  · have h1 := (cd_W_lt hk).2
    show G.2.2.2.2 ≤ x.1
    omega
theorem cd_en_congr {G : cd_G} {h h' : cd_Hp} {q : Nat} {kn : Nat × Nat} (h1 : ∀ k, cd_g h' q k = cd_g h q k) (h2 : kn.1 = 8 → h'.2 = h.2) : cd_en G h' q kn = cd_en G h q kn := by
  unfold cd_en
  split <;> rename_i hk <;> first | (simp only [cd_fs0, cd_fs1, cd_fs2, cd_fs3, cd_fs4, cd_fs5, cd_fs6, cd_fs7, h1]; done) | (simp only [cd_fs8, h1, h2 hk]; done) | rfl
theorem cd_W_set {G : cd_G} {h h' : cd_Hp} {q : Nat} {kn : Nat × Nat} {e : va_E} (hk : cd_tb[q]? = some kn) (he : e = cd_en G h' q kn) (h1 : ∀ r k, r ≠ q → cd_g h' r k = cd_g h r k) (h2 : ∀ r, r ≠ q → (cd_tb.getD r (0, 0)).1 = 8 → h'.2 = h.2) : (cd_W G h).set q (G.2.2.2.2 + q, e) = cd_W G h' := by
  subst he
  have hl : q < 416 := by rw [← cd_tb_len]; exact (List.getElem?_eq_some_iff.mp hk).1
  have e1 : cd_tb.getD q (0, 0) = kn := by rw [List.getD_eq_getElem?_getD, hk]; rfl
  apply List.ext_getElem?
  intro i
  rw [List.getElem?_set]
  by_cases hi : q = i
  · subst hi
    rw [if_pos rfl, cd_W_get (h := h') hk, if_pos (by simpa [cd_W] using hl)]
  · rw [if_neg hi]
    unfold cd_W
    rw [List.getElem?_map, List.getElem?_map]
    by_cases hl2 : i < 416
    · rw [List.getElem?_range hl2]
      simp only [Option.map_some]
      rw [cd_en_congr (h := h) (h' := h') (fun k => h1 i k (fun z => hi z.symm)) (h2 i (fun z => hi z.symm))]
    · rw [List.getElem?_eq_none (by simpa using hl2)]
      rfl
theorem cd_only8 : ∀ r, r < 416 → r ≠ 404 → (cd_tb.getD r (0, 0)).1 ≠ 8 := by decide +kernel
theorem cd_g_u {h : cd_Hp} {q k : Nat} {v : Int32} : cd_g (cd_u h q k v) q k = v := by simp [cd_g, cd_u]
theorem cd_g_un {h : cd_Hp} {q k r j : Nat} {v : Int32} (hn : ¬ (r = q ∧ j = k)) : cd_g (cd_u h q k v) r j = cd_g h r j := by simp [cd_g, cd_u, hn]
/-- a row of ints is written at a place -/
theorem cd_W_ai {G : cd_G} {h : cd_Hp} {q n i : Nat} {v : Int32} (hq : cd_ar n q) : (cd_W G h).set q (G.2.2.2.2 + q, .inl (G.2.1, n, .inl (upd (fun j => cd_g h q j) i v))) = cd_W G (cd_u h q i v) := by
  refine cd_W_set (kn := (11, n)) hq ?_ (fun r k hr => cd_g_un (fun z => hr z.1)) (fun _ _ _ => rfl)
  show _ = Sum.inl (G.2.1, n, Sum.inl (fun j => cd_g (cd_u h q i v) q j))
  congr 3
  refine congrArg Sum.inl (funext fun j => ?_)
  by_cases hj : j = i
  · subst hj; rw [cd_g_u]; simp [upd]
  · rw [cd_g_un (fun z => hj z.2)]; simp [upd, hj]
/-- System.arraycopy -/
theorem cd_W_cp {G : cd_G} {h : cd_Hp} {q r n x y z : Nat} (hr : cd_ar n r) : (cd_W G h).set r (G.2.2.2.2 + r, .inl (G.2.1, n, .inl (va_cpy (fun j => cd_g h q j) (fun j => cd_g h r j) x y z))) = cd_W G (cd_cp h q x r y z) := by
  refine cd_W_set (kn := (11, n)) hr ?_ (fun a k ha => by simp [cd_g, cd_cp, ha]) (fun _ _ _ => rfl)
  show _ = Sum.inl (G.2.1, n, Sum.inl (fun j => cd_g (cd_cp h q x r y z) r j))
  congr 3
  refine congrArg Sum.inl (funext fun j => ?_)
  simp [va_cpy, cd_g, cd_cp]
theorem cd_W_p0_0 {G : cd_G} {h : cd_Hp} {q : Nat} {v : Int32} (hq : cd_is 0 q) : (cd_W G h).set q (G.2.2.2.2 + q, .inr (0, (cd_fs0 G.2.2.2.2 h q).set 0 (.int v))) = cd_W G (cd_u h q 0 v) :=
  cd_W_set (kn := (0, 0)) hq (by simp [cd_en, cd_fs0, cd_g, cd_u]) (fun r k hr => cd_g_un (fun z => hr z.1)) (fun _ _ _ => rfl)
theorem cd_W_p0_1 {G : cd_G} {h : cd_Hp} {q : Nat} {v : Int32} (hq : cd_is 0 q) : (cd_W G h).set q (G.2.2.2.2 + q, .inr (0, (cd_fs0 G.2.2.2.2 h q).set 1 (.int v))) = cd_W G (cd_u h q 1 v) :=
  cd_W_set (kn := (0, 0)) hq (by simp [cd_en, cd_fs0, cd_g, cd_u]) (fun r k hr => cd_g_un (fun z => hr z.1)) (fun _ _ _ => rfl)
theorem cd_W_p0_2 {G : cd_G} {h : cd_Hp} {q : Nat} {v : Int32} (hq : cd_is 0 q) : (cd_W G h).set q (G.2.2.2.2 + q, .inr (0, (cd_fs0 G.2.2.2.2 h q).set 2 (.int v))) = cd_W G (cd_u h q 2 v) :=
  cd_W_set (kn := (0, 0)) hq (by simp [cd_en, cd_fs0, cd_g, cd_u]) (fun r k hr => cd_g_un (fun z => hr z.1)) (fun _ _ _ => rfl)
theorem cd_W_p0_3 {G : cd_G} {h : cd_Hp} {q : Nat} {v : Int32} (hq : cd_is 0 q) : (cd_W G h).set q (G.2.2.2.2 + q, .inr (0, (cd_fs0 G.2.2.2.2 h q).set 3 (.int v))) = cd_W G (cd_u h q 3 v) :=
  cd_W_set (kn := (0, 0)) hq (by simp [cd_en, cd_fs0, cd_g, cd_u]) (fun r k hr => cd_g_un (fun z => hr z.1)) (fun _ _ _ => rfl)
theorem cd_W_p0_4 {G : cd_G} {h : cd_Hp} {q : Nat} {v : Int32} (hq : cd_is 0 q) : (cd_W G h).set q (G.2.2.2.2 + q, .inr (0, (cd_fs0 G.2.2.2.2 h q).set 4 (.int v))) = cd_W G (cd_u h q 4 v) :=
  cd_W_set (kn := (0, 0)) hq (by simp [cd_en, cd_fs0, cd_g, cd_u]) (fun r k hr => cd_g_un (fun z => hr z.1)) (fun _ _ _ => rfl)
theorem cd_W_p0_5 {G : cd_G} {h : cd_Hp} {q : Nat} {v : Int32} (hq : cd_is 0 q) : (cd_W G h).set q (G.2.2.2.2 + q, .inr (0, (cd_fs0 G.2.2.2.2 h q).set 5 (.int v))) = cd_W G (cd_u h q 5 v) :=
  cd_W_set (kn := (0, 0)) hq (by simp [cd_en, cd_fs0, cd_g, cd_u]) (fun r k hr => cd_g_un (fun z => hr z.1)) (fun _ _ _ => rfl)
theorem cd_W_p0_6 {G : cd_G} {h : cd_Hp} {q : Nat} {v : Int32} (hq : cd_is 0 q) : (cd_W G h).set q (G.2.2.2.2 + q, .inr (0, (cd_fs0 G.2.2.2.2 h q).set 6 (.int v))) = cd_W G (cd_u h q 6 v) :=
  cd_W_set (kn := (0, 0)) hq (by simp [cd_en, cd_fs0, cd_g, cd_u]) (fun r k hr => cd_g_un (fun z => hr z.1)) (fun _ _ _ => rfl)
theorem cd_W_p0_7 {G : cd_G} {h : cd_Hp} {q : Nat} {v : Int32} (hq : cd_is 0 q) : (cd_W G h).set q (G.2.2.2.2 + q, .inr (0, (cd_fs0 G.2.2.2.2 h q).set 7 (.int v))) = cd_W G (cd_u h q 7 v) :=
  cd_W_set (kn := (0, 0)) hq (by simp [cd_en, cd_fs0, cd_g, cd_u]) (fun r k hr => cd_g_un (fun z => hr z.1)) (fun _ _ _ => rfl)
theorem cd_W_p0_8 {G : cd_G} {h : cd_Hp} {q : Nat} {v : Int32} (hq : cd_is 0 q) : (cd_W G h).set q (G.2.2.2.2 + q, .inr (0, (cd_fs0 G.2.2.2.2 h q).set 8 (.int v))) = cd_W G (cd_u h q 8 v) :=
  cd_W_set (kn := (0, 0)) hq (by simp [cd_en, cd_fs0, cd_g, cd_u]) (fun r k hr => cd_g_un (fun z => hr z.1)) (fun _ _ _ => rfl)
theorem cd_W_p0_9 {G : cd_G} {h : cd_Hp} {q : Nat} {v : Int32} (hq : cd_is 0 q) : (cd_W G h).set q (G.2.2.2.2 + q, .inr (0, (cd_fs0 G.2.2.2.2 h q).set 9 (.int v))) = cd_W G (cd_u h q 9 v) :=
  cd_W_set (kn := (0, 0)) hq (by simp [cd_en, cd_fs0, cd_g, cd_u]) (fun r k hr => cd_g_un (fun z => hr z.1)) (fun _ _ _ => rfl)
theorem cd_W_p1_0 {G : cd_G} {h : cd_Hp} {q : Nat} {v : Int32} (hq : cd_is 1 q) : (cd_W G h).set q (G.2.2.2.2 + q, .inr (1, (cd_fs1 G.2.2.2.2 h q).set 0 (.int v))) = cd_W G (cd_u h q 0 v) :=
  cd_W_set (kn := (1, 0)) hq (by simp [cd_en, cd_fs1, cd_g, cd_u]) (fun r k hr => cd_g_un (fun z => hr z.1)) (fun _ _ _ => rfl)
theorem cd_W_p1_1 {G : cd_G} {h : cd_Hp} {q : Nat} {v : Int32} (hq : cd_is 1 q) : (cd_W G h).set q (G.2.2.2.2 + q, .inr (1, (cd_fs1 G.2.2.2.2 h q).set 1 (.int v))) = cd_W G (cd_u h q 1 v) :=
  cd_W_set (kn := (1, 0)) hq (by simp [cd_en, cd_fs1, cd_g, cd_u]) (fun r k hr => cd_g_un (fun z => hr z.1)) (fun _ _ _ => rfl)
theorem cd_W_p2_0 {G : cd_G} {h : cd_Hp} {q : Nat} {v : Int32} (hq : cd_is 2 q) : (cd_W G h).set q (G.2.2.2.2 + q, .inr (2, (cd_fs2 G.2.2.2.2 h q).set 0 (.int v))) = cd_W G (cd_u h q 0 v) :=
  cd_W_set (kn := (2, 0)) hq (by simp [cd_en, cd_fs2, cd_g, cd_u]) (fun r k hr => cd_g_un (fun z => hr z.1)) (fun _ _ _ => rfl)
theorem cd_W_p2_1 {G : cd_G} {h : cd_Hp} {q : Nat} {v : Int32} (hq : cd_is 2 q) : (cd_W G h).set q (G.2.2.2.2 + q, .inr (2, (cd_fs2 G.2.2.2.2 h q).set 1 (.int v))) = cd_W G (cd_u h q 1 v) :=
  cd_W_set (kn := (2, 0)) hq (by simp [cd_en, cd_fs2, cd_g, cd_u]) (fun r k hr => cd_g_un (fun z => hr z.1)) (fun _ _ _ => rfl)
theorem cd_W_p2_2 {G : cd_G} {h : cd_Hp} {q : Nat} {v : Int32} (hq : cd_is 2 q) : (cd_W G h).set q (G.2.2.2.2 + q, .inr (2, (cd_fs2 G.2.2.2.2 h q).set 2 (.int v))) = cd_W G (cd_u h q 2 v) :=
  cd_W_set (kn := (2, 0)) hq (by simp [cd_en, cd_fs2, cd_g, cd_u]) (fun r k hr => cd_g_un (fun z => hr z.1)) (fun _ _ _ => rfl)
theorem cd_W_p3_0 {G : cd_G} {h : cd_Hp} {q : Nat} {v : Int32} (hq : cd_is 3 q) : (cd_W G h).set q (G.2.2.2.2 + q, .inr (3, (cd_fs3 G.2.2.2.2 h q).set 0 (.int v))) = cd_W G (cd_u h q 0 v) :=
  cd_W_set (kn := (3, 0)) hq (by simp [cd_en, cd_fs3, cd_g, cd_u]) (fun r k hr => cd_g_un (fun z => hr z.1)) (fun _ _ _ => rfl)
theorem cd_W_p3_1 {G : cd_G} {h : cd_Hp} {q : Nat} {v : Int32} (hq : cd_is 3 q) : (cd_W G h).set q (G.2.2.2.2 + q, .inr (3, (cd_fs3 G.2.2.2.2 h q).set 1 (.int v))) = cd_W G (cd_u h q 1 v) :=
  cd_W_set (kn := (3, 0)) hq (by simp [cd_en, cd_fs3, cd_g, cd_u]) (fun r k hr => cd_g_un (fun z => hr z.1)) (fun _ _ _ => rfl)
theorem cd_W_p4_0 {G : cd_G} {h : cd_Hp} {q : Nat} {v : Int32} (hq : cd_is 4 q) : (cd_W G h).set q (G.2.2.2.2 + q, .inr (4, (cd_fs4 G.2.2.2.2 h q).set 0 (.int v))) = cd_W G (cd_u h q 0 v) :=
  cd_W_set (kn := (4, 0)) hq (by simp [cd_en, cd_fs4, cd_g, cd_u]) (fun r k hr => cd_g_un (fun z => hr z.1)) (fun _ _ _ => rfl)
theorem cd_W_p4_1 {G : cd_G} {h : cd_Hp} {q : Nat} {v : Int32} (hq : cd_is 4 q) : (cd_W G h).set q (G.2.2.2.2 + q, .inr (4, (cd_fs4 G.2.2.2.2 h q).set 1 (.int v))) = cd_W G (cd_u h q 1 v) :=
  cd_W_set (kn := (4, 0)) hq (by simp [cd_en, cd_fs4, cd_g, cd_u]) (fun r k hr => cd_g_un (fun z => hr z.1)) (fun _ _ _ => rfl)
theorem cd_W_p4_2 {G : cd_G} {h : cd_Hp} {q : Nat} {v : Int32} (hq : cd_is 4 q) : (cd_W G h).set q (G.2.2.2.2 + q, .inr (4, (cd_fs4 G.2.2.2.2 h q).set 2 (.int v))) = cd_W G (cd_u h q 2 v) :=
  cd_W_set (kn := (4, 0)) hq (by simp [cd_en, cd_fs4, cd_g, cd_u]) (fun r k hr => cd_g_un (fun z => hr z.1)) (fun _ _ _ => rfl)
theorem cd_W_p4_3 {G : cd_G} {h : cd_Hp} {q : Nat} {v : Int32} (hq : cd_is 4 q) : (cd_W G h).set q (G.2.2.2.2 + q, .inr (4, (cd_fs4 G.2.2.2.2 h q).set 3 (.int v))) = cd_W G (cd_u h q 3 v) :=
  cd_W_set (kn := (4, 0)) hq (by simp [cd_en, cd_fs4, cd_g, cd_u]) (fun r k hr => cd_g_un (fun z => hr z.1)) (fun _ _ _ => rfl)
theorem cd_W_p4_4 {G : cd_G} {h : cd_Hp} {q : Nat} {v : Int32} (hq : cd_is 4 q) : (cd_W G h).set q (G.2.2.2.2 + q, .inr (4, (cd_fs4 G.2.2.2.2 h q).set 4 (.int v))) = cd_W G (cd_u h q 4 v) :=
  cd_W_set (kn := (4, 0)) hq (by simp [cd_en, cd_fs4, cd_g, cd_u]) (fun r k hr => cd_g_un (fun z => hr z.1)) (fun _ _ _ => rfl)
theorem cd_W_p5_0 {G : cd_G} {h : cd_Hp} {q : Nat} {v : Int32} (hq : cd_is 5 q) : (cd_W G h).set q (G.2.2.2.2 + q, .inr (5, (cd_fs5 G.2.2.2.2 h q).set 0 (.int v))) = cd_W G (cd_u h q 0 v) :=
  cd_W_set (kn := (5, 0)) hq (by simp [cd_en, cd_fs5, cd_g, cd_u]) (fun r k hr => cd_g_un (fun z => hr z.1)) (fun _ _ _ => rfl)
theorem cd_W_p6_0 {G : cd_G} {h : cd_Hp} {q : Nat} {v : Int32} (hq : cd_is 6 q) : (cd_W G h).set q (G.2.2.2.2 + q, .inr (6, (cd_fs6 G.2.2.2.2 h q).set 0 (.int v))) = cd_W G (cd_u h q 0 v) :=
  cd_W_set (kn := (6, 0)) hq (by simp [cd_en, cd_fs6, cd_g, cd_u]) (fun r k hr => cd_g_un (fun z => hr z.1)) (fun _ _ _ => rfl)
theorem cd_W_p6_1 {G : cd_G} {h : cd_Hp} {q : Nat} {v : Int32} (hq : cd_is 6 q) : (cd_W G h).set q (G.2.2.2.2 + q, .inr (6, (cd_fs6 G.2.2.2.2 h q).set 1 (.int v))) = cd_W G (cd_u h q 1 v) :=
  cd_W_set (kn := (6, 0)) hq (by simp [cd_en, cd_fs6, cd_g, cd_u]) (fun r k hr => cd_g_un (fun z => hr z.1)) (fun _ _ _ => rfl)
theorem cd_W_p6_6 {G : cd_G} {h : cd_Hp} {q : Nat} {v : Int32} (hq : cd_is 6 q) : (cd_W G h).set q (G.2.2.2.2 + q, .inr (6, (cd_fs6 G.2.2.2.2 h q).set 6 (.int v))) = cd_W G (cd_u h q 6 v) :=
  cd_W_set (kn := (6, 0)) hq (by simp [cd_en, cd_fs6, cd_g, cd_u]) (fun r k hr => cd_g_un (fun z => hr z.1)) (fun _ _ _ => rfl)
theorem cd_W_p6_7 {G : cd_G} {h : cd_Hp} {q : Nat} {v : Int32} (hq : cd_is 6 q) : (cd_W G h).set q (G.2.2.2.2 + q, .inr (6, (cd_fs6 G.2.2.2.2 h q).set 7 (.int v))) = cd_W G (cd_u h q 7 v) :=
  cd_W_set (kn := (6, 0)) hq (by simp [cd_en, cd_fs6, cd_g, cd_u]) (fun r k hr => cd_g_un (fun z => hr z.1)) (fun _ _ _ => rfl)
theorem cd_W_p8_3 {G : cd_G} {h : cd_Hp} {q : Nat} {v : Int32} (hq : cd_is 8 q) : (cd_W G h).set q (G.2.2.2.2 + q, .inr (8, (cd_fs8 G.2.2.2.2 h q).set 3 (.int v))) = cd_W G (cd_u h q 3 v) :=
  cd_W_set (kn := (8, 0)) hq (by simp [cd_en, cd_fs8, cd_g, cd_u]) (fun r k hr => cd_g_un (fun z => hr z.1)) (fun _ _ _ => rfl)
theorem cd_W_p8_6 {G : cd_G} {h : cd_Hp} {q : Nat} {v : Int32} (hq : cd_is 8 q) : (cd_W G h).set q (G.2.2.2.2 + q, .inr (8, (cd_fs8 G.2.2.2.2 h q).set 6 (.int v))) = cd_W G (cd_u h q 6 v) :=
  cd_W_set (kn := (8, 0)) hq (by simp [cd_en, cd_fs8, cd_g, cd_u]) (fun r k hr => cd_g_un (fun z => hr z.1)) (fun _ _ _ => rfl)
theorem cd_W_p8_9 {G : cd_G} {h : cd_Hp} {q : Nat} {v : Int32} (hq : cd_is 8 q) : (cd_W G h).set q (G.2.2.2.2 + q, .inr (8, (cd_fs8 G.2.2.2.2 h q).set 9 (.int v))) = cd_W G (cd_u h q 9 v) :=
  cd_W_set (kn := (8, 0)) hq (by simp [cd_en, cd_fs8, cd_g, cd_u]) (fun r k hr => cd_g_un (fun z => hr z.1)) (fun _ _ _ => rfl)
theorem cd_W_p8_14 {G : cd_G} {h : cd_Hp} {q : Nat} {v : Int32} (hq : cd_is 8 q) : (cd_W G h).set q (G.2.2.2.2 + q, .inr (8, (cd_fs8 G.2.2.2.2 h q).set 14 (.int v))) = cd_W G (cd_u h q 14 v) :=
  cd_W_set (kn := (8, 0)) hq (by simp [cd_en, cd_fs8, cd_g, cd_u]) (fun r k hr => cd_g_un (fun z => hr z.1)) (fun _ _ _ => rfl)
theorem cd_W_p8_15 {G : cd_G} {h : cd_Hp} {q : Nat} {v : Int32} (hq : cd_is 8 q) : (cd_W G h).set q (G.2.2.2.2 + q, .inr (8, (cd_fs8 G.2.2.2.2 h q).set 15 (.int v))) = cd_W G (cd_u h q 15 v) :=
  cd_W_set (kn := (8, 0)) hq (by simp [cd_en, cd_fs8, cd_g, cd_u]) (fun r k hr => cd_g_un (fun z => hr z.1)) (fun _ _ _ => rfl)
theorem cd_W_p8_16 {G : cd_G} {h : cd_Hp} {q : Nat} {v : Int32} (hq : cd_is 8 q) : (cd_W G h).set q (G.2.2.2.2 + q, .inr (8, (cd_fs8 G.2.2.2.2 h q).set 16 (.int v))) = cd_W G (cd_u h q 16 v) :=
  cd_W_set (kn := (8, 0)) hq (by simp [cd_en, cd_fs8, cd_g, cd_u]) (fun r k hr => cd_g_un (fun z => hr z.1)) (fun _ _ _ => rfl)
theorem cd_W_p8_17 {G : cd_G} {h : cd_Hp} {v : Int64} : (cd_W G h).set 404 (G.2.2.2.2 + 404, .inr (8, (cd_fs8 G.2.2.2.2 h 404).set 17 (.long v))) = cd_W G (cd_ul h v) :=
  cd_W_set (kn := (8, 0)) (by decide +kernel) (by simp [cd_en, cd_fs8, cd_g, cd_ul]) (fun r k hr => rfl) (fun r hr h8 => absurd h8 (by
    by_cases hl : r < 416
    · exact cd_only8 r hl hr
    · rw [List.getD_eq_getElem?_getD, List.getElem?_eq_none (by rw [cd_tb_len]; omega)]; decide))
/-- an index that fits -/
def cd_ix (i : Int32) (n : Nat) : Bool := decide (0 ≤ i.toInt) && decide (i.toInt < (n : Int))
theorem cd_ix_in {i : Int32} {n : Nat} (h : cd_ix i n = true) : vp_in i n := by
  unfold cd_ix at h
  rw [Bool.and_eq_true, decide_eq_true_eq, decide_eq_true_eq] at h
  exact vp_in_iff.mpr h
theorem cd_ix_lt {i : Int32} {n : Nat} (h : cd_ix i n = true) : i.toNatClampNeg < n := Nat.not_le.mp fun z => cd_ix_in h (Or.inr z)
theorem cd_r9 {q : Nat} {i : Int32} (h : cd_is 9 q) (hi : cd_ix i 6 = true) : cd_is 0 (q + 8 + 7 * i.toNatClampNeg) := cd_r9_all q h.lt h _ (cd_ix_lt hi)
theorem cd_r10 {q : Nat} {i : Int32} (h : cd_is 10 q) (hi : cd_ix i 6 = true) : cd_is 4 (q + 1 + 56 * i.toNatClampNeg) := cd_r10_all q h.lt h _ (cd_ix_lt hi)
/-- 0 or 1 -/
def cd_bo (v : Int32) : Bool := decide (v = 0) || decide (v = 1)
theorem cd_bo_nar {v : Int32} (h : cd_bo v = true) : narrow .boolean (.int v) = .int v := by
  unfold cd_bo at h
  rw [Bool.or_eq_true, decide_eq_true_eq, decide_eq_true_eq] at h
  rcases h with rfl | rfl <;> rfl
theorem cd_bo_fit {v : Int32} (h : cd_bo v = true) : fits .boolean (.int v) = true := by
  unfold cd_bo at h
  rw [Bool.or_eq_true, decide_eq_true_eq, decide_eq_true_eq] at h
  rcases h with rfl | rfl <;> rfl
/-- what a copy of ints needs -/
def cd_cq (sp dp n : Int32) (n0 n1 : Nat) : Bool := !decide (sp < 0) && (!decide (dp < 0) && (!decide (n < 0) && (decide (sp.toNatClampNeg + n.toNatClampNeg ≤ n0) && decide (dp.toNatClampNeg + n.toNatClampNeg ≤ n1))))
/-- the steps of a pure function: a check, a name, a call -/
def cd_ck {α : Type} (b : Bool) (x : Option α) : Option α := if b = true then x else none
def cd_nm {α β : Type} (v : α) (f : α → β) : β := f v
def cd_b {α β : Type} (x : Option α) (f : α → Option β) : Option β := match x with | none => none | some a => f a
theorem cd_ckE {α : Type} {b : Bool} {x : Option α} {o : α} (h : cd_ck b x = some o) : b = true ∧ x = some o := by
  unfold cd_ck at h
  by_cases hb : b = true
  · rw [if_pos hb] at h; exact ⟨hb, h⟩
  · rw [if_neg hb] at h; cases h
theorem cd_nmE {α β : Type} {v : α} {f : α → β} {o : β} (h : cd_nm v f = o) : ∃ y, y = v ∧ f y = o := ⟨v, rfl, h⟩
theorem cd_bE {α β : Type} {x : Option α} {f : α → Option β} {o : β} (h : cd_b x f = some o) : ∃ a, x = some a ∧ f a = some o := by
  cases x with
  | none => cases h
  | some a => exact ⟨a, rfl, h⟩
theorem cd_tE {α : Type} {p : Prop} [Decidable p] {x y o : α} (c : p) (h : (if p then x else y) = o) : x = o := by rw [if_pos c] at h; exact h
theorem cd_fE {α : Type} {p : Prop} [Decidable p] {x y o : α} (c : ¬ p) (h : (if p then x else y) = o) : y = o := by rw [if_neg c] at h; exact h
