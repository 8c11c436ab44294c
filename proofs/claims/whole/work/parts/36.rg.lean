-- ROWS THAT ARE ALIKE BUT FOR THE PLACES FROM a TO b
def cd_up (A : Nat → Int32) (j : Nat) (v : Int32) : Nat → Int32 := fun k => if k = j then v else A k
theorem cd_upE {A : Nat → Int32} {j k : Nat} {v : Int32} (h : k = j) : cd_up A j v k = v := if_pos h
theorem cd_upN {A : Nat → Int32} {j k : Nat} {v : Int32} (h : k ≠ j) : cd_up A j v k = A k := if_neg h
section RG
variable {A B : Nat → Int32} {a b : Nat}
def cd_al (A B : Nat → Int32) (a b : Nat) : Prop := ∀ k, k < 659 → (k < a ∨ b ≤ k) → B k = A k
theorem cd_al.up {A : Nat → Int32} {j : Nat} {v : Int32} : cd_al A (cd_up A j v) j (j + 1) := fun k _ hk => cd_upN (by omega)
theorem cd_al.tr {C : Nat → Int32} (x : cd_al A B a b) (y : cd_al B C a b) : cd_al A C a b := fun k h1 h2 => (y k h1 h2).trans (x k h1 h2)
theorem cd_al.wide {a' b' : Nat} (x : cd_al A B a b) (h1 : a' ≤ a) (h2 : b ≤ b') : cd_al A B a' b' := fun k z1 z2 => x k z1 (by omega)
theorem cd_n.rg (e : cd_al A B a b) {k : Nat} (hk : k < 659) (h2 : k < a ∨ b ≤ k) : cd_n B k = cd_n A k := by unfold cd_n; rw [e k hk h2]
theorem cd_num.rg (e : cd_al A B a b) {k m : Nat} (hk : k < 659) (h2 : k < a ∨ b ≤ k) (h : cd_num A k m) : cd_num B k m := by
  unfold cd_num; rw [e k hk h2, cd_n.rg e hk h2]; exact h
theorem cd_S6.rg (e : cd_al A B a b) {o : Nat} (ha : o + 5 < 659) (h2 : o + 5 < a ∨ b ≤ o) : cd_S6 B o = cd_S6 A o := by
  unfold cd_S6
  rw [cd_n.rg e (by omega) (by omega), cd_n.rg e (by omega) (by omega), cd_n.rg e (by omega) (by omega), cd_n.rg e (by omega) (by omega), cd_n.rg e (by omega) (by omega), cd_n.rg e (by omega) (by omega)]
theorem cd_OkG.rg (e : cd_al A B a b) {o : Nat} (ho : o + 58 ≤ 419) (hab : o + 58 ≤ a ∨ b ≤ o) (h9 : 9 < a ∨ b ≤ 9) (h426 : 426 < a ∨ b ≤ 426) (h : cd_OkG o A) : cd_OkG o B := by
  obtain ⟨⟨h0, h0'⟩, ⟨h1, h1'⟩, h2, h3, h4, ⟨h5, h5'⟩, ⟨h6, h6'⟩, ⟨h7, h7'⟩, ⟨h8, h8'⟩, h9', h10, h11, h12, h13, h14, h15⟩ := h
  have h5l := h5.2
  unfold cd_OkG
  rw [cd_n.rg e (k := o) (by omega) (by omega), cd_n.rg e (k := 9) (by omega) (by omega), cd_n.rg e (k := o + 1) (by omega) (by omega), cd_n.rg e (k := o + 5) (by omega) (by omega), cd_n.rg e (k := o + 6) (by omega) (by omega), cd_n.rg e (k := o + 7) (by omega) (by omega), cd_n.rg e (k := o + 8) (by omega) (by omega), cd_n.rg e (k := 426) (by omega) (by omega), cd_S6.rg e (o := o + 46) (by omega) (by omega), cd_S6.rg e (o := o + 52) (by omega) (by omega)]
  refine ⟨⟨h0.rg e (by omega) (by omega), h0'⟩, ⟨h1.rg e (by omega) (by omega), h1'⟩, h2.rg e (by omega) (by omega), h3.rg e (by omega) (by omega), h4.rg e (by omega) (by omega), ⟨h5.rg e (by omega) (by omega), h5'⟩, ⟨h6.rg e (by omega) (by omega), h6'⟩, ⟨h7.rg e (by omega) (by omega), h7'⟩, ⟨h8.rg e (by omega) (by omega), h8'⟩, h9'.rg e (by omega) (by omega), fun i hi => ?_, fun k hk => (h11 k hk).rg e (by omega) (by omega), fun t ht => ⟨(h12 t ht).1.rg e (by omega) (by omega), (h12 t ht).2.rg e (by omega) (by omega)⟩, h13, h14, fun i hi => ?_⟩
  · obtain ⟨y1, y2, y3⟩ := h10 i hi
    exact ⟨y1.rg e (by omega) (by omega), y2.rg e (by omega) (by omega), y3.imp (fun z => by rw [e _ (by omega) (by omega)]; exact z) (fun z => z.rg e (by omega) (by omega))⟩
  · rw [cd_S6.rg e (by omega) (by omega)]; exact h15 i hi
theorem cd_OkT.rg (e : cd_al A B a b) (hab : b ≤ 9 ∨ 70 ≤ a) (h : cd_OkT A) : cd_OkT B := by
  obtain ⟨⟨t1, t1'⟩, ⟨t2, t2'⟩, t3, t4⟩ := h
  have tl := t1.2
  unfold cd_OkT
  rw [cd_n.rg e (k := 9) (by omega) (by omega)]
  refine ⟨⟨t1.rg e (by omega) (by omega), t1'⟩, ⟨by rw [e 10 (by omega) (by omega)]; exact t2, by rw [e 11 (by omega) (by omega)]; exact t2'⟩, fun t w1 w2 => ?_, fun t ht => ⟨(t4 t ht).1.rg e (by omega) (by omega), fun k hk => ((t4 t ht).2 k hk).rg e (by omega) (by omega)⟩⟩
  rw [cd_n.rg e (by omega) (by omega)]
  exact ⟨(t3 t w1 w2).1.rg e (by omega) (by omega), (t3 t w1 w2).2⟩
theorem cd_OkQ.rg (e : cd_al A B a b) (h70 : cd_n A 70 ≤ 6) (hab : b ≤ 419 ∨ 426 ≤ a) (hz : b ≤ 70 ∨ 71 ≤ a) (hp : ∀ i, i < cd_n A 419 → (71 + 58 * cd_n A (420 + i) + 2 < a ∨ b ≤ 71 + 58 * cd_n A (420 + i) + 2)) (h : cd_OkQ A) : cd_OkQ B := by
  obtain ⟨q1, q2, q3⟩ := h
  have ql := q1.2
  unfold cd_OkQ
  rw [cd_n.rg e (k := 419) (by omega) (by omega), cd_n.rg e (k := 70) (by omega) (by omega)]
  refine ⟨q1.rg e (by omega) (by omega), fun i hi => ?_, fun i j w1 w2 => ?_⟩
  · obtain ⟨z1, z2, z3⟩ := q2 i hi
    rw [cd_n.rg e (by omega) (by omega), e _ (by omega) (hp i hi)]
    exact ⟨z1.rg e (by omega) (by omega), z2, z3⟩
  · rw [cd_n.rg e (by omega) (by omega), cd_n.rg e (by omega) (by omega)]; exact q3 i j w1 w2
theorem cd_ct.rg (e : cd_al A B a b) (hab : b ≤ 426) {d : Nat} : ∀ w, w ≤ 64 → cd_ct B d w = cd_ct A d w := by
  intro w
  induction w with
  | zero => intro _; rfl
  | succ w ih => intro h; unfold cd_ct; rw [ih (by omega), cd_n.rg e (by omega) (by omega)]
theorem cd_OkS.rg {τ : Nat} (e : cd_al A B a b) (hab : b ≤ 426) (h : cd_OkS A τ) : cd_OkS B τ := by
  obtain ⟨s1, s2, s3, ⟨s4, s4'⟩, ⟨s5, s5'⟩, s6⟩ := h
  have kl := s4.2
  have wl := s5.2
  unfold cd_OkS
  rw [cd_n.rg e (k := 426) (by omega) (by omega), cd_n.rg e (k := 429) (by omega) (by omega), cd_n.rg e (k := 466) (by omega) (by omega)]
  refine ⟨s1.rg e (by omega) (by omega), s2.rg e (by omega) (by omega), s3.rg e (by omega) (by omega), ⟨s4.rg e (by omega) (by omega), fun i hi => ?_⟩, ⟨s5.rg e (by omega) (by omega), fun i hi => ?_⟩, fun j hj => ?_⟩
  · obtain ⟨z1, z2, z3⟩ := s4' i hi
    exact ⟨z1.rg e (by omega) (by omega), z2.rg e (by omega) (by omega), z3.rg e (by omega) (by omega)⟩
  · obtain ⟨z1, z2⟩ := s5' i hi
    exact ⟨z1.rg e (by omega) (by omega), z2.rg e (by omega) (by omega)⟩
  · rw [cd_ct.rg e (by omega) _ (by omega)]; exact s6 j hj
end RG
theorem cd_num.put {A : Nat → Int32} {k v m : Nat} (hv : v ≤ m) (hm : m < 2147483648) : cd_num (cd_up A k (nI v)) k m := cd_numI (cd_upE rfl) hv hm
theorem cd_n_up {A : Nat → Int32} {k v : Nat} (hv : v < 2147483648) : cd_n (cd_up A k (nI v)) k = v := cd_n_nI (cd_upE rfl) hv
