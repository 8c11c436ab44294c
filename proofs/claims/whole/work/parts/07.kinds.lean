/-- the cells of a State: kind (0 .. 8: class X0 .. X8; 9: Group[]; 10: State[]; 11: int[]) and length -/
def cd_bk : List (Nat × Nat) := [(4, 0), (11, 8), (5, 0), (11, 6), (11, 6), (11, 48), (9, 0), (11, 6), (2, 0), (11, 64), (11, 64), (11, 12), (11, 12), (11, 12), (0, 0), (11, 4), (11, 4), (11, 4), (11, 24), (11, 6), (11, 6), (0, 0), (11, 4), (11, 4), (11, 4), (11, 24), (11, 6), (11, 6), (0, 0), (11, 4), (11, 4), (11, 4), (11, 24), (11, 6), (11, 6), (0, 0), (11, 4), (11, 4), (11, 4), (11, 24), (11, 6), (11, 6), (0, 0), (11, 4), (11, 4), (11, 4), (11, 24), (11, 6), (11, 6), (0, 0), (11, 4), (11, 4), (11, 4), (11, 24), (11, 6), (11, 6)]
def cd_tb : List (Nat × Nat) := [(7, 0), (3, 0), (11, 4), (11, 4)] ++ cd_bk ++ [(1, 0), (10, 0)] ++ cd_bk ++ cd_bk ++ cd_bk ++ cd_bk ++ cd_bk ++ cd_bk ++ [(6, 0), (11, 120), (11, 40), (11, 40), (11, 320), (11, 3), (8, 0), (11, 659), (11, 659), (11, 3295), (11, 3), (11, 120), (11, 4), (11, 4), (11, 4), (11, 60), (11, 61), (11, 128)]
theorem cd_tb_len : cd_tb.length = 416 := by decide +kernel
def cd_is (k q : Nat) : Prop := cd_tb[q]? = some (k, 0)
def cd_ar (n q : Nat) : Prop := cd_tb[q]? = some (11, n)
def cd_ln (q : Nat) : Nat := (cd_tb.getD q (0, 0)).2
theorem cd_is.lt {k q : Nat} (h : cd_is k q) : q < 416 := by rw [← cd_tb_len]; exact (List.getElem?_eq_some_iff.mp h).1
theorem cd_ar.lt {n q : Nat} (h : cd_ar n q) : q < 416 := by rw [← cd_tb_len]; exact (List.getElem?_eq_some_iff.mp h).1
theorem cd_ar.ln {n q : Nat} (h : cd_ar n q) : cd_ln q = n := by unfold cd_ar at h; unfold cd_ln; rw [List.getD_eq_getElem?_getD, h]; rfl
theorem cd_ar.self {n q : Nat} (h : cd_ar n q) : cd_ar (cd_ln q) q := by rw [h.ln]; exact h
theorem cd_r0_10_all : ∀ q, q < 416 → cd_tb[q]? = some (0, 0) → cd_tb[q + 1]? = some (11, 4) := by decide +kernel
theorem cd_r0_10 {q : Nat} (h : cd_is 0 q) : cd_ar 4 (q + 1) := cd_r0_10_all q h.lt h
theorem cd_r0_11_all : ∀ q, q < 416 → cd_tb[q]? = some (0, 0) → cd_tb[q + 2]? = some (11, 4) := by decide +kernel
theorem cd_r0_11 {q : Nat} (h : cd_is 0 q) : cd_ar 4 (q + 2) := cd_r0_11_all q h.lt h
theorem cd_r0_12_all : ∀ q, q < 416 → cd_tb[q]? = some (0, 0) → cd_tb[q + 3]? = some (11, 4) := by decide +kernel
theorem cd_r0_12 {q : Nat} (h : cd_is 0 q) : cd_ar 4 (q + 3) := cd_r0_12_all q h.lt h
theorem cd_r0_13_all : ∀ q, q < 416 → cd_tb[q]? = some (0, 0) → cd_tb[q + 4]? = some (11, 24) := by decide +kernel
theorem cd_r0_13 {q : Nat} (h : cd_is 0 q) : cd_ar 24 (q + 4) := cd_r0_13_all q h.lt h
theorem cd_r0_14_all : ∀ q, q < 416 → cd_tb[q]? = some (0, 0) → cd_tb[q + 5]? = some (11, 6) := by decide +kernel
theorem cd_r0_14 {q : Nat} (h : cd_is 0 q) : cd_ar 6 (q + 5) := cd_r0_14_all q h.lt h
theorem cd_r0_15_all : ∀ q, q < 416 → cd_tb[q]? = some (0, 0) → cd_tb[q + 6]? = some (11, 6) := by decide +kernel
theorem cd_r0_15 {q : Nat} (h : cd_is 0 q) : cd_ar 6 (q + 6) := cd_r0_15_all q h.lt h
theorem cd_r1_2_all : ∀ q, q < 416 → cd_tb[q]? = some (1, 0) → cd_tb[q + 1]? = some (10, 0) := by decide +kernel
theorem cd_r1_2 {q : Nat} (h : cd_is 1 q) : cd_is 10 (q + 1) := cd_r1_2_all q h.lt h
theorem cd_r2_3_all : ∀ q, q < 416 → cd_tb[q]? = some (2, 0) → cd_tb[q + 1]? = some (11, 64) := by decide +kernel
theorem cd_r2_3 {q : Nat} (h : cd_is 2 q) : cd_ar 64 (q + 1) := cd_r2_3_all q h.lt h
theorem cd_r2_4_all : ∀ q, q < 416 → cd_tb[q]? = some (2, 0) → cd_tb[q + 2]? = some (11, 64) := by decide +kernel
theorem cd_r2_4 {q : Nat} (h : cd_is 2 q) : cd_ar 64 (q + 2) := cd_r2_4_all q h.lt h
theorem cd_r2_5_all : ∀ q, q < 416 → cd_tb[q]? = some (2, 0) → cd_tb[q + 3]? = some (11, 12) := by decide +kernel
theorem cd_r2_5 {q : Nat} (h : cd_is 2 q) : cd_ar 12 (q + 3) := cd_r2_5_all q h.lt h
theorem cd_r2_6_all : ∀ q, q < 416 → cd_tb[q]? = some (2, 0) → cd_tb[q + 4]? = some (11, 12) := by decide +kernel
theorem cd_r2_6 {q : Nat} (h : cd_is 2 q) : cd_ar 12 (q + 4) := cd_r2_6_all q h.lt h
theorem cd_r2_7_all : ∀ q, q < 416 → cd_tb[q]? = some (2, 0) → cd_tb[q + 5]? = some (11, 12) := by decide +kernel
theorem cd_r2_7 {q : Nat} (h : cd_is 2 q) : cd_ar 12 (q + 5) := cd_r2_7_all q h.lt h
theorem cd_r3_2_all : ∀ q, q < 416 → cd_tb[q]? = some (3, 0) → cd_tb[q + 1]? = some (11, 4) := by decide +kernel
theorem cd_r3_2 {q : Nat} (h : cd_is 3 q) : cd_ar 4 (q + 1) := cd_r3_2_all q h.lt h
theorem cd_r3_3_all : ∀ q, q < 416 → cd_tb[q]? = some (3, 0) → cd_tb[q + 2]? = some (11, 4) := by decide +kernel
theorem cd_r3_3 {q : Nat} (h : cd_is 3 q) : cd_ar 4 (q + 2) := cd_r3_3_all q h.lt h
theorem cd_r4_5_all : ∀ q, q < 416 → cd_tb[q]? = some (4, 0) → cd_tb[q + 1]? = some (11, 8) := by decide +kernel
theorem cd_r4_5 {q : Nat} (h : cd_is 4 q) : cd_ar 8 (q + 1) := cd_r4_5_all q h.lt h
theorem cd_r4_6_all : ∀ q, q < 416 → cd_tb[q]? = some (4, 0) → cd_tb[q + 2]? = some (5, 0) := by decide +kernel
theorem cd_r4_6 {q : Nat} (h : cd_is 4 q) : cd_is 5 (q + 2) := cd_r4_6_all q h.lt h
theorem cd_r4_7_all : ∀ q, q < 416 → cd_tb[q]? = some (4, 0) → cd_tb[q + 6]? = some (9, 0) := by decide +kernel
theorem cd_r4_7 {q : Nat} (h : cd_is 4 q) : cd_is 9 (q + 6) := cd_r4_7_all q h.lt h
theorem cd_r4_8_all : ∀ q, q < 416 → cd_tb[q]? = some (4, 0) → cd_tb[q + 7]? = some (11, 6) := by decide +kernel
theorem cd_r4_8 {q : Nat} (h : cd_is 4 q) : cd_ar 6 (q + 7) := cd_r4_8_all q h.lt h
theorem cd_r4_9_all : ∀ q, q < 416 → cd_tb[q]? = some (4, 0) → cd_tb[q + 8]? = some (2, 0) := by decide +kernel
theorem cd_r4_9 {q : Nat} (h : cd_is 4 q) : cd_is 2 (q + 8) := cd_r4_9_all q h.lt h
theorem cd_r4_10_all : ∀ q, q < 416 → cd_tb[q]? = some (4, 0) → cd_tb[1]? = some (3, 0) := by decide +kernel
theorem cd_r4_10 {q : Nat} (h : cd_is 4 q) : cd_is 3 (1) := cd_r4_10_all q h.lt h
theorem cd_r5_1_all : ∀ q, q < 416 → cd_tb[q]? = some (5, 0) → cd_tb[q + 1]? = some (11, 6) := by decide +kernel
theorem cd_r5_1 {q : Nat} (h : cd_is 5 q) : cd_ar 6 (q + 1) := cd_r5_1_all q h.lt h
theorem cd_r5_2_all : ∀ q, q < 416 → cd_tb[q]? = some (5, 0) → cd_tb[q + 2]? = some (11, 6) := by decide +kernel
theorem cd_r5_2 {q : Nat} (h : cd_is 5 q) : cd_ar 6 (q + 2) := cd_r5_2_all q h.lt h
theorem cd_r5_3_all : ∀ q, q < 416 → cd_tb[q]? = some (5, 0) → cd_tb[q + 3]? = some (11, 48) := by decide +kernel
theorem cd_r5_3 {q : Nat} (h : cd_is 5 q) : cd_ar 48 (q + 3) := cd_r5_3_all q h.lt h
theorem cd_r6_2_all : ∀ q, q < 416 → cd_tb[q]? = some (6, 0) → cd_tb[q + 1]? = some (11, 120) := by decide +kernel
theorem cd_r6_2 {q : Nat} (h : cd_is 6 q) : cd_ar 120 (q + 1) := cd_r6_2_all q h.lt h
theorem cd_r6_3_all : ∀ q, q < 416 → cd_tb[q]? = some (6, 0) → cd_tb[q + 2]? = some (11, 40) := by decide +kernel
theorem cd_r6_3 {q : Nat} (h : cd_is 6 q) : cd_ar 40 (q + 2) := cd_r6_3_all q h.lt h
theorem cd_r6_4_all : ∀ q, q < 416 → cd_tb[q]? = some (6, 0) → cd_tb[q + 3]? = some (11, 40) := by decide +kernel
theorem cd_r6_4 {q : Nat} (h : cd_is 6 q) : cd_ar 40 (q + 3) := cd_r6_4_all q h.lt h
theorem cd_r6_5_all : ∀ q, q < 416 → cd_tb[q]? = some (6, 0) → cd_tb[q + 4]? = some (11, 320) := by decide +kernel
theorem cd_r6_5 {q : Nat} (h : cd_is 6 q) : cd_ar 320 (q + 4) := cd_r6_5_all q h.lt h
theorem cd_r7_0_all : ∀ q, q < 416 → cd_tb[q]? = some (7, 0) → cd_tb[4]? = some (4, 0) := by decide +kernel
theorem cd_r7_0 {q : Nat} (h : cd_is 7 q) : cd_is 4 (4) := cd_r7_0_all q h.lt h
theorem cd_r7_1_all : ∀ q, q < 416 → cd_tb[q]? = some (7, 0) → cd_tb[60]? = some (1, 0) := by decide +kernel
theorem cd_r7_1 {q : Nat} (h : cd_is 7 q) : cd_is 1 (60) := cd_r7_1_all q h.lt h
theorem cd_r7_2_all : ∀ q, q < 416 → cd_tb[q]? = some (7, 0) → cd_tb[398]? = some (6, 0) := by decide +kernel
theorem cd_r7_2 {q : Nat} (h : cd_is 7 q) : cd_is 6 (398) := cd_r7_2_all q h.lt h
theorem cd_r7_3_all : ∀ q, q < 416 → cd_tb[q]? = some (7, 0) → cd_tb[403]? = some (11, 3) := by decide +kernel
theorem cd_r7_3 {q : Nat} (h : cd_is 7 q) : cd_ar 3 (403) := cd_r7_3_all q h.lt h
theorem cd_r8_0_all : ∀ q, q < 416 → cd_tb[q]? = some (8, 0) → cd_tb[405]? = some (11, 659) := by decide +kernel
theorem cd_r8_0 {q : Nat} (h : cd_is 8 q) : cd_ar 659 (405) := cd_r8_0_all q h.lt h
theorem cd_r8_1_all : ∀ q, q < 416 → cd_tb[q]? = some (8, 0) → cd_tb[406]? = some (11, 659) := by decide +kernel
theorem cd_r8_1 {q : Nat} (h : cd_is 8 q) : cd_ar 659 (406) := cd_r8_1_all q h.lt h
theorem cd_r8_2_all : ∀ q, q < 416 → cd_tb[q]? = some (8, 0) → cd_tb[407]? = some (11, 3295) := by decide +kernel
theorem cd_r8_2 {q : Nat} (h : cd_is 8 q) : cd_ar 3295 (407) := cd_r8_2_all q h.lt h
theorem cd_r8_4_all : ∀ q, q < 416 → cd_tb[q]? = some (8, 0) → cd_tb[408]? = some (11, 3) := by decide +kernel
theorem cd_r8_4 {q : Nat} (h : cd_is 8 q) : cd_ar 3 (408) := cd_r8_4_all q h.lt h
theorem cd_r8_5_all : ∀ q, q < 416 → cd_tb[q]? = some (8, 0) → cd_tb[409]? = some (11, 120) := by decide +kernel
theorem cd_r8_5 {q : Nat} (h : cd_is 8 q) : cd_ar 120 (409) := cd_r8_5_all q h.lt h
theorem cd_r8_7_all : ∀ q, q < 416 → cd_tb[q]? = some (8, 0) → cd_tb[410]? = some (11, 4) := by decide +kernel
theorem cd_r8_7 {q : Nat} (h : cd_is 8 q) : cd_ar 4 (410) := cd_r8_7_all q h.lt h
theorem cd_r8_8_all : ∀ q, q < 416 → cd_tb[q]? = some (8, 0) → cd_tb[411]? = some (11, 4) := by decide +kernel
theorem cd_r8_8 {q : Nat} (h : cd_is 8 q) : cd_ar 4 (411) := cd_r8_8_all q h.lt h
theorem cd_r8_10_all : ∀ q, q < 416 → cd_tb[q]? = some (8, 0) → cd_tb[412]? = some (11, 4) := by decide +kernel
theorem cd_r8_10 {q : Nat} (h : cd_is 8 q) : cd_ar 4 (412) := cd_r8_10_all q h.lt h
theorem cd_r8_11_all : ∀ q, q < 416 → cd_tb[q]? = some (8, 0) → cd_tb[413]? = some (11, 60) := by decide +kernel
theorem cd_r8_11 {q : Nat} (h : cd_is 8 q) : cd_ar 60 (413) := cd_r8_11_all q h.lt h
theorem cd_r8_12_all : ∀ q, q < 416 → cd_tb[q]? = some (8, 0) → cd_tb[414]? = some (11, 61) := by decide +kernel
theorem cd_r8_12 {q : Nat} (h : cd_is 8 q) : cd_ar 61 (414) := cd_r8_12_all q h.lt h
theorem cd_r8_13_all : ∀ q, q < 416 → cd_tb[q]? = some (8, 0) → cd_tb[415]? = some (11, 128) := by decide +kernel
theorem cd_r8_13 {q : Nat} (h : cd_is 8 q) : cd_ar 128 (415) := cd_r8_13_all q h.lt h
theorem cd_r9_all : ∀ q, q < 416 → cd_tb[q]? = some (9, 0) → ∀ i, i < 6 → cd_tb[q + 8 + 7 * i]? = some (0, 0) := by decide +kernel
theorem cd_r10_all : ∀ q, q < 416 → cd_tb[q]? = some (10, 0) → ∀ i, i < 6 → cd_tb[q + 1 + 56 * i]? = some (4, 0) := by decide +kernel

