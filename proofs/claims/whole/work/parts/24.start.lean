/-! ===== what the law's start gives ===== -/
def ks_nw : List Cond := flatC (Jvm.Cond.and given_1 narrow_1)
def ks_on : List String := ["TABLE", "FLIP", "ONE", "COUNT", "SUM", "LEAST", "MIDDLE", "MOST", "LOOP", "JOIN", "ADD", "LESS", "BOTH", "WHERE"]
def ks_op (i : Nat) : Term := .static "KeptAnswers$Op" (ks_on.getD i "") "LKeptAnswers$Op;"
def ks_st (i : Nat) : Term := if i < 14 then .string "KeptAnswers$Op" (([74, 80, 83, 86, 89, 92, 95, 98, 101, 104, 107, 110, 113, 116] : List Nat).getD i 0) else .string "KeptAnswers$Condition" (([40, 55, 61, 105, 107] : List Nat).getD (i - 14) 0)
def ks_vl (i : Nat) : Term := .field (ks_st i) "java/lang/String" "value" "[B"
def ks_all : Term := .static "KeptAnswers$Op" "ALL" "[LKeptAnswers$Op;"
def ks_sw : Term := .static "KeptAnswers$1" "$SwitchMap$KeptAnswers$Op" "[I"
def ks_tm (i : Nat) : Term := if i < 14 then ks_op i else if i < 20 then .arg 0 else if i < 39 then ks_st (i - 20) else if i < 60 then .arg 0 else if i < 79 then ks_vl (i - 60) else if i < 90 then .arg 0 else if i = 90 then ks_all else if i = 91 then ks_sw else .arg 0
def ks_x1 : List (List Nat) := [[4, 5, 6, 7, 15, 254], [268, 269, 270, 271, 16, 255], [275, 276, 277, 278, 17, 256], [313, 314, 315, 316, 18, 257], [325, 326, 327, 328, 19, 258], [338, 339, 340, 341, 20, 259], [352, 353, 354, 355, 21, 260], [367, 368, 369, 370, 22, 261], [245, 246, 247, 248, 23, 262], [302, 303, 304, 305, 24, 263], [283, 284, 285, 286, 25, 264], [292, 293, 294, 295, 26, 265], [383, 384, 385, 386, 27, 266], [34, 35, 36, 37, 28, 267]]
def ks_x2 : List (List Nat) := [[0, 272, 279, 317, 329, 342, 356, 371, 249, 306, 287, 296, 387, 38], [272, 0, 282, 320, 332, 345, 359, 374, 274, 309, 290, 299, 390, 273], [279, 282, 0, 321, 333, 346, 360, 375, 281, 310, 291, 300, 391, 280], [317, 320, 321, 0, 337, 350, 364, 379, 319, 324, 322, 323, 395, 318], [329, 332, 333, 337, 0, 351, 365, 380, 331, 336, 334, 335, 396, 330], [342, 345, 346, 350, 351, 0, 366, 381, 344, 349, 347, 348, 397, 343], [356, 359, 360, 364, 365, 366, 0, 382, 358, 363, 361, 362, 398, 357], [371, 374, 375, 379, 380, 381, 382, 0, 373, 378, 376, 377, 399, 372], [249, 274, 281, 319, 331, 344, 358, 373, 0, 308, 289, 298, 389, 250], [306, 309, 310, 324, 336, 349, 363, 378, 308, 0, 311, 312, 394, 307], [287, 290, 291, 322, 334, 347, 361, 376, 289, 311, 0, 301, 392, 288], [296, 299, 300, 323, 335, 348, 362, 377, 298, 312, 301, 0, 393, 297], [387, 390, 391, 395, 396, 397, 398, 399, 389, 394, 392, 393, 0, 388], [38, 273, 280, 318, 330, 343, 357, 372, 250, 307, 288, 297, 388, 0]]
def ks_x3 : List (List Nat) := [[828, 829, 830, 831, 832], [850, 851, 852, 853, 854, 855, 856, 857], [858, 859, 860, 861, 862, 863, 864], [888, 889, 890, 891, 892, 893, 894, 895, 896], [897, 898, 899, 900, 901, 902, 903], [904, 905, 906, 907, 908, 909, 910, 911, 912], [913, 914, 915, 916, 917, 918, 919, 920, 921, 922], [923, 924, 925, 926, 927, 928, 929, 930], [842, 843, 844, 845, 846, 847, 848, 849], [880, 881, 882, 883, 884, 885, 886, 887], [865, 866, 867, 868, 869, 870, 871], [872, 873, 874, 875, 876, 877, 878, 879], [931, 932, 933, 934, 935, 936, 937, 938], [833, 834, 835, 836, 837, 838, 839, 840, 841], [662, 663, 664, 665, 666, 667], [655, 656, 657, 658, 659, 660, 661], [638, 639, 640, 641, 642, 643, 644], [645, 646, 647, 648, 649], [650, 651, 652, 653, 654]]
def ks_x8 : List (List Nat) := [[0, 409, 458, 442], [425, 0, 457, 441], [431, 415, 0, 447], [426, 410, 459, 0]]
def ks_x4 : List Nat := [12, 13, 252, 253, 29, 30, 8, 9]
def ks_x6 : List Nat := [464, 481, 496, 516, 545, 561, 588, 607, 675, 695, 711, 738, 768, 786, 804]
def ks_h (i : Nat) (w : Cond) : Bool := decide (ks_nw[i]? = some w)
theorem ks_hm {i : Nat} {w : Cond} (h : ks_h i w = true) : w ∈ ks_nw := List.mem_of_getElem? (of_decide_eq_true h)
def ks_y (x : List (List Nat)) (i j : Nat) : Nat := (x.getD i []).getD j 0
theorem ks_1h : ∀ i, i < 14 → (ks_h (ks_y ks_x1 i 0) (.exactly (ks_op i) "KeptAnswers$Op") && ks_h (ks_y ks_x1 i 1) (.eq (.field (ks_op i) "java/lang/Enum" "ordinal" "I") (.int (Int32.ofNat i))) && ks_h (ks_y ks_x1 i 2) (.eq (.field (ks_op i) "KeptAnswers$Op" "word" "Ljava/lang/String;") (ks_st i)) && ks_h (ks_y ks_x1 i 3) (.eq (.field (ks_op i) "KeptAnswers$Op" "operands" "I") (.int (ka_opnd.getD i 0))) && ks_h (ks_y ks_x1 i 4) (.eq (.elem ks_all (.int (Int32.ofNat i))) (ks_op i)) && ks_h (ks_y ks_x1 i 5) (.eq (.elem ks_sw (.int (Int32.ofNat i))) (.int (ka_swm.getD i 0)))) = true := by decide +kernel
theorem ks_1 (i : Nat) (h : i < 14) : Cond.exactly (ks_op i) "KeptAnswers$Op" ∈ ks_nw ∧ Cond.eq (.field (ks_op i) "java/lang/Enum" "ordinal" "I") (.int (Int32.ofNat i)) ∈ ks_nw ∧ Cond.eq (.field (ks_op i) "KeptAnswers$Op" "word" "Ljava/lang/String;") (ks_st i) ∈ ks_nw ∧ Cond.eq (.field (ks_op i) "KeptAnswers$Op" "operands" "I") (.int (ka_opnd.getD i 0)) ∈ ks_nw ∧ Cond.eq (.elem ks_all (.int (Int32.ofNat i))) (ks_op i) ∈ ks_nw ∧ Cond.eq (.elem ks_sw (.int (Int32.ofNat i))) (.int (ka_swm.getD i 0)) ∈ ks_nw := by
  have := ks_1h i h
  simp only [Bool.and_eq_true] at this
  obtain ⟨⟨⟨⟨⟨h1, h2⟩, h3⟩, h4⟩, h5⟩, h6⟩ := this
  exact ⟨ks_hm h1, ks_hm h2, ks_hm h3, ks_hm h4, ks_hm h5, ks_hm h6⟩
theorem ks_2_0 : ∀ j, j < 14 → (decide (0 = j) || (ks_h (ks_y ks_x2 0 j) (.not (.eq (ks_op 0) (ks_op j))) || ks_h (ks_y ks_x2 0 j) (.not (.eq (ks_op j) (ks_op 0))))) = true := by decide +kernel
theorem ks_2_1 : ∀ j, j < 14 → (decide (1 = j) || (ks_h (ks_y ks_x2 1 j) (.not (.eq (ks_op 1) (ks_op j))) || ks_h (ks_y ks_x2 1 j) (.not (.eq (ks_op j) (ks_op 1))))) = true := by decide +kernel
theorem ks_2_2 : ∀ j, j < 14 → (decide (2 = j) || (ks_h (ks_y ks_x2 2 j) (.not (.eq (ks_op 2) (ks_op j))) || ks_h (ks_y ks_x2 2 j) (.not (.eq (ks_op j) (ks_op 2))))) = true := by decide +kernel
theorem ks_2_3 : ∀ j, j < 14 → (decide (3 = j) || (ks_h (ks_y ks_x2 3 j) (.not (.eq (ks_op 3) (ks_op j))) || ks_h (ks_y ks_x2 3 j) (.not (.eq (ks_op j) (ks_op 3))))) = true := by decide +kernel
theorem ks_2_4 : ∀ j, j < 14 → (decide (4 = j) || (ks_h (ks_y ks_x2 4 j) (.not (.eq (ks_op 4) (ks_op j))) || ks_h (ks_y ks_x2 4 j) (.not (.eq (ks_op j) (ks_op 4))))) = true := by decide +kernel
theorem ks_2_5 : ∀ j, j < 14 → (decide (5 = j) || (ks_h (ks_y ks_x2 5 j) (.not (.eq (ks_op 5) (ks_op j))) || ks_h (ks_y ks_x2 5 j) (.not (.eq (ks_op j) (ks_op 5))))) = true := by decide +kernel
theorem ks_2_6 : ∀ j, j < 14 → (decide (6 = j) || (ks_h (ks_y ks_x2 6 j) (.not (.eq (ks_op 6) (ks_op j))) || ks_h (ks_y ks_x2 6 j) (.not (.eq (ks_op j) (ks_op 6))))) = true := by decide +kernel
theorem ks_2_7 : ∀ j, j < 14 → (decide (7 = j) || (ks_h (ks_y ks_x2 7 j) (.not (.eq (ks_op 7) (ks_op j))) || ks_h (ks_y ks_x2 7 j) (.not (.eq (ks_op j) (ks_op 7))))) = true := by decide +kernel
theorem ks_2_8 : ∀ j, j < 14 → (decide (8 = j) || (ks_h (ks_y ks_x2 8 j) (.not (.eq (ks_op 8) (ks_op j))) || ks_h (ks_y ks_x2 8 j) (.not (.eq (ks_op j) (ks_op 8))))) = true := by decide +kernel
theorem ks_2_9 : ∀ j, j < 14 → (decide (9 = j) || (ks_h (ks_y ks_x2 9 j) (.not (.eq (ks_op 9) (ks_op j))) || ks_h (ks_y ks_x2 9 j) (.not (.eq (ks_op j) (ks_op 9))))) = true := by decide +kernel
theorem ks_2_10 : ∀ j, j < 14 → (decide (10 = j) || (ks_h (ks_y ks_x2 10 j) (.not (.eq (ks_op 10) (ks_op j))) || ks_h (ks_y ks_x2 10 j) (.not (.eq (ks_op j) (ks_op 10))))) = true := by decide +kernel
theorem ks_2_11 : ∀ j, j < 14 → (decide (11 = j) || (ks_h (ks_y ks_x2 11 j) (.not (.eq (ks_op 11) (ks_op j))) || ks_h (ks_y ks_x2 11 j) (.not (.eq (ks_op j) (ks_op 11))))) = true := by decide +kernel
theorem ks_2_12 : ∀ j, j < 14 → (decide (12 = j) || (ks_h (ks_y ks_x2 12 j) (.not (.eq (ks_op 12) (ks_op j))) || ks_h (ks_y ks_x2 12 j) (.not (.eq (ks_op j) (ks_op 12))))) = true := by decide +kernel
theorem ks_2_13 : ∀ j, j < 14 → (decide (13 = j) || (ks_h (ks_y ks_x2 13 j) (.not (.eq (ks_op 13) (ks_op j))) || ks_h (ks_y ks_x2 13 j) (.not (.eq (ks_op j) (ks_op 13))))) = true := by decide +kernel
theorem ks_2g {i j : Nat} (hij : i ≠ j) (h : (decide (i = j) || (ks_h (ks_y ks_x2 i j) (.not (.eq (ks_op i) (ks_op j))) || ks_h (ks_y ks_x2 i j) (.not (.eq (ks_op j) (ks_op i))))) = true) : Cond.not (.eq (ks_op i) (ks_op j)) ∈ ks_nw ∨ Cond.not (.eq (ks_op j) (ks_op i)) ∈ ks_nw := by
  simp only [Bool.or_eq_true, decide_eq_true_eq] at h
  rcases h with h | h | h
  · exact absurd h hij
  · exact Or.inl (ks_hm h)
  · exact Or.inr (ks_hm h)
theorem ks_2 (i : Nat) (hi : i < 14) (j : Nat) (hj : j < 14) (hij : i ≠ j) : Cond.not (.eq (ks_op i) (ks_op j)) ∈ ks_nw ∨ Cond.not (.eq (ks_op j) (ks_op i)) ∈ ks_nw := by
  rcases (show i = 0 ∨ i = 1 ∨ i = 2 ∨ i = 3 ∨ i = 4 ∨ i = 5 ∨ i = 6 ∨ i = 7 ∨ i = 8 ∨ i = 9 ∨ i = 10 ∨ i = 11 ∨ i = 12 ∨ i = 13 by omega) with rfl | rfl | rfl | rfl | rfl | rfl | rfl | rfl | rfl | rfl | rfl | rfl | rfl | rfl
  · exact ks_2g hij (ks_2_0 j hj)
  · exact ks_2g hij (ks_2_1 j hj)
  · exact ks_2g hij (ks_2_2 j hj)
  · exact ks_2g hij (ks_2_3 j hj)
  · exact ks_2g hij (ks_2_4 j hj)
  · exact ks_2g hij (ks_2_5 j hj)
  · exact ks_2g hij (ks_2_6 j hj)
  · exact ks_2g hij (ks_2_7 j hj)
  · exact ks_2g hij (ks_2_8 j hj)
  · exact ks_2g hij (ks_2_9 j hj)
  · exact ks_2g hij (ks_2_10 j hj)
  · exact ks_2g hij (ks_2_11 j hj)
  · exact ks_2g hij (ks_2_12 j hj)
  · exact ks_2g hij (ks_2_13 j hj)
def ks_3c (i : Nat) : Bool := ks_h (ks_y ks_x3 i 0) (.exactly (ks_st i) "java/lang/String") && ks_h (ks_y ks_x3 i 1) (.eq (.field (ks_st i) "java/lang/String" "coder" "B") (.int 0)) && ks_h (ks_y ks_x3 i 2) (.arrayOf (ks_vl i) .byte) && ks_h (ks_y ks_x3 i 3) (.eq (.length (ks_vl i)) (.int (Int32.ofNat (ka_words.getD i []).length))) && decide ((ka_words.getD i []).length < 10) && (List.range (ka_words.getD i []).length).all (fun j => ks_h (ks_y ks_x3 i (4 + j)) (.eq (.elem (ks_vl i) (.int (Int32.ofNat j))) (.int ((ka_words.getD i []).getD j 0))))
theorem ks_3_0 : ks_3c 0 = true := by decide +kernel
theorem ks_3_1 : ks_3c 1 = true := by decide +kernel
theorem ks_3_2 : ks_3c 2 = true := by decide +kernel
theorem ks_3_3 : ks_3c 3 = true := by decide +kernel
theorem ks_3_4 : ks_3c 4 = true := by decide +kernel
theorem ks_3_5 : ks_3c 5 = true := by decide +kernel
theorem ks_3_6 : ks_3c 6 = true := by decide +kernel
theorem ks_3_7 : ks_3c 7 = true := by decide +kernel
theorem ks_3_8 : ks_3c 8 = true := by decide +kernel
theorem ks_3_9 : ks_3c 9 = true := by decide +kernel
theorem ks_3_10 : ks_3c 10 = true := by decide +kernel
theorem ks_3_11 : ks_3c 11 = true := by decide +kernel
theorem ks_3_12 : ks_3c 12 = true := by decide +kernel
theorem ks_3_13 : ks_3c 13 = true := by decide +kernel
theorem ks_3_14 : ks_3c 14 = true := by decide +kernel
theorem ks_3_15 : ks_3c 15 = true := by decide +kernel
theorem ks_3_16 : ks_3c 16 = true := by decide +kernel
theorem ks_3_17 : ks_3c 17 = true := by decide +kernel
theorem ks_3_18 : ks_3c 18 = true := by decide +kernel
theorem ks_3 (i : Nat) (hi : i < 19) : Cond.exactly (ks_st i) "java/lang/String" ∈ ks_nw ∧ Cond.eq (.field (ks_st i) "java/lang/String" "coder" "B") (.int 0) ∈ ks_nw ∧ Cond.arrayOf (ks_vl i) .byte ∈ ks_nw ∧ Cond.eq (.length (ks_vl i)) (.int (Int32.ofNat (ka_words.getD i []).length)) ∈ ks_nw ∧ (ka_words.getD i []).length < 10 ∧ ∀ j, j < (ka_words.getD i []).length → Cond.eq (.elem (ks_vl i) (.int (Int32.ofNat j))) (.int ((ka_words.getD i []).getD j 0)) ∈ ks_nw := by
  have key : ks_3c i = true := by
    rcases (show i = 0 ∨ i = 1 ∨ i = 2 ∨ i = 3 ∨ i = 4 ∨ i = 5 ∨ i = 6 ∨ i = 7 ∨ i = 8 ∨ i = 9 ∨ i = 10 ∨ i = 11 ∨ i = 12 ∨ i = 13 ∨ i = 14 ∨ i = 15 ∨ i = 16 ∨ i = 17 ∨ i = 18 by omega) with rfl | rfl | rfl | rfl | rfl | rfl | rfl | rfl | rfl | rfl | rfl | rfl | rfl | rfl | rfl | rfl | rfl | rfl | rfl
    · exact ks_3_0
    · exact ks_3_1
    · exact ks_3_2
    · exact ks_3_3
    · exact ks_3_4
    · exact ks_3_5
    · exact ks_3_6
    · exact ks_3_7
    · exact ks_3_8
    · exact ks_3_9
    · exact ks_3_10
    · exact ks_3_11
    · exact ks_3_12
    · exact ks_3_13
    · exact ks_3_14
    · exact ks_3_15
    · exact ks_3_16
    · exact ks_3_17
    · exact ks_3_18
  unfold ks_3c at key
  simp only [Bool.and_eq_true, decide_eq_true_eq, List.all_eq_true, List.mem_range] at key
  obtain ⟨⟨⟨⟨⟨h1, h2⟩, h3⟩, h4⟩, h5⟩, h6⟩ := key
  exact ⟨ks_hm h1, ks_hm h2, ks_hm h3, ks_hm h4, h5, fun j hj => ks_hm (h6 j hj)⟩
theorem ks_4 : Cond.arrayOf ks_all (.object "KeptAnswers$Op") ∈ ks_nw ∧ Cond.eq (.length ks_all) (.int 14) ∈ ks_nw ∧ Cond.arrayOf ks_sw .int ∈ ks_nw ∧ Cond.eq (.length ks_sw) (.int 14) ∈ ks_nw ∧ Cond.eq (.static "java/lang/String" "COMPACT_STRINGS" "Z") (.int 1) ∈ ks_nw ∧ Cond.isRef (.static "jdk/internal/util/Preconditions" "SIOOBE_FORMATTER" "Ljava/util/function/BiFunction;") ∈ ks_nw ∧ Cond.isRef (.static Bundle.tN "UNASSIGNED_STACK" Bundle.steD) ∈ ks_nw ∧ Cond.isRef (.static Bundle.tN "SUPPRESSED_SENTINEL" Bundle.listD) ∈ ks_nw := ⟨ks_hm (i := 12) (by decide +kernel), ks_hm (i := 13) (by decide +kernel), ks_hm (i := 252) (by decide +kernel), ks_hm (i := 253) (by decide +kernel), ks_hm (i := 29) (by decide +kernel), ks_hm (i := 30) (by decide +kernel), ks_hm (i := 8) (by decide +kernel), ks_hm (i := 9) (by decide +kernel)⟩
theorem ks_5 : ∀ q ∈ ka_gtl, Cond.laysStatic q.1 q.2.1 q.2.2.1 ∈ lw_tbl ∧ Cond.initialized q.1 ∈ lw_tbl := by decide +kernel
theorem ks_6a : ∀ q ∈ ka_txts, Cond.stringRef "KeptAnswers" q.1 q.2 ∈ lw_tbl := by decide +kernel
theorem ks_6b : ∀ j, j < 15 → ks_h (ks_x6.getD j 0) (.exactly (.string "KeptAnswers" ((ka_txts.getD j (0, "")).1)) "java/lang/String") = true := by decide +kernel
theorem ks_6 (q : Nat × String) (hq : q ∈ ka_txts) : Cond.stringRef "KeptAnswers" q.1 q.2 ∈ lw_tbl ∧ Cond.exactly (.string "KeptAnswers" q.1) "java/lang/String" ∈ ks_nw := by
  refine ⟨ks_6a q hq, ?_⟩
  obtain ⟨j, hj, e⟩ := List.mem_iff_getElem.mp hq
  have := ks_hm (ks_6b j hj)
  rw [List.getD_eq_getElem?_getD, List.getElem?_eq_getElem hj, Option.getD_some, e] at this
  exact this
theorem ks_7 : ∀ q ∈ ka_strs, Cond.stringRef (ka_on q.1) q.2.1 q.2.2.2 ∈ lw_tbl ∧ (1000034 ≤ q.2.2.1 ∧ q.2.2.1 < 1000039 ∧ Term.string (ka_on q.1) q.2.1 = ks_st (q.2.2.1 - 1000020)) := by decide +kernel
theorem ks_8a : ∀ e, e < 4 → ∀ f, f < 4 → (decide (e = f) || ks_h (ks_y ks_x8 e f) (.not (.castable (ka_en e) (ka_en f)))) = true := by decide +kernel
theorem ks_8 (e : Nat) (he : e < 4) (f : Nat) (hf : f < 4) (hne : e ≠ f) : Cond.not (.castable (ka_en e) (ka_en f)) ∈ ks_nw := by
  have := ks_8a e he f hf
  simp only [Bool.or_eq_true, decide_eq_true_eq] at this
  rcases this with h | h
  · exact absurd h hne
  · exact ks_hm h
theorem ks_9 : ∀ ci, ci < 10 → (∀ w ∈ u_ws (ka_T ci).1 (ka_T ci).2.1 (ka_T ci).2.2, w ∈ lw_tbl) ∧ Cond.instantiable (ka_T ci).1 (ka_T ci).2.2 ∈ lw_tbl := by decide +kernel
theorem ks_10 : Cond.laysStatic Bundle.tN "UNASSIGNED_STACK" Bundle.steD ∈ lw_tbl ∧ Cond.laysStatic Bundle.tN "SUPPRESSED_SENTINEL" Bundle.listD ∈ lw_tbl ∧ Cond.initialized Bundle.tN ∈ lw_tbl := by decide +kernel
theorem ks_sK60 {G : ka_G} {j : Nat} (h : j < 19) : ka_sK G (60 + j) = (33, (ka_words.getD j []).length) := by
  unfold ka_sK; rw [if_neg (by omega), if_neg (by omega), if_neg (by omega), if_neg (by omega), if_pos (by omega), Nat.add_sub_cancel_left]
theorem ks_sI60 {G : ka_G} {j : Nat} (h : j < 19) (k : Nat) : ka_sIn G (60 + j) k = (ka_words.getD j []).getD k 0 := by
  unfold ka_sIn; rw [if_neg (by omega), if_neg (by omega), if_pos (by omega), Nat.add_sub_cancel_left]
theorem ks_kind {G : ka_G} {i : Nat} (h : (ka_sK G i).1 = 33 ∨ (ka_sK G i).1 = 38 ∨ (ka_sK G i).1 = 40) : (∃ j, j < 19 ∧ i = 60 + j) ∨ i = 90 ∨ i = 91 ∨ i = 92 := by
  unfold ka_sK at h
  split at h
  · simp at h
  split at h
  · simp at h
  split at h
  · simp at h
  split at h
  · simp at h
  split at h
  · exact Or.inl ⟨i - 60, by omega, by omega⟩
  split at h
  · simp at h
  split at h
  · exact Or.inr (Or.inl ‹_›)
  split at h
  · exact Or.inr (Or.inr (Or.inl ‹_›))
  split at h
  · exact Or.inr (Or.inr (Or.inr ‹_›))
  · simp at h
theorem ks_start {s : State} {b L : Nat} {xs : Nat → Int32} {l : Launch} (hl : l.stackTraces = false) (hts : ∀ w ∈ lw_tbl, w.before #[Value.ref b] s = true) (hX : va_X b L xs s s.heap) (hb : b < s.heap.size) (hg : (Jvm.Cond.and given_1 narrow_1).before #[Value.ref b] s = true) :
    ∃ G : ka_G, G.1 = s ∧ G.2.2.2.1 92 = b ∧ G.2.2.2.2.2 = (L, xs) ∧ ka_Z G #[Value.ref b] l := by
  have hq : ∀ w ∈ ks_nw, w.before #[Value.ref b] s = true := flat_of_before _ hg
  have hc0 : ∀ ci, ∃ q : ClassId × (Nat → Nat), ci < 10 → u_Kn s (ka_T ci).1 (ka_T ci).2.1 (ka_T ci).2.2 q.1 q.2 := by
    intro ci
    by_cases h : ci < 10
    · obtain ⟨cC, iS, hk⟩ := u_known (n := (ka_T ci).2.2) hts (ks_9 ci h).1 (hts _ (ks_9 ci h).2)
      exact ⟨(cC, iS), fun _ => hk⟩
    · exact ⟨((0 : Nat), fun _ => 0), fun q => absurd q h⟩
  obtain ⟨D, hD⟩ := Classical.axiomOfChoice hc0
  have ha0 : ∀ kd, ∃ c : ClassId, (30 ≤ kd ∧ kd ≤ 32 ∨ 34 ≤ kd ∧ kd ≤ 37) → ∃ (kA : Class) (comp : ClassId), s.vm.findClass ("[" ++ (ka_aty kd).toString) = some c ∧ s.vm.classes[c]? = some kA ∧ kA.kind = .array comp (ka_aty kd) ∧ (34 ≤ kd ∧ kd ≤ 36 → s.vm.findClass (ka_T (39 - kd)).1 = some comp) := by
    intro kd
    by_cases h : 30 ≤ kd ∧ kd ≤ 32 ∨ 34 ≤ kd ∧ kd ≤ 37
    · rcases (show kd = 30 ∨ kd = 31 ∨ kd = 32 ∨ kd = 34 ∨ kd = 35 ∨ kd = 36 ∨ kd = 37 by omega) with rfl | rfl | rfl | rfl | rfl | rfl | rfl
      · obtain ⟨c, k, comp, h1, h2, h3⟩ := Cond.arrayClass_spec (hts _ ka_arrin.2.2.2.2.1)
        exact ⟨c, fun _ => ⟨k, comp, h1, h2, h3, fun q => (by omega)⟩⟩
      · obtain ⟨c, k, comp, h1, h2, h3⟩ := Cond.arrayClass_spec (hts _ ka_arrin.2.2.2.2.2.1)
        exact ⟨c, fun _ => ⟨k, comp, h1, h2, h3, fun q => (by omega)⟩⟩
      · obtain ⟨c, k, comp, h1, h2, h3⟩ := Cond.arrayClass_spec (hts _ ka_arrin.2.2.2.2.2.2)
        exact ⟨c, fun _ => ⟨k, comp, h1, h2, h3, fun q => (by omega)⟩⟩
      · obtain ⟨comp, c, k, h1, -, h3, h4, h5⟩ := Cond.arrayOver_spec (hts _ ka_arrin.2.2.1)
        exact ⟨c, fun _ => ⟨k, comp, h5, h3, h4, fun _ => h1⟩⟩
      · obtain ⟨comp, c, k, h1, -, h3, h4, h5⟩ := Cond.arrayOver_spec (hts _ ka_arrin.2.1)
        exact ⟨c, fun _ => ⟨k, comp, h5, h3, h4, fun _ => h1⟩⟩
      · obtain ⟨comp, c, k, h1, -, h3, h4, h5⟩ := Cond.arrayOver_spec (hts _ ka_arrin.1)
        exact ⟨c, fun _ => ⟨k, comp, h5, h3, h4, fun _ => h1⟩⟩
      · obtain ⟨comp, c, k, h1, -, h3, h4, h5⟩ := arrayOverA_spec (hts _ ka_arrin.2.2.2.1)
        exact ⟨c, fun _ => ⟨k, comp, h5, h3, h4, fun q => (by omega)⟩⟩
    · exact ⟨(0 : Nat), fun q => absurd q h⟩
  obtain ⟨ar, har⟩ := Classical.axiomOfChoice ha0
  have hF : ∀ a : Nat, a < s.heap.size → ¬ (s.heap.size ≤ a) := fun a h => Nat.not_le.mpr h
  have hO0 : ∀ i, ∃ a : Nat, i < 14 → a < s.heap.size ∧ (ks_op i).eval #[Value.ref b] s none [] s = some (.ref a) := by
    intro i
    by_cases h : i < 14
    · obtain ⟨a, c, cA, kA, q1, q2, q3, -⟩ := Cond.exactly_spec (args := #[Value.ref b]) (first := s) (o := none) (s := s) (idx := []) (hq _ (ks_1 i h).1)
      exact ⟨a, fun _ => ⟨(Array.getElem?_eq_some_iff.mp q3).1, q1⟩⟩
    · exact ⟨0, fun q => absurd q h⟩
  obtain ⟨aO, haO⟩ := Classical.axiomOfChoice hO0
  have hT60 : ∀ j, j < 19 → ∃ t : Nat, (ks_vl j).eval #[Value.ref b] s none [] s = some (.ref t) ∧ va_T .byte t (ka_words.getD j []).length (fun k => .int ((ka_words.getD j []).getD k 0)) (fun q => s.heap.size ≤ q) s s.heap := by
    intro j hj
    obtain ⟨-, -, k3, k4, k5, k6⟩ := ks_3 j hj
    exact va_Tof (by omega) (hq _ k3) (va_eqt (hq _ k4)) (fun k hk => va_eqt (hq _ (k6 k hk))) hF
  have hT90 : ∃ t : Nat, ks_all.eval #[Value.ref b] s none [] s = some (.ref t) ∧ va_T (.object "KeptAnswers$Op") t 14 (fun k => .ref (aO k)) (fun q => s.heap.size ≤ q) s s.heap :=
    va_Tof (by decide) (hq _ ks_4.1) (va_eqt (hq _ ks_4.2.1)) (fun k hk => va_eqv (hq _ (ks_1 k hk).2.2.2.2.1) (haO k hk).2) hF
  have hT91 : ∃ t : Nat, ks_sw.eval #[Value.ref b] s none [] s = some (.ref t) ∧ va_T .int t 14 (fun k => .int (ka_swm.getD k 0)) (fun q => s.heap.size ≤ q) s s.heap :=
    va_Tof (by decide) (hq _ ks_4.2.2.1) (va_eqt (hq _ ks_4.2.2.2.1)) (fun k hk => va_eqt (hq _ (ks_1 k hk).2.2.2.2.2)) hF
  have hlt : ∀ {ty : FieldType} {t N : Nat} {f : Nat → Value} {A : Nat → Prop}, va_T ty t N f A s s.heap → t < s.heap.size := fun h => by
    obtain ⟨cell, h1, -⟩ := h
    exact (Array.getElem?_eq_some_iff.mp h1).1
  have he0 : ∀ i, ∃ a : Nat, a < s.heap.size ∧ (ks_tm i).eval #[Value.ref b] s none [] s = some (.ref a) := by
    intro i
    have hb0 : ∃ a : Nat, a < s.heap.size ∧ (Term.arg 0).eval #[Value.ref b] s none [] s = some (.ref a) := ⟨b, hb, rfl⟩
    unfold ks_tm
    split
    · exact ⟨aO i, haO i ‹_›⟩
    split
    · exact hb0
    split
    · obtain ⟨a, c, cA, kA, q1, q2, q3, -⟩ := Cond.exactly_spec (args := #[Value.ref b]) (first := s) (o := none) (s := s) (idx := []) (hq _ (ks_3 (i - 20) (by omega)).1)
      exact ⟨a, (Array.getElem?_eq_some_iff.mp q3).1, q1⟩
    split
    · exact hb0
    split
    · obtain ⟨t, h1, h2⟩ := hT60 (i - 60) (by omega)
      exact ⟨t, hlt h2, h1⟩
    split
    · exact hb0
    split
    · obtain ⟨t, h1, h2⟩ := hT90
      exact ⟨t, hlt h2, h1⟩
    split
    · obtain ⟨t, h1, h2⟩ := hT91
      exact ⟨t, hlt h2, h1⟩
    · exact hb0
  obtain ⟨ad, had⟩ := Classical.axiomOfChoice he0
  have hop : ∀ i, i < 14 → (ks_op i).eval #[Value.ref b] s none [] s = some (.ref (ad i)) := fun i h => by
    have := (had i).2
    unfold ks_tm at this
    rw [if_pos h] at this
    exact this
  have hst : ∀ i, i < 19 → (ks_st i).eval #[Value.ref b] s none [] s = some (.ref (ad (20 + i))) := fun i h => by
    have := (had (20 + i)).2
    unfold ks_tm at this
    rw [if_neg (by omega), if_neg (by omega), if_pos (by omega), Nat.add_sub_cancel_left] at this
    exact this
  have hvl : ∀ i, i < 19 → (ks_vl i).eval #[Value.ref b] s none [] s = some (.ref (ad (60 + i))) := fun i h => by
    have := (had (60 + i)).2
    unfold ks_tm at this
    rw [if_neg (by omega), if_neg (by omega), if_neg (by omega), if_neg (by omega), if_pos (by omega), Nat.add_sub_cancel_left] at this
    exact this
  have hall : ks_all.eval #[Value.ref b] s none [] s = some (.ref (ad 90)) := (had 90).2
  have hsw : ks_sw.eval #[Value.ref b] s none [] s = some (.ref (ad 91)) := (had 91).2
  have h92 : ad 92 = b := by
    have : (Term.arg 0).eval #[Value.ref b] s none [] s = some (.ref (ad 92)) := (had 92).2
    have e : (Term.arg 0).eval #[Value.ref b] s none [] s = some (.ref b) := rfl
    injection this.symm.trans e with e1
    injection e1
  have haO' : ∀ i, i < 14 → aO i = ad i := fun i h => by
    injection (haO i h).2.symm.trans (hop i h) with e1
    injection e1
  obtain ⟨fm, hfm, hfmr⟩ := Cond.isRef_spec (args := #[Value.ref b]) (first := s) (o := none) (s := s) (idx := []) (hq _ ks_4.2.2.2.2.2.1)
  refine ⟨(s, (fun ci => (D ci).1, fun ci => (D ci).2), ar, ad, fm, L, xs), rfl, h92, rfl, ?_⟩
  generalize hG : ((s, (fun ci => (D ci).1, fun ci => (D ci).2), ar, ad, fm, L, xs) : ka_G) = G
  have g1 : G.1 = s := by rw [← hG]
  have g2 : G.2.2.2.1 = ad := by rw [← hG]
  have g3 : G.2.2.2.2.1 = fm := by rw [← hG]
  have g4 : G.2.2.2.2.2 = (L, xs) := by rw [← hG]
  have hcv : ∀ i, ka_cv G (.ref (1000000 + i)) = .ref (ad i) := fun i => by
    rw [ka_cv_r, if_neg (by omega)]
    unfold ka_ad
    rw [if_neg (by omega), g2, Nat.add_sub_cancel_left]
  have hA : ∀ a : Nat, a < s.heap.size → ¬ ka_A G a := fun a h => by
    show ¬ (G.1.heap.size ≤ a)
    rw [g1]
    omega
  have hAe : ka_A G = fun q => s.heap.size ≤ q := by
    unfold ka_A ka_b
    rw [g1]
  refine ⟨?_, ?_, ?_, ?_, ?_, ?_, ?_, ?_, ?_, hl, ?_, ?_⟩
  · intro w hw
    rw [g1]
    exact hts w hw
  · intro ci hci
    rw [← hG]
    exact hD ci hci
  · intro kd hkd
    rw [← hG]
    exact har kd hkd
  · refine ⟨fun i _ => ?_, fun i j hi hj e => ?_, fun i hk => ?_⟩
    · rw [g2]
      show _ < G.1.heap.size
      rw [g1]
      exact (had i).1
    · rw [g2] at e
      by_cases hij : i = j
      · exact hij
      · rcases ks_2 i hi j hj hij with h | h
        · exact absurd e (va_neR (hq _ h) (hop i hi) (hop j hj))
        · exact absurd e.symm (va_neR (hq _ h) (hop j hj) (hop i hi))
    · rw [g1, g2]
      rcases ks_kind hk with ⟨j, hj, rfl⟩ | rfl | rfl | rfl
      · obtain ⟨t, h1, cell, c1, c2, c3, c4, c5, c6, c7⟩ := hT60 j hj
        have e : t = ad (60 + j) := by
          injection h1.symm.trans (hvl j hj) with e1
          injection e1
        subst e
        rw [ks_sK60 hj]
        exact ⟨cell, c1, c2, c3, ⟨c4, c5⟩, fun k hk => by rw [if_neg (show ¬ (33 : Nat) = 38 by decide), ks_sI60 hj]; exact c6 k hk⟩
      · obtain ⟨t, h1, cell, c1, c2, c3, c4, c5, c6, c7⟩ := hT90
        have e : t = ad 90 := by
          injection h1.symm.trans hall with e1
          injection e1
        subst e
        refine ⟨cell, c1, c2, c3, ⟨c4, c5⟩, fun k hk => ?_⟩
        have hk14 : k < 14 := hk
        rw [if_pos (show (ka_sK G 90).1 = 38 from rfl), show ka_sRf 90 k = 1000000 + k from rfl, hcv, ← haO' k hk14]
        exact c6 k hk14
      · obtain ⟨t, h1, cell, c1, c2, c3, c4, c5, c6, c7⟩ := hT91
        have e : t = ad 91 := by
          injection h1.symm.trans hsw with e1
          injection e1
        subst e
        exact ⟨cell, c1, c2, c3, ⟨c4, c5⟩, fun k hk => c6 k hk⟩
      · obtain ⟨cell, c1, c2, c3, c4, c5⟩ := hX
        rw [h92]
        have e : ka_sK G 92 = (40, L) := by
          show (40, G.2.2.2.2.2.1) = (40, L)
          rw [g4]
        rw [e]
        refine ⟨cell, c1, c2, c3, ⟨Nat.le_of_eq c4.symm, by rw [c4]⟩, fun k hk => ?_⟩
        rw [if_neg (show ¬ (40 : Nat) = 38 by decide), show ka_sIn G 92 k = G.2.2.2.2.2.2 k from rfl, g4]
        exact c5 k hk
  · intro i hi
    rw [g1, g2]
    rcases hi with hi | hi
    · have e1 : ka_soC i = "KeptAnswers$Op" := if_pos hi
      have e2 : ka_sK G i = (20, 3) := if_pos hi
      rw [e1, e2]
      refine ⟨va_Oof (hq _ (ks_1 i hi).1) (hop i hi) hA, fun f hf => ?_⟩
      unfold ka_soF ka_soV
      rw [if_pos hi]
      rcases (show f = 0 ∨ f = 1 ∨ f = 2 by have : f < 3 := hf; omega) with rfl | rfl | rfl
      · rw [if_pos rfl, if_neg (by omega)]
        refine vk_OFof (hop i hi) ?_ hA
        rw [show ka_sIn G i 0 = Int32.ofNat i by unfold ka_sIn; rw [if_pos hi, if_pos rfl]]
        exact va_eqt (hq _ (ks_1 i hi).2.1)
      · rw [if_neg (by decide), if_pos rfl, if_pos (Or.inl ⟨hi, rfl⟩)]
        refine vk_OFof (hop i hi) ?_ hA
        rw [show ka_sRf i 1 = 1000000 + (20 + i) by unfold ka_sRf; rw [if_pos hi, if_pos rfl]; omega, hcv]
        exact va_eqv (hq _ (ks_1 i hi).2.2.1) (hst i (by omega))
      · rw [if_neg (by decide), if_neg (by decide), if_neg (by omega)]
        refine vk_OFof (hop i hi) ?_ hA
        rw [show ka_sIn G i 2 = ka_opnd.getD i 0 by unfold ka_sIn; rw [if_pos hi, if_neg (by decide), if_pos rfl]]
        exact va_eqt (hq _ (ks_1 i hi).2.2.2.1)
    · obtain ⟨j, hj, rfl⟩ : ∃ j, j < 19 ∧ i = 20 + j := ⟨i - 20, by omega, by omega⟩
      have e1 : ka_soC (20 + j) = "java/lang/String" := if_neg (by omega)
      have e2 : ka_sK G (20 + j) = (21, 2) := by
        unfold ka_sK; rw [if_neg (by omega), if_neg (by omega), if_pos (by omega)]
      rw [e1, e2]
      refine ⟨va_Oof (hq _ (ks_3 j hj).1) (hst j hj) hA, fun f hf => ?_⟩
      unfold ka_soF ka_soV
      rw [if_neg (by omega)]
      rcases (show f = 0 ∨ f = 1 by have : f < 2 := hf; omega) with rfl | rfl
      · rw [if_pos rfl, if_pos (Or.inr ⟨by omega, rfl⟩)]
        refine vk_OFof (hst j hj) ?_ hA
        rw [show ka_sRf (20 + j) 0 = 1000000 + (60 + j) by unfold ka_sRf; rw [if_neg (by omega), if_neg (by omega), if_pos (by omega), if_pos rfl]; omega, hcv]
        exact hvl j hj
      · rw [if_neg (by decide), if_neg (by omega)]
        refine vk_OFof (hst j hj) ?_ hA
        rw [show ka_sIn G (20 + j) 1 = 0 by unfold ka_sIn; rw [if_neg (by omega), if_pos (by omega)]]
        exact va_eqt (hq _ (ks_3 j hj).2.1)
  · intro q hm
    rw [g1]
    refine va_Zof (args := #[Value.ref b]) (hts _ (ks_5 q hm).1) (hts _ (ks_5 q hm).2) ?_ hA
    simp only [ka_gtl, List.mem_cons, List.not_mem_nil, or_false] at hm
    rcases hm with rfl | rfl | rfl | rfl | rfl | rfl | rfl | rfl | rfl | rfl | rfl | rfl | rfl | rfl | rfl | rfl | rfl | rfl
    · exact (hop 0 (by decide)).trans (congrArg some (hcv 0).symm)
    · exact (hop 1 (by decide)).trans (congrArg some (hcv 1).symm)
    · exact (hop 2 (by decide)).trans (congrArg some (hcv 2).symm)
    · exact (hop 3 (by decide)).trans (congrArg some (hcv 3).symm)
    · exact (hop 4 (by decide)).trans (congrArg some (hcv 4).symm)
    · exact (hop 5 (by decide)).trans (congrArg some (hcv 5).symm)
    · exact (hop 6 (by decide)).trans (congrArg some (hcv 6).symm)
    · exact (hop 7 (by decide)).trans (congrArg some (hcv 7).symm)
    · exact (hop 8 (by decide)).trans (congrArg some (hcv 8).symm)
    · exact (hop 9 (by decide)).trans (congrArg some (hcv 9).symm)
    · exact (hop 10 (by decide)).trans (congrArg some (hcv 10).symm)
    · exact (hop 11 (by decide)).trans (congrArg some (hcv 11).symm)
    · exact (hop 12 (by decide)).trans (congrArg some (hcv 12).symm)
    · exact (hop 13 (by decide)).trans (congrArg some (hcv 13).symm)
    · exact hall.trans (congrArg some (hcv 90).symm)
    · exact hsw.trans (congrArg some (hcv 91).symm)
    · exact va_eqi (hq _ ks_4.2.2.2.2.1)
    · refine hfm.trans (congrArg some ?_)
      show fm = G.2.2.2.2.1
      rw [g3]
  · intro q hm
    obtain ⟨h1, h2, h3, h4⟩ := ks_7 q hm
    have e : ka_ad G q.2.2.1 = ad (q.2.2.1 - 1000000) := by
      unfold ka_ad
      rw [if_neg (by omega), g2]
    rw [g1, e]
    refine vk_R.of (A := #[Value.ref b]) (hts _ h1) ?_
    rw [h4, hst _ (by omega), show 20 + (q.2.2.1 - 1000020) = q.2.2.1 - 1000000 by omega]
  · intro q hm
    obtain ⟨h1, h2⟩ := ks_6 q hm
    obtain ⟨a, c, cA, kA, q1, -⟩ := Cond.exactly_spec (args := #[Value.ref b]) (first := s) (o := none) (s := s) (idx := []) (hq _ h2)
    rw [g1]
    exact ⟨a, vk_R.of (A := #[Value.ref b]) (hts _ h1) q1⟩
  · rw [g1]
    exact ⟨vx_Zqof (hts _ ks_10.1) (hts _ ks_10.2.2) (hq _ ks_4.2.2.2.2.2.2.1) hA, vx_Zqof (hts _ ks_10.2.1) (hts _ ks_10.2.2) (hq _ ks_4.2.2.2.2.2.2.2) hA⟩
  · intro e f he hf hne
    rw [g1]
    exact va_Nc.of (hq _ (ks_8 e he f hf hne))
  · rw [g3]
    cases fm <;> first | rfl | (cases hfmr)
