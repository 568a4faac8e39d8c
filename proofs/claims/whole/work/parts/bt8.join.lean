/-! ===== the rows of all methods, joined ===== -/
theorem kR_lt {m pc : Nat} {q : Instr × Nat × List Nat} (h : ka_cd m pc = some q) : pc < ka_ln m := by
  unfold ka_cd at h
  cases hb : Nat.blt pc (ka_ln m) with
  | false => rw [hb] at h; cases h
  | true => exact Nat.lt_of_succ_le (Nat.le_of_ble_eq_true hb)
theorem kR_0 {m : Nat} (h1 : 0 ≤ m) (h2 : m < 16) {pc : Nat} {i : Instr} {len : Nat} {ts : List Nat} (hc : ka_cd m pc = some (i, len, ts)) : ka_ck m pc i len ts = true := by
  have hl := kR_lt hc
  rcases (show m = 0 ∨ m = 1 ∨ m = 2 ∨ m = 3 ∨ m = 4 ∨ m = 5 ∨ m = 6 ∨ m = 7 ∨ m = 8 ∨ m = 9 ∨ m = 10 ∨ m = 11 ∨ m = 12 ∨ m = 13 ∨ m = 14 ∨ m = 15 by omega) with rfl | rfl | rfl | rfl | rfl | rfl | rfl | rfl | rfl | rfl | rfl | rfl | rfl | rfl | rfl | rfl
  · exact kj_0 (Nat.lt_of_lt_of_le hl (by decide +kernel)) hc
  · exact kj_1 (Nat.lt_of_lt_of_le hl (by decide +kernel)) hc
  · exact kj_2 (Nat.lt_of_lt_of_le hl (by decide +kernel)) hc
  · exact kj_3 (Nat.lt_of_lt_of_le hl (by decide +kernel)) hc
  · exact kj_4 (Nat.lt_of_lt_of_le hl (by decide +kernel)) hc
  · exact kj_5 (Nat.lt_of_lt_of_le hl (by decide +kernel)) hc
  · exact kj_6 (Nat.lt_of_lt_of_le hl (by decide +kernel)) hc
  · exact kj_7 (Nat.lt_of_lt_of_le hl (by decide +kernel)) hc
  · exact kj_8 (Nat.lt_of_lt_of_le hl (by decide +kernel)) hc
  · exact kj_9 (Nat.lt_of_lt_of_le hl (by decide +kernel)) hc
  · exact kj_10 (Nat.lt_of_lt_of_le hl (by decide +kernel)) hc
  · exact kj_11 (Nat.lt_of_lt_of_le hl (by decide +kernel)) hc
  · exact kj_12 (Nat.lt_of_lt_of_le hl (by decide +kernel)) hc
  · exact kj_13 (Nat.lt_of_lt_of_le hl (by decide +kernel)) hc
  · exact kj_14 (Nat.lt_of_lt_of_le hl (by decide +kernel)) hc
  · exact kj_15 (Nat.lt_of_lt_of_le hl (by decide +kernel)) hc
theorem kWj_0 {m : Nat} (h1 : 1 ≤ m) (h2 : m < 16) : lw_tbl[ka_ic m]? = some (ka_cw m) := by
  rcases (show m = 1 ∨ m = 2 ∨ m = 3 ∨ m = 4 ∨ m = 5 ∨ m = 6 ∨ m = 7 ∨ m = 8 ∨ m = 9 ∨ m = 10 ∨ m = 11 ∨ m = 12 ∨ m = 13 ∨ m = 14 ∨ m = 15 by omega) with rfl | rfl | rfl | rfl | rfl | rfl | rfl | rfl | rfl | rfl | rfl | rfl | rfl | rfl | rfl
  · exact kcw_1
  · exact kcw_2
  · exact kcw_3
  · exact kcw_4
  · exact kcw_5
  · exact kcw_6
  · exact kcw_7
  · exact kcw_8
  · exact kcw_9
  · exact kcw_10
  · exact kcw_11
  · exact kcw_12
  · exact kcw_13
  · exact kcw_14
  · exact kcw_15
theorem kR_16 {m : Nat} (h1 : 16 ≤ m) (h2 : m < 32) {pc : Nat} {i : Instr} {len : Nat} {ts : List Nat} (hc : ka_cd m pc = some (i, len, ts)) : ka_ck m pc i len ts = true := by
  have hl := kR_lt hc
  rcases (show m = 16 ∨ m = 17 ∨ m = 18 ∨ m = 19 ∨ m = 20 ∨ m = 21 ∨ m = 22 ∨ m = 23 ∨ m = 24 ∨ m = 25 ∨ m = 26 ∨ m = 27 ∨ m = 28 ∨ m = 29 ∨ m = 30 ∨ m = 31 by omega) with rfl | rfl | rfl | rfl | rfl | rfl | rfl | rfl | rfl | rfl | rfl | rfl | rfl | rfl | rfl | rfl
  · exact kj_16 (Nat.lt_of_lt_of_le hl (by decide +kernel)) hc
  · exact kj_17 (Nat.lt_of_lt_of_le hl (by decide +kernel)) hc
  · exact kj_18 (Nat.lt_of_lt_of_le hl (by decide +kernel)) hc
  · exact kj_19 (Nat.lt_of_lt_of_le hl (by decide +kernel)) hc
  · exact kj_20 (Nat.lt_of_lt_of_le hl (by decide +kernel)) hc
  · exact kj_21 (Nat.lt_of_lt_of_le hl (by decide +kernel)) hc
  · exact kj_22 (Nat.lt_of_lt_of_le hl (by decide +kernel)) hc
  · exact kj_23 (Nat.lt_of_lt_of_le hl (by decide +kernel)) hc
  · exact kj_24 (Nat.lt_of_lt_of_le hl (by decide +kernel)) hc
  · exact kj_25 (Nat.lt_of_lt_of_le hl (by decide +kernel)) hc
  · exact kj_26 (Nat.lt_of_lt_of_le hl (by decide +kernel)) hc
  · exact kj_27 (Nat.lt_of_lt_of_le hl (by decide +kernel)) hc
  · exact kj_28 (Nat.lt_of_lt_of_le hl (by decide +kernel)) hc
  · exact kj_29 (Nat.lt_of_lt_of_le hl (by decide +kernel)) hc
  · exact kj_30 (Nat.lt_of_lt_of_le hl (by decide +kernel)) hc
  · exact kj_31 (Nat.lt_of_lt_of_le hl (by decide +kernel)) hc
theorem kWj_16 {m : Nat} (h1 : 16 ≤ m) (h2 : m < 32) : lw_tbl[ka_ic m]? = some (ka_cw m) := by
  rcases (show m = 16 ∨ m = 17 ∨ m = 18 ∨ m = 19 ∨ m = 20 ∨ m = 21 ∨ m = 22 ∨ m = 23 ∨ m = 24 ∨ m = 25 ∨ m = 26 ∨ m = 27 ∨ m = 28 ∨ m = 29 ∨ m = 30 ∨ m = 31 by omega) with rfl | rfl | rfl | rfl | rfl | rfl | rfl | rfl | rfl | rfl | rfl | rfl | rfl | rfl | rfl | rfl
  · exact kcw_16
  · exact kcw_17
  · exact kcw_18
  · exact kcw_19
  · exact kcw_20
  · exact kcw_21
  · exact kcw_22
  · exact kcw_23
  · exact kcw_24
  · exact kcw_25
  · exact kcw_26
  · exact kcw_27
  · exact kcw_28
  · exact kcw_29
  · exact kcw_30
  · exact kcw_31
theorem kR_32 {m : Nat} (h1 : 32 ≤ m) (h2 : m < 48) {pc : Nat} {i : Instr} {len : Nat} {ts : List Nat} (hc : ka_cd m pc = some (i, len, ts)) : ka_ck m pc i len ts = true := by
  have hl := kR_lt hc
  rcases (show m = 32 ∨ m = 33 ∨ m = 34 ∨ m = 35 ∨ m = 36 ∨ m = 37 ∨ m = 38 ∨ m = 39 ∨ m = 40 ∨ m = 41 ∨ m = 42 ∨ m = 43 ∨ m = 44 ∨ m = 45 ∨ m = 46 ∨ m = 47 by omega) with rfl | rfl | rfl | rfl | rfl | rfl | rfl | rfl | rfl | rfl | rfl | rfl | rfl | rfl | rfl | rfl
  · exact kj_32 (Nat.lt_of_lt_of_le hl (by decide +kernel)) hc
  · exact kj_33 (Nat.lt_of_lt_of_le hl (by decide +kernel)) hc
  · exact kj_34 (Nat.lt_of_lt_of_le hl (by decide +kernel)) hc
  · exact kj_35 (Nat.lt_of_lt_of_le hl (by decide +kernel)) hc
  · exact kj_36 (Nat.lt_of_lt_of_le hl (by decide +kernel)) hc
  · exact kj_37 (Nat.lt_of_lt_of_le hl (by decide +kernel)) hc
  · exact kj_38 (Nat.lt_of_lt_of_le hl (by decide +kernel)) hc
  · exact kj_39 (Nat.lt_of_lt_of_le hl (by decide +kernel)) hc
  · exact kj_40 (Nat.lt_of_lt_of_le hl (by decide +kernel)) hc
  · exact kj_41 (Nat.lt_of_lt_of_le hl (by decide +kernel)) hc
  · exact kj_42 (Nat.lt_of_lt_of_le hl (by decide +kernel)) hc
  · exact kj_43 (Nat.lt_of_lt_of_le hl (by decide +kernel)) hc
  · exact kj_44 (Nat.lt_of_lt_of_le hl (by decide +kernel)) hc
  · exact kj_45 (Nat.lt_of_lt_of_le hl (by decide +kernel)) hc
  · exact kj_46 (Nat.lt_of_lt_of_le hl (by decide +kernel)) hc
  · exact kj_47 (Nat.lt_of_lt_of_le hl (by decide +kernel)) hc
theorem kWj_32 {m : Nat} (h1 : 32 ≤ m) (h2 : m < 48) : lw_tbl[ka_ic m]? = some (ka_cw m) := by
  rcases (show m = 32 ∨ m = 33 ∨ m = 34 ∨ m = 35 ∨ m = 36 ∨ m = 37 ∨ m = 38 ∨ m = 39 ∨ m = 40 ∨ m = 41 ∨ m = 42 ∨ m = 43 ∨ m = 44 ∨ m = 45 ∨ m = 46 ∨ m = 47 by omega) with rfl | rfl | rfl | rfl | rfl | rfl | rfl | rfl | rfl | rfl | rfl | rfl | rfl | rfl | rfl | rfl
  · exact kcw_32
  · exact kcw_33
  · exact kcw_34
  · exact kcw_35
  · exact kcw_36
  · exact kcw_37
  · exact kcw_38
  · exact kcw_39
  · exact kcw_40
  · exact kcw_41
  · exact kcw_42
  · exact kcw_43
  · exact kcw_44
  · exact kcw_45
  · exact kcw_46
  · exact kcw_47
theorem kR_48 {m : Nat} (h1 : 48 ≤ m) (h2 : m < 64) {pc : Nat} {i : Instr} {len : Nat} {ts : List Nat} (hc : ka_cd m pc = some (i, len, ts)) : ka_ck m pc i len ts = true := by
  have hl := kR_lt hc
  rcases (show m = 48 ∨ m = 49 ∨ m = 50 ∨ m = 51 ∨ m = 52 ∨ m = 53 ∨ m = 54 ∨ m = 55 ∨ m = 56 ∨ m = 57 ∨ m = 58 ∨ m = 59 ∨ m = 60 ∨ m = 61 ∨ m = 62 ∨ m = 63 by omega) with rfl | rfl | rfl | rfl | rfl | rfl | rfl | rfl | rfl | rfl | rfl | rfl | rfl | rfl | rfl | rfl
  · exact kj_48 (Nat.lt_of_lt_of_le hl (by decide +kernel)) hc
  · exact kj_49 (Nat.lt_of_lt_of_le hl (by decide +kernel)) hc
  · exact kj_50 (Nat.lt_of_lt_of_le hl (by decide +kernel)) hc
  · exact kj_51 (Nat.lt_of_lt_of_le hl (by decide +kernel)) hc
  · exact kj_52 (Nat.lt_of_lt_of_le hl (by decide +kernel)) hc
  · exact kj_53 (Nat.lt_of_lt_of_le hl (by decide +kernel)) hc
  · exact kj_54 (Nat.lt_of_lt_of_le hl (by decide +kernel)) hc
  · exact kj_55 (Nat.lt_of_lt_of_le hl (by decide +kernel)) hc
  · exact kj_56 (Nat.lt_of_lt_of_le hl (by decide +kernel)) hc
  · exact kj_57 (Nat.lt_of_lt_of_le hl (by decide +kernel)) hc
  · exact kj_58 (Nat.lt_of_lt_of_le hl (by decide +kernel)) hc
  · exact kj_59 (Nat.lt_of_lt_of_le hl (by decide +kernel)) hc
  · exact kj_60 (Nat.lt_of_lt_of_le hl (by decide +kernel)) hc
  · exact kj_61 (Nat.lt_of_lt_of_le hl (by decide +kernel)) hc
  · exact kj_62 (Nat.lt_of_lt_of_le hl (by decide +kernel)) hc
  · exact kj_63 (Nat.lt_of_lt_of_le hl (by decide +kernel)) hc
theorem kWj_48 {m : Nat} (h1 : 48 ≤ m) (h2 : m < 64) : lw_tbl[ka_ic m]? = some (ka_cw m) := by
  rcases (show m = 48 ∨ m = 49 ∨ m = 50 ∨ m = 51 ∨ m = 52 ∨ m = 53 ∨ m = 54 ∨ m = 55 ∨ m = 56 ∨ m = 57 ∨ m = 58 ∨ m = 59 ∨ m = 60 ∨ m = 61 ∨ m = 62 ∨ m = 63 by omega) with rfl | rfl | rfl | rfl | rfl | rfl | rfl | rfl | rfl | rfl | rfl | rfl | rfl | rfl | rfl | rfl
  · exact kcw_48
  · exact kcw_49
  · exact kcw_50
  · exact kcw_51
  · exact kcw_52
  · exact kcw_53
  · exact kcw_54
  · exact kcw_55
  · exact kcw_56
  · exact kcw_57
  · exact kcw_58
  · exact kcw_59
  · exact kcw_60
  · exact kcw_61
  · exact kcw_62
  · exact kcw_63
theorem kR_64 {m : Nat} (h1 : 64 ≤ m) (h2 : m < 80) {pc : Nat} {i : Instr} {len : Nat} {ts : List Nat} (hc : ka_cd m pc = some (i, len, ts)) : ka_ck m pc i len ts = true := by
  have hl := kR_lt hc
  rcases (show m = 64 ∨ m = 65 ∨ m = 66 ∨ m = 67 ∨ m = 68 ∨ m = 69 ∨ m = 70 ∨ m = 71 ∨ m = 72 ∨ m = 73 ∨ m = 74 ∨ m = 75 ∨ m = 76 ∨ m = 77 ∨ m = 78 ∨ m = 79 by omega) with rfl | rfl | rfl | rfl | rfl | rfl | rfl | rfl | rfl | rfl | rfl | rfl | rfl | rfl | rfl | rfl
  · exact kj_64 (Nat.lt_of_lt_of_le hl (by decide +kernel)) hc
  · exact kj_65 (Nat.lt_of_lt_of_le hl (by decide +kernel)) hc
  · exact kj_66 (Nat.lt_of_lt_of_le hl (by decide +kernel)) hc
  · exact kj_67 (Nat.lt_of_lt_of_le hl (by decide +kernel)) hc
  · exact kj_68 (Nat.lt_of_lt_of_le hl (by decide +kernel)) hc
  · exact kj_69 (Nat.lt_of_lt_of_le hl (by decide +kernel)) hc
  · exact kj_70 (Nat.lt_of_lt_of_le hl (by decide +kernel)) hc
  · exact kj_71 (Nat.lt_of_lt_of_le hl (by decide +kernel)) hc
  · exact kj_72 (Nat.lt_of_lt_of_le hl (by decide +kernel)) hc
  · exact kj_73 (Nat.lt_of_lt_of_le hl (by decide +kernel)) hc
  · exact kj_74 (Nat.lt_of_lt_of_le hl (by decide +kernel)) hc
  · exact kj_75 (Nat.lt_of_lt_of_le hl (by decide +kernel)) hc
  · exact kj_76 (Nat.lt_of_lt_of_le hl (by decide +kernel)) hc
  · exact kj_77 (Nat.lt_of_lt_of_le hl (by decide +kernel)) hc
  · exact kj_78 (Nat.lt_of_lt_of_le hl (by decide +kernel)) hc
  · exact kj_79 (Nat.lt_of_lt_of_le hl (by decide +kernel)) hc
theorem kWj_64 {m : Nat} (h1 : 64 ≤ m) (h2 : m < 80) : lw_tbl[ka_ic m]? = some (ka_cw m) := by
  rcases (show m = 64 ∨ m = 65 ∨ m = 66 ∨ m = 67 ∨ m = 68 ∨ m = 69 ∨ m = 70 ∨ m = 71 ∨ m = 72 ∨ m = 73 ∨ m = 74 ∨ m = 75 ∨ m = 76 ∨ m = 77 ∨ m = 78 ∨ m = 79 by omega) with rfl | rfl | rfl | rfl | rfl | rfl | rfl | rfl | rfl | rfl | rfl | rfl | rfl | rfl | rfl | rfl
  · exact kcw_64
  · exact kcw_65
  · exact kcw_66
  · exact kcw_67
  · exact kcw_68
  · exact kcw_69
  · exact kcw_70
  · exact kcw_71
  · exact kcw_72
  · exact kcw_73
  · exact kcw_74
  · exact kcw_75
  · exact kcw_76
  · exact kcw_77
  · exact kcw_78
  · exact kcw_79
theorem kR_80 {m : Nat} (h1 : 80 ≤ m) (h2 : m < 96) {pc : Nat} {i : Instr} {len : Nat} {ts : List Nat} (hc : ka_cd m pc = some (i, len, ts)) : ka_ck m pc i len ts = true := by
  have hl := kR_lt hc
  rcases (show m = 80 ∨ m = 81 ∨ m = 82 ∨ m = 83 ∨ m = 84 ∨ m = 85 ∨ m = 86 ∨ m = 87 ∨ m = 88 ∨ m = 89 ∨ m = 90 ∨ m = 91 ∨ m = 92 ∨ m = 93 ∨ m = 94 ∨ m = 95 by omega) with rfl | rfl | rfl | rfl | rfl | rfl | rfl | rfl | rfl | rfl | rfl | rfl | rfl | rfl | rfl | rfl
  · exact kj_80 (Nat.lt_of_lt_of_le hl (by decide +kernel)) hc
  · exact kj_81 (Nat.lt_of_lt_of_le hl (by decide +kernel)) hc
  · exact kj_82 (Nat.lt_of_lt_of_le hl (by decide +kernel)) hc
  · exact kj_83 (Nat.lt_of_lt_of_le hl (by decide +kernel)) hc
  · exact kj_84 (Nat.lt_of_lt_of_le hl (by decide +kernel)) hc
  · exact kj_85 (Nat.lt_of_lt_of_le hl (by decide +kernel)) hc
  · exact kj_86 (Nat.lt_of_lt_of_le hl (by decide +kernel)) hc
  · exact kj_87 (Nat.lt_of_lt_of_le hl (by decide +kernel)) hc
  · exact kj_88 (Nat.lt_of_lt_of_le hl (by decide +kernel)) hc
  · exact kj_89 (Nat.lt_of_lt_of_le hl (by decide +kernel)) hc
  · exact kj_90 (Nat.lt_of_lt_of_le hl (by decide +kernel)) hc
  · exact kj_91 (Nat.lt_of_lt_of_le hl (by decide +kernel)) hc
  · exact kj_92 (Nat.lt_of_lt_of_le hl (by decide +kernel)) hc
  · exact kj_93 (Nat.lt_of_lt_of_le hl (by decide +kernel)) hc
  · exact kj_94 (Nat.lt_of_lt_of_le hl (by decide +kernel)) hc
  · exact kj_95 (Nat.lt_of_lt_of_le hl (by decide +kernel)) hc
theorem kWj_80 {m : Nat} (h1 : 80 ≤ m) (h2 : m < 96) : lw_tbl[ka_ic m]? = some (ka_cw m) := by
  rcases (show m = 80 ∨ m = 81 ∨ m = 82 ∨ m = 83 ∨ m = 84 ∨ m = 85 ∨ m = 86 ∨ m = 87 ∨ m = 88 ∨ m = 89 ∨ m = 90 ∨ m = 91 ∨ m = 92 ∨ m = 93 ∨ m = 94 ∨ m = 95 by omega) with rfl | rfl | rfl | rfl | rfl | rfl | rfl | rfl | rfl | rfl | rfl | rfl | rfl | rfl | rfl | rfl
  · exact kcw_80
  · exact kcw_81
  · exact kcw_82
  · exact kcw_83
  · exact kcw_84
  · exact kcw_85
  · exact kcw_86
  · exact kcw_87
  · exact kcw_88
  · exact kcw_89
  · exact kcw_90
  · exact kcw_91
  · exact kcw_92
  · exact kcw_93
  · exact kcw_94
  · exact kcw_95
theorem kR_96 {m : Nat} (h1 : 96 ≤ m) (h2 : m < 112) {pc : Nat} {i : Instr} {len : Nat} {ts : List Nat} (hc : ka_cd m pc = some (i, len, ts)) : ka_ck m pc i len ts = true := by
  have hl := kR_lt hc
  rcases (show m = 96 ∨ m = 97 ∨ m = 98 ∨ m = 99 ∨ m = 100 ∨ m = 101 ∨ m = 102 ∨ m = 103 ∨ m = 104 ∨ m = 105 ∨ m = 106 ∨ m = 107 ∨ m = 108 ∨ m = 109 ∨ m = 110 ∨ m = 111 by omega) with rfl | rfl | rfl | rfl | rfl | rfl | rfl | rfl | rfl | rfl | rfl | rfl | rfl | rfl | rfl | rfl
  · exact kj_96 (Nat.lt_of_lt_of_le hl (by decide +kernel)) hc
  · exact kj_97 (Nat.lt_of_lt_of_le hl (by decide +kernel)) hc
  · exact kj_98 (Nat.lt_of_lt_of_le hl (by decide +kernel)) hc
  · exact kj_99 (Nat.lt_of_lt_of_le hl (by decide +kernel)) hc
  · exact kj_100 (Nat.lt_of_lt_of_le hl (by decide +kernel)) hc
  · exact kj_101 (Nat.lt_of_lt_of_le hl (by decide +kernel)) hc
  · exact kj_102 (Nat.lt_of_lt_of_le hl (by decide +kernel)) hc
  · exact kj_103 (Nat.lt_of_lt_of_le hl (by decide +kernel)) hc
  · exact kj_104 (Nat.lt_of_lt_of_le hl (by decide +kernel)) hc
  · exact kj_105 (Nat.lt_of_lt_of_le hl (by decide +kernel)) hc
  · exact kj_106 (Nat.lt_of_lt_of_le hl (by decide +kernel)) hc
  · exact kj_107 (Nat.lt_of_lt_of_le hl (by decide +kernel)) hc
  · exact kj_108 (Nat.lt_of_lt_of_le hl (by decide +kernel)) hc
  · exact kj_109 (Nat.lt_of_lt_of_le hl (by decide +kernel)) hc
  · exact kj_110 (Nat.lt_of_lt_of_le hl (by decide +kernel)) hc
  · exact kj_111 (Nat.lt_of_lt_of_le hl (by decide +kernel)) hc
theorem kWj_96 {m : Nat} (h1 : 96 ≤ m) (h2 : m < 112) : lw_tbl[ka_ic m]? = some (ka_cw m) := by
  rcases (show m = 96 ∨ m = 97 ∨ m = 98 ∨ m = 99 ∨ m = 100 ∨ m = 101 ∨ m = 102 ∨ m = 103 ∨ m = 104 ∨ m = 105 ∨ m = 106 ∨ m = 107 ∨ m = 108 ∨ m = 109 ∨ m = 110 ∨ m = 111 by omega) with rfl | rfl | rfl | rfl | rfl | rfl | rfl | rfl | rfl | rfl | rfl | rfl | rfl | rfl | rfl | rfl
  · exact kcw_96
  · exact kcw_97
  · exact kcw_98
  · exact kcw_99
  · exact kcw_100
  · exact kcw_101
  · exact kcw_102
  · exact kcw_103
  · exact kcw_104
  · exact kcw_105
  · exact kcw_106
  · exact kcw_107
  · exact kcw_108
  · exact kcw_109
  · exact kcw_110
  · exact kcw_111
theorem kR_112 {m : Nat} (h1 : 112 ≤ m) (h2 : m < 128) {pc : Nat} {i : Instr} {len : Nat} {ts : List Nat} (hc : ka_cd m pc = some (i, len, ts)) : ka_ck m pc i len ts = true := by
  have hl := kR_lt hc
  rcases (show m = 112 ∨ m = 113 ∨ m = 114 ∨ m = 115 ∨ m = 116 ∨ m = 117 ∨ m = 118 ∨ m = 119 ∨ m = 120 ∨ m = 121 ∨ m = 122 ∨ m = 123 ∨ m = 124 ∨ m = 125 ∨ m = 126 ∨ m = 127 by omega) with rfl | rfl | rfl | rfl | rfl | rfl | rfl | rfl | rfl | rfl | rfl | rfl | rfl | rfl | rfl | rfl
  · exact kj_112 (Nat.lt_of_lt_of_le hl (by decide +kernel)) hc
  · exact kj_113 (Nat.lt_of_lt_of_le hl (by decide +kernel)) hc
  · exact kj_114 (Nat.lt_of_lt_of_le hl (by decide +kernel)) hc
  · exact kj_115 (Nat.lt_of_lt_of_le hl (by decide +kernel)) hc
  · exact kj_116 (Nat.lt_of_lt_of_le hl (by decide +kernel)) hc
  · exact kj_117 (Nat.lt_of_lt_of_le hl (by decide +kernel)) hc
  · exact kj_118 (Nat.lt_of_lt_of_le hl (by decide +kernel)) hc
  · exact kj_119 (Nat.lt_of_lt_of_le hl (by decide +kernel)) hc
  · exact kj_120 (Nat.lt_of_lt_of_le hl (by decide +kernel)) hc
  · exact kj_121 (Nat.lt_of_lt_of_le hl (by decide +kernel)) hc
  · exact kj_122 (Nat.lt_of_lt_of_le hl (by decide +kernel)) hc
  · exact kj_123 (Nat.lt_of_lt_of_le hl (by decide +kernel)) hc
  · exact kj_124 (Nat.lt_of_lt_of_le hl (by decide +kernel)) hc
  · exact kj_125 (Nat.lt_of_lt_of_le hl (by decide +kernel)) hc
  · exact kj_126 (Nat.lt_of_lt_of_le hl (by decide +kernel)) hc
  · exact kj_127 (Nat.lt_of_lt_of_le hl (by decide +kernel)) hc
theorem kWj_112 {m : Nat} (h1 : 112 ≤ m) (h2 : m < 128) : lw_tbl[ka_ic m]? = some (ka_cw m) := by
  rcases (show m = 112 ∨ m = 113 ∨ m = 114 ∨ m = 115 ∨ m = 116 ∨ m = 117 ∨ m = 118 ∨ m = 119 ∨ m = 120 ∨ m = 121 ∨ m = 122 ∨ m = 123 ∨ m = 124 ∨ m = 125 ∨ m = 126 ∨ m = 127 by omega) with rfl | rfl | rfl | rfl | rfl | rfl | rfl | rfl | rfl | rfl | rfl | rfl | rfl | rfl | rfl | rfl
  · exact kcw_112
  · exact kcw_113
  · exact kcw_114
  · exact kcw_115
  · exact kcw_116
  · exact kcw_117
  · exact kcw_118
  · exact kcw_119
  · exact kcw_120
  · exact kcw_121
  · exact kcw_122
  · exact kcw_123
  · exact kcw_124
  · exact kcw_125
  · exact kcw_126
  · exact kcw_127
theorem kR_128 {m : Nat} (h1 : 128 ≤ m) (h2 : m < 144) {pc : Nat} {i : Instr} {len : Nat} {ts : List Nat} (hc : ka_cd m pc = some (i, len, ts)) : ka_ck m pc i len ts = true := by
  have hl := kR_lt hc
  rcases (show m = 128 ∨ m = 129 ∨ m = 130 ∨ m = 131 ∨ m = 132 ∨ m = 133 ∨ m = 134 ∨ m = 135 ∨ m = 136 ∨ m = 137 ∨ m = 138 ∨ m = 139 ∨ m = 140 ∨ m = 141 ∨ m = 142 ∨ m = 143 by omega) with rfl | rfl | rfl | rfl | rfl | rfl | rfl | rfl | rfl | rfl | rfl | rfl | rfl | rfl | rfl | rfl
  · exact kj_128 (Nat.lt_of_lt_of_le hl (by decide +kernel)) hc
  · exact kj_129 (Nat.lt_of_lt_of_le hl (by decide +kernel)) hc
  · exact kj_130 (Nat.lt_of_lt_of_le hl (by decide +kernel)) hc
  · exact kj_131 (Nat.lt_of_lt_of_le hl (by decide +kernel)) hc
  · exact kj_132 (Nat.lt_of_lt_of_le hl (by decide +kernel)) hc
  · exact kj_133 (Nat.lt_of_lt_of_le hl (by decide +kernel)) hc
  · exact kj_134 (Nat.lt_of_lt_of_le hl (by decide +kernel)) hc
  · exact kj_135 (Nat.lt_of_lt_of_le hl (by decide +kernel)) hc
  · exact kj_136 (Nat.lt_of_lt_of_le hl (by decide +kernel)) hc
  · exact kj_137 (Nat.lt_of_lt_of_le hl (by decide +kernel)) hc
  · exact kj_138 (Nat.lt_of_lt_of_le hl (by decide +kernel)) hc
  · exact kj_139 (Nat.lt_of_lt_of_le hl (by decide +kernel)) hc
  · exact kj_140 (Nat.lt_of_lt_of_le hl (by decide +kernel)) hc
  · exact kj_141 (Nat.lt_of_lt_of_le hl (by decide +kernel)) hc
  · exact kj_142 (Nat.lt_of_lt_of_le hl (by decide +kernel)) hc
  · exact kj_143 (Nat.lt_of_lt_of_le hl (by decide +kernel)) hc
theorem kWj_128 {m : Nat} (h1 : 128 ≤ m) (h2 : m < 144) : lw_tbl[ka_ic m]? = some (ka_cw m) := by
  rcases (show m = 128 ∨ m = 129 ∨ m = 130 ∨ m = 131 ∨ m = 132 ∨ m = 133 ∨ m = 134 ∨ m = 135 ∨ m = 136 ∨ m = 137 ∨ m = 138 ∨ m = 139 ∨ m = 140 ∨ m = 141 ∨ m = 142 ∨ m = 143 by omega) with rfl | rfl | rfl | rfl | rfl | rfl | rfl | rfl | rfl | rfl | rfl | rfl | rfl | rfl | rfl | rfl
  · exact kcw_128
  · exact kcw_129
  · exact kcw_130
  · exact kcw_131
  · exact kcw_132
  · exact kcw_133
  · exact kcw_134
  · exact kcw_135
  · exact kcw_136
  · exact kcw_137
  · exact kcw_138
  · exact kcw_139
  · exact kcw_140
  · exact kcw_141
  · exact kcw_142
  · exact kcw_143
theorem kR_144 {m : Nat} (h1 : 144 ≤ m) (h2 : m < 160) {pc : Nat} {i : Instr} {len : Nat} {ts : List Nat} (hc : ka_cd m pc = some (i, len, ts)) : ka_ck m pc i len ts = true := by
  have hl := kR_lt hc
  rcases (show m = 144 ∨ m = 145 ∨ m = 146 ∨ m = 147 ∨ m = 148 ∨ m = 149 ∨ m = 150 ∨ m = 151 ∨ m = 152 ∨ m = 153 ∨ m = 154 ∨ m = 155 ∨ m = 156 ∨ m = 157 ∨ m = 158 ∨ m = 159 by omega) with rfl | rfl | rfl | rfl | rfl | rfl | rfl | rfl | rfl | rfl | rfl | rfl | rfl | rfl | rfl | rfl
  · exact kj_144 (Nat.lt_of_lt_of_le hl (by decide +kernel)) hc
  · exact kj_145 (Nat.lt_of_lt_of_le hl (by decide +kernel)) hc
  · exact kj_146 (Nat.lt_of_lt_of_le hl (by decide +kernel)) hc
  · exact kj_147 (Nat.lt_of_lt_of_le hl (by decide +kernel)) hc
  · exact kj_148 (Nat.lt_of_lt_of_le hl (by decide +kernel)) hc
  · exact kj_149 (Nat.lt_of_lt_of_le hl (by decide +kernel)) hc
  · exact kj_150 (Nat.lt_of_lt_of_le hl (by decide +kernel)) hc
  · exact kj_151 (Nat.lt_of_lt_of_le hl (by decide +kernel)) hc
  · exact kj_152 (Nat.lt_of_lt_of_le hl (by decide +kernel)) hc
  · exact kj_153 (Nat.lt_of_lt_of_le hl (by decide +kernel)) hc
  · exact kj_154 (Nat.lt_of_lt_of_le hl (by decide +kernel)) hc
  · exact kj_155 (Nat.lt_of_lt_of_le hl (by decide +kernel)) hc
  · exact kj_156 (Nat.lt_of_lt_of_le hl (by decide +kernel)) hc
  · exact kj_157 (Nat.lt_of_lt_of_le hl (by decide +kernel)) hc
  · exact kj_158 (Nat.lt_of_lt_of_le hl (by decide +kernel)) hc
  · exact kj_159 (Nat.lt_of_lt_of_le hl (by decide +kernel)) hc
theorem kWj_144 {m : Nat} (h1 : 144 ≤ m) (h2 : m < 160) : lw_tbl[ka_ic m]? = some (ka_cw m) := by
  rcases (show m = 144 ∨ m = 145 ∨ m = 146 ∨ m = 147 ∨ m = 148 ∨ m = 149 ∨ m = 150 ∨ m = 151 ∨ m = 152 ∨ m = 153 ∨ m = 154 ∨ m = 155 ∨ m = 156 ∨ m = 157 ∨ m = 158 ∨ m = 159 by omega) with rfl | rfl | rfl | rfl | rfl | rfl | rfl | rfl | rfl | rfl | rfl | rfl | rfl | rfl | rfl | rfl
  · exact kcw_144
  · exact kcw_145
  · exact kcw_146
  · exact kcw_147
  · exact kcw_148
  · exact kcw_149
  · exact kcw_150
  · exact kcw_151
  · exact kcw_152
  · exact kcw_153
  · exact kcw_154
  · exact kcw_155
  · exact kcw_156
  · exact kcw_157
  · exact kcw_158
  · exact kcw_159
theorem kR_160 {m : Nat} (h1 : 160 ≤ m) (h2 : m < 176) {pc : Nat} {i : Instr} {len : Nat} {ts : List Nat} (hc : ka_cd m pc = some (i, len, ts)) : ka_ck m pc i len ts = true := by
  have hl := kR_lt hc
  rcases (show m = 160 ∨ m = 161 ∨ m = 162 ∨ m = 163 ∨ m = 164 ∨ m = 165 ∨ m = 166 ∨ m = 167 ∨ m = 168 ∨ m = 169 ∨ m = 170 ∨ m = 171 ∨ m = 172 ∨ m = 173 ∨ m = 174 ∨ m = 175 by omega) with rfl | rfl | rfl | rfl | rfl | rfl | rfl | rfl | rfl | rfl | rfl | rfl | rfl | rfl | rfl | rfl
  · exact kj_160 (Nat.lt_of_lt_of_le hl (by decide +kernel)) hc
  · exact kj_161 (Nat.lt_of_lt_of_le hl (by decide +kernel)) hc
  · exact kj_162 (Nat.lt_of_lt_of_le hl (by decide +kernel)) hc
  · exact kj_163 (Nat.lt_of_lt_of_le hl (by decide +kernel)) hc
  · exact kj_164 (Nat.lt_of_lt_of_le hl (by decide +kernel)) hc
  · exact kj_165 (Nat.lt_of_lt_of_le hl (by decide +kernel)) hc
  · exact kj_166 (Nat.lt_of_lt_of_le hl (by decide +kernel)) hc
  · exact kj_167 (Nat.lt_of_lt_of_le hl (by decide +kernel)) hc
  · exact kj_168 (Nat.lt_of_lt_of_le hl (by decide +kernel)) hc
  · exact kj_169 (Nat.lt_of_lt_of_le hl (by decide +kernel)) hc
  · exact kj_170 (Nat.lt_of_lt_of_le hl (by decide +kernel)) hc
  · exact kj_171 (Nat.lt_of_lt_of_le hl (by decide +kernel)) hc
  · exact kj_172 (Nat.lt_of_lt_of_le hl (by decide +kernel)) hc
  · exact kj_173 (Nat.lt_of_lt_of_le hl (by decide +kernel)) hc
  · exact kj_174 (Nat.lt_of_lt_of_le hl (by decide +kernel)) hc
  · exact kj_175 (Nat.lt_of_lt_of_le hl (by decide +kernel)) hc
theorem kWj_160 {m : Nat} (h1 : 160 ≤ m) (h2 : m < 176) : lw_tbl[ka_ic m]? = some (ka_cw m) := by
  rcases (show m = 160 ∨ m = 161 ∨ m = 162 ∨ m = 163 ∨ m = 164 ∨ m = 165 ∨ m = 166 ∨ m = 167 ∨ m = 168 ∨ m = 169 ∨ m = 170 ∨ m = 171 ∨ m = 172 ∨ m = 173 ∨ m = 174 ∨ m = 175 by omega) with rfl | rfl | rfl | rfl | rfl | rfl | rfl | rfl | rfl | rfl | rfl | rfl | rfl | rfl | rfl | rfl
  · exact kcw_160
  · exact kcw_161
  · exact kcw_162
  · exact kcw_163
  · exact kcw_164
  · exact kcw_165
  · exact kcw_166
  · exact kcw_167
  · exact kcw_168
  · exact kcw_169
  · exact kcw_170
  · exact kcw_171
  · exact kcw_172
  · exact kcw_173
  · exact kcw_174
  · exact kcw_175
theorem kR_176 {m : Nat} (h1 : 176 ≤ m) (h2 : m < 192) {pc : Nat} {i : Instr} {len : Nat} {ts : List Nat} (hc : ka_cd m pc = some (i, len, ts)) : ka_ck m pc i len ts = true := by
  have hl := kR_lt hc
  rcases (show m = 176 ∨ m = 177 ∨ m = 178 ∨ m = 179 ∨ m = 180 ∨ m = 181 ∨ m = 182 ∨ m = 183 ∨ m = 184 ∨ m = 185 ∨ m = 186 ∨ m = 187 ∨ m = 188 ∨ m = 189 ∨ m = 190 ∨ m = 191 by omega) with rfl | rfl | rfl | rfl | rfl | rfl | rfl | rfl | rfl | rfl | rfl | rfl | rfl | rfl | rfl | rfl
  · exact kj_176 (Nat.lt_of_lt_of_le hl (by decide +kernel)) hc
  · exact kj_177 (Nat.lt_of_lt_of_le hl (by decide +kernel)) hc
  · exact kj_178 (Nat.lt_of_lt_of_le hl (by decide +kernel)) hc
  · exact kj_179 (Nat.lt_of_lt_of_le hl (by decide +kernel)) hc
  · exact kj_180 (Nat.lt_of_lt_of_le hl (by decide +kernel)) hc
  · exact kj_181 (Nat.lt_of_lt_of_le hl (by decide +kernel)) hc
  · exact kj_182 (Nat.lt_of_lt_of_le hl (by decide +kernel)) hc
  · exact kj_183 (Nat.lt_of_lt_of_le hl (by decide +kernel)) hc
  · exact kj_184 (Nat.lt_of_lt_of_le hl (by decide +kernel)) hc
  · exact kj_185 (Nat.lt_of_lt_of_le hl (by decide +kernel)) hc
  · exact kj_186 (Nat.lt_of_lt_of_le hl (by decide +kernel)) hc
  · exact kj_187 (Nat.lt_of_lt_of_le hl (by decide +kernel)) hc
  · exact kj_188 (Nat.lt_of_lt_of_le hl (by decide +kernel)) hc
  · exact kj_189 (Nat.lt_of_lt_of_le hl (by decide +kernel)) hc
  · exact kj_190 (Nat.lt_of_lt_of_le hl (by decide +kernel)) hc
  · exact kj_191 (Nat.lt_of_lt_of_le hl (by decide +kernel)) hc
theorem kWj_176 {m : Nat} (h1 : 176 ≤ m) (h2 : m < 192) : lw_tbl[ka_ic m]? = some (ka_cw m) := by
  rcases (show m = 176 ∨ m = 177 ∨ m = 178 ∨ m = 179 ∨ m = 180 ∨ m = 181 ∨ m = 182 ∨ m = 183 ∨ m = 184 ∨ m = 185 ∨ m = 186 ∨ m = 187 ∨ m = 188 ∨ m = 189 ∨ m = 190 ∨ m = 191 by omega) with rfl | rfl | rfl | rfl | rfl | rfl | rfl | rfl | rfl | rfl | rfl | rfl | rfl | rfl | rfl | rfl
  · exact kcw_176
  · exact kcw_177
  · exact kcw_178
  · exact kcw_179
  · exact kcw_180
  · exact kcw_181
  · exact kcw_182
  · exact kcw_183
  · exact kcw_184
  · exact kcw_185
  · exact kcw_186
  · exact kcw_187
  · exact kcw_188
  · exact kcw_189
  · exact kcw_190
  · exact kcw_191
theorem kR_192 {m : Nat} (h1 : 192 ≤ m) (h2 : m < 208) {pc : Nat} {i : Instr} {len : Nat} {ts : List Nat} (hc : ka_cd m pc = some (i, len, ts)) : ka_ck m pc i len ts = true := by
  have hl := kR_lt hc
  rcases (show m = 192 ∨ m = 193 ∨ m = 194 ∨ m = 195 ∨ m = 196 ∨ m = 197 ∨ m = 198 ∨ m = 199 ∨ m = 200 ∨ m = 201 ∨ m = 202 ∨ m = 203 ∨ m = 204 ∨ m = 205 ∨ m = 206 ∨ m = 207 by omega) with rfl | rfl | rfl | rfl | rfl | rfl | rfl | rfl | rfl | rfl | rfl | rfl | rfl | rfl | rfl | rfl
  · exact kj_192 (Nat.lt_of_lt_of_le hl (by decide +kernel)) hc
  · exact kj_193 (Nat.lt_of_lt_of_le hl (by decide +kernel)) hc
  · exact kj_194 (Nat.lt_of_lt_of_le hl (by decide +kernel)) hc
  · exact kj_195 (Nat.lt_of_lt_of_le hl (by decide +kernel)) hc
  · exact kj_196 (Nat.lt_of_lt_of_le hl (by decide +kernel)) hc
  · exact kj_197 (Nat.lt_of_lt_of_le hl (by decide +kernel)) hc
  · exact kj_198 (Nat.lt_of_lt_of_le hl (by decide +kernel)) hc
  · exact kj_199 (Nat.lt_of_lt_of_le hl (by decide +kernel)) hc
  · exact kj_200 (Nat.lt_of_lt_of_le hl (by decide +kernel)) hc
  · exact kj_201 (Nat.lt_of_lt_of_le hl (by decide +kernel)) hc
  · exact kj_202 (Nat.lt_of_lt_of_le hl (by decide +kernel)) hc
  · exact kj_203 (Nat.lt_of_lt_of_le hl (by decide +kernel)) hc
  · exact kj_204 (Nat.lt_of_lt_of_le hl (by decide +kernel)) hc
  · exact kj_205 (Nat.lt_of_lt_of_le hl (by decide +kernel)) hc
  · exact kj_206 (Nat.lt_of_lt_of_le hl (by decide +kernel)) hc
  · exact kj_207 (Nat.lt_of_lt_of_le hl (by decide +kernel)) hc
theorem kWj_192 {m : Nat} (h1 : 192 ≤ m) (h2 : m < 208) : lw_tbl[ka_ic m]? = some (ka_cw m) := by
  rcases (show m = 192 ∨ m = 193 ∨ m = 194 ∨ m = 195 ∨ m = 196 ∨ m = 197 ∨ m = 198 ∨ m = 199 ∨ m = 200 ∨ m = 201 ∨ m = 202 ∨ m = 203 ∨ m = 204 ∨ m = 205 ∨ m = 206 ∨ m = 207 by omega) with rfl | rfl | rfl | rfl | rfl | rfl | rfl | rfl | rfl | rfl | rfl | rfl | rfl | rfl | rfl | rfl
  · exact kcw_192
  · exact kcw_193
  · exact kcw_194
  · exact kcw_195
  · exact kcw_196
  · exact kcw_197
  · exact kcw_198
  · exact kcw_199
  · exact kcw_200
  · exact kcw_201
  · exact kcw_202
  · exact kcw_203
  · exact kcw_204
  · exact kcw_205
  · exact kcw_206
  · exact kcw_207
theorem kR_208 {m : Nat} (h1 : 208 ≤ m) (h2 : m < 224) {pc : Nat} {i : Instr} {len : Nat} {ts : List Nat} (hc : ka_cd m pc = some (i, len, ts)) : ka_ck m pc i len ts = true := by
  have hl := kR_lt hc
  rcases (show m = 208 ∨ m = 209 ∨ m = 210 ∨ m = 211 ∨ m = 212 ∨ m = 213 ∨ m = 214 ∨ m = 215 ∨ m = 216 ∨ m = 217 ∨ m = 218 ∨ m = 219 ∨ m = 220 ∨ m = 221 ∨ m = 222 ∨ m = 223 by omega) with rfl | rfl | rfl | rfl | rfl | rfl | rfl | rfl | rfl | rfl | rfl | rfl | rfl | rfl | rfl | rfl
  · exact kj_208 (Nat.lt_of_lt_of_le hl (by decide +kernel)) hc
  · exact kj_209 (Nat.lt_of_lt_of_le hl (by decide +kernel)) hc
  · exact kj_210 (Nat.lt_of_lt_of_le hl (by decide +kernel)) hc
  · exact kj_211 (Nat.lt_of_lt_of_le hl (by decide +kernel)) hc
  · exact kj_212 (Nat.lt_of_lt_of_le hl (by decide +kernel)) hc
  · exact kj_213 (Nat.lt_of_lt_of_le hl (by decide +kernel)) hc
  · exact kj_214 (Nat.lt_of_lt_of_le hl (by decide +kernel)) hc
  · exact kj_215 (Nat.lt_of_lt_of_le hl (by decide +kernel)) hc
  · exact kj_216 (Nat.lt_of_lt_of_le hl (by decide +kernel)) hc
  · exact kj_217 (Nat.lt_of_lt_of_le hl (by decide +kernel)) hc
  · exact kj_218 (Nat.lt_of_lt_of_le hl (by decide +kernel)) hc
  · exact kj_219 (Nat.lt_of_lt_of_le hl (by decide +kernel)) hc
  · exact kj_220 (Nat.lt_of_lt_of_le hl (by decide +kernel)) hc
  · exact kj_221 (Nat.lt_of_lt_of_le hl (by decide +kernel)) hc
  · exact kj_222 (Nat.lt_of_lt_of_le hl (by decide +kernel)) hc
  · exact kj_223 (Nat.lt_of_lt_of_le hl (by decide +kernel)) hc
theorem kWj_208 {m : Nat} (h1 : 208 ≤ m) (h2 : m < 224) : lw_tbl[ka_ic m]? = some (ka_cw m) := by
  rcases (show m = 208 ∨ m = 209 ∨ m = 210 ∨ m = 211 ∨ m = 212 ∨ m = 213 ∨ m = 214 ∨ m = 215 ∨ m = 216 ∨ m = 217 ∨ m = 218 ∨ m = 219 ∨ m = 220 ∨ m = 221 ∨ m = 222 ∨ m = 223 by omega) with rfl | rfl | rfl | rfl | rfl | rfl | rfl | rfl | rfl | rfl | rfl | rfl | rfl | rfl | rfl | rfl
  · exact kcw_208
  · exact kcw_209
  · exact kcw_210
  · exact kcw_211
  · exact kcw_212
  · exact kcw_213
  · exact kcw_214
  · exact kcw_215
  · exact kcw_216
  · exact kcw_217
  · exact kcw_218
  · exact kcw_219
  · exact kcw_220
  · exact kcw_221
  · exact kcw_222
  · exact kcw_223
theorem kR_224 {m : Nat} (h1 : 224 ≤ m) (h2 : m < 240) {pc : Nat} {i : Instr} {len : Nat} {ts : List Nat} (hc : ka_cd m pc = some (i, len, ts)) : ka_ck m pc i len ts = true := by
  have hl := kR_lt hc
  rcases (show m = 224 ∨ m = 225 ∨ m = 226 ∨ m = 227 ∨ m = 228 ∨ m = 229 ∨ m = 230 ∨ m = 231 ∨ m = 232 ∨ m = 233 ∨ m = 234 ∨ m = 235 ∨ m = 236 ∨ m = 237 ∨ m = 238 ∨ m = 239 by omega) with rfl | rfl | rfl | rfl | rfl | rfl | rfl | rfl | rfl | rfl | rfl | rfl | rfl | rfl | rfl | rfl
  · exact kj_224 (Nat.lt_of_lt_of_le hl (by decide +kernel)) hc
  · exact kj_225 (Nat.lt_of_lt_of_le hl (by decide +kernel)) hc
  · exact kj_226 (Nat.lt_of_lt_of_le hl (by decide +kernel)) hc
  · exact kj_227 (Nat.lt_of_lt_of_le hl (by decide +kernel)) hc
  · exact kj_228 (Nat.lt_of_lt_of_le hl (by decide +kernel)) hc
  · exact kj_229 (Nat.lt_of_lt_of_le hl (by decide +kernel)) hc
  · exact kj_230 (Nat.lt_of_lt_of_le hl (by decide +kernel)) hc
  · exact kj_231 (Nat.lt_of_lt_of_le hl (by decide +kernel)) hc
  · exact kj_232 (Nat.lt_of_lt_of_le hl (by decide +kernel)) hc
  · exact kj_233 (Nat.lt_of_lt_of_le hl (by decide +kernel)) hc
  · exact kj_234 (Nat.lt_of_lt_of_le hl (by decide +kernel)) hc
  · exact kj_235 (Nat.lt_of_lt_of_le hl (by decide +kernel)) hc
  · exact kj_236 (Nat.lt_of_lt_of_le hl (by decide +kernel)) hc
  · exact kj_237 (Nat.lt_of_lt_of_le hl (by decide +kernel)) hc
  · exact kj_238 (Nat.lt_of_lt_of_le hl (by decide +kernel)) hc
  · exact kj_239 (Nat.lt_of_lt_of_le hl (by decide +kernel)) hc
theorem kWj_224 {m : Nat} (h1 : 224 ≤ m) (h2 : m < 240) : lw_tbl[ka_ic m]? = some (ka_cw m) := by
  rcases (show m = 224 ∨ m = 225 ∨ m = 226 ∨ m = 227 ∨ m = 228 ∨ m = 229 ∨ m = 230 ∨ m = 231 ∨ m = 232 ∨ m = 233 ∨ m = 234 ∨ m = 235 ∨ m = 236 ∨ m = 237 ∨ m = 238 ∨ m = 239 by omega) with rfl | rfl | rfl | rfl | rfl | rfl | rfl | rfl | rfl | rfl | rfl | rfl | rfl | rfl | rfl | rfl
  · exact kcw_224
  · exact kcw_225
  · exact kcw_226
  · exact kcw_227
  · exact kcw_228
  · exact kcw_229
  · exact kcw_230
  · exact kcw_231
  · exact kcw_232
  · exact kcw_233
  · exact kcw_234
  · exact kcw_235
  · exact kcw_236
  · exact kcw_237
  · exact kcw_238
  · exact kcw_239
theorem kR_240 {m : Nat} (h1 : 240 ≤ m) (h2 : m < 256) {pc : Nat} {i : Instr} {len : Nat} {ts : List Nat} (hc : ka_cd m pc = some (i, len, ts)) : ka_ck m pc i len ts = true := by
  have hl := kR_lt hc
  rcases (show m = 240 ∨ m = 241 ∨ m = 242 ∨ m = 243 ∨ m = 244 ∨ m = 245 ∨ m = 246 ∨ m = 247 ∨ m = 248 ∨ m = 249 ∨ m = 250 ∨ m = 251 ∨ m = 252 ∨ m = 253 ∨ m = 254 ∨ m = 255 by omega) with rfl | rfl | rfl | rfl | rfl | rfl | rfl | rfl | rfl | rfl | rfl | rfl | rfl | rfl | rfl | rfl
  · exact kj_240 (Nat.lt_of_lt_of_le hl (by decide +kernel)) hc
  · exact kj_241 (Nat.lt_of_lt_of_le hl (by decide +kernel)) hc
  · exact kj_242 (Nat.lt_of_lt_of_le hl (by decide +kernel)) hc
  · exact kj_243 (Nat.lt_of_lt_of_le hl (by decide +kernel)) hc
  · exact kj_244 (Nat.lt_of_lt_of_le hl (by decide +kernel)) hc
  · exact kj_245 (Nat.lt_of_lt_of_le hl (by decide +kernel)) hc
  · exact kj_246 (Nat.lt_of_lt_of_le hl (by decide +kernel)) hc
  · exact kj_247 (Nat.lt_of_lt_of_le hl (by decide +kernel)) hc
  · exact kj_248 (Nat.lt_of_lt_of_le hl (by decide +kernel)) hc
  · exact kj_249 (Nat.lt_of_lt_of_le hl (by decide +kernel)) hc
  · exact kj_250 (Nat.lt_of_lt_of_le hl (by decide +kernel)) hc
  · exact kj_251 (Nat.lt_of_lt_of_le hl (by decide +kernel)) hc
  · exact kj_252 (Nat.lt_of_lt_of_le hl (by decide +kernel)) hc
  · exact kj_253 (Nat.lt_of_lt_of_le hl (by decide +kernel)) hc
  · exact kj_254 (Nat.lt_of_lt_of_le hl (by decide +kernel)) hc
  · exact kj_255 (Nat.lt_of_lt_of_le hl (by decide +kernel)) hc
theorem kWj_240 {m : Nat} (h1 : 240 ≤ m) (h2 : m < 256) : lw_tbl[ka_ic m]? = some (ka_cw m) := by
  rcases (show m = 240 ∨ m = 241 ∨ m = 242 ∨ m = 243 ∨ m = 244 ∨ m = 245 ∨ m = 246 ∨ m = 247 ∨ m = 248 ∨ m = 249 ∨ m = 250 ∨ m = 251 ∨ m = 252 ∨ m = 253 ∨ m = 254 ∨ m = 255 by omega) with rfl | rfl | rfl | rfl | rfl | rfl | rfl | rfl | rfl | rfl | rfl | rfl | rfl | rfl | rfl | rfl
  · exact kcw_240
  · exact kcw_241
  · exact kcw_242
  · exact kcw_243
  · exact kcw_244
  · exact kcw_245
  · exact kcw_246
  · exact kcw_247
  · exact kcw_248
  · exact kcw_249
  · exact kcw_250
  · exact kcw_251
  · exact kcw_252
  · exact kcw_253
  · exact kcw_254
  · exact kcw_255
theorem kR_256 {m : Nat} (h1 : 256 ≤ m) (h2 : m < 272) {pc : Nat} {i : Instr} {len : Nat} {ts : List Nat} (hc : ka_cd m pc = some (i, len, ts)) : ka_ck m pc i len ts = true := by
  have hl := kR_lt hc
  rcases (show m = 256 ∨ m = 257 ∨ m = 258 ∨ m = 259 ∨ m = 260 ∨ m = 261 ∨ m = 262 ∨ m = 263 ∨ m = 264 ∨ m = 265 ∨ m = 266 ∨ m = 267 ∨ m = 268 ∨ m = 269 ∨ m = 270 ∨ m = 271 by omega) with rfl | rfl | rfl | rfl | rfl | rfl | rfl | rfl | rfl | rfl | rfl | rfl | rfl | rfl | rfl | rfl
  · exact kj_256 (Nat.lt_of_lt_of_le hl (by decide +kernel)) hc
  · exact kj_257 (Nat.lt_of_lt_of_le hl (by decide +kernel)) hc
  · exact kj_258 (Nat.lt_of_lt_of_le hl (by decide +kernel)) hc
  · exact kj_259 (Nat.lt_of_lt_of_le hl (by decide +kernel)) hc
  · exact kj_260 (Nat.lt_of_lt_of_le hl (by decide +kernel)) hc
  · exact kj_261 (Nat.lt_of_lt_of_le hl (by decide +kernel)) hc
  · exact kj_262 (Nat.lt_of_lt_of_le hl (by decide +kernel)) hc
  · exact kj_263 (Nat.lt_of_lt_of_le hl (by decide +kernel)) hc
  · exact kj_264 (Nat.lt_of_lt_of_le hl (by decide +kernel)) hc
  · exact kj_265 (Nat.lt_of_lt_of_le hl (by decide +kernel)) hc
  · exact kj_266 (Nat.lt_of_lt_of_le hl (by decide +kernel)) hc
  · exact kj_267 (Nat.lt_of_lt_of_le hl (by decide +kernel)) hc
  · exact kj_268 (Nat.lt_of_lt_of_le hl (by decide +kernel)) hc
  · exact kj_269 (Nat.lt_of_lt_of_le hl (by decide +kernel)) hc
  · exact kj_270 (Nat.lt_of_lt_of_le hl (by decide +kernel)) hc
  · exact kj_271 (Nat.lt_of_lt_of_le hl (by decide +kernel)) hc
theorem kWj_256 {m : Nat} (h1 : 256 ≤ m) (h2 : m < 272) : lw_tbl[ka_ic m]? = some (ka_cw m) := by
  rcases (show m = 256 ∨ m = 257 ∨ m = 258 ∨ m = 259 ∨ m = 260 ∨ m = 261 ∨ m = 262 ∨ m = 263 ∨ m = 264 ∨ m = 265 ∨ m = 266 ∨ m = 267 ∨ m = 268 ∨ m = 269 ∨ m = 270 ∨ m = 271 by omega) with rfl | rfl | rfl | rfl | rfl | rfl | rfl | rfl | rfl | rfl | rfl | rfl | rfl | rfl | rfl | rfl
  · exact kcw_256
  · exact kcw_257
  · exact kcw_258
  · exact kcw_259
  · exact kcw_260
  · exact kcw_261
  · exact kcw_262
  · exact kcw_263
  · exact kcw_264
  · exact kcw_265
  · exact kcw_266
  · exact kcw_267
  · exact kcw_268
  · exact kcw_269
  · exact kcw_270
  · exact kcw_271
theorem kR_272 {m : Nat} (h1 : 272 ≤ m) (h2 : m < 283) {pc : Nat} {i : Instr} {len : Nat} {ts : List Nat} (hc : ka_cd m pc = some (i, len, ts)) : ka_ck m pc i len ts = true := by
  have hl := kR_lt hc
  rcases (show m = 272 ∨ m = 273 ∨ m = 274 ∨ m = 275 ∨ m = 276 ∨ m = 277 ∨ m = 278 ∨ m = 279 ∨ m = 280 ∨ m = 281 ∨ m = 282 by omega) with rfl | rfl | rfl | rfl | rfl | rfl | rfl | rfl | rfl | rfl | rfl
  · exact kj_272 (Nat.lt_of_lt_of_le hl (by decide +kernel)) hc
  · exact kj_273 (Nat.lt_of_lt_of_le hl (by decide +kernel)) hc
  · exact kj_274 (Nat.lt_of_lt_of_le hl (by decide +kernel)) hc
  · exact kj_275 (Nat.lt_of_lt_of_le hl (by decide +kernel)) hc
  · exact kj_276 (Nat.lt_of_lt_of_le hl (by decide +kernel)) hc
  · exact kj_277 (Nat.lt_of_lt_of_le hl (by decide +kernel)) hc
  · exact kj_278 (Nat.lt_of_lt_of_le hl (by decide +kernel)) hc
  · exact kj_279 (Nat.lt_of_lt_of_le hl (by decide +kernel)) hc
  · exact kj_280 (Nat.lt_of_lt_of_le hl (by decide +kernel)) hc
  · exact kj_281 (Nat.lt_of_lt_of_le hl (by decide +kernel)) hc
  · exact kj_282 (Nat.lt_of_lt_of_le hl (by decide +kernel)) hc
theorem kWj_272 {m : Nat} (h1 : 272 ≤ m) (h2 : m < 283) : lw_tbl[ka_ic m]? = some (ka_cw m) := by
  rcases (show m = 272 ∨ m = 273 ∨ m = 274 ∨ m = 275 ∨ m = 276 ∨ m = 277 ∨ m = 278 ∨ m = 279 ∨ m = 280 ∨ m = 281 ∨ m = 282 by omega) with rfl | rfl | rfl | rfl | rfl | rfl | rfl | rfl | rfl | rfl | rfl
  · exact kcw_272
  · exact kcw_273
  · exact kcw_274
  · exact kcw_275
  · exact kcw_276
  · exact kcw_277
  · exact kcw_278
  · exact kcw_279
  · exact kcw_280
  · exact kcw_281
  · exact kcw_282
theorem kR_all : ka_Rows := by
  intro m hm pc i len ts hc
  by_cases q144 : m < 144
  · by_cases q64 : m < 64
    · by_cases q32 : m < 32
      · by_cases q16 : m < 16
        · exact kR_0 (by omega) (by omega) hc
        · exact kR_16 (by omega) (by omega) hc
      · by_cases q48 : m < 48
        · exact kR_32 (by omega) (by omega) hc
        · exact kR_48 (by omega) (by omega) hc
    · by_cases q96 : m < 96
      · by_cases q80 : m < 80
        · exact kR_64 (by omega) (by omega) hc
        · exact kR_80 (by omega) (by omega) hc
      · by_cases q112 : m < 112
        · exact kR_96 (by omega) (by omega) hc
        · by_cases q128 : m < 128
          · exact kR_112 (by omega) (by omega) hc
          · exact kR_128 (by omega) (by omega) hc
  · by_cases q208 : m < 208
    · by_cases q176 : m < 176
      · by_cases q160 : m < 160
        · exact kR_144 (by omega) (by omega) hc
        · exact kR_160 (by omega) (by omega) hc
      · by_cases q192 : m < 192
        · exact kR_176 (by omega) (by omega) hc
        · exact kR_192 (by omega) (by omega) hc
    · by_cases q240 : m < 240
      · by_cases q224 : m < 224
        · exact kR_208 (by omega) (by omega) hc
        · exact kR_224 (by omega) (by omega) hc
      · by_cases q256 : m < 256
        · exact kR_240 (by omega) (by omega) hc
        · by_cases q272 : m < 272
          · exact kR_256 (by omega) (by omega) hc
          · exact kR_272 (by omega) (by omega) hc
theorem kWj_all : ka_Kw := by
  intro m h1 hm
  by_cases q144 : m < 144
  · by_cases q64 : m < 64
    · by_cases q32 : m < 32
      · by_cases q16 : m < 16
        · exact kWj_0 (by omega) (by omega)
        · exact kWj_16 (by omega) (by omega)
      · by_cases q48 : m < 48
        · exact kWj_32 (by omega) (by omega)
        · exact kWj_48 (by omega) (by omega)
    · by_cases q96 : m < 96
      · by_cases q80 : m < 80
        · exact kWj_64 (by omega) (by omega)
        · exact kWj_80 (by omega) (by omega)
      · by_cases q112 : m < 112
        · exact kWj_96 (by omega) (by omega)
        · by_cases q128 : m < 128
          · exact kWj_112 (by omega) (by omega)
          · exact kWj_128 (by omega) (by omega)
  · by_cases q208 : m < 208
    · by_cases q176 : m < 176
      · by_cases q160 : m < 160
        · exact kWj_144 (by omega) (by omega)
        · exact kWj_160 (by omega) (by omega)
      · by_cases q192 : m < 192
        · exact kWj_176 (by omega) (by omega)
        · exact kWj_192 (by omega) (by omega)
    · by_cases q240 : m < 240
      · by_cases q224 : m < 224
        · exact kWj_208 (by omega) (by omega)
        · exact kWj_224 (by omega) (by omega)
      · by_cases q256 : m < 256
        · exact kWj_240 (by omega) (by omega)
        · by_cases q272 : m < 272
          · exact kWj_256 (by omega) (by omega)
          · exact kWj_272 (by omega) (by omega)
/-- all but Math.max and Math.min (276, 277) are of classes none of whose methods is run by an entry -/
def ka_Hs2 : Prop := ∀ m, m < 283 → ka_ckh2 m (ka_hh m) (ka_hs m) = true ∧ (plainName (ka_y m).cls = true ∨ m = 276 ∨ m = 277) ∧ ka_on (ka_own m) = (ka_y m).cls
def kH_ck (m : Nat) : Bool := ka_ckh2 m (ka_hh m) (ka_hs m) && (plainName (ka_y m).cls || Nat.beq m 276 || Nat.beq m 277) && decide (ka_on (ka_own m) = (ka_y m).cls)
theorem kH_0 : (List.range 24).all (fun j => kH_ck (0 + j)) = true := by decide +kernel
theorem kH_24 : (List.range 24).all (fun j => kH_ck (24 + j)) = true := by decide +kernel
theorem kH_48 : (List.range 24).all (fun j => kH_ck (48 + j)) = true := by decide +kernel
theorem kH_72 : (List.range 24).all (fun j => kH_ck (72 + j)) = true := by decide +kernel
theorem kH_96 : (List.range 24).all (fun j => kH_ck (96 + j)) = true := by decide +kernel
theorem kH_120 : (List.range 24).all (fun j => kH_ck (120 + j)) = true := by decide +kernel
theorem kH_144 : (List.range 24).all (fun j => kH_ck (144 + j)) = true := by decide +kernel
theorem kH_168 : (List.range 24).all (fun j => kH_ck (168 + j)) = true := by decide +kernel
theorem kH_192 : (List.range 24).all (fun j => kH_ck (192 + j)) = true := by decide +kernel
theorem kH_216 : (List.range 24).all (fun j => kH_ck (216 + j)) = true := by decide +kernel
theorem kH_240 : (List.range 24).all (fun j => kH_ck (240 + j)) = true := by decide +kernel
theorem kH_264 : (List.range 19).all (fun j => kH_ck (264 + j)) = true := by decide +kernel
theorem kH_at {a n m : Nat} (h : (List.range n).all (fun j => kH_ck (a + j)) = true) (h1 : a ≤ m) (h2 : m < a + n) : ka_ckh2 m (ka_hh m) (ka_hs m) = true ∧ (plainName (ka_y m).cls = true ∨ m = 276 ∨ m = 277) ∧ ka_on (ka_own m) = (ka_y m).cls := by
  have h3 := List.all_eq_true.mp h (m - a) (List.mem_range.mpr (by omega))
  rw [show a + (m - a) = m by omega] at h3
  unfold kH_ck at h3
  simp only [Bool.and_eq_true, Bool.or_eq_true, decide_eq_true_eq] at h3
  refine ⟨h3.1.1, ?_, h3.2⟩
  rcases h3.1.2 with (h4 | h4) | h4
  · exact Or.inl h4
  · exact Or.inr (Or.inl (Nat.eq_of_beq_eq_true h4))
  · exact Or.inr (Or.inr (Nat.eq_of_beq_eq_true h4))
theorem kH_all : ka_Hs2 := by
  intro m hm
  by_cases q144 : m < 144
  · by_cases q72 : m < 72
    · by_cases q24 : m < 24
      · exact kH_at kH_0 (by omega) (by omega)
      · by_cases q48 : m < 48
        · exact kH_at kH_24 (by omega) (by omega)
        · exact kH_at kH_48 (by omega) (by omega)
    · by_cases q96 : m < 96
      · exact kH_at kH_72 (by omega) (by omega)
      · by_cases q120 : m < 120
        · exact kH_at kH_96 (by omega) (by omega)
        · exact kH_at kH_120 (by omega) (by omega)
  · by_cases q216 : m < 216
    · by_cases q168 : m < 168
      · exact kH_at kH_144 (by omega) (by omega)
      · by_cases q192 : m < 192
        · exact kH_at kH_168 (by omega) (by omega)
        · exact kH_at kH_192 (by omega) (by omega)
    · by_cases q240 : m < 240
      · exact kH_at kH_216 (by omega) (by omega)
      · by_cases q264 : m < 264
        · exact kH_at kH_240 (by omega) (by omega)
        · exact kH_at kH_264 (by omega) (by omega)
