theorem kk_1_0 : ka_ckr 1 0 55 = true := by decide +kernel
theorem kj_1 {pc : Nat} {i : Instr} {len : Nat} {ts : List Nat} (h2 : pc < 55) (hc : ka_cd 1 pc = some (i, len, ts)) : ka_ck 1 pc i len ts = true := ka_ckr_at kk_1_0 (Nat.zero_le _) (by omega) hc
theorem kcw_1 : lw_tbl[ka_ic 1]? = some (ka_cw 1) := by decide +kernel
theorem kk_2_0 : ka_ckr 2 0 108 = true := by decide +kernel
theorem kj_2 {pc : Nat} {i : Instr} {len : Nat} {ts : List Nat} (h2 : pc < 108) (hc : ka_cd 2 pc = some (i, len, ts)) : ka_ck 2 pc i len ts = true := ka_ckr_at kk_2_0 (Nat.zero_le _) (by omega) hc
theorem kcw_2 : lw_tbl[ka_ic 2]? = some (ka_cw 2) := by decide +kernel
theorem kk_3_0 : ka_ckr 3 0 108 = true := by decide +kernel
theorem kj_3 {pc : Nat} {i : Instr} {len : Nat} {ts : List Nat} (h2 : pc < 108) (hc : ka_cd 3 pc = some (i, len, ts)) : ka_ck 3 pc i len ts = true := ka_ckr_at kk_3_0 (Nat.zero_le _) (by omega) hc
theorem kcw_3 : lw_tbl[ka_ic 3]? = some (ka_cw 3) := by decide +kernel
theorem kk_4_0 : ka_ckr 4 0 74 = true := by decide +kernel
theorem kj_4 {pc : Nat} {i : Instr} {len : Nat} {ts : List Nat} (h2 : pc < 74) (hc : ka_cd 4 pc = some (i, len, ts)) : ka_ck 4 pc i len ts = true := ka_ckr_at kk_4_0 (Nat.zero_le _) (by omega) hc
theorem kcw_4 : lw_tbl[ka_ic 4]? = some (ka_cw 4) := by decide +kernel
theorem kk_5_0 : ka_ckr 5 0 55 = true := by decide +kernel
theorem kj_5 {pc : Nat} {i : Instr} {len : Nat} {ts : List Nat} (h2 : pc < 55) (hc : ka_cd 5 pc = some (i, len, ts)) : ka_ck 5 pc i len ts = true := ka_ckr_at kk_5_0 (Nat.zero_le _) (by omega) hc
theorem kcw_5 : lw_tbl[ka_ic 5]? = some (ka_cw 5) := by decide +kernel
theorem kk_6_0 : ka_ckr 6 0 53 = true := by decide +kernel
theorem kj_6 {pc : Nat} {i : Instr} {len : Nat} {ts : List Nat} (h2 : pc < 53) (hc : ka_cd 6 pc = some (i, len, ts)) : ka_ck 6 pc i len ts = true := ka_ckr_at kk_6_0 (Nat.zero_le _) (by omega) hc
theorem kcw_6 : lw_tbl[ka_ic 6]? = some (ka_cw 6) := by decide +kernel
theorem kk_7_0 : ka_ckr 7 0 78 = true := by decide +kernel
theorem kj_7 {pc : Nat} {i : Instr} {len : Nat} {ts : List Nat} (h2 : pc < 78) (hc : ka_cd 7 pc = some (i, len, ts)) : ka_ck 7 pc i len ts = true := ka_ckr_at kk_7_0 (Nat.zero_le _) (by omega) hc
theorem kcw_7 : lw_tbl[ka_ic 7]? = some (ka_cw 7) := by decide +kernel
theorem kk_8_0 : ka_ckr 8 0 94 = true := by decide +kernel
theorem kj_8 {pc : Nat} {i : Instr} {len : Nat} {ts : List Nat} (h2 : pc < 94) (hc : ka_cd 8 pc = some (i, len, ts)) : ka_ck 8 pc i len ts = true := ka_ckr_at kk_8_0 (Nat.zero_le _) (by omega) hc
theorem kcw_8 : lw_tbl[ka_ic 8]? = some (ka_cw 8) := by decide +kernel
theorem kk_9_0 : ka_ckr 9 0 58 = true := by decide +kernel
theorem kj_9 {pc : Nat} {i : Instr} {len : Nat} {ts : List Nat} (h2 : pc < 58) (hc : ka_cd 9 pc = some (i, len, ts)) : ka_ck 9 pc i len ts = true := ka_ckr_at kk_9_0 (Nat.zero_le _) (by omega) hc
theorem kcw_9 : lw_tbl[ka_ic 9]? = some (ka_cw 9) := by decide +kernel
theorem kk_10_0 : ka_ckr 10 0 21 = true := by decide +kernel
theorem kj_10 {pc : Nat} {i : Instr} {len : Nat} {ts : List Nat} (h2 : pc < 21) (hc : ka_cd 10 pc = some (i, len, ts)) : ka_ck 10 pc i len ts = true := ka_ckr_at kk_10_0 (Nat.zero_le _) (by omega) hc
theorem kcw_10 : lw_tbl[ka_ic 10]? = some (ka_cw 10) := by decide +kernel
theorem kk_11_0 : ka_ckr 11 0 12 = true := by decide +kernel
theorem kj_11 {pc : Nat} {i : Instr} {len : Nat} {ts : List Nat} (h2 : pc < 12) (hc : ka_cd 11 pc = some (i, len, ts)) : ka_ck 11 pc i len ts = true := ka_ckr_at kk_11_0 (Nat.zero_le _) (by omega) hc
theorem kcw_11 : lw_tbl[ka_ic 11]? = some (ka_cw 11) := by decide +kernel
theorem kk_12_0 : ka_ckr 12 0 34 = true := by decide +kernel
theorem kj_12 {pc : Nat} {i : Instr} {len : Nat} {ts : List Nat} (h2 : pc < 34) (hc : ka_cd 12 pc = some (i, len, ts)) : ka_ck 12 pc i len ts = true := ka_ckr_at kk_12_0 (Nat.zero_le _) (by omega) hc
theorem kcw_12 : lw_tbl[ka_ic 12]? = some (ka_cw 12) := by decide +kernel
theorem kk_13_0 : ka_ckr 13 0 109 = true := by decide +kernel
theorem kj_13 {pc : Nat} {i : Instr} {len : Nat} {ts : List Nat} (h2 : pc < 109) (hc : ka_cd 13 pc = some (i, len, ts)) : ka_ck 13 pc i len ts = true := ka_ckr_at kk_13_0 (Nat.zero_le _) (by omega) hc
theorem kcw_13 : lw_tbl[ka_ic 13]? = some (ka_cw 13) := by decide +kernel
theorem kk_14_0 : ka_ckr 14 0 22 = true := by decide +kernel
theorem kj_14 {pc : Nat} {i : Instr} {len : Nat} {ts : List Nat} (h2 : pc < 22) (hc : ka_cd 14 pc = some (i, len, ts)) : ka_ck 14 pc i len ts = true := ka_ckr_at kk_14_0 (Nat.zero_le _) (by omega) hc
theorem kcw_14 : lw_tbl[ka_ic 14]? = some (ka_cw 14) := by decide +kernel
theorem kk_15_0 : ka_ckr 15 0 58 = true := by decide +kernel
theorem kj_15 {pc : Nat} {i : Instr} {len : Nat} {ts : List Nat} (h2 : pc < 58) (hc : ka_cd 15 pc = some (i, len, ts)) : ka_ck 15 pc i len ts = true := ka_ckr_at kk_15_0 (Nat.zero_le _) (by omega) hc
theorem kcw_15 : lw_tbl[ka_ic 15]? = some (ka_cw 15) := by decide +kernel
theorem kk_16_0 : ka_ckr 16 0 32 = true := by decide +kernel
theorem kj_16 {pc : Nat} {i : Instr} {len : Nat} {ts : List Nat} (h2 : pc < 32) (hc : ka_cd 16 pc = some (i, len, ts)) : ka_ck 16 pc i len ts = true := ka_ckr_at kk_16_0 (Nat.zero_le _) (by omega) hc
theorem kcw_16 : lw_tbl[ka_ic 16]? = some (ka_cw 16) := by decide +kernel
theorem kk_17_0 : ka_ckr 17 0 19 = true := by decide +kernel
theorem kj_17 {pc : Nat} {i : Instr} {len : Nat} {ts : List Nat} (h2 : pc < 19) (hc : ka_cd 17 pc = some (i, len, ts)) : ka_ck 17 pc i len ts = true := ka_ckr_at kk_17_0 (Nat.zero_le _) (by omega) hc
theorem kcw_17 : lw_tbl[ka_ic 17]? = some (ka_cw 17) := by decide +kernel
theorem kk_18_0 : ka_ckr 18 0 54 = true := by decide +kernel
theorem kj_18 {pc : Nat} {i : Instr} {len : Nat} {ts : List Nat} (h2 : pc < 54) (hc : ka_cd 18 pc = some (i, len, ts)) : ka_ck 18 pc i len ts = true := ka_ckr_at kk_18_0 (Nat.zero_le _) (by omega) hc
theorem kcw_18 : lw_tbl[ka_ic 18]? = some (ka_cw 18) := by decide +kernel
theorem kk_19_0 : ka_ckr 19 0 41 = true := by decide +kernel
theorem kj_19 {pc : Nat} {i : Instr} {len : Nat} {ts : List Nat} (h2 : pc < 41) (hc : ka_cd 19 pc = some (i, len, ts)) : ka_ck 19 pc i len ts = true := ka_ckr_at kk_19_0 (Nat.zero_le _) (by omega) hc
theorem kcw_19 : lw_tbl[ka_ic 19]? = some (ka_cw 19) := by decide +kernel
theorem kk_20_0 : ka_ckr 20 0 150 = true := by decide +kernel
theorem kk_20_150 : ka_ckr 20 150 12 = true := by decide +kernel
theorem kj_20 {pc : Nat} {i : Instr} {len : Nat} {ts : List Nat} (h2 : pc < 162) (hc : ka_cd 20 pc = some (i, len, ts)) : ka_ck 20 pc i len ts = true := by
  by_cases q0 : pc < 150
  · exact ka_ckr_at kk_20_0 (by omega) (by omega) hc
  exact ka_ckr_at kk_20_150 (by omega) (by omega) hc
theorem kcw_20 : lw_tbl[ka_ic 20]? = some (ka_cw 20) := by decide +kernel
theorem kk_21_0 : ka_ckr 21 0 42 = true := by decide +kernel
theorem kj_21 {pc : Nat} {i : Instr} {len : Nat} {ts : List Nat} (h2 : pc < 42) (hc : ka_cd 21 pc = some (i, len, ts)) : ka_ck 21 pc i len ts = true := ka_ckr_at kk_21_0 (Nat.zero_le _) (by omega) hc
theorem kcw_21 : lw_tbl[ka_ic 21]? = some (ka_cw 21) := by decide +kernel
theorem kk_22_0 : ka_ckr 22 0 132 = true := by decide +kernel
theorem kj_22 {pc : Nat} {i : Instr} {len : Nat} {ts : List Nat} (h2 : pc < 132) (hc : ka_cd 22 pc = some (i, len, ts)) : ka_ck 22 pc i len ts = true := ka_ckr_at kk_22_0 (Nat.zero_le _) (by omega) hc
theorem kcw_22 : lw_tbl[ka_ic 22]? = some (ka_cw 22) := by decide +kernel
theorem kk_23_0 : ka_ckr 23 0 29 = true := by decide +kernel
theorem kj_23 {pc : Nat} {i : Instr} {len : Nat} {ts : List Nat} (h2 : pc < 29) (hc : ka_cd 23 pc = some (i, len, ts)) : ka_ck 23 pc i len ts = true := ka_ckr_at kk_23_0 (Nat.zero_le _) (by omega) hc
theorem kcw_23 : lw_tbl[ka_ic 23]? = some (ka_cw 23) := by decide +kernel
theorem kk_24_0 : ka_ckr 24 0 147 = true := by decide +kernel
theorem kj_24 {pc : Nat} {i : Instr} {len : Nat} {ts : List Nat} (h2 : pc < 147) (hc : ka_cd 24 pc = some (i, len, ts)) : ka_ck 24 pc i len ts = true := ka_ckr_at kk_24_0 (Nat.zero_le _) (by omega) hc
theorem kcw_24 : lw_tbl[ka_ic 24]? = some (ka_cw 24) := by decide +kernel
theorem kk_25_0 : ka_ckr 25 0 58 = true := by decide +kernel
theorem kj_25 {pc : Nat} {i : Instr} {len : Nat} {ts : List Nat} (h2 : pc < 58) (hc : ka_cd 25 pc = some (i, len, ts)) : ka_ck 25 pc i len ts = true := ka_ckr_at kk_25_0 (Nat.zero_le _) (by omega) hc
theorem kcw_25 : lw_tbl[ka_ic 25]? = some (ka_cw 25) := by decide +kernel
theorem kk_26_0 : ka_ckr 26 0 78 = true := by decide +kernel
theorem kj_26 {pc : Nat} {i : Instr} {len : Nat} {ts : List Nat} (h2 : pc < 78) (hc : ka_cd 26 pc = some (i, len, ts)) : ka_ck 26 pc i len ts = true := ka_ckr_at kk_26_0 (Nat.zero_le _) (by omega) hc
theorem kcw_26 : lw_tbl[ka_ic 26]? = some (ka_cw 26) := by decide +kernel
theorem kk_27_0 : ka_ckr 27 0 36 = true := by decide +kernel
theorem kj_27 {pc : Nat} {i : Instr} {len : Nat} {ts : List Nat} (h2 : pc < 36) (hc : ka_cd 27 pc = some (i, len, ts)) : ka_ck 27 pc i len ts = true := ka_ckr_at kk_27_0 (Nat.zero_le _) (by omega) hc
theorem kcw_27 : lw_tbl[ka_ic 27]? = some (ka_cw 27) := by decide +kernel
theorem kk_28_0 : ka_ckr 28 0 18 = true := by decide +kernel
theorem kj_28 {pc : Nat} {i : Instr} {len : Nat} {ts : List Nat} (h2 : pc < 18) (hc : ka_cd 28 pc = some (i, len, ts)) : ka_ck 28 pc i len ts = true := ka_ckr_at kk_28_0 (Nat.zero_le _) (by omega) hc
theorem kcw_28 : lw_tbl[ka_ic 28]? = some (ka_cw 28) := by decide +kernel
theorem kk_29_0 : ka_ckr 29 0 37 = true := by decide +kernel
theorem kj_29 {pc : Nat} {i : Instr} {len : Nat} {ts : List Nat} (h2 : pc < 37) (hc : ka_cd 29 pc = some (i, len, ts)) : ka_ck 29 pc i len ts = true := ka_ckr_at kk_29_0 (Nat.zero_le _) (by omega) hc
theorem kcw_29 : lw_tbl[ka_ic 29]? = some (ka_cw 29) := by decide +kernel
theorem kk_30_0 : ka_ckr 30 0 16 = true := by decide +kernel
theorem kj_30 {pc : Nat} {i : Instr} {len : Nat} {ts : List Nat} (h2 : pc < 16) (hc : ka_cd 30 pc = some (i, len, ts)) : ka_ck 30 pc i len ts = true := ka_ckr_at kk_30_0 (Nat.zero_le _) (by omega) hc
theorem kcw_30 : lw_tbl[ka_ic 30]? = some (ka_cw 30) := by decide +kernel
theorem kk_31_0 : ka_ckr 31 0 29 = true := by decide +kernel
theorem kj_31 {pc : Nat} {i : Instr} {len : Nat} {ts : List Nat} (h2 : pc < 29) (hc : ka_cd 31 pc = some (i, len, ts)) : ka_ck 31 pc i len ts = true := ka_ckr_at kk_31_0 (Nat.zero_le _) (by omega) hc
theorem kcw_31 : lw_tbl[ka_ic 31]? = some (ka_cw 31) := by decide +kernel
theorem kk_32_0 : ka_ckr 32 0 67 = true := by decide +kernel
theorem kj_32 {pc : Nat} {i : Instr} {len : Nat} {ts : List Nat} (h2 : pc < 67) (hc : ka_cd 32 pc = some (i, len, ts)) : ka_ck 32 pc i len ts = true := ka_ckr_at kk_32_0 (Nat.zero_le _) (by omega) hc
theorem kcw_32 : lw_tbl[ka_ic 32]? = some (ka_cw 32) := by decide +kernel
theorem kk_33_0 : ka_ckr 33 0 59 = true := by decide +kernel
theorem kj_33 {pc : Nat} {i : Instr} {len : Nat} {ts : List Nat} (h2 : pc < 59) (hc : ka_cd 33 pc = some (i, len, ts)) : ka_ck 33 pc i len ts = true := ka_ckr_at kk_33_0 (Nat.zero_le _) (by omega) hc
theorem kcw_33 : lw_tbl[ka_ic 33]? = some (ka_cw 33) := by decide +kernel
theorem kk_34_0 : ka_ckr 34 0 35 = true := by decide +kernel
theorem kj_34 {pc : Nat} {i : Instr} {len : Nat} {ts : List Nat} (h2 : pc < 35) (hc : ka_cd 34 pc = some (i, len, ts)) : ka_ck 34 pc i len ts = true := ka_ckr_at kk_34_0 (Nat.zero_le _) (by omega) hc
theorem kcw_34 : lw_tbl[ka_ic 34]? = some (ka_cw 34) := by decide +kernel
theorem kk_35_0 : ka_ckr 35 0 84 = true := by decide +kernel
theorem kj_35 {pc : Nat} {i : Instr} {len : Nat} {ts : List Nat} (h2 : pc < 84) (hc : ka_cd 35 pc = some (i, len, ts)) : ka_ck 35 pc i len ts = true := ka_ckr_at kk_35_0 (Nat.zero_le _) (by omega) hc
theorem kcw_35 : lw_tbl[ka_ic 35]? = some (ka_cw 35) := by decide +kernel
theorem kk_36_0 : ka_ckr 36 0 20 = true := by decide +kernel
theorem kj_36 {pc : Nat} {i : Instr} {len : Nat} {ts : List Nat} (h2 : pc < 20) (hc : ka_cd 36 pc = some (i, len, ts)) : ka_ck 36 pc i len ts = true := ka_ckr_at kk_36_0 (Nat.zero_le _) (by omega) hc
theorem kcw_36 : lw_tbl[ka_ic 36]? = some (ka_cw 36) := by decide +kernel
theorem kk_37_0 : ka_ckr 37 0 35 = true := by decide +kernel
theorem kj_37 {pc : Nat} {i : Instr} {len : Nat} {ts : List Nat} (h2 : pc < 35) (hc : ka_cd 37 pc = some (i, len, ts)) : ka_ck 37 pc i len ts = true := ka_ckr_at kk_37_0 (Nat.zero_le _) (by omega) hc
theorem kcw_37 : lw_tbl[ka_ic 37]? = some (ka_cw 37) := by decide +kernel
theorem kk_38_0 : ka_ckr 38 0 92 = true := by decide +kernel
theorem kj_38 {pc : Nat} {i : Instr} {len : Nat} {ts : List Nat} (h2 : pc < 92) (hc : ka_cd 38 pc = some (i, len, ts)) : ka_ck 38 pc i len ts = true := ka_ckr_at kk_38_0 (Nat.zero_le _) (by omega) hc
theorem kcw_38 : lw_tbl[ka_ic 38]? = some (ka_cw 38) := by decide +kernel
theorem kk_39_0 : ka_ckr 39 0 32 = true := by decide +kernel
theorem kj_39 {pc : Nat} {i : Instr} {len : Nat} {ts : List Nat} (h2 : pc < 32) (hc : ka_cd 39 pc = some (i, len, ts)) : ka_ck 39 pc i len ts = true := ka_ckr_at kk_39_0 (Nat.zero_le _) (by omega) hc
theorem kcw_39 : lw_tbl[ka_ic 39]? = some (ka_cw 39) := by decide +kernel
theorem kk_40_0 : ka_ckr 40 0 25 = true := by decide +kernel
theorem kj_40 {pc : Nat} {i : Instr} {len : Nat} {ts : List Nat} (h2 : pc < 25) (hc : ka_cd 40 pc = some (i, len, ts)) : ka_ck 40 pc i len ts = true := ka_ckr_at kk_40_0 (Nat.zero_le _) (by omega) hc
theorem kcw_40 : lw_tbl[ka_ic 40]? = some (ka_cw 40) := by decide +kernel
theorem kk_41_0 : ka_ckr 41 0 24 = true := by decide +kernel
theorem kj_41 {pc : Nat} {i : Instr} {len : Nat} {ts : List Nat} (h2 : pc < 24) (hc : ka_cd 41 pc = some (i, len, ts)) : ka_ck 41 pc i len ts = true := ka_ckr_at kk_41_0 (Nat.zero_le _) (by omega) hc
theorem kcw_41 : lw_tbl[ka_ic 41]? = some (ka_cw 41) := by decide +kernel
theorem kk_42_0 : ka_ckr 42 0 7 = true := by decide +kernel
theorem kj_42 {pc : Nat} {i : Instr} {len : Nat} {ts : List Nat} (h2 : pc < 7) (hc : ka_cd 42 pc = some (i, len, ts)) : ka_ck 42 pc i len ts = true := ka_ckr_at kk_42_0 (Nat.zero_le _) (by omega) hc
theorem kcw_42 : lw_tbl[ka_ic 42]? = some (ka_cw 42) := by decide +kernel
theorem kk_43_0 : ka_ckr 43 0 9 = true := by decide +kernel
theorem kj_43 {pc : Nat} {i : Instr} {len : Nat} {ts : List Nat} (h2 : pc < 9) (hc : ka_cd 43 pc = some (i, len, ts)) : ka_ck 43 pc i len ts = true := ka_ckr_at kk_43_0 (Nat.zero_le _) (by omega) hc
theorem kcw_43 : lw_tbl[ka_ic 43]? = some (ka_cw 43) := by decide +kernel
theorem kk_44_0 : ka_ckr 44 0 48 = true := by decide +kernel
theorem kj_44 {pc : Nat} {i : Instr} {len : Nat} {ts : List Nat} (h2 : pc < 48) (hc : ka_cd 44 pc = some (i, len, ts)) : ka_ck 44 pc i len ts = true := ka_ckr_at kk_44_0 (Nat.zero_le _) (by omega) hc
theorem kcw_44 : lw_tbl[ka_ic 44]? = some (ka_cw 44) := by decide +kernel
theorem kk_45_0 : ka_ckr 45 0 134 = true := by decide +kernel
theorem kj_45 {pc : Nat} {i : Instr} {len : Nat} {ts : List Nat} (h2 : pc < 134) (hc : ka_cd 45 pc = some (i, len, ts)) : ka_ck 45 pc i len ts = true := ka_ckr_at kk_45_0 (Nat.zero_le _) (by omega) hc
theorem kcw_45 : lw_tbl[ka_ic 45]? = some (ka_cw 45) := by decide +kernel
theorem kk_46_0 : ka_ckr 46 0 19 = true := by decide +kernel
theorem kj_46 {pc : Nat} {i : Instr} {len : Nat} {ts : List Nat} (h2 : pc < 19) (hc : ka_cd 46 pc = some (i, len, ts)) : ka_ck 46 pc i len ts = true := ka_ckr_at kk_46_0 (Nat.zero_le _) (by omega) hc
theorem kcw_46 : lw_tbl[ka_ic 46]? = some (ka_cw 46) := by decide +kernel
theorem kk_47_0 : ka_ckr 47 0 52 = true := by decide +kernel
theorem kj_47 {pc : Nat} {i : Instr} {len : Nat} {ts : List Nat} (h2 : pc < 52) (hc : ka_cd 47 pc = some (i, len, ts)) : ka_ck 47 pc i len ts = true := ka_ckr_at kk_47_0 (Nat.zero_le _) (by omega) hc
theorem kcw_47 : lw_tbl[ka_ic 47]? = some (ka_cw 47) := by decide +kernel
theorem kk_48_0 : ka_ckr 48 0 37 = true := by decide +kernel
theorem kj_48 {pc : Nat} {i : Instr} {len : Nat} {ts : List Nat} (h2 : pc < 37) (hc : ka_cd 48 pc = some (i, len, ts)) : ka_ck 48 pc i len ts = true := ka_ckr_at kk_48_0 (Nat.zero_le _) (by omega) hc
theorem kcw_48 : lw_tbl[ka_ic 48]? = some (ka_cw 48) := by decide +kernel
theorem kk_49_0 : ka_ckr 49 0 12 = true := by decide +kernel
theorem kj_49 {pc : Nat} {i : Instr} {len : Nat} {ts : List Nat} (h2 : pc < 12) (hc : ka_cd 49 pc = some (i, len, ts)) : ka_ck 49 pc i len ts = true := ka_ckr_at kk_49_0 (Nat.zero_le _) (by omega) hc
theorem kcw_49 : lw_tbl[ka_ic 49]? = some (ka_cw 49) := by decide +kernel
theorem kk_50_0 : ka_ckr 50 0 43 = true := by decide +kernel
theorem kj_50 {pc : Nat} {i : Instr} {len : Nat} {ts : List Nat} (h2 : pc < 43) (hc : ka_cd 50 pc = some (i, len, ts)) : ka_ck 50 pc i len ts = true := ka_ckr_at kk_50_0 (Nat.zero_le _) (by omega) hc
theorem kcw_50 : lw_tbl[ka_ic 50]? = some (ka_cw 50) := by decide +kernel
theorem kk_51_0 : ka_ckr 51 0 29 = true := by decide +kernel
theorem kj_51 {pc : Nat} {i : Instr} {len : Nat} {ts : List Nat} (h2 : pc < 29) (hc : ka_cd 51 pc = some (i, len, ts)) : ka_ck 51 pc i len ts = true := ka_ckr_at kk_51_0 (Nat.zero_le _) (by omega) hc
theorem kcw_51 : lw_tbl[ka_ic 51]? = some (ka_cw 51) := by decide +kernel
theorem kk_52_0 : ka_ckr 52 0 35 = true := by decide +kernel
theorem kj_52 {pc : Nat} {i : Instr} {len : Nat} {ts : List Nat} (h2 : pc < 35) (hc : ka_cd 52 pc = some (i, len, ts)) : ka_ck 52 pc i len ts = true := ka_ckr_at kk_52_0 (Nat.zero_le _) (by omega) hc
theorem kcw_52 : lw_tbl[ka_ic 52]? = some (ka_cw 52) := by decide +kernel
theorem kk_53_0 : ka_ckr 53 0 51 = true := by decide +kernel
theorem kj_53 {pc : Nat} {i : Instr} {len : Nat} {ts : List Nat} (h2 : pc < 51) (hc : ka_cd 53 pc = some (i, len, ts)) : ka_ck 53 pc i len ts = true := ka_ckr_at kk_53_0 (Nat.zero_le _) (by omega) hc
theorem kcw_53 : lw_tbl[ka_ic 53]? = some (ka_cw 53) := by decide +kernel
theorem kk_54_0 : ka_ckr 54 0 46 = true := by decide +kernel
theorem kj_54 {pc : Nat} {i : Instr} {len : Nat} {ts : List Nat} (h2 : pc < 46) (hc : ka_cd 54 pc = some (i, len, ts)) : ka_ck 54 pc i len ts = true := ka_ckr_at kk_54_0 (Nat.zero_le _) (by omega) hc
theorem kcw_54 : lw_tbl[ka_ic 54]? = some (ka_cw 54) := by decide +kernel
theorem kk_55_0 : ka_ckr 55 0 9 = true := by decide +kernel
theorem kj_55 {pc : Nat} {i : Instr} {len : Nat} {ts : List Nat} (h2 : pc < 9) (hc : ka_cd 55 pc = some (i, len, ts)) : ka_ck 55 pc i len ts = true := ka_ckr_at kk_55_0 (Nat.zero_le _) (by omega) hc
theorem kcw_55 : lw_tbl[ka_ic 55]? = some (ka_cw 55) := by decide +kernel
theorem kk_56_0 : ka_ckr 56 0 74 = true := by decide +kernel
theorem kj_56 {pc : Nat} {i : Instr} {len : Nat} {ts : List Nat} (h2 : pc < 74) (hc : ka_cd 56 pc = some (i, len, ts)) : ka_ck 56 pc i len ts = true := ka_ckr_at kk_56_0 (Nat.zero_le _) (by omega) hc
theorem kcw_56 : lw_tbl[ka_ic 56]? = some (ka_cw 56) := by decide +kernel
theorem kk_57_0 : ka_ckr 57 0 79 = true := by decide +kernel
theorem kj_57 {pc : Nat} {i : Instr} {len : Nat} {ts : List Nat} (h2 : pc < 79) (hc : ka_cd 57 pc = some (i, len, ts)) : ka_ck 57 pc i len ts = true := ka_ckr_at kk_57_0 (Nat.zero_le _) (by omega) hc
theorem kcw_57 : lw_tbl[ka_ic 57]? = some (ka_cw 57) := by decide +kernel
theorem kk_58_0 : ka_ckr 58 0 38 = true := by decide +kernel
theorem kj_58 {pc : Nat} {i : Instr} {len : Nat} {ts : List Nat} (h2 : pc < 38) (hc : ka_cd 58 pc = some (i, len, ts)) : ka_ck 58 pc i len ts = true := ka_ckr_at kk_58_0 (Nat.zero_le _) (by omega) hc
theorem kcw_58 : lw_tbl[ka_ic 58]? = some (ka_cw 58) := by decide +kernel
theorem kk_59_0 : ka_ckr 59 0 120 = true := by decide +kernel
theorem kj_59 {pc : Nat} {i : Instr} {len : Nat} {ts : List Nat} (h2 : pc < 120) (hc : ka_cd 59 pc = some (i, len, ts)) : ka_ck 59 pc i len ts = true := ka_ckr_at kk_59_0 (Nat.zero_le _) (by omega) hc
theorem kcw_59 : lw_tbl[ka_ic 59]? = some (ka_cw 59) := by decide +kernel
theorem kk_60_0 : ka_ckr 60 0 99 = true := by decide +kernel
theorem kj_60 {pc : Nat} {i : Instr} {len : Nat} {ts : List Nat} (h2 : pc < 99) (hc : ka_cd 60 pc = some (i, len, ts)) : ka_ck 60 pc i len ts = true := ka_ckr_at kk_60_0 (Nat.zero_le _) (by omega) hc
theorem kcw_60 : lw_tbl[ka_ic 60]? = some (ka_cw 60) := by decide +kernel
theorem kk_61_0 : ka_ckr 61 0 25 = true := by decide +kernel
theorem kj_61 {pc : Nat} {i : Instr} {len : Nat} {ts : List Nat} (h2 : pc < 25) (hc : ka_cd 61 pc = some (i, len, ts)) : ka_ck 61 pc i len ts = true := ka_ckr_at kk_61_0 (Nat.zero_le _) (by omega) hc
theorem kcw_61 : lw_tbl[ka_ic 61]? = some (ka_cw 61) := by decide +kernel
theorem kk_62_0 : ka_ckr 62 0 49 = true := by decide +kernel
theorem kj_62 {pc : Nat} {i : Instr} {len : Nat} {ts : List Nat} (h2 : pc < 49) (hc : ka_cd 62 pc = some (i, len, ts)) : ka_ck 62 pc i len ts = true := ka_ckr_at kk_62_0 (Nat.zero_le _) (by omega) hc
theorem kcw_62 : lw_tbl[ka_ic 62]? = some (ka_cw 62) := by decide +kernel
theorem kk_63_0 : ka_ckr 63 0 63 = true := by decide +kernel
theorem kj_63 {pc : Nat} {i : Instr} {len : Nat} {ts : List Nat} (h2 : pc < 63) (hc : ka_cd 63 pc = some (i, len, ts)) : ka_ck 63 pc i len ts = true := ka_ckr_at kk_63_0 (Nat.zero_le _) (by omega) hc
theorem kcw_63 : lw_tbl[ka_ic 63]? = some (ka_cw 63) := by decide +kernel
theorem kk_64_0 : ka_ckr 64 0 138 = true := by decide +kernel
theorem kj_64 {pc : Nat} {i : Instr} {len : Nat} {ts : List Nat} (h2 : pc < 138) (hc : ka_cd 64 pc = some (i, len, ts)) : ka_ck 64 pc i len ts = true := ka_ckr_at kk_64_0 (Nat.zero_le _) (by omega) hc
theorem kcw_64 : lw_tbl[ka_ic 64]? = some (ka_cw 64) := by decide +kernel
theorem kk_65_0 : ka_ckr 65 0 26 = true := by decide +kernel
theorem kj_65 {pc : Nat} {i : Instr} {len : Nat} {ts : List Nat} (h2 : pc < 26) (hc : ka_cd 65 pc = some (i, len, ts)) : ka_ck 65 pc i len ts = true := ka_ckr_at kk_65_0 (Nat.zero_le _) (by omega) hc
theorem kcw_65 : lw_tbl[ka_ic 65]? = some (ka_cw 65) := by decide +kernel
theorem kk_66_0 : ka_ckr 66 0 114 = true := by decide +kernel
theorem kj_66 {pc : Nat} {i : Instr} {len : Nat} {ts : List Nat} (h2 : pc < 114) (hc : ka_cd 66 pc = some (i, len, ts)) : ka_ck 66 pc i len ts = true := ka_ckr_at kk_66_0 (Nat.zero_le _) (by omega) hc
theorem kcw_66 : lw_tbl[ka_ic 66]? = some (ka_cw 66) := by decide +kernel
theorem kk_67_0 : ka_ckr 67 0 85 = true := by decide +kernel
theorem kj_67 {pc : Nat} {i : Instr} {len : Nat} {ts : List Nat} (h2 : pc < 85) (hc : ka_cd 67 pc = some (i, len, ts)) : ka_ck 67 pc i len ts = true := ka_ckr_at kk_67_0 (Nat.zero_le _) (by omega) hc
theorem kcw_67 : lw_tbl[ka_ic 67]? = some (ka_cw 67) := by decide +kernel
theorem kk_68_0 : ka_ckr 68 0 80 = true := by decide +kernel
theorem kj_68 {pc : Nat} {i : Instr} {len : Nat} {ts : List Nat} (h2 : pc < 80) (hc : ka_cd 68 pc = some (i, len, ts)) : ka_ck 68 pc i len ts = true := ka_ckr_at kk_68_0 (Nat.zero_le _) (by omega) hc
theorem kcw_68 : lw_tbl[ka_ic 68]? = some (ka_cw 68) := by decide +kernel
theorem kk_69_0 : ka_ckr 69 0 99 = true := by decide +kernel
theorem kj_69 {pc : Nat} {i : Instr} {len : Nat} {ts : List Nat} (h2 : pc < 99) (hc : ka_cd 69 pc = some (i, len, ts)) : ka_ck 69 pc i len ts = true := ka_ckr_at kk_69_0 (Nat.zero_le _) (by omega) hc
theorem kcw_69 : lw_tbl[ka_ic 69]? = some (ka_cw 69) := by decide +kernel
theorem kk_70_0 : ka_ckr 70 0 48 = true := by decide +kernel
theorem kj_70 {pc : Nat} {i : Instr} {len : Nat} {ts : List Nat} (h2 : pc < 48) (hc : ka_cd 70 pc = some (i, len, ts)) : ka_ck 70 pc i len ts = true := ka_ckr_at kk_70_0 (Nat.zero_le _) (by omega) hc
theorem kcw_70 : lw_tbl[ka_ic 70]? = some (ka_cw 70) := by decide +kernel
theorem kk_71_0 : ka_ckr 71 0 34 = true := by decide +kernel
theorem kj_71 {pc : Nat} {i : Instr} {len : Nat} {ts : List Nat} (h2 : pc < 34) (hc : ka_cd 71 pc = some (i, len, ts)) : ka_ck 71 pc i len ts = true := ka_ckr_at kk_71_0 (Nat.zero_le _) (by omega) hc
theorem kcw_71 : lw_tbl[ka_ic 71]? = some (ka_cw 71) := by decide +kernel
theorem kk_72_0 : ka_ckr 72 0 39 = true := by decide +kernel
theorem kj_72 {pc : Nat} {i : Instr} {len : Nat} {ts : List Nat} (h2 : pc < 39) (hc : ka_cd 72 pc = some (i, len, ts)) : ka_ck 72 pc i len ts = true := ka_ckr_at kk_72_0 (Nat.zero_le _) (by omega) hc
theorem kcw_72 : lw_tbl[ka_ic 72]? = some (ka_cw 72) := by decide +kernel
theorem kk_73_0 : ka_ckr 73 0 36 = true := by decide +kernel
theorem kj_73 {pc : Nat} {i : Instr} {len : Nat} {ts : List Nat} (h2 : pc < 36) (hc : ka_cd 73 pc = some (i, len, ts)) : ka_ck 73 pc i len ts = true := ka_ckr_at kk_73_0 (Nat.zero_le _) (by omega) hc
theorem kcw_73 : lw_tbl[ka_ic 73]? = some (ka_cw 73) := by decide +kernel
theorem kk_74_0 : ka_ckr 74 0 26 = true := by decide +kernel
theorem kj_74 {pc : Nat} {i : Instr} {len : Nat} {ts : List Nat} (h2 : pc < 26) (hc : ka_cd 74 pc = some (i, len, ts)) : ka_ck 74 pc i len ts = true := ka_ckr_at kk_74_0 (Nat.zero_le _) (by omega) hc
theorem kcw_74 : lw_tbl[ka_ic 74]? = some (ka_cw 74) := by decide +kernel
