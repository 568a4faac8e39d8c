theorem kk_75_0 : ka_ckr 75 0 61 = true := by decide +kernel
theorem kj_75 {pc : Nat} {i : Instr} {len : Nat} {ts : List Nat} (h2 : pc < 61) (hc : ka_cd 75 pc = some (i, len, ts)) : ka_ck 75 pc i len ts = true := ka_ckr_at kk_75_0 (Nat.zero_le _) (by omega) hc
theorem kcw_75 : lw_tbl[ka_ic 75]? = some (ka_cw 75) := by decide +kernel
theorem kk_76_0 : ka_ckr 76 0 80 = true := by decide +kernel
theorem kj_76 {pc : Nat} {i : Instr} {len : Nat} {ts : List Nat} (h2 : pc < 80) (hc : ka_cd 76 pc = some (i, len, ts)) : ka_ck 76 pc i len ts = true := ka_ckr_at kk_76_0 (Nat.zero_le _) (by omega) hc
theorem kcw_76 : lw_tbl[ka_ic 76]? = some (ka_cw 76) := by decide +kernel
theorem kk_77_0 : ka_ckr 77 0 92 = true := by decide +kernel
theorem kj_77 {pc : Nat} {i : Instr} {len : Nat} {ts : List Nat} (h2 : pc < 92) (hc : ka_cd 77 pc = some (i, len, ts)) : ka_ck 77 pc i len ts = true := ka_ckr_at kk_77_0 (Nat.zero_le _) (by omega) hc
theorem kcw_77 : lw_tbl[ka_ic 77]? = some (ka_cw 77) := by decide +kernel
theorem kk_78_0 : ka_ckr 78 0 75 = true := by decide +kernel
theorem kj_78 {pc : Nat} {i : Instr} {len : Nat} {ts : List Nat} (h2 : pc < 75) (hc : ka_cd 78 pc = some (i, len, ts)) : ka_ck 78 pc i len ts = true := ka_ckr_at kk_78_0 (Nat.zero_le _) (by omega) hc
theorem kcw_78 : lw_tbl[ka_ic 78]? = some (ka_cw 78) := by decide +kernel
theorem kk_79_0 : ka_ckr 79 0 88 = true := by decide +kernel
theorem kj_79 {pc : Nat} {i : Instr} {len : Nat} {ts : List Nat} (h2 : pc < 88) (hc : ka_cd 79 pc = some (i, len, ts)) : ka_ck 79 pc i len ts = true := ka_ckr_at kk_79_0 (Nat.zero_le _) (by omega) hc
theorem kcw_79 : lw_tbl[ka_ic 79]? = some (ka_cw 79) := by decide +kernel
theorem kk_80_0 : ka_ckr 80 0 44 = true := by decide +kernel
theorem kj_80 {pc : Nat} {i : Instr} {len : Nat} {ts : List Nat} (h2 : pc < 44) (hc : ka_cd 80 pc = some (i, len, ts)) : ka_ck 80 pc i len ts = true := ka_ckr_at kk_80_0 (Nat.zero_le _) (by omega) hc
theorem kcw_80 : lw_tbl[ka_ic 80]? = some (ka_cw 80) := by decide +kernel
theorem kk_81_0 : ka_ckr 81 0 82 = true := by decide +kernel
theorem kj_81 {pc : Nat} {i : Instr} {len : Nat} {ts : List Nat} (h2 : pc < 82) (hc : ka_cd 81 pc = some (i, len, ts)) : ka_ck 81 pc i len ts = true := ka_ckr_at kk_81_0 (Nat.zero_le _) (by omega) hc
theorem kcw_81 : lw_tbl[ka_ic 81]? = some (ka_cw 81) := by decide +kernel
theorem kk_82_0 : ka_ckr 82 0 38 = true := by decide +kernel
theorem kj_82 {pc : Nat} {i : Instr} {len : Nat} {ts : List Nat} (h2 : pc < 38) (hc : ka_cd 82 pc = some (i, len, ts)) : ka_ck 82 pc i len ts = true := ka_ckr_at kk_82_0 (Nat.zero_le _) (by omega) hc
theorem kcw_82 : lw_tbl[ka_ic 82]? = some (ka_cw 82) := by decide +kernel
theorem kk_83_0 : ka_ckr 83 0 23 = true := by decide +kernel
theorem kj_83 {pc : Nat} {i : Instr} {len : Nat} {ts : List Nat} (h2 : pc < 23) (hc : ka_cd 83 pc = some (i, len, ts)) : ka_ck 83 pc i len ts = true := ka_ckr_at kk_83_0 (Nat.zero_le _) (by omega) hc
theorem kcw_83 : lw_tbl[ka_ic 83]? = some (ka_cw 83) := by decide +kernel
theorem kk_84_0 : ka_ckr 84 0 28 = true := by decide +kernel
theorem kj_84 {pc : Nat} {i : Instr} {len : Nat} {ts : List Nat} (h2 : pc < 28) (hc : ka_cd 84 pc = some (i, len, ts)) : ka_ck 84 pc i len ts = true := ka_ckr_at kk_84_0 (Nat.zero_le _) (by omega) hc
theorem kcw_84 : lw_tbl[ka_ic 84]? = some (ka_cw 84) := by decide +kernel
theorem kk_85_0 : ka_ckr 85 0 51 = true := by decide +kernel
theorem kj_85 {pc : Nat} {i : Instr} {len : Nat} {ts : List Nat} (h2 : pc < 51) (hc : ka_cd 85 pc = some (i, len, ts)) : ka_ck 85 pc i len ts = true := ka_ckr_at kk_85_0 (Nat.zero_le _) (by omega) hc
theorem kcw_85 : lw_tbl[ka_ic 85]? = some (ka_cw 85) := by decide +kernel
theorem kk_86_0 : ka_ckr 86 0 54 = true := by decide +kernel
theorem kj_86 {pc : Nat} {i : Instr} {len : Nat} {ts : List Nat} (h2 : pc < 54) (hc : ka_cd 86 pc = some (i, len, ts)) : ka_ck 86 pc i len ts = true := ka_ckr_at kk_86_0 (Nat.zero_le _) (by omega) hc
theorem kcw_86 : lw_tbl[ka_ic 86]? = some (ka_cw 86) := by decide +kernel
theorem kk_87_0 : ka_ckr 87 0 27 = true := by decide +kernel
theorem kj_87 {pc : Nat} {i : Instr} {len : Nat} {ts : List Nat} (h2 : pc < 27) (hc : ka_cd 87 pc = some (i, len, ts)) : ka_ck 87 pc i len ts = true := ka_ckr_at kk_87_0 (Nat.zero_le _) (by omega) hc
theorem kcw_87 : lw_tbl[ka_ic 87]? = some (ka_cw 87) := by decide +kernel
theorem kk_88_0 : ka_ckr 88 0 68 = true := by decide +kernel
theorem kj_88 {pc : Nat} {i : Instr} {len : Nat} {ts : List Nat} (h2 : pc < 68) (hc : ka_cd 88 pc = some (i, len, ts)) : ka_ck 88 pc i len ts = true := ka_ckr_at kk_88_0 (Nat.zero_le _) (by omega) hc
theorem kcw_88 : lw_tbl[ka_ic 88]? = some (ka_cw 88) := by decide +kernel
theorem kk_89_0 : ka_ckr 89 0 95 = true := by decide +kernel
theorem kj_89 {pc : Nat} {i : Instr} {len : Nat} {ts : List Nat} (h2 : pc < 95) (hc : ka_cd 89 pc = some (i, len, ts)) : ka_ck 89 pc i len ts = true := ka_ckr_at kk_89_0 (Nat.zero_le _) (by omega) hc
theorem kcw_89 : lw_tbl[ka_ic 89]? = some (ka_cw 89) := by decide +kernel
theorem kk_90_0 : ka_ckr 90 0 8 = true := by decide +kernel
theorem kj_90 {pc : Nat} {i : Instr} {len : Nat} {ts : List Nat} (h2 : pc < 8) (hc : ka_cd 90 pc = some (i, len, ts)) : ka_ck 90 pc i len ts = true := ka_ckr_at kk_90_0 (Nat.zero_le _) (by omega) hc
theorem kcw_90 : lw_tbl[ka_ic 90]? = some (ka_cw 90) := by decide +kernel
theorem kk_91_0 : ka_ckr 91 0 73 = true := by decide +kernel
theorem kj_91 {pc : Nat} {i : Instr} {len : Nat} {ts : List Nat} (h2 : pc < 73) (hc : ka_cd 91 pc = some (i, len, ts)) : ka_ck 91 pc i len ts = true := ka_ckr_at kk_91_0 (Nat.zero_le _) (by omega) hc
theorem kcw_91 : lw_tbl[ka_ic 91]? = some (ka_cw 91) := by decide +kernel
theorem kk_92_0 : ka_ckr 92 0 9 = true := by decide +kernel
theorem kj_92 {pc : Nat} {i : Instr} {len : Nat} {ts : List Nat} (h2 : pc < 9) (hc : ka_cd 92 pc = some (i, len, ts)) : ka_ck 92 pc i len ts = true := ka_ckr_at kk_92_0 (Nat.zero_le _) (by omega) hc
theorem kcw_92 : lw_tbl[ka_ic 92]? = some (ka_cw 92) := by decide +kernel
theorem kk_93_0 : ka_ckr 93 0 13 = true := by decide +kernel
theorem kj_93 {pc : Nat} {i : Instr} {len : Nat} {ts : List Nat} (h2 : pc < 13) (hc : ka_cd 93 pc = some (i, len, ts)) : ka_ck 93 pc i len ts = true := ka_ckr_at kk_93_0 (Nat.zero_le _) (by omega) hc
theorem kcw_93 : lw_tbl[ka_ic 93]? = some (ka_cw 93) := by decide +kernel
theorem kk_94_0 : ka_ckr 94 0 14 = true := by decide +kernel
theorem kj_94 {pc : Nat} {i : Instr} {len : Nat} {ts : List Nat} (h2 : pc < 14) (hc : ka_cd 94 pc = some (i, len, ts)) : ka_ck 94 pc i len ts = true := ka_ckr_at kk_94_0 (Nat.zero_le _) (by omega) hc
theorem kcw_94 : lw_tbl[ka_ic 94]? = some (ka_cw 94) := by decide +kernel
theorem kk_95_0 : ka_ckr 95 0 35 = true := by decide +kernel
theorem kj_95 {pc : Nat} {i : Instr} {len : Nat} {ts : List Nat} (h2 : pc < 35) (hc : ka_cd 95 pc = some (i, len, ts)) : ka_ck 95 pc i len ts = true := ka_ckr_at kk_95_0 (Nat.zero_le _) (by omega) hc
theorem kcw_95 : lw_tbl[ka_ic 95]? = some (ka_cw 95) := by decide +kernel
theorem kk_96_0 : ka_ckr 96 0 64 = true := by decide +kernel
theorem kj_96 {pc : Nat} {i : Instr} {len : Nat} {ts : List Nat} (h2 : pc < 64) (hc : ka_cd 96 pc = some (i, len, ts)) : ka_ck 96 pc i len ts = true := ka_ckr_at kk_96_0 (Nat.zero_le _) (by omega) hc
theorem kcw_96 : lw_tbl[ka_ic 96]? = some (ka_cw 96) := by decide +kernel
theorem kk_97_0 : ka_ckr 97 0 54 = true := by decide +kernel
theorem kj_97 {pc : Nat} {i : Instr} {len : Nat} {ts : List Nat} (h2 : pc < 54) (hc : ka_cd 97 pc = some (i, len, ts)) : ka_ck 97 pc i len ts = true := ka_ckr_at kk_97_0 (Nat.zero_le _) (by omega) hc
theorem kcw_97 : lw_tbl[ka_ic 97]? = some (ka_cw 97) := by decide +kernel
theorem kk_98_0 : ka_ckr 98 0 30 = true := by decide +kernel
theorem kj_98 {pc : Nat} {i : Instr} {len : Nat} {ts : List Nat} (h2 : pc < 30) (hc : ka_cd 98 pc = some (i, len, ts)) : ka_ck 98 pc i len ts = true := ka_ckr_at kk_98_0 (Nat.zero_le _) (by omega) hc
theorem kcw_98 : lw_tbl[ka_ic 98]? = some (ka_cw 98) := by decide +kernel
theorem kk_99_0 : ka_ckr 99 0 136 = true := by decide +kernel
theorem kj_99 {pc : Nat} {i : Instr} {len : Nat} {ts : List Nat} (h2 : pc < 136) (hc : ka_cd 99 pc = some (i, len, ts)) : ka_ck 99 pc i len ts = true := ka_ckr_at kk_99_0 (Nat.zero_le _) (by omega) hc
theorem kcw_99 : lw_tbl[ka_ic 99]? = some (ka_cw 99) := by decide +kernel
theorem kk_100_0 : ka_ckr 100 0 65 = true := by decide +kernel
theorem kj_100 {pc : Nat} {i : Instr} {len : Nat} {ts : List Nat} (h2 : pc < 65) (hc : ka_cd 100 pc = some (i, len, ts)) : ka_ck 100 pc i len ts = true := ka_ckr_at kk_100_0 (Nat.zero_le _) (by omega) hc
theorem kcw_100 : lw_tbl[ka_ic 100]? = some (ka_cw 100) := by decide +kernel
theorem kk_101_0 : ka_ckr 101 0 57 = true := by decide +kernel
theorem kj_101 {pc : Nat} {i : Instr} {len : Nat} {ts : List Nat} (h2 : pc < 57) (hc : ka_cd 101 pc = some (i, len, ts)) : ka_ck 101 pc i len ts = true := ka_ckr_at kk_101_0 (Nat.zero_le _) (by omega) hc
theorem kcw_101 : lw_tbl[ka_ic 101]? = some (ka_cw 101) := by decide +kernel
theorem kk_102_0 : ka_ckr 102 0 51 = true := by decide +kernel
theorem kj_102 {pc : Nat} {i : Instr} {len : Nat} {ts : List Nat} (h2 : pc < 51) (hc : ka_cd 102 pc = some (i, len, ts)) : ka_ck 102 pc i len ts = true := ka_ckr_at kk_102_0 (Nat.zero_le _) (by omega) hc
theorem kcw_102 : lw_tbl[ka_ic 102]? = some (ka_cw 102) := by decide +kernel
theorem kk_103_0 : ka_ckr 103 0 39 = true := by decide +kernel
theorem kj_103 {pc : Nat} {i : Instr} {len : Nat} {ts : List Nat} (h2 : pc < 39) (hc : ka_cd 103 pc = some (i, len, ts)) : ka_ck 103 pc i len ts = true := ka_ckr_at kk_103_0 (Nat.zero_le _) (by omega) hc
theorem kcw_103 : lw_tbl[ka_ic 103]? = some (ka_cw 103) := by decide +kernel
theorem kk_104_0 : ka_ckr 104 0 70 = true := by decide +kernel
theorem kj_104 {pc : Nat} {i : Instr} {len : Nat} {ts : List Nat} (h2 : pc < 70) (hc : ka_cd 104 pc = some (i, len, ts)) : ka_ck 104 pc i len ts = true := ka_ckr_at kk_104_0 (Nat.zero_le _) (by omega) hc
theorem kcw_104 : lw_tbl[ka_ic 104]? = some (ka_cw 104) := by decide +kernel
theorem kk_105_0 : ka_ckr 105 0 75 = true := by decide +kernel
theorem kj_105 {pc : Nat} {i : Instr} {len : Nat} {ts : List Nat} (h2 : pc < 75) (hc : ka_cd 105 pc = some (i, len, ts)) : ka_ck 105 pc i len ts = true := ka_ckr_at kk_105_0 (Nat.zero_le _) (by omega) hc
theorem kcw_105 : lw_tbl[ka_ic 105]? = some (ka_cw 105) := by decide +kernel
theorem kk_106_0 : ka_ckr 106 0 39 = true := by decide +kernel
theorem kj_106 {pc : Nat} {i : Instr} {len : Nat} {ts : List Nat} (h2 : pc < 39) (hc : ka_cd 106 pc = some (i, len, ts)) : ka_ck 106 pc i len ts = true := ka_ckr_at kk_106_0 (Nat.zero_le _) (by omega) hc
theorem kcw_106 : lw_tbl[ka_ic 106]? = some (ka_cw 106) := by decide +kernel
theorem kk_107_0 : ka_ckr 107 0 49 = true := by decide +kernel
theorem kj_107 {pc : Nat} {i : Instr} {len : Nat} {ts : List Nat} (h2 : pc < 49) (hc : ka_cd 107 pc = some (i, len, ts)) : ka_ck 107 pc i len ts = true := ka_ckr_at kk_107_0 (Nat.zero_le _) (by omega) hc
theorem kcw_107 : lw_tbl[ka_ic 107]? = some (ka_cw 107) := by decide +kernel
theorem kk_108_0 : ka_ckr 108 0 101 = true := by decide +kernel
theorem kj_108 {pc : Nat} {i : Instr} {len : Nat} {ts : List Nat} (h2 : pc < 101) (hc : ka_cd 108 pc = some (i, len, ts)) : ka_ck 108 pc i len ts = true := ka_ckr_at kk_108_0 (Nat.zero_le _) (by omega) hc
theorem kcw_108 : lw_tbl[ka_ic 108]? = some (ka_cw 108) := by decide +kernel
theorem kk_109_0 : ka_ckr 109 0 130 = true := by decide +kernel
theorem kj_109 {pc : Nat} {i : Instr} {len : Nat} {ts : List Nat} (h2 : pc < 130) (hc : ka_cd 109 pc = some (i, len, ts)) : ka_ck 109 pc i len ts = true := ka_ckr_at kk_109_0 (Nat.zero_le _) (by omega) hc
theorem kcw_109 : lw_tbl[ka_ic 109]? = some (ka_cw 109) := by decide +kernel
theorem kk_110_0 : ka_ckr 110 0 70 = true := by decide +kernel
theorem kj_110 {pc : Nat} {i : Instr} {len : Nat} {ts : List Nat} (h2 : pc < 70) (hc : ka_cd 110 pc = some (i, len, ts)) : ka_ck 110 pc i len ts = true := ka_ckr_at kk_110_0 (Nat.zero_le _) (by omega) hc
theorem kcw_110 : lw_tbl[ka_ic 110]? = some (ka_cw 110) := by decide +kernel
theorem kk_111_0 : ka_ckr 111 0 70 = true := by decide +kernel
theorem kj_111 {pc : Nat} {i : Instr} {len : Nat} {ts : List Nat} (h2 : pc < 70) (hc : ka_cd 111 pc = some (i, len, ts)) : ka_ck 111 pc i len ts = true := ka_ckr_at kk_111_0 (Nat.zero_le _) (by omega) hc
theorem kcw_111 : lw_tbl[ka_ic 111]? = some (ka_cw 111) := by decide +kernel
theorem kk_112_0 : ka_ckr 112 0 67 = true := by decide +kernel
theorem kj_112 {pc : Nat} {i : Instr} {len : Nat} {ts : List Nat} (h2 : pc < 67) (hc : ka_cd 112 pc = some (i, len, ts)) : ka_ck 112 pc i len ts = true := ka_ckr_at kk_112_0 (Nat.zero_le _) (by omega) hc
theorem kcw_112 : lw_tbl[ka_ic 112]? = some (ka_cw 112) := by decide +kernel
theorem kk_113_0 : ka_ckr 113 0 132 = true := by decide +kernel
theorem kj_113 {pc : Nat} {i : Instr} {len : Nat} {ts : List Nat} (h2 : pc < 132) (hc : ka_cd 113 pc = some (i, len, ts)) : ka_ck 113 pc i len ts = true := ka_ckr_at kk_113_0 (Nat.zero_le _) (by omega) hc
theorem kcw_113 : lw_tbl[ka_ic 113]? = some (ka_cw 113) := by decide +kernel
theorem kk_114_0 : ka_ckr 114 0 94 = true := by decide +kernel
theorem kj_114 {pc : Nat} {i : Instr} {len : Nat} {ts : List Nat} (h2 : pc < 94) (hc : ka_cd 114 pc = some (i, len, ts)) : ka_ck 114 pc i len ts = true := ka_ckr_at kk_114_0 (Nat.zero_le _) (by omega) hc
theorem kcw_114 : lw_tbl[ka_ic 114]? = some (ka_cw 114) := by decide +kernel
theorem kk_115_0 : ka_ckr 115 0 143 = true := by decide +kernel
theorem kj_115 {pc : Nat} {i : Instr} {len : Nat} {ts : List Nat} (h2 : pc < 143) (hc : ka_cd 115 pc = some (i, len, ts)) : ka_ck 115 pc i len ts = true := ka_ckr_at kk_115_0 (Nat.zero_le _) (by omega) hc
theorem kcw_115 : lw_tbl[ka_ic 115]? = some (ka_cw 115) := by decide +kernel
theorem kk_116_0 : ka_ckr 116 0 114 = true := by decide +kernel
theorem kj_116 {pc : Nat} {i : Instr} {len : Nat} {ts : List Nat} (h2 : pc < 114) (hc : ka_cd 116 pc = some (i, len, ts)) : ka_ck 116 pc i len ts = true := ka_ckr_at kk_116_0 (Nat.zero_le _) (by omega) hc
theorem kcw_116 : lw_tbl[ka_ic 116]? = some (ka_cw 116) := by decide +kernel
theorem kk_117_0 : ka_ckr 117 0 21 = true := by decide +kernel
theorem kj_117 {pc : Nat} {i : Instr} {len : Nat} {ts : List Nat} (h2 : pc < 21) (hc : ka_cd 117 pc = some (i, len, ts)) : ka_ck 117 pc i len ts = true := ka_ckr_at kk_117_0 (Nat.zero_le _) (by omega) hc
theorem kcw_117 : lw_tbl[ka_ic 117]? = some (ka_cw 117) := by decide +kernel
theorem kk_118_0 : ka_ckr 118 0 28 = true := by decide +kernel
theorem kj_118 {pc : Nat} {i : Instr} {len : Nat} {ts : List Nat} (h2 : pc < 28) (hc : ka_cd 118 pc = some (i, len, ts)) : ka_ck 118 pc i len ts = true := ka_ckr_at kk_118_0 (Nat.zero_le _) (by omega) hc
theorem kcw_118 : lw_tbl[ka_ic 118]? = some (ka_cw 118) := by decide +kernel
theorem kk_119_0 : ka_ckr 119 0 22 = true := by decide +kernel
theorem kj_119 {pc : Nat} {i : Instr} {len : Nat} {ts : List Nat} (h2 : pc < 22) (hc : ka_cd 119 pc = some (i, len, ts)) : ka_ck 119 pc i len ts = true := ka_ckr_at kk_119_0 (Nat.zero_le _) (by omega) hc
theorem kcw_119 : lw_tbl[ka_ic 119]? = some (ka_cw 119) := by decide +kernel
theorem kk_120_0 : ka_ckr 120 0 38 = true := by decide +kernel
theorem kj_120 {pc : Nat} {i : Instr} {len : Nat} {ts : List Nat} (h2 : pc < 38) (hc : ka_cd 120 pc = some (i, len, ts)) : ka_ck 120 pc i len ts = true := ka_ckr_at kk_120_0 (Nat.zero_le _) (by omega) hc
theorem kcw_120 : lw_tbl[ka_ic 120]? = some (ka_cw 120) := by decide +kernel
theorem kk_121_0 : ka_ckr 121 0 48 = true := by decide +kernel
theorem kj_121 {pc : Nat} {i : Instr} {len : Nat} {ts : List Nat} (h2 : pc < 48) (hc : ka_cd 121 pc = some (i, len, ts)) : ka_ck 121 pc i len ts = true := ka_ckr_at kk_121_0 (Nat.zero_le _) (by omega) hc
theorem kcw_121 : lw_tbl[ka_ic 121]? = some (ka_cw 121) := by decide +kernel
theorem kk_122_0 : ka_ckr 122 0 23 = true := by decide +kernel
theorem kj_122 {pc : Nat} {i : Instr} {len : Nat} {ts : List Nat} (h2 : pc < 23) (hc : ka_cd 122 pc = some (i, len, ts)) : ka_ck 122 pc i len ts = true := ka_ckr_at kk_122_0 (Nat.zero_le _) (by omega) hc
theorem kcw_122 : lw_tbl[ka_ic 122]? = some (ka_cw 122) := by decide +kernel
theorem kk_123_0 : ka_ckr 123 0 50 = true := by decide +kernel
theorem kj_123 {pc : Nat} {i : Instr} {len : Nat} {ts : List Nat} (h2 : pc < 50) (hc : ka_cd 123 pc = some (i, len, ts)) : ka_ck 123 pc i len ts = true := ka_ckr_at kk_123_0 (Nat.zero_le _) (by omega) hc
theorem kcw_123 : lw_tbl[ka_ic 123]? = some (ka_cw 123) := by decide +kernel
theorem kk_124_0 : ka_ckr 124 0 50 = true := by decide +kernel
theorem kj_124 {pc : Nat} {i : Instr} {len : Nat} {ts : List Nat} (h2 : pc < 50) (hc : ka_cd 124 pc = some (i, len, ts)) : ka_ck 124 pc i len ts = true := ka_ckr_at kk_124_0 (Nat.zero_le _) (by omega) hc
theorem kcw_124 : lw_tbl[ka_ic 124]? = some (ka_cw 124) := by decide +kernel
theorem kk_125_0 : ka_ckr 125 0 47 = true := by decide +kernel
theorem kj_125 {pc : Nat} {i : Instr} {len : Nat} {ts : List Nat} (h2 : pc < 47) (hc : ka_cd 125 pc = some (i, len, ts)) : ka_ck 125 pc i len ts = true := ka_ckr_at kk_125_0 (Nat.zero_le _) (by omega) hc
theorem kcw_125 : lw_tbl[ka_ic 125]? = some (ka_cw 125) := by decide +kernel
theorem kk_126_0 : ka_ckr 126 0 108 = true := by decide +kernel
theorem kj_126 {pc : Nat} {i : Instr} {len : Nat} {ts : List Nat} (h2 : pc < 108) (hc : ka_cd 126 pc = some (i, len, ts)) : ka_ck 126 pc i len ts = true := ka_ckr_at kk_126_0 (Nat.zero_le _) (by omega) hc
theorem kcw_126 : lw_tbl[ka_ic 126]? = some (ka_cw 126) := by decide +kernel
theorem kk_127_0 : ka_ckr 127 0 113 = true := by decide +kernel
theorem kj_127 {pc : Nat} {i : Instr} {len : Nat} {ts : List Nat} (h2 : pc < 113) (hc : ka_cd 127 pc = some (i, len, ts)) : ka_ck 127 pc i len ts = true := ka_ckr_at kk_127_0 (Nat.zero_le _) (by omega) hc
theorem kcw_127 : lw_tbl[ka_ic 127]? = some (ka_cw 127) := by decide +kernel
theorem kk_128_0 : ka_ckr 128 0 69 = true := by decide +kernel
theorem kj_128 {pc : Nat} {i : Instr} {len : Nat} {ts : List Nat} (h2 : pc < 69) (hc : ka_cd 128 pc = some (i, len, ts)) : ka_ck 128 pc i len ts = true := ka_ckr_at kk_128_0 (Nat.zero_le _) (by omega) hc
theorem kcw_128 : lw_tbl[ka_ic 128]? = some (ka_cw 128) := by decide +kernel
theorem kk_129_0 : ka_ckr 129 0 25 = true := by decide +kernel
theorem kj_129 {pc : Nat} {i : Instr} {len : Nat} {ts : List Nat} (h2 : pc < 25) (hc : ka_cd 129 pc = some (i, len, ts)) : ka_ck 129 pc i len ts = true := ka_ckr_at kk_129_0 (Nat.zero_le _) (by omega) hc
theorem kcw_129 : lw_tbl[ka_ic 129]? = some (ka_cw 129) := by decide +kernel
theorem kk_130_0 : ka_ckr 130 0 64 = true := by decide +kernel
theorem kj_130 {pc : Nat} {i : Instr} {len : Nat} {ts : List Nat} (h2 : pc < 64) (hc : ka_cd 130 pc = some (i, len, ts)) : ka_ck 130 pc i len ts = true := ka_ckr_at kk_130_0 (Nat.zero_le _) (by omega) hc
theorem kcw_130 : lw_tbl[ka_ic 130]? = some (ka_cw 130) := by decide +kernel
theorem kk_131_0 : ka_ckr 131 0 60 = true := by decide +kernel
theorem kj_131 {pc : Nat} {i : Instr} {len : Nat} {ts : List Nat} (h2 : pc < 60) (hc : ka_cd 131 pc = some (i, len, ts)) : ka_ck 131 pc i len ts = true := ka_ckr_at kk_131_0 (Nat.zero_le _) (by omega) hc
theorem kcw_131 : lw_tbl[ka_ic 131]? = some (ka_cw 131) := by decide +kernel
theorem kk_132_0 : ka_ckr 132 0 33 = true := by decide +kernel
theorem kj_132 {pc : Nat} {i : Instr} {len : Nat} {ts : List Nat} (h2 : pc < 33) (hc : ka_cd 132 pc = some (i, len, ts)) : ka_ck 132 pc i len ts = true := ka_ckr_at kk_132_0 (Nat.zero_le _) (by omega) hc
theorem kcw_132 : lw_tbl[ka_ic 132]? = some (ka_cw 132) := by decide +kernel
theorem kk_133_0 : ka_ckr 133 0 10 = true := by decide +kernel
theorem kj_133 {pc : Nat} {i : Instr} {len : Nat} {ts : List Nat} (h2 : pc < 10) (hc : ka_cd 133 pc = some (i, len, ts)) : ka_ck 133 pc i len ts = true := ka_ckr_at kk_133_0 (Nat.zero_le _) (by omega) hc
theorem kcw_133 : lw_tbl[ka_ic 133]? = some (ka_cw 133) := by decide +kernel
theorem kk_134_0 : ka_ckr 134 0 30 = true := by decide +kernel
theorem kj_134 {pc : Nat} {i : Instr} {len : Nat} {ts : List Nat} (h2 : pc < 30) (hc : ka_cd 134 pc = some (i, len, ts)) : ka_ck 134 pc i len ts = true := ka_ckr_at kk_134_0 (Nat.zero_le _) (by omega) hc
theorem kcw_134 : lw_tbl[ka_ic 134]? = some (ka_cw 134) := by decide +kernel
theorem kk_135_0 : ka_ckr 135 0 77 = true := by decide +kernel
theorem kj_135 {pc : Nat} {i : Instr} {len : Nat} {ts : List Nat} (h2 : pc < 77) (hc : ka_cd 135 pc = some (i, len, ts)) : ka_ck 135 pc i len ts = true := ka_ckr_at kk_135_0 (Nat.zero_le _) (by omega) hc
theorem kcw_135 : lw_tbl[ka_ic 135]? = some (ka_cw 135) := by decide +kernel
theorem kk_136_0 : ka_ckr 136 0 17 = true := by decide +kernel
theorem kj_136 {pc : Nat} {i : Instr} {len : Nat} {ts : List Nat} (h2 : pc < 17) (hc : ka_cd 136 pc = some (i, len, ts)) : ka_ck 136 pc i len ts = true := ka_ckr_at kk_136_0 (Nat.zero_le _) (by omega) hc
theorem kcw_136 : lw_tbl[ka_ic 136]? = some (ka_cw 136) := by decide +kernel
theorem kk_137_0 : ka_ckr 137 0 75 = true := by decide +kernel
theorem kj_137 {pc : Nat} {i : Instr} {len : Nat} {ts : List Nat} (h2 : pc < 75) (hc : ka_cd 137 pc = some (i, len, ts)) : ka_ck 137 pc i len ts = true := ka_ckr_at kk_137_0 (Nat.zero_le _) (by omega) hc
theorem kcw_137 : lw_tbl[ka_ic 137]? = some (ka_cw 137) := by decide +kernel
theorem kk_138_0 : ka_ckr 138 0 77 = true := by decide +kernel
theorem kj_138 {pc : Nat} {i : Instr} {len : Nat} {ts : List Nat} (h2 : pc < 77) (hc : ka_cd 138 pc = some (i, len, ts)) : ka_ck 138 pc i len ts = true := ka_ckr_at kk_138_0 (Nat.zero_le _) (by omega) hc
theorem kcw_138 : lw_tbl[ka_ic 138]? = some (ka_cw 138) := by decide +kernel
theorem kk_139_0 : ka_ckr 139 0 54 = true := by decide +kernel
theorem kj_139 {pc : Nat} {i : Instr} {len : Nat} {ts : List Nat} (h2 : pc < 54) (hc : ka_cd 139 pc = some (i, len, ts)) : ka_ck 139 pc i len ts = true := ka_ckr_at kk_139_0 (Nat.zero_le _) (by omega) hc
theorem kcw_139 : lw_tbl[ka_ic 139]? = some (ka_cw 139) := by decide +kernel
theorem kk_140_0 : ka_ckr 140 0 34 = true := by decide +kernel
theorem kj_140 {pc : Nat} {i : Instr} {len : Nat} {ts : List Nat} (h2 : pc < 34) (hc : ka_cd 140 pc = some (i, len, ts)) : ka_ck 140 pc i len ts = true := ka_ckr_at kk_140_0 (Nat.zero_le _) (by omega) hc
theorem kcw_140 : lw_tbl[ka_ic 140]? = some (ka_cw 140) := by decide +kernel
theorem kk_141_0 : ka_ckr 141 0 101 = true := by decide +kernel
theorem kj_141 {pc : Nat} {i : Instr} {len : Nat} {ts : List Nat} (h2 : pc < 101) (hc : ka_cd 141 pc = some (i, len, ts)) : ka_ck 141 pc i len ts = true := ka_ckr_at kk_141_0 (Nat.zero_le _) (by omega) hc
theorem kcw_141 : lw_tbl[ka_ic 141]? = some (ka_cw 141) := by decide +kernel
theorem kk_142_0 : ka_ckr 142 0 30 = true := by decide +kernel
theorem kj_142 {pc : Nat} {i : Instr} {len : Nat} {ts : List Nat} (h2 : pc < 30) (hc : ka_cd 142 pc = some (i, len, ts)) : ka_ck 142 pc i len ts = true := ka_ckr_at kk_142_0 (Nat.zero_le _) (by omega) hc
theorem kcw_142 : lw_tbl[ka_ic 142]? = some (ka_cw 142) := by decide +kernel
theorem kk_143_0 : ka_ckr 143 0 24 = true := by decide +kernel
theorem kj_143 {pc : Nat} {i : Instr} {len : Nat} {ts : List Nat} (h2 : pc < 24) (hc : ka_cd 143 pc = some (i, len, ts)) : ka_ck 143 pc i len ts = true := ka_ckr_at kk_143_0 (Nat.zero_le _) (by omega) hc
theorem kcw_143 : lw_tbl[ka_ic 143]? = some (ka_cw 143) := by decide +kernel
theorem kk_144_0 : ka_ckr 144 0 79 = true := by decide +kernel
theorem kj_144 {pc : Nat} {i : Instr} {len : Nat} {ts : List Nat} (h2 : pc < 79) (hc : ka_cd 144 pc = some (i, len, ts)) : ka_ck 144 pc i len ts = true := ka_ckr_at kk_144_0 (Nat.zero_le _) (by omega) hc
theorem kcw_144 : lw_tbl[ka_ic 144]? = some (ka_cw 144) := by decide +kernel
theorem kk_145_0 : ka_ckr 145 0 5 = true := by decide +kernel
theorem kj_145 {pc : Nat} {i : Instr} {len : Nat} {ts : List Nat} (h2 : pc < 5) (hc : ka_cd 145 pc = some (i, len, ts)) : ka_ck 145 pc i len ts = true := ka_ckr_at kk_145_0 (Nat.zero_le _) (by omega) hc
theorem kcw_145 : lw_tbl[ka_ic 145]? = some (ka_cw 145) := by decide +kernel
theorem kk_146_0 : ka_ckr 146 0 29 = true := by decide +kernel
theorem kj_146 {pc : Nat} {i : Instr} {len : Nat} {ts : List Nat} (h2 : pc < 29) (hc : ka_cd 146 pc = some (i, len, ts)) : ka_ck 146 pc i len ts = true := ka_ckr_at kk_146_0 (Nat.zero_le _) (by omega) hc
theorem kcw_146 : lw_tbl[ka_ic 146]? = some (ka_cw 146) := by decide +kernel
theorem kk_147_0 : ka_ckr 147 0 16 = true := by decide +kernel
theorem kj_147 {pc : Nat} {i : Instr} {len : Nat} {ts : List Nat} (h2 : pc < 16) (hc : ka_cd 147 pc = some (i, len, ts)) : ka_ck 147 pc i len ts = true := ka_ckr_at kk_147_0 (Nat.zero_le _) (by omega) hc
theorem kcw_147 : lw_tbl[ka_ic 147]? = some (ka_cw 147) := by decide +kernel
theorem kk_148_0 : ka_ckr 148 0 150 = true := by decide +kernel
theorem kk_148_150 : ka_ckr 148 150 110 = true := by decide +kernel
theorem kj_148 {pc : Nat} {i : Instr} {len : Nat} {ts : List Nat} (h2 : pc < 260) (hc : ka_cd 148 pc = some (i, len, ts)) : ka_ck 148 pc i len ts = true := by
  by_cases q0 : pc < 150
  · exact ka_ckr_at kk_148_0 (by omega) (by omega) hc
  exact ka_ckr_at kk_148_150 (by omega) (by omega) hc
theorem kcw_148 : lw_tbl[ka_ic 148]? = some (ka_cw 148) := by decide +kernel
theorem kk_149_0 : ka_ckr 149 0 12 = true := by decide +kernel
theorem kj_149 {pc : Nat} {i : Instr} {len : Nat} {ts : List Nat} (h2 : pc < 12) (hc : ka_cd 149 pc = some (i, len, ts)) : ka_ck 149 pc i len ts = true := ka_ckr_at kk_149_0 (Nat.zero_le _) (by omega) hc
theorem kcw_149 : lw_tbl[ka_ic 149]? = some (ka_cw 149) := by decide +kernel
