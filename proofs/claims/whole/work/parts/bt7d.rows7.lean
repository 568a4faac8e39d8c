theorem kk_0_2550 : ka_ckr 0 2550 150 = true := by decide +kernel
theorem kk_0_2700 : ka_ckr 0 2700 150 = true := by decide +kernel
theorem kk_0_2850 : ka_ckr 0 2850 31 = true := by decide +kernel
theorem kj_0 {pc : Nat} {i : Instr} {len : Nat} {ts : List Nat} (h2 : pc < 2881) (hc : ka_cd 0 pc = some (i, len, ts)) : ka_ck 0 pc i len ts = true := by
  by_cases q0 : pc < 150
  · exact ka_ckr_at kk_0_0 (by omega) (by omega) hc
  by_cases q1 : pc < 300
  · exact ka_ckr_at kk_0_150 (by omega) (by omega) hc
  by_cases q2 : pc < 450
  · exact ka_ckr_at kk_0_300 (by omega) (by omega) hc
  by_cases q3 : pc < 600
  · exact ka_ckr_at kk_0_450 (by omega) (by omega) hc
  by_cases q4 : pc < 750
  · exact ka_ckr_at kk_0_600 (by omega) (by omega) hc
  by_cases q5 : pc < 900
  · exact ka_ckr_at kk_0_750 (by omega) (by omega) hc
  by_cases q6 : pc < 1050
  · exact ka_ckr_at kk_0_900 (by omega) (by omega) hc
  by_cases q7 : pc < 1200
  · exact ka_ckr_at kk_0_1050 (by omega) (by omega) hc
  by_cases q8 : pc < 1350
  · exact ka_ckr_at kk_0_1200 (by omega) (by omega) hc
  by_cases q9 : pc < 1500
  · exact ka_ckr_at kk_0_1350 (by omega) (by omega) hc
  by_cases q10 : pc < 1650
  · exact ka_ckr_at kk_0_1500 (by omega) (by omega) hc
  by_cases q11 : pc < 1800
  · exact ka_ckr_at kk_0_1650 (by omega) (by omega) hc
  by_cases q12 : pc < 1950
  · exact ka_ckr_at kk_0_1800 (by omega) (by omega) hc
  by_cases q13 : pc < 2100
  · exact ka_ckr_at kk_0_1950 (by omega) (by omega) hc
  by_cases q14 : pc < 2250
  · exact ka_ckr_at kk_0_2100 (by omega) (by omega) hc
  by_cases q15 : pc < 2400
  · exact ka_ckr_at kk_0_2250 (by omega) (by omega) hc
  by_cases q16 : pc < 2550
  · exact ka_ckr_at kk_0_2400 (by omega) (by omega) hc
  by_cases q17 : pc < 2700
  · exact ka_ckr_at kk_0_2550 (by omega) (by omega) hc
  by_cases q18 : pc < 2850
  · exact ka_ckr_at kk_0_2700 (by omega) (by omega) hc
  exact ka_ckr_at kk_0_2850 (by omega) (by omega) hc
