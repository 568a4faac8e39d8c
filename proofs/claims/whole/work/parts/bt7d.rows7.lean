theorem kk_0_2500 : ka_ckr 0 2500 40 = true := by decide +kernel
theorem kk_0_2540 : ka_ckr 0 2540 40 = true := by decide +kernel
theorem kk_0_2580 : ka_ckr 0 2580 40 = true := by decide +kernel
theorem kk_0_2620 : ka_ckr 0 2620 40 = true := by decide +kernel
theorem kk_0_2660 : ka_ckr 0 2660 40 = true := by decide +kernel
theorem kk_0_2700 : ka_ckr 0 2700 40 = true := by decide +kernel
theorem kk_0_2740 : ka_ckr 0 2740 40 = true := by decide +kernel
theorem kk_0_2780 : ka_ckr 0 2780 40 = true := by decide +kernel
theorem kk_0_2820 : ka_ckr 0 2820 40 = true := by decide +kernel
theorem kk_0_2860 : ka_ckr 0 2860 21 = true := by decide +kernel
theorem kj_0 {pc : Nat} {i : Instr} {len : Nat} {ts : List Nat} (h2 : pc < 2881) (hc : ka_cd 0 pc = some (i, len, ts)) : ka_ck 0 pc i len ts = true := by
  by_cases q0 : pc < 150
  · exact ka_ckr_at kk_0_0 (by omega) (by omega) hc
  by_cases q1 : pc < 300
  · exact ka_ckr_at kk_0_150 (by omega) (by omega) hc
  by_cases q2 : pc < 450
  · exact ka_ckr_at kk_0_300 (by omega) (by omega) hc
  by_cases q3 : pc < 600
  · exact ka_ckr_at kk_0_450 (by omega) (by omega) hc
  by_cases q4 : pc < 750
  · exact ka_ckr_at kk_0_600 (by omega) (by omega) hc
  by_cases q5 : pc < 900
  · exact ka_ckr_at kk_0_750 (by omega) (by omega) hc
  by_cases q6 : pc < 1050
  · exact ka_ckr_at kk_0_900 (by omega) (by omega) hc
  by_cases q7 : pc < 1200
  · exact ka_ckr_at kk_0_1050 (by omega) (by omega) hc
  by_cases q8 : pc < 1350
  · exact ka_ckr_at kk_0_1200 (by omega) (by omega) hc
  by_cases q9 : pc < 1500
  · exact ka_ckr_at kk_0_1350 (by omega) (by omega) hc
  by_cases q10 : pc < 1650
  · exact ka_ckr_at kk_0_1500 (by omega) (by omega) hc
  by_cases q11 : pc < 1800
  · exact ka_ckr_at kk_0_1650 (by omega) (by omega) hc
  by_cases q12 : pc < 1950
  · exact ka_ckr_at kk_0_1800 (by omega) (by omega) hc
  by_cases q13 : pc < 2100
  · exact ka_ckr_at kk_0_1950 (by omega) (by omega) hc
  by_cases q14 : pc < 2140
  · exact ka_ckr_at kk_0_2100 (by omega) (by omega) hc
  by_cases q15 : pc < 2180
  · exact ka_ckr_at kk_0_2140 (by omega) (by omega) hc
  by_cases q16 : pc < 2220
  · exact ka_ckr_at kk_0_2180 (by omega) (by omega) hc
  by_cases q17 : pc < 2260
  · exact ka_ckr_at kk_0_2220 (by omega) (by omega) hc
  by_cases q18 : pc < 2300
  · exact ka_ckr_at kk_0_2260 (by omega) (by omega) hc
  by_cases q19 : pc < 2340
  · exact ka_ckr_at kk_0_2300 (by omega) (by omega) hc
  by_cases q20 : pc < 2380
  · exact ka_ckr_at kk_0_2340 (by omega) (by omega) hc
  by_cases q21 : pc < 2420
  · exact ka_ckr_at kk_0_2380 (by omega) (by omega) hc
  by_cases q22 : pc < 2460
  · exact ka_ckr_at kk_0_2420 (by omega) (by omega) hc
  by_cases q23 : pc < 2500
  · exact ka_ckr_at kk_0_2460 (by omega) (by omega) hc
  by_cases q24 : pc < 2540
  · exact ka_ckr_at kk_0_2500 (by omega) (by omega) hc
  by_cases q25 : pc < 2580
  · exact ka_ckr_at kk_0_2540 (by omega) (by omega) hc
  by_cases q26 : pc < 2620
  · exact ka_ckr_at kk_0_2580 (by omega) (by omega) hc
  by_cases q27 : pc < 2660
  · exact ka_ckr_at kk_0_2620 (by omega) (by omega) hc
  by_cases q28 : pc < 2700
  · exact ka_ckr_at kk_0_2660 (by omega) (by omega) hc
  by_cases q29 : pc < 2740
  · exact ka_ckr_at kk_0_2700 (by omega) (by omega) hc
  by_cases q30 : pc < 2780
  · exact ka_ckr_at kk_0_2740 (by omega) (by omega) hc
  by_cases q31 : pc < 2820
  · exact ka_ckr_at kk_0_2780 (by omega) (by omega) hc
  by_cases q32 : pc < 2860
  · exact ka_ckr_at kk_0_2820 (by omega) (by omega) hc
  exact ka_ckr_at kk_0_2860 (by omega) (by omega) hc
