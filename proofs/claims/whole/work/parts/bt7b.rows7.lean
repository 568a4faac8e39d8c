theorem kk_0_1500 : ka_ckr 0 1500 150 = true := by decide +kernel
theorem kk_0_1650 : ka_ckr 0 1650 150 = true := by decide +kernel
theorem kk_0_1800 : ka_ckr 0 1800 150 = true := by decide +kernel
theorem kk_0_1950 : ka_ckr 0 1950 150 = true := by decide +kernel
