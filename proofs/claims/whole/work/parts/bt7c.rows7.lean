theorem kk_0_2100 : ka_ckr 0 2100 150 = true := by decide +kernel
theorem kk_0_2250 : ka_ckr 0 2250 150 = true := by decide +kernel
theorem kk_0_2400 : ka_ckr 0 2400 150 = true := by decide +kernel
