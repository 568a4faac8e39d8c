theorem kk_220_0 : ka_ckr 220 0 57 = true := by decide +kernel
theorem kj_220 {pc : Nat} {i : Instr} {len : Nat} {ts : List Nat} (h2 : pc < 57) (hc : ka_cd 220 pc = some (i, len, ts)) : ka_ck 220 pc i len ts = true := ka_ckr_at kk_220_0 (Nat.zero_le _) (by omega) hc
theorem kcw_220 : lw_tbl[ka_ic 220]? = some (ka_cw 220) := by decide +kernel
theorem kk_221_0 : ka_ckr 221 0 137 = true := by decide +kernel
theorem kj_221 {pc : Nat} {i : Instr} {len : Nat} {ts : List Nat} (h2 : pc < 137) (hc : ka_cd 221 pc = some (i, len, ts)) : ka_ck 221 pc i len ts = true := ka_ckr_at kk_221_0 (Nat.zero_le _) (by omega) hc
theorem kcw_221 : lw_tbl[ka_ic 221]? = some (ka_cw 221) := by decide +kernel
theorem kk_222_0 : ka_ckr 222 0 150 = true := by decide +kernel
theorem kk_222_150 : ka_ckr 222 150 60 = true := by decide +kernel
theorem kj_222 {pc : Nat} {i : Instr} {len : Nat} {ts : List Nat} (h2 : pc < 210) (hc : ka_cd 222 pc = some (i, len, ts)) : ka_ck 222 pc i len ts = true := by
  by_cases q0 : pc < 150
  · exact ka_ckr_at kk_222_0 (by omega) (by omega) hc
  exact ka_ckr_at kk_222_150 (by omega) (by omega) hc
theorem kcw_222 : lw_tbl[ka_ic 222]? = some (ka_cw 222) := by decide +kernel
theorem kk_223_0 : ka_ckr 223 0 117 = true := by decide +kernel
theorem kj_223 {pc : Nat} {i : Instr} {len : Nat} {ts : List Nat} (h2 : pc < 117) (hc : ka_cd 223 pc = some (i, len, ts)) : ka_ck 223 pc i len ts = true := ka_ckr_at kk_223_0 (Nat.zero_le _) (by omega) hc
theorem kcw_223 : lw_tbl[ka_ic 223]? = some (ka_cw 223) := by decide +kernel
theorem kk_224_0 : ka_ckr 224 0 150 = true := by decide +kernel
theorem kk_224_150 : ka_ckr 224 150 25 = true := by decide +kernel
theorem kj_224 {pc : Nat} {i : Instr} {len : Nat} {ts : List Nat} (h2 : pc < 175) (hc : ka_cd 224 pc = some (i, len, ts)) : ka_ck 224 pc i len ts = true := by
  by_cases q0 : pc < 150
  · exact ka_ckr_at kk_224_0 (by omega) (by omega) hc
  exact ka_ckr_at kk_224_150 (by omega) (by omega) hc
theorem kcw_224 : lw_tbl[ka_ic 224]? = some (ka_cw 224) := by decide +kernel
theorem kk_225_0 : ka_ckr 225 0 150 = true := by decide +kernel
theorem kk_225_150 : ka_ckr 225 150 14 = true := by decide +kernel
theorem kj_225 {pc : Nat} {i : Instr} {len : Nat} {ts : List Nat} (h2 : pc < 164) (hc : ka_cd 225 pc = some (i, len, ts)) : ka_ck 225 pc i len ts = true := by
  by_cases q0 : pc < 150
  · exact ka_ckr_at kk_225_0 (by omega) (by omega) hc
  exact ka_ckr_at kk_225_150 (by omega) (by omega) hc
theorem kcw_225 : lw_tbl[ka_ic 225]? = some (ka_cw 225) := by decide +kernel
theorem kk_226_0 : ka_ckr 226 0 150 = true := by decide +kernel
theorem kk_226_150 : ka_ckr 226 150 9 = true := by decide +kernel
theorem kj_226 {pc : Nat} {i : Instr} {len : Nat} {ts : List Nat} (h2 : pc < 159) (hc : ka_cd 226 pc = some (i, len, ts)) : ka_ck 226 pc i len ts = true := by
  by_cases q0 : pc < 150
  · exact ka_ckr_at kk_226_0 (by omega) (by omega) hc
  exact ka_ckr_at kk_226_150 (by omega) (by omega) hc
theorem kcw_226 : lw_tbl[ka_ic 226]? = some (ka_cw 226) := by decide +kernel
theorem kk_227_0 : ka_ckr 227 0 150 = true := by decide +kernel
theorem kk_227_150 : ka_ckr 227 150 16 = true := by decide +kernel
theorem kj_227 {pc : Nat} {i : Instr} {len : Nat} {ts : List Nat} (h2 : pc < 166) (hc : ka_cd 227 pc = some (i, len, ts)) : ka_ck 227 pc i len ts = true := by
  by_cases q0 : pc < 150
  · exact ka_ckr_at kk_227_0 (by omega) (by omega) hc
  exact ka_ckr_at kk_227_150 (by omega) (by omega) hc
theorem kcw_227 : lw_tbl[ka_ic 227]? = some (ka_cw 227) := by decide +kernel
theorem kk_228_0 : ka_ckr 228 0 150 = true := by decide +kernel
theorem kk_228_150 : ka_ckr 228 150 2 = true := by decide +kernel
theorem kj_228 {pc : Nat} {i : Instr} {len : Nat} {ts : List Nat} (h2 : pc < 152) (hc : ka_cd 228 pc = some (i, len, ts)) : ka_ck 228 pc i len ts = true := by
  by_cases q0 : pc < 150
  · exact ka_ckr_at kk_228_0 (by omega) (by omega) hc
  exact ka_ckr_at kk_228_150 (by omega) (by omega) hc
theorem kcw_228 : lw_tbl[ka_ic 228]? = some (ka_cw 228) := by decide +kernel
theorem kk_229_0 : ka_ckr 229 0 78 = true := by decide +kernel
theorem kj_229 {pc : Nat} {i : Instr} {len : Nat} {ts : List Nat} (h2 : pc < 78) (hc : ka_cd 229 pc = some (i, len, ts)) : ka_ck 229 pc i len ts = true := ka_ckr_at kk_229_0 (Nat.zero_le _) (by omega) hc
theorem kcw_229 : lw_tbl[ka_ic 229]? = some (ka_cw 229) := by decide +kernel
theorem kk_230_0 : ka_ckr 230 0 67 = true := by decide +kernel
theorem kj_230 {pc : Nat} {i : Instr} {len : Nat} {ts : List Nat} (h2 : pc < 67) (hc : ka_cd 230 pc = some (i, len, ts)) : ka_ck 230 pc i len ts = true := ka_ckr_at kk_230_0 (Nat.zero_le _) (by omega) hc
theorem kcw_230 : lw_tbl[ka_ic 230]? = some (ka_cw 230) := by decide +kernel
theorem kk_231_0 : ka_ckr 231 0 150 = true := by decide +kernel
theorem kk_231_150 : ka_ckr 231 150 8 = true := by decide +kernel
theorem kj_231 {pc : Nat} {i : Instr} {len : Nat} {ts : List Nat} (h2 : pc < 158) (hc : ka_cd 231 pc = some (i, len, ts)) : ka_ck 231 pc i len ts = true := by
  by_cases q0 : pc < 150
  · exact ka_ckr_at kk_231_0 (by omega) (by omega) hc
  exact ka_ckr_at kk_231_150 (by omega) (by omega) hc
theorem kcw_231 : lw_tbl[ka_ic 231]? = some (ka_cw 231) := by decide +kernel
theorem kk_232_0 : ka_ckr 232 0 132 = true := by decide +kernel
theorem kj_232 {pc : Nat} {i : Instr} {len : Nat} {ts : List Nat} (h2 : pc < 132) (hc : ka_cd 232 pc = some (i, len, ts)) : ka_ck 232 pc i len ts = true := ka_ckr_at kk_232_0 (Nat.zero_le _) (by omega) hc
theorem kcw_232 : lw_tbl[ka_ic 232]? = some (ka_cw 232) := by decide +kernel
theorem kk_233_0 : ka_ckr 233 0 44 = true := by decide +kernel
theorem kj_233 {pc : Nat} {i : Instr} {len : Nat} {ts : List Nat} (h2 : pc < 44) (hc : ka_cd 233 pc = some (i, len, ts)) : ka_ck 233 pc i len ts = true := ka_ckr_at kk_233_0 (Nat.zero_le _) (by omega) hc
theorem kcw_233 : lw_tbl[ka_ic 233]? = some (ka_cw 233) := by decide +kernel
theorem kk_234_0 : ka_ckr 234 0 150 = true := by decide +kernel
theorem kk_234_150 : ka_ckr 234 150 77 = true := by decide +kernel
theorem kj_234 {pc : Nat} {i : Instr} {len : Nat} {ts : List Nat} (h2 : pc < 227) (hc : ka_cd 234 pc = some (i, len, ts)) : ka_ck 234 pc i len ts = true := by
  by_cases q0 : pc < 150
  · exact ka_ckr_at kk_234_0 (by omega) (by omega) hc
  exact ka_ckr_at kk_234_150 (by omega) (by omega) hc
theorem kcw_234 : lw_tbl[ka_ic 234]? = some (ka_cw 234) := by decide +kernel
theorem kk_235_0 : ka_ckr 235 0 27 = true := by decide +kernel
theorem kj_235 {pc : Nat} {i : Instr} {len : Nat} {ts : List Nat} (h2 : pc < 27) (hc : ka_cd 235 pc = some (i, len, ts)) : ka_ck 235 pc i len ts = true := ka_ckr_at kk_235_0 (Nat.zero_le _) (by omega) hc
theorem kcw_235 : lw_tbl[ka_ic 235]? = some (ka_cw 235) := by decide +kernel
theorem kk_236_0 : ka_ckr 236 0 29 = true := by decide +kernel
theorem kj_236 {pc : Nat} {i : Instr} {len : Nat} {ts : List Nat} (h2 : pc < 29) (hc : ka_cd 236 pc = some (i, len, ts)) : ka_ck 236 pc i len ts = true := ka_ckr_at kk_236_0 (Nat.zero_le _) (by omega) hc
theorem kcw_236 : lw_tbl[ka_ic 236]? = some (ka_cw 236) := by decide +kernel
theorem kk_237_0 : ka_ckr 237 0 17 = true := by decide +kernel
theorem kj_237 {pc : Nat} {i : Instr} {len : Nat} {ts : List Nat} (h2 : pc < 17) (hc : ka_cd 237 pc = some (i, len, ts)) : ka_ck 237 pc i len ts = true := ka_ckr_at kk_237_0 (Nat.zero_le _) (by omega) hc
theorem kcw_237 : lw_tbl[ka_ic 237]? = some (ka_cw 237) := by decide +kernel
theorem kk_238_0 : ka_ckr 238 0 16 = true := by decide +kernel
theorem kj_238 {pc : Nat} {i : Instr} {len : Nat} {ts : List Nat} (h2 : pc < 16) (hc : ka_cd 238 pc = some (i, len, ts)) : ka_ck 238 pc i len ts = true := ka_ckr_at kk_238_0 (Nat.zero_le _) (by omega) hc
theorem kcw_238 : lw_tbl[ka_ic 238]? = some (ka_cw 238) := by decide +kernel
theorem kk_239_0 : ka_ckr 239 0 27 = true := by decide +kernel
theorem kj_239 {pc : Nat} {i : Instr} {len : Nat} {ts : List Nat} (h2 : pc < 27) (hc : ka_cd 239 pc = some (i, len, ts)) : ka_ck 239 pc i len ts = true := ka_ckr_at kk_239_0 (Nat.zero_le _) (by omega) hc
theorem kcw_239 : lw_tbl[ka_ic 239]? = some (ka_cw 239) := by decide +kernel
theorem kk_240_0 : ka_ckr 240 0 17 = true := by decide +kernel
theorem kj_240 {pc : Nat} {i : Instr} {len : Nat} {ts : List Nat} (h2 : pc < 17) (hc : ka_cd 240 pc = some (i, len, ts)) : ka_ck 240 pc i len ts = true := ka_ckr_at kk_240_0 (Nat.zero_le _) (by omega) hc
theorem kcw_240 : lw_tbl[ka_ic 240]? = some (ka_cw 240) := by decide +kernel
theorem kk_241_0 : ka_ckr 241 0 17 = true := by decide +kernel
theorem kj_241 {pc : Nat} {i : Instr} {len : Nat} {ts : List Nat} (h2 : pc < 17) (hc : ka_cd 241 pc = some (i, len, ts)) : ka_ck 241 pc i len ts = true := ka_ckr_at kk_241_0 (Nat.zero_le _) (by omega) hc
theorem kcw_241 : lw_tbl[ka_ic 241]? = some (ka_cw 241) := by decide +kernel
theorem kk_242_0 : ka_ckr 242 0 17 = true := by decide +kernel
theorem kj_242 {pc : Nat} {i : Instr} {len : Nat} {ts : List Nat} (h2 : pc < 17) (hc : ka_cd 242 pc = some (i, len, ts)) : ka_ck 242 pc i len ts = true := ka_ckr_at kk_242_0 (Nat.zero_le _) (by omega) hc
theorem kcw_242 : lw_tbl[ka_ic 242]? = some (ka_cw 242) := by decide +kernel
theorem kk_243_0 : ka_ckr 243 0 23 = true := by decide +kernel
theorem kj_243 {pc : Nat} {i : Instr} {len : Nat} {ts : List Nat} (h2 : pc < 23) (hc : ka_cd 243 pc = some (i, len, ts)) : ka_ck 243 pc i len ts = true := ka_ckr_at kk_243_0 (Nat.zero_le _) (by omega) hc
theorem kcw_243 : lw_tbl[ka_ic 243]? = some (ka_cw 243) := by decide +kernel
theorem kk_244_0 : ka_ckr 244 0 23 = true := by decide +kernel
theorem kj_244 {pc : Nat} {i : Instr} {len : Nat} {ts : List Nat} (h2 : pc < 23) (hc : ka_cd 244 pc = some (i, len, ts)) : ka_ck 244 pc i len ts = true := ka_ckr_at kk_244_0 (Nat.zero_le _) (by omega) hc
theorem kcw_244 : lw_tbl[ka_ic 244]? = some (ka_cw 244) := by decide +kernel
theorem kk_245_0 : ka_ckr 245 0 23 = true := by decide +kernel
theorem kj_245 {pc : Nat} {i : Instr} {len : Nat} {ts : List Nat} (h2 : pc < 23) (hc : ka_cd 245 pc = some (i, len, ts)) : ka_ck 245 pc i len ts = true := ka_ckr_at kk_245_0 (Nat.zero_le _) (by omega) hc
theorem kcw_245 : lw_tbl[ka_ic 245]? = some (ka_cw 245) := by decide +kernel
theorem kk_246_0 : ka_ckr 246 0 17 = true := by decide +kernel
theorem kj_246 {pc : Nat} {i : Instr} {len : Nat} {ts : List Nat} (h2 : pc < 17) (hc : ka_cd 246 pc = some (i, len, ts)) : ka_ck 246 pc i len ts = true := ka_ckr_at kk_246_0 (Nat.zero_le _) (by omega) hc
theorem kcw_246 : lw_tbl[ka_ic 246]? = some (ka_cw 246) := by decide +kernel
theorem kk_247_0 : ka_ckr 247 0 33 = true := by decide +kernel
theorem kj_247 {pc : Nat} {i : Instr} {len : Nat} {ts : List Nat} (h2 : pc < 33) (hc : ka_cd 247 pc = some (i, len, ts)) : ka_ck 247 pc i len ts = true := ka_ckr_at kk_247_0 (Nat.zero_le _) (by omega) hc
theorem kcw_247 : lw_tbl[ka_ic 247]? = some (ka_cw 247) := by decide +kernel
theorem kk_248_0 : ka_ckr 248 0 27 = true := by decide +kernel
theorem kj_248 {pc : Nat} {i : Instr} {len : Nat} {ts : List Nat} (h2 : pc < 27) (hc : ka_cd 248 pc = some (i, len, ts)) : ka_ck 248 pc i len ts = true := ka_ckr_at kk_248_0 (Nat.zero_le _) (by omega) hc
theorem kcw_248 : lw_tbl[ka_ic 248]? = some (ka_cw 248) := by decide +kernel
theorem kk_249_0 : ka_ckr 249 0 19 = true := by decide +kernel
theorem kj_249 {pc : Nat} {i : Instr} {len : Nat} {ts : List Nat} (h2 : pc < 19) (hc : ka_cd 249 pc = some (i, len, ts)) : ka_ck 249 pc i len ts = true := ka_ckr_at kk_249_0 (Nat.zero_le _) (by omega) hc
theorem kcw_249 : lw_tbl[ka_ic 249]? = some (ka_cw 249) := by decide +kernel
theorem kk_250_0 : ka_ckr 250 0 21 = true := by decide +kernel
theorem kj_250 {pc : Nat} {i : Instr} {len : Nat} {ts : List Nat} (h2 : pc < 21) (hc : ka_cd 250 pc = some (i, len, ts)) : ka_ck 250 pc i len ts = true := ka_ckr_at kk_250_0 (Nat.zero_le _) (by omega) hc
theorem kcw_250 : lw_tbl[ka_ic 250]? = some (ka_cw 250) := by decide +kernel
theorem kk_251_0 : ka_ckr 251 0 25 = true := by decide +kernel
theorem kj_251 {pc : Nat} {i : Instr} {len : Nat} {ts : List Nat} (h2 : pc < 25) (hc : ka_cd 251 pc = some (i, len, ts)) : ka_ck 251 pc i len ts = true := ka_ckr_at kk_251_0 (Nat.zero_le _) (by omega) hc
theorem kcw_251 : lw_tbl[ka_ic 251]? = some (ka_cw 251) := by decide +kernel
