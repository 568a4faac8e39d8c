theorem kk_220_0 : ka_ckr 220 0 57 = true := by decide +kernel
theorem kj_220 {pc : Nat} {i : Instr} {len : Nat} {ts : List Nat} (h2 : pc < 57) (hc : ka_cd 220 pc = some (i, len, ts)) : ka_ck 220 pc i len ts = true := ka_ckr_at kk_220_0 (Nat.zero_le _) (by omega) hc
theorem kcw_220 : lw_tbl[ka_ic 220]? = some (ka_cw 220) := by decide +kernel
theorem kk_221_0 : ka_ckr 221 0 137 = true := by decide +kernel
theorem kj_221 {pc : Nat} {i : Instr} {len : Nat} {ts : List Nat} (h2 : pc < 137) (hc : ka_cd 221 pc = some (i, len, ts)) : ka_ck 221 pc i len ts = true := ka_ckr_at kk_221_0 (Nat.zero_le _) (by omega) hc
theorem kcw_221 : lw_tbl[ka_ic 221]? = some (ka_cw 221) := by decide +kernel
theorem kk_222_0 : ka_ckr 222 0 150 = true := by decide +kernel
theorem kk_222_150 : ka_ckr 222 150 60 = true := by decide +kernel
theorem kj_222 {pc : Nat} {i : Instr} {len : Nat} {ts : List Nat} (h2 : pc < 210) (hc : ka_cd 222 pc = some (i, len, ts)) : ka_ck 222 pc i len ts = true := by
  by_cases q0 : pc < 150
  · exact ka_ckr_at kk_222_0 (by omega) (by omega) hc
  exact ka_ckr_at kk_222_150 (by omega) (by omega) hc
theorem kcw_222 : lw_tbl[ka_ic 222]? = some (ka_cw 222) := by decide +kernel
theorem kk_223_0 : ka_ckr 223 0 117 = true := by decide +kernel
theorem kj_223 {pc : Nat} {i : Instr} {len : Nat} {ts : List Nat} (h2 : pc < 117) (hc : ka_cd 223 pc = some (i, len, ts)) : ka_ck 223 pc i len ts = true := ka_ckr_at kk_223_0 (Nat.zero_le _) (by omega) hc
theorem kcw_223 : lw_tbl[ka_ic 223]? = some (ka_cw 223) := by decide +kernel
theorem kk_224_0 : ka_ckr 224 0 150 = true := by decide +kernel
theorem kk_224_150 : ka_ckr 224 150 25 = true := by decide +kernel
theorem kj_224 {pc : Nat} {i : Instr} {len : Nat} {ts : List Nat} (h2 : pc < 175) (hc : ka_cd 224 pc = some (i, len, ts)) : ka_ck 224 pc i len ts = true := by
  by_cases q0 : pc < 150
  · exact ka_ckr_at kk_224_0 (by omega) (by omega) hc
  exact ka_ckr_at kk_224_150 (by omega) (by omega) hc
theorem kcw_224 : lw_tbl[ka_ic 224]? = some (ka_cw 224) := by decide +kernel
theorem kk_225_0 : ka_ckr 225 0 150 = true := by decide +kernel
theorem kk_225_150 : ka_ckr 225 150 14 = true := by decide +kernel
theorem kj_225 {pc : Nat} {i : Instr} {len : Nat} {ts : List Nat} (h2 : pc < 164) (hc : ka_cd 225 pc = some (i, len, ts)) : ka_ck 225 pc i len ts = true := by
  by_cases q0 : pc < 150
  · exact ka_ckr_at kk_225_0 (by omega) (by omega) hc
  exact ka_ckr_at kk_225_150 (by omega) (by omega) hc
theorem kcw_225 : lw_tbl[ka_ic 225]? = some (ka_cw 225) := by decide +kernel
theorem kk_226_0 : ka_ckr 226 0 150 = true := by decide +kernel
theorem kk_226_150 : ka_ckr 226 150 9 = true := by decide +kernel
theorem kj_226 {pc : Nat} {i : Instr} {len : Nat} {ts : List Nat} (h2 : pc < 159) (hc : ka_cd 226 pc = some (i, len, ts)) : ka_ck 226 pc i len ts = true := by
  by_cases q0 : pc < 150
  · exact ka_ckr_at kk_226_0 (by omega) (by omega) hc
  exact ka_ckr_at kk_226_150 (by omega) (by omega) hc
theorem kcw_226 : lw_tbl[ka_ic 226]? = some (ka_cw 226) := by decide +kernel
theorem kk_227_0 : ka_ckr 227 0 150 = true := by decide +kernel
theorem kk_227_150 : ka_ckr 227 150 16 = true := by decide +kernel
theorem kj_227 {pc : Nat} {i : Instr} {len : Nat} {ts : List Nat} (h2 : pc < 166) (hc : ka_cd 227 pc = some (i, len, ts)) : ka_ck 227 pc i len ts = true := by
  by_cases q0 : pc < 150
  · exact ka_ckr_at kk_227_0 (by omega) (by omega) hc
  exact ka_ckr_at kk_227_150 (by omega) (by omega) hc
theorem kcw_227 : lw_tbl[ka_ic 227]? = some (ka_cw 227) := by decide +kernel
theorem kk_228_0 : ka_ckr 228 0 150 = true := by decide +kernel
theorem kk_228_150 : ka_ckr 228 150 2 = true := by decide +kernel
theorem kj_228 {pc : Nat} {i : Instr} {len : Nat} {ts : List Nat} (h2 : pc < 152) (hc : ka_cd 228 pc = some (i, len, ts)) : ka_ck 228 pc i len ts = true := by
  by_cases q0 : pc < 150
  · exact ka_ckr_at kk_228_0 (by omega) (by omega) hc
  exact ka_ckr_at kk_228_150 (by omega) (by omega) hc
theorem kcw_228 : lw_tbl[ka_ic 228]? = some (ka_cw 228) := by decide +kernel
theorem kk_229_0 : ka_ckr 229 0 78 = true := by decide +kernel
theorem kj_229 {pc : Nat} {i : Instr} {len : Nat} {ts : List Nat} (h2 : pc < 78) (hc : ka_cd 229 pc = some (i, len, ts)) : ka_ck 229 pc i len ts = true := ka_ckr_at kk_229_0 (Nat.zero_le _) (by omega) hc
theorem kcw_229 : lw_tbl[ka_ic 229]? = some (ka_cw 229) := by decide +kernel
theorem kk_230_0 : ka_ckr 230 0 67 = true := by decide +kernel
theorem kj_230 {pc : Nat} {i : Instr} {len : Nat} {ts : List Nat} (h2 : pc < 67) (hc : ka_cd 230 pc = some (i, len, ts)) : ka_ck 230 pc i len ts = true := ka_ckr_at kk_230_0 (Nat.zero_le _) (by omega) hc
theorem kcw_230 : lw_tbl[ka_ic 230]? = some (ka_cw 230) := by decide +kernel
theorem kk_231_0 : ka_ckr 231 0 150 = true := by decide +kernel
theorem kk_231_150 : ka_ckr 231 150 8 = true := by decide +kernel
theorem kj_231 {pc : Nat} {i : Instr} {len : Nat} {ts : List Nat} (h2 : pc < 158) (hc : ka_cd 231 pc = some (i, len, ts)) : ka_ck 231 pc i len ts = true := by
  by_cases q0 : pc < 150
  · exact ka_ckr_at kk_231_0 (by omega) (by omega) hc
  exact ka_ckr_at kk_231_150 (by omega) (by omega) hc
theorem kcw_231 : lw_tbl[ka_ic 231]? = some (ka_cw 231) := by decide +kernel
theorem kk_232_0 : ka_ckr 232 0 132 = true := by decide +kernel
theorem kj_232 {pc : Nat} {i : Instr} {len : Nat} {ts : List Nat} (h2 : pc < 132) (hc : ka_cd 232 pc = some (i, len, ts)) : ka_ck 232 pc i len ts = true := ka_ckr_at kk_232_0 (Nat.zero_le _) (by omega) hc
theorem kcw_232 : lw_tbl[ka_ic 232]? = some (ka_cw 232) := by decide +kernel
theorem kk_233_0 : ka_ckr 233 0 44 = true := by decide +kernel
theorem kj_233 {pc : Nat} {i : Instr} {len : Nat} {ts : List Nat} (h2 : pc < 44) (hc : ka_cd 233 pc = some (i, len, ts)) : ka_ck 233 pc i len ts = true := ka_ckr_at kk_233_0 (Nat.zero_le _) (by omega) hc
theorem kcw_233 : lw_tbl[ka_ic 233]? = some (ka_cw 233) := by decide +kernel
theorem kk_234_0 : ka_ckr 234 0 150 = true := by decide +kernel
theorem kk_234_150 : ka_ckr 234 150 77 = true := by decide +kernel
theorem kj_234 {pc : Nat} {i : Instr} {len : Nat} {ts : List Nat} (h2 : pc < 227) (hc : ka_cd 234 pc = some (i, len, ts)) : ka_ck 234 pc i len ts = true := by
  by_cases q0 : pc < 150
  · exact ka_ckr_at kk_234_0 (by omega) (by omega) hc
  exact ka_ckr_at kk_234_150 (by omega) (by omega) hc
theorem kcw_234 : lw_tbl[ka_ic 234]? = some (ka_cw 234) := by decide +kernel
theorem kk_235_0 : ka_ckr 235 0 27 = true := by decide +kernel
theorem kj_235 {pc : Nat} {i : Instr} {len : Nat} {ts : List Nat} (h2 : pc < 27) (hc : ka_cd 235 pc = some (i, len, ts)) : ka_ck 235 pc i len ts = true := ka_ckr_at kk_235_0 (Nat.zero_le _) (by omega) hc
theorem kcw_235 : lw_tbl[ka_ic 235]? = some (ka_cw 235) := by decide +kernel
theorem kk_236_0 : ka_ckr 236 0 29 = true := by decide +kernel
theorem kj_236 {pc : Nat} {i : Instr} {len : Nat} {ts : List Nat} (h2 : pc < 29) (hc : ka_cd 236 pc = some (i, len, ts)) : ka_ck 236 pc i len ts = true := ka_ckr_at kk_236_0 (Nat.zero_le _) (by omega) hc
theorem kcw_236 : lw_tbl[ka_ic 236]? = some (ka_cw 236) := by decide +kernel
theorem kk_237_0 : ka_ckr 237 0 17 = true := by decide +kernel
theorem kj_237 {pc : Nat} {i : Instr} {len : Nat} {ts : List Nat} (h2 : pc < 17) (hc : ka_cd 237 pc = some (i, len, ts)) : ka_ck 237 pc i len ts = true := ka_ckr_at kk_237_0 (Nat.zero_le _) (by omega) hc
theorem kcw_237 : lw_tbl[ka_ic 237]? = some (ka_cw 237) := by decide +kernel
theorem kk_238_0 : ka_ckr 238 0 16 = true := by decide +kernel
theorem kj_238 {pc : Nat} {i : Instr} {len : Nat} {ts : List Nat} (h2 : pc < 16) (hc : ka_cd 238 pc = some (i, len, ts)) : ka_ck 238 pc i len ts = true := ka_ckr_at kk_238_0 (Nat.zero_le _) (by omega) hc
theorem kcw_238 : lw_tbl[ka_ic 238]? = some (ka_cw 238) := by decide +kernel
theorem kk_239_0 : ka_ckr 239 0 27 = true := by decide +kernel
theorem kj_239 {pc : Nat} {i : Instr} {len : Nat} {ts : List Nat} (h2 : pc < 27) (hc : ka_cd 239 pc = some (i, len, ts)) : ka_ck 239 pc i len ts = true := ka_ckr_at kk_239_0 (Nat.zero_le _) (by omega) hc
theorem kcw_239 : lw_tbl[ka_ic 239]? = some (ka_cw 239) := by decide +kernel
theorem kk_240_0 : ka_ckr 240 0 17 = true := by decide +kernel
theorem kj_240 {pc : Nat} {i : Instr} {len : Nat} {ts : List Nat} (h2 : pc < 17) (hc : ka_cd 240 pc = some (i, len, ts)) : ka_ck 240 pc i len ts = true := ka_ckr_at kk_240_0 (Nat.zero_le _) (by omega) hc
theorem kcw_240 : lw_tbl[ka_ic 240]? = some (ka_cw 240) := by decide +kernel
theorem kk_241_0 : ka_ckr 241 0 17 = true := by decide +kernel
theorem kj_241 {pc : Nat} {i : Instr} {len : Nat} {ts : List Nat} (h2 : pc < 17) (hc : ka_cd 241 pc = some (i, len, ts)) : ka_ck 241 pc i len ts = true := ka_ckr_at kk_241_0 (Nat.zero_le _) (by omega) hc
theorem kcw_241 : lw_tbl[ka_ic 241]? = some (ka_cw 241) := by decide +kernel
theorem kk_242_0 : ka_ckr 242 0 17 = true := by decide +kernel
theorem kj_242 {pc : Nat} {i : Instr} {len : Nat} {ts : List Nat} (h2 : pc < 17) (hc : ka_cd 242 pc = some (i, len, ts)) : ka_ck 242 pc i len ts = true := ka_ckr_at kk_242_0 (Nat.zero_le _) (by omega) hc
theorem kcw_242 : lw_tbl[ka_ic 242]? = some (ka_cw 242) := by decide +kernel
theorem kk_243_0 : ka_ckr 243 0 23 = true := by decide +kernel
theorem kj_243 {pc : Nat} {i : Instr} {len : Nat} {ts : List Nat} (h2 : pc < 23) (hc : ka_cd 243 pc = some (i, len, ts)) : ka_ck 243 pc i len ts = true := ka_ckr_at kk_243_0 (Nat.zero_le _) (by omega) hc
theorem kcw_243 : lw_tbl[ka_ic 243]? = some (ka_cw 243) := by decide +kernel
theorem kk_244_0 : ka_ckr 244 0 23 = true := by decide +kernel
theorem kj_244 {pc : Nat} {i : Instr} {len : Nat} {ts : List Nat} (h2 : pc < 23) (hc : ka_cd 244 pc = some (i, len, ts)) : ka_ck 244 pc i len ts = true := ka_ckr_at kk_244_0 (Nat.zero_le _) (by omega) hc
theorem kcw_244 : lw_tbl[ka_ic 244]? = some (ka_cw 244) := by decide +kernel
theorem kk_245_0 : ka_ckr 245 0 23 = true := by decide +kernel
theorem kj_245 {pc : Nat} {i : Instr} {len : Nat} {ts : List Nat} (h2 : pc < 23) (hc : ka_cd 245 pc = some (i, len, ts)) : ka_ck 245 pc i len ts = true := ka_ckr_at kk_245_0 (Nat.zero_le _) (by omega) hc
theorem kcw_245 : lw_tbl[ka_ic 245]? = some (ka_cw 245) := by decide +kernel
theorem kk_246_0 : ka_ckr 246 0 17 = true := by decide +kernel
theorem kj_246 {pc : Nat} {i : Instr} {len : Nat} {ts : List Nat} (h2 : pc < 17) (hc : ka_cd 246 pc = some (i, len, ts)) : ka_ck 246 pc i len ts = true := ka_ckr_at kk_246_0 (Nat.zero_le _) (by omega) hc
theorem kcw_246 : lw_tbl[ka_ic 246]? = some (ka_cw 246) := by decide +kernel
theorem kk_247_0 : ka_ckr 247 0 33 = true := by decide +kernel
theorem kj_247 {pc : Nat} {i : Instr} {len : Nat} {ts : List Nat} (h2 : pc < 33) (hc : ka_cd 247 pc = some (i, len, ts)) : ka_ck 247 pc i len ts = true := ka_ckr_at kk_247_0 (Nat.zero_le _) (by omega) hc
theorem kcw_247 : lw_tbl[ka_ic 247]? = some (ka_cw 247) := by decide +kernel
theorem kk_248_0 : ka_ckr 248 0 27 = true := by decide +kernel
theorem kj_248 {pc : Nat} {i : Instr} {len : Nat} {ts : List Nat} (h2 : pc < 27) (hc : ka_cd 248 pc = some (i, len, ts)) : ka_ck 248 pc i len ts = true := ka_ckr_at kk_248_0 (Nat.zero_le _) (by omega) hc
theorem kcw_248 : lw_tbl[ka_ic 248]? = some (ka_cw 248) := by decide +kernel
theorem kk_249_0 : ka_ckr 249 0 19 = true := by decide +kernel
theorem kj_249 {pc : Nat} {i : Instr} {len : Nat} {ts : List Nat} (h2 : pc < 19) (hc : ka_cd 249 pc = some (i, len, ts)) : ka_ck 249 pc i len ts = true := ka_ckr_at kk_249_0 (Nat.zero_le _) (by omega) hc
theorem kcw_249 : lw_tbl[ka_ic 249]? = some (ka_cw 249) := by decide +kernel
theorem kk_250_0 : ka_ckr 250 0 21 = true := by decide +kernel
theorem kj_250 {pc : Nat} {i : Instr} {len : Nat} {ts : List Nat} (h2 : pc < 21) (hc : ka_cd 250 pc = some (i, len, ts)) : ka_ck 250 pc i len ts = true := ka_ckr_at kk_250_0 (Nat.zero_le _) (by omega) hc
theorem kcw_250 : lw_tbl[ka_ic 250]? = some (ka_cw 250) := by decide +kernel
theorem kk_251_0 : ka_ckr 251 0 25 = true := by decide +kernel
theorem kj_251 {pc : Nat} {i : Instr} {len : Nat} {ts : List Nat} (h2 : pc < 25) (hc : ka_cd 251 pc = some (i, len, ts)) : ka_ck 251 pc i len ts = true := ka_ckr_at kk_251_0 (Nat.zero_le _) (by omega) hc
theorem kcw_251 : lw_tbl[ka_ic 251]? = some (ka_cw 251) := by decide +kernel
theorem kk_252_0 : ka_ckr 252 0 27 = true := by decide +kernel
theorem kj_252 {pc : Nat} {i : Instr} {len : Nat} {ts : List Nat} (h2 : pc < 27) (hc : ka_cd 252 pc = some (i, len, ts)) : ka_ck 252 pc i len ts = true := ka_ckr_at kk_252_0 (Nat.zero_le _) (by omega) hc
theorem kcw_252 : lw_tbl[ka_ic 252]? = some (ka_cw 252) := by decide +kernel
theorem kk_253_0 : ka_ckr 253 0 17 = true := by decide +kernel
theorem kj_253 {pc : Nat} {i : Instr} {len : Nat} {ts : List Nat} (h2 : pc < 17) (hc : ka_cd 253 pc = some (i, len, ts)) : ka_ck 253 pc i len ts = true := ka_ckr_at kk_253_0 (Nat.zero_le _) (by omega) hc
theorem kcw_253 : lw_tbl[ka_ic 253]? = some (ka_cw 253) := by decide +kernel
theorem kk_254_0 : ka_ckr 254 0 17 = true := by decide +kernel
theorem kj_254 {pc : Nat} {i : Instr} {len : Nat} {ts : List Nat} (h2 : pc < 17) (hc : ka_cd 254 pc = some (i, len, ts)) : ka_ck 254 pc i len ts = true := ka_ckr_at kk_254_0 (Nat.zero_le _) (by omega) hc
theorem kcw_254 : lw_tbl[ka_ic 254]? = some (ka_cw 254) := by decide +kernel
theorem kk_255_0 : ka_ckr 255 0 17 = true := by decide +kernel
theorem kj_255 {pc : Nat} {i : Instr} {len : Nat} {ts : List Nat} (h2 : pc < 17) (hc : ka_cd 255 pc = some (i, len, ts)) : ka_ck 255 pc i len ts = true := ka_ckr_at kk_255_0 (Nat.zero_le _) (by omega) hc
theorem kcw_255 : lw_tbl[ka_ic 255]? = some (ka_cw 255) := by decide +kernel
theorem kk_256_0 : ka_ckr 256 0 35 = true := by decide +kernel
theorem kj_256 {pc : Nat} {i : Instr} {len : Nat} {ts : List Nat} (h2 : pc < 35) (hc : ka_cd 256 pc = some (i, len, ts)) : ka_ck 256 pc i len ts = true := ka_ckr_at kk_256_0 (Nat.zero_le _) (by omega) hc
theorem kcw_256 : lw_tbl[ka_ic 256]? = some (ka_cw 256) := by decide +kernel
theorem kk_257_0 : ka_ckr 257 0 37 = true := by decide +kernel
theorem kj_257 {pc : Nat} {i : Instr} {len : Nat} {ts : List Nat} (h2 : pc < 37) (hc : ka_cd 257 pc = some (i, len, ts)) : ka_ck 257 pc i len ts = true := ka_ckr_at kk_257_0 (Nat.zero_le _) (by omega) hc
theorem kcw_257 : lw_tbl[ka_ic 257]? = some (ka_cw 257) := by decide +kernel
theorem kk_258_0 : ka_ckr 258 0 33 = true := by decide +kernel
theorem kj_258 {pc : Nat} {i : Instr} {len : Nat} {ts : List Nat} (h2 : pc < 33) (hc : ka_cd 258 pc = some (i, len, ts)) : ka_ck 258 pc i len ts = true := ka_ckr_at kk_258_0 (Nat.zero_le _) (by omega) hc
theorem kcw_258 : lw_tbl[ka_ic 258]? = some (ka_cw 258) := by decide +kernel
theorem kk_259_0 : ka_ckr 259 0 29 = true := by decide +kernel
theorem kj_259 {pc : Nat} {i : Instr} {len : Nat} {ts : List Nat} (h2 : pc < 29) (hc : ka_cd 259 pc = some (i, len, ts)) : ka_ck 259 pc i len ts = true := ka_ckr_at kk_259_0 (Nat.zero_le _) (by omega) hc
theorem kcw_259 : lw_tbl[ka_ic 259]? = some (ka_cw 259) := by decide +kernel
theorem kk_260_0 : ka_ckr 260 0 35 = true := by decide +kernel
theorem kj_260 {pc : Nat} {i : Instr} {len : Nat} {ts : List Nat} (h2 : pc < 35) (hc : ka_cd 260 pc = some (i, len, ts)) : ka_ck 260 pc i len ts = true := ka_ckr_at kk_260_0 (Nat.zero_le _) (by omega) hc
theorem kcw_260 : lw_tbl[ka_ic 260]? = some (ka_cw 260) := by decide +kernel
theorem kk_261_0 : ka_ckr 261 0 27 = true := by decide +kernel
theorem kj_261 {pc : Nat} {i : Instr} {len : Nat} {ts : List Nat} (h2 : pc < 27) (hc : ka_cd 261 pc = some (i, len, ts)) : ka_ck 261 pc i len ts = true := ka_ckr_at kk_261_0 (Nat.zero_le _) (by omega) hc
theorem kcw_261 : lw_tbl[ka_ic 261]? = some (ka_cw 261) := by decide +kernel
theorem kk_262_0 : ka_ckr 262 0 21 = true := by decide +kernel
theorem kj_262 {pc : Nat} {i : Instr} {len : Nat} {ts : List Nat} (h2 : pc < 21) (hc : ka_cd 262 pc = some (i, len, ts)) : ka_ck 262 pc i len ts = true := ka_ckr_at kk_262_0 (Nat.zero_le _) (by omega) hc
theorem kcw_262 : lw_tbl[ka_ic 262]? = some (ka_cw 262) := by decide +kernel
theorem kk_263_0 : ka_ckr 263 0 25 = true := by decide +kernel
theorem kj_263 {pc : Nat} {i : Instr} {len : Nat} {ts : List Nat} (h2 : pc < 25) (hc : ka_cd 263 pc = some (i, len, ts)) : ka_ck 263 pc i len ts = true := ka_ckr_at kk_263_0 (Nat.zero_le _) (by omega) hc
theorem kcw_263 : lw_tbl[ka_ic 263]? = some (ka_cw 263) := by decide +kernel
theorem kk_264_0 : ka_ckr 264 0 19 = true := by decide +kernel
theorem kj_264 {pc : Nat} {i : Instr} {len : Nat} {ts : List Nat} (h2 : pc < 19) (hc : ka_cd 264 pc = some (i, len, ts)) : ka_ck 264 pc i len ts = true := ka_ckr_at kk_264_0 (Nat.zero_le _) (by omega) hc
theorem kcw_264 : lw_tbl[ka_ic 264]? = some (ka_cw 264) := by decide +kernel
theorem kk_265_0 : ka_ckr 265 0 19 = true := by decide +kernel
theorem kj_265 {pc : Nat} {i : Instr} {len : Nat} {ts : List Nat} (h2 : pc < 19) (hc : ka_cd 265 pc = some (i, len, ts)) : ka_ck 265 pc i len ts = true := ka_ckr_at kk_265_0 (Nat.zero_le _) (by omega) hc
theorem kcw_265 : lw_tbl[ka_ic 265]? = some (ka_cw 265) := by decide +kernel
theorem kk_266_0 : ka_ckr 266 0 23 = true := by decide +kernel
theorem kj_266 {pc : Nat} {i : Instr} {len : Nat} {ts : List Nat} (h2 : pc < 23) (hc : ka_cd 266 pc = some (i, len, ts)) : ka_ck 266 pc i len ts = true := ka_ckr_at kk_266_0 (Nat.zero_le _) (by omega) hc
theorem kcw_266 : lw_tbl[ka_ic 266]? = some (ka_cw 266) := by decide +kernel
theorem kk_267_0 : ka_ckr 267 0 11 = true := by decide +kernel
theorem kj_267 {pc : Nat} {i : Instr} {len : Nat} {ts : List Nat} (h2 : pc < 11) (hc : ka_cd 267 pc = some (i, len, ts)) : ka_ck 267 pc i len ts = true := ka_ckr_at kk_267_0 (Nat.zero_le _) (by omega) hc
theorem kcw_267 : lw_tbl[ka_ic 267]? = some (ka_cw 267) := by decide +kernel
theorem kk_268_0 : ka_ckr 268 0 15 = true := by decide +kernel
theorem kj_268 {pc : Nat} {i : Instr} {len : Nat} {ts : List Nat} (h2 : pc < 15) (hc : ka_cd 268 pc = some (i, len, ts)) : ka_ck 268 pc i len ts = true := ka_ckr_at kk_268_0 (Nat.zero_le _) (by omega) hc
theorem kcw_268 : lw_tbl[ka_ic 268]? = some (ka_cw 268) := by decide +kernel
theorem kk_269_0 : ka_ckr 269 0 19 = true := by decide +kernel
theorem kj_269 {pc : Nat} {i : Instr} {len : Nat} {ts : List Nat} (h2 : pc < 19) (hc : ka_cd 269 pc = some (i, len, ts)) : ka_ck 269 pc i len ts = true := ka_ckr_at kk_269_0 (Nat.zero_le _) (by omega) hc
theorem kcw_269 : lw_tbl[ka_ic 269]? = some (ka_cw 269) := by decide +kernel
theorem kk_270_0 : ka_ckr 270 0 25 = true := by decide +kernel
theorem kj_270 {pc : Nat} {i : Instr} {len : Nat} {ts : List Nat} (h2 : pc < 25) (hc : ka_cd 270 pc = some (i, len, ts)) : ka_ck 270 pc i len ts = true := ka_ckr_at kk_270_0 (Nat.zero_le _) (by omega) hc
theorem kcw_270 : lw_tbl[ka_ic 270]? = some (ka_cw 270) := by decide +kernel
theorem kk_271_0 : ka_ckr 271 0 10 = true := by decide +kernel
theorem kj_271 {pc : Nat} {i : Instr} {len : Nat} {ts : List Nat} (h2 : pc < 10) (hc : ka_cd 271 pc = some (i, len, ts)) : ka_ck 271 pc i len ts = true := ka_ckr_at kk_271_0 (Nat.zero_le _) (by omega) hc
theorem kcw_271 : lw_tbl[ka_ic 271]? = some (ka_cw 271) := by decide +kernel
theorem kk_272_0 : ka_ckr 272 0 15 = true := by decide +kernel
theorem kj_272 {pc : Nat} {i : Instr} {len : Nat} {ts : List Nat} (h2 : pc < 15) (hc : ka_cd 272 pc = some (i, len, ts)) : ka_ck 272 pc i len ts = true := ka_ckr_at kk_272_0 (Nat.zero_le _) (by omega) hc
theorem kcw_272 : lw_tbl[ka_ic 272]? = some (ka_cw 272) := by decide +kernel
theorem kk_273_0 : ka_ckr 273 0 18 = true := by decide +kernel
theorem kj_273 {pc : Nat} {i : Instr} {len : Nat} {ts : List Nat} (h2 : pc < 18) (hc : ka_cd 273 pc = some (i, len, ts)) : ka_ck 273 pc i len ts = true := ka_ckr_at kk_273_0 (Nat.zero_le _) (by omega) hc
theorem kcw_273 : lw_tbl[ka_ic 273]? = some (ka_cw 273) := by decide +kernel
theorem kk_274_0 : ka_ckr 274 0 20 = true := by decide +kernel
theorem kj_274 {pc : Nat} {i : Instr} {len : Nat} {ts : List Nat} (h2 : pc < 20) (hc : ka_cd 274 pc = some (i, len, ts)) : ka_ck 274 pc i len ts = true := ka_ckr_at kk_274_0 (Nat.zero_le _) (by omega) hc
theorem kcw_274 : lw_tbl[ka_ic 274]? = some (ka_cw 274) := by decide +kernel
theorem kk_275_0 : ka_ckr 275 0 53 = true := by decide +kernel
theorem kj_275 {pc : Nat} {i : Instr} {len : Nat} {ts : List Nat} (h2 : pc < 53) (hc : ka_cd 275 pc = some (i, len, ts)) : ka_ck 275 pc i len ts = true := ka_ckr_at kk_275_0 (Nat.zero_le _) (by omega) hc
theorem kcw_275 : lw_tbl[ka_ic 275]? = some (ka_cw 275) := by decide +kernel
theorem kk_276_0 : ka_ckr 276 0 11 = true := by decide +kernel
theorem kj_276 {pc : Nat} {i : Instr} {len : Nat} {ts : List Nat} (h2 : pc < 11) (hc : ka_cd 276 pc = some (i, len, ts)) : ka_ck 276 pc i len ts = true := ka_ckr_at kk_276_0 (Nat.zero_le _) (by omega) hc
theorem kcw_276 : lw_tbl[ka_ic 276]? = some (ka_cw 276) := by decide +kernel
theorem kk_277_0 : ka_ckr 277 0 11 = true := by decide +kernel
theorem kj_277 {pc : Nat} {i : Instr} {len : Nat} {ts : List Nat} (h2 : pc < 11) (hc : ka_cd 277 pc = some (i, len, ts)) : ka_ck 277 pc i len ts = true := ka_ckr_at kk_277_0 (Nat.zero_le _) (by omega) hc
theorem kcw_277 : lw_tbl[ka_ic 277]? = some (ka_cw 277) := by decide +kernel
theorem kk_278_0 : ka_ckr 278 0 21 = true := by decide +kernel
theorem kj_278 {pc : Nat} {i : Instr} {len : Nat} {ts : List Nat} (h2 : pc < 21) (hc : ka_cd 278 pc = some (i, len, ts)) : ka_ck 278 pc i len ts = true := ka_ckr_at kk_278_0 (Nat.zero_le _) (by omega) hc
theorem kcw_278 : lw_tbl[ka_ic 278]? = some (ka_cw 278) := by decide +kernel
theorem kk_279_0 : ka_ckr 279 0 25 = true := by decide +kernel
theorem kj_279 {pc : Nat} {i : Instr} {len : Nat} {ts : List Nat} (h2 : pc < 25) (hc : ka_cd 279 pc = some (i, len, ts)) : ka_ck 279 pc i len ts = true := ka_ckr_at kk_279_0 (Nat.zero_le _) (by omega) hc
theorem kcw_279 : lw_tbl[ka_ic 279]? = some (ka_cw 279) := by decide +kernel
theorem kk_280_0 : ka_ckr 280 0 33 = true := by decide +kernel
theorem kj_280 {pc : Nat} {i : Instr} {len : Nat} {ts : List Nat} (h2 : pc < 33) (hc : ka_cd 280 pc = some (i, len, ts)) : ka_ck 280 pc i len ts = true := ka_ckr_at kk_280_0 (Nat.zero_le _) (by omega) hc
theorem kcw_280 : lw_tbl[ka_ic 280]? = some (ka_cw 280) := by decide +kernel
theorem kk_281_0 : ka_ckr 281 0 38 = true := by decide +kernel
theorem kj_281 {pc : Nat} {i : Instr} {len : Nat} {ts : List Nat} (h2 : pc < 38) (hc : ka_cd 281 pc = some (i, len, ts)) : ka_ck 281 pc i len ts = true := ka_ckr_at kk_281_0 (Nat.zero_le _) (by omega) hc
theorem kcw_281 : lw_tbl[ka_ic 281]? = some (ka_cw 281) := by decide +kernel
theorem kk_282_0 : ka_ckr 282 0 5 = true := by decide +kernel
theorem kj_282 {pc : Nat} {i : Instr} {len : Nat} {ts : List Nat} (h2 : pc < 5) (hc : ka_cd 282 pc = some (i, len, ts)) : ka_ck 282 pc i len ts = true := ka_ckr_at kk_282_0 (Nat.zero_le _) (by omega) hc
theorem kcw_282 : lw_tbl[ka_ic 282]? = some (ka_cw 282) := by decide +kernel
