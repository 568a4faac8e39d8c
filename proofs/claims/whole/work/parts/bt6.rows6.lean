theorem kk_252_0 : ka_ckr 252 0 27 = true := by decide +kernel
theorem kj_252 {pc : Nat} {i : Instr} {len : Nat} {ts : List Nat} (h2 : pc < 27) (hc : ka_cd 252 pc = some (i, len, ts)) : ka_ck 252 pc i len ts = true := ka_ckr_at kk_252_0 (Nat.zero_le _) (by omega) hc
theorem kcw_252 : lw_tbl[ka_ic 252]? = some (ka_cw 252) := by decide +kernel
theorem kk_253_0 : ka_ckr 253 0 17 = true := by decide +kernel
theorem kj_253 {pc : Nat} {i : Instr} {len : Nat} {ts : List Nat} (h2 : pc < 17) (hc : ka_cd 253 pc = some (i, len, ts)) : ka_ck 253 pc i len ts = true := ka_ckr_at kk_253_0 (Nat.zero_le _) (by omega) hc
theorem kcw_253 : lw_tbl[ka_ic 253]? = some (ka_cw 253) := by decide +kernel
theorem kk_254_0 : ka_ckr 254 0 17 = true := by decide +kernel
theorem kj_254 {pc : Nat} {i : Instr} {len : Nat} {ts : List Nat} (h2 : pc < 17) (hc : ka_cd 254 pc = some (i, len, ts)) : ka_ck 254 pc i len ts = true := ka_ckr_at kk_254_0 (Nat.zero_le _) (by omega) hc
theorem kcw_254 : lw_tbl[ka_ic 254]? = some (ka_cw 254) := by decide +kernel
theorem kk_255_0 : ka_ckr 255 0 17 = true := by decide +kernel
theorem kj_255 {pc : Nat} {i : Instr} {len : Nat} {ts : List Nat} (h2 : pc < 17) (hc : ka_cd 255 pc = some (i, len, ts)) : ka_ck 255 pc i len ts = true := ka_ckr_at kk_255_0 (Nat.zero_le _) (by omega) hc
theorem kcw_255 : lw_tbl[ka_ic 255]? = some (ka_cw 255) := by decide +kernel
theorem kk_256_0 : ka_ckr 256 0 35 = true := by decide +kernel
theorem kj_256 {pc : Nat} {i : Instr} {len : Nat} {ts : List Nat} (h2 : pc < 35) (hc : ka_cd 256 pc = some (i, len, ts)) : ka_ck 256 pc i len ts = true := ka_ckr_at kk_256_0 (Nat.zero_le _) (by omega) hc
theorem kcw_256 : lw_tbl[ka_ic 256]? = some (ka_cw 256) := by decide +kernel
theorem kk_257_0 : ka_ckr 257 0 37 = true := by decide +kernel
theorem kj_257 {pc : Nat} {i : Instr} {len : Nat} {ts : List Nat} (h2 : pc < 37) (hc : ka_cd 257 pc = some (i, len, ts)) : ka_ck 257 pc i len ts = true := ka_ckr_at kk_257_0 (Nat.zero_le _) (by omega) hc
theorem kcw_257 : lw_tbl[ka_ic 257]? = some (ka_cw 257) := by decide +kernel
theorem kk_258_0 : ka_ckr 258 0 33 = true := by decide +kernel
theorem kj_258 {pc : Nat} {i : Instr} {len : Nat} {ts : List Nat} (h2 : pc < 33) (hc : ka_cd 258 pc = some (i, len, ts)) : ka_ck 258 pc i len ts = true := ka_ckr_at kk_258_0 (Nat.zero_le _) (by omega) hc
theorem kcw_258 : lw_tbl[ka_ic 258]? = some (ka_cw 258) := by decide +kernel
theorem kk_259_0 : ka_ckr 259 0 29 = true := by decide +kernel
theorem kj_259 {pc : Nat} {i : Instr} {len : Nat} {ts : List Nat} (h2 : pc < 29) (hc : ka_cd 259 pc = some (i, len, ts)) : ka_ck 259 pc i len ts = true := ka_ckr_at kk_259_0 (Nat.zero_le _) (by omega) hc
theorem kcw_259 : lw_tbl[ka_ic 259]? = some (ka_cw 259) := by decide +kernel
theorem kk_260_0 : ka_ckr 260 0 35 = true := by decide +kernel
theorem kj_260 {pc : Nat} {i : Instr} {len : Nat} {ts : List Nat} (h2 : pc < 35) (hc : ka_cd 260 pc = some (i, len, ts)) : ka_ck 260 pc i len ts = true := ka_ckr_at kk_260_0 (Nat.zero_le _) (by omega) hc
theorem kcw_260 : lw_tbl[ka_ic 260]? = some (ka_cw 260) := by decide +kernel
theorem kk_261_0 : ka_ckr 261 0 27 = true := by decide +kernel
theorem kj_261 {pc : Nat} {i : Instr} {len : Nat} {ts : List Nat} (h2 : pc < 27) (hc : ka_cd 261 pc = some (i, len, ts)) : ka_ck 261 pc i len ts = true := ka_ckr_at kk_261_0 (Nat.zero_le _) (by omega) hc
theorem kcw_261 : lw_tbl[ka_ic 261]? = some (ka_cw 261) := by decide +kernel
theorem kk_262_0 : ka_ckr 262 0 21 = true := by decide +kernel
theorem kj_262 {pc : Nat} {i : Instr} {len : Nat} {ts : List Nat} (h2 : pc < 21) (hc : ka_cd 262 pc = some (i, len, ts)) : ka_ck 262 pc i len ts = true := ka_ckr_at kk_262_0 (Nat.zero_le _) (by omega) hc
theorem kcw_262 : lw_tbl[ka_ic 262]? = some (ka_cw 262) := by decide +kernel
theorem kk_263_0 : ka_ckr 263 0 25 = true := by decide +kernel
theorem kj_263 {pc : Nat} {i : Instr} {len : Nat} {ts : List Nat} (h2 : pc < 25) (hc : ka_cd 263 pc = some (i, len, ts)) : ka_ck 263 pc i len ts = true := ka_ckr_at kk_263_0 (Nat.zero_le _) (by omega) hc
theorem kcw_263 : lw_tbl[ka_ic 263]? = some (ka_cw 263) := by decide +kernel
theorem kk_264_0 : ka_ckr 264 0 19 = true := by decide +kernel
theorem kj_264 {pc : Nat} {i : Instr} {len : Nat} {ts : List Nat} (h2 : pc < 19) (hc : ka_cd 264 pc = some (i, len, ts)) : ka_ck 264 pc i len ts = true := ka_ckr_at kk_264_0 (Nat.zero_le _) (by omega) hc
theorem kcw_264 : lw_tbl[ka_ic 264]? = some (ka_cw 264) := by decide +kernel
theorem kk_265_0 : ka_ckr 265 0 19 = true := by decide +kernel
theorem kj_265 {pc : Nat} {i : Instr} {len : Nat} {ts : List Nat} (h2 : pc < 19) (hc : ka_cd 265 pc = some (i, len, ts)) : ka_ck 265 pc i len ts = true := ka_ckr_at kk_265_0 (Nat.zero_le _) (by omega) hc
theorem kcw_265 : lw_tbl[ka_ic 265]? = some (ka_cw 265) := by decide +kernel
theorem kk_266_0 : ka_ckr 266 0 23 = true := by decide +kernel
theorem kj_266 {pc : Nat} {i : Instr} {len : Nat} {ts : List Nat} (h2 : pc < 23) (hc : ka_cd 266 pc = some (i, len, ts)) : ka_ck 266 pc i len ts = true := ka_ckr_at kk_266_0 (Nat.zero_le _) (by omega) hc
theorem kcw_266 : lw_tbl[ka_ic 266]? = some (ka_cw 266) := by decide +kernel
theorem kk_267_0 : ka_ckr 267 0 11 = true := by decide +kernel
theorem kj_267 {pc : Nat} {i : Instr} {len : Nat} {ts : List Nat} (h2 : pc < 11) (hc : ka_cd 267 pc = some (i, len, ts)) : ka_ck 267 pc i len ts = true := ka_ckr_at kk_267_0 (Nat.zero_le _) (by omega) hc
theorem kcw_267 : lw_tbl[ka_ic 267]? = some (ka_cw 267) := by decide +kernel
theorem kk_268_0 : ka_ckr 268 0 15 = true := by decide +kernel
theorem kj_268 {pc : Nat} {i : Instr} {len : Nat} {ts : List Nat} (h2 : pc < 15) (hc : ka_cd 268 pc = some (i, len, ts)) : ka_ck 268 pc i len ts = true := ka_ckr_at kk_268_0 (Nat.zero_le _) (by omega) hc
theorem kcw_268 : lw_tbl[ka_ic 268]? = some (ka_cw 268) := by decide +kernel
theorem kk_269_0 : ka_ckr 269 0 19 = true := by decide +kernel
theorem kj_269 {pc : Nat} {i : Instr} {len : Nat} {ts : List Nat} (h2 : pc < 19) (hc : ka_cd 269 pc = some (i, len, ts)) : ka_ck 269 pc i len ts = true := ka_ckr_at kk_269_0 (Nat.zero_le _) (by omega) hc
theorem kcw_269 : lw_tbl[ka_ic 269]? = some (ka_cw 269) := by decide +kernel
theorem kk_270_0 : ka_ckr 270 0 25 = true := by decide +kernel
theorem kj_270 {pc : Nat} {i : Instr} {len : Nat} {ts : List Nat} (h2 : pc < 25) (hc : ka_cd 270 pc = some (i, len, ts)) : ka_ck 270 pc i len ts = true := ka_ckr_at kk_270_0 (Nat.zero_le _) (by omega) hc
theorem kcw_270 : lw_tbl[ka_ic 270]? = some (ka_cw 270) := by decide +kernel
theorem kk_271_0 : ka_ckr 271 0 10 = true := by decide +kernel
theorem kj_271 {pc : Nat} {i : Instr} {len : Nat} {ts : List Nat} (h2 : pc < 10) (hc : ka_cd 271 pc = some (i, len, ts)) : ka_ck 271 pc i len ts = true := ka_ckr_at kk_271_0 (Nat.zero_le _) (by omega) hc
theorem kcw_271 : lw_tbl[ka_ic 271]? = some (ka_cw 271) := by decide +kernel
theorem kk_272_0 : ka_ckr 272 0 15 = true := by decide +kernel
theorem kj_272 {pc : Nat} {i : Instr} {len : Nat} {ts : List Nat} (h2 : pc < 15) (hc : ka_cd 272 pc = some (i, len, ts)) : ka_ck 272 pc i len ts = true := ka_ckr_at kk_272_0 (Nat.zero_le _) (by omega) hc
theorem kcw_272 : lw_tbl[ka_ic 272]? = some (ka_cw 272) := by decide +kernel
theorem kk_273_0 : ka_ckr 273 0 18 = true := by decide +kernel
theorem kj_273 {pc : Nat} {i : Instr} {len : Nat} {ts : List Nat} (h2 : pc < 18) (hc : ka_cd 273 pc = some (i, len, ts)) : ka_ck 273 pc i len ts = true := ka_ckr_at kk_273_0 (Nat.zero_le _) (by omega) hc
theorem kcw_273 : lw_tbl[ka_ic 273]? = some (ka_cw 273) := by decide +kernel
theorem kk_274_0 : ka_ckr 274 0 20 = true := by decide +kernel
theorem kj_274 {pc : Nat} {i : Instr} {len : Nat} {ts : List Nat} (h2 : pc < 20) (hc : ka_cd 274 pc = some (i, len, ts)) : ka_ck 274 pc i len ts = true := ka_ckr_at kk_274_0 (Nat.zero_le _) (by omega) hc
theorem kcw_274 : lw_tbl[ka_ic 274]? = some (ka_cw 274) := by decide +kernel
theorem kk_275_0 : ka_ckr 275 0 53 = true := by decide +kernel
theorem kj_275 {pc : Nat} {i : Instr} {len : Nat} {ts : List Nat} (h2 : pc < 53) (hc : ka_cd 275 pc = some (i, len, ts)) : ka_ck 275 pc i len ts = true := ka_ckr_at kk_275_0 (Nat.zero_le _) (by omega) hc
theorem kcw_275 : lw_tbl[ka_ic 275]? = some (ka_cw 275) := by decide +kernel
theorem kk_276_0 : ka_ckr 276 0 11 = true := by decide +kernel
theorem kj_276 {pc : Nat} {i : Instr} {len : Nat} {ts : List Nat} (h2 : pc < 11) (hc : ka_cd 276 pc = some (i, len, ts)) : ka_ck 276 pc i len ts = true := ka_ckr_at kk_276_0 (Nat.zero_le _) (by omega) hc
theorem kcw_276 : lw_tbl[ka_ic 276]? = some (ka_cw 276) := by decide +kernel
theorem kk_277_0 : ka_ckr 277 0 11 = true := by decide +kernel
theorem kj_277 {pc : Nat} {i : Instr} {len : Nat} {ts : List Nat} (h2 : pc < 11) (hc : ka_cd 277 pc = some (i, len, ts)) : ka_ck 277 pc i len ts = true := ka_ckr_at kk_277_0 (Nat.zero_le _) (by omega) hc
theorem kcw_277 : lw_tbl[ka_ic 277]? = some (ka_cw 277) := by decide +kernel
theorem kk_278_0 : ka_ckr 278 0 21 = true := by decide +kernel
theorem kj_278 {pc : Nat} {i : Instr} {len : Nat} {ts : List Nat} (h2 : pc < 21) (hc : ka_cd 278 pc = some (i, len, ts)) : ka_ck 278 pc i len ts = true := ka_ckr_at kk_278_0 (Nat.zero_le _) (by omega) hc
theorem kcw_278 : lw_tbl[ka_ic 278]? = some (ka_cw 278) := by decide +kernel
theorem kk_279_0 : ka_ckr 279 0 25 = true := by decide +kernel
theorem kj_279 {pc : Nat} {i : Instr} {len : Nat} {ts : List Nat} (h2 : pc < 25) (hc : ka_cd 279 pc = some (i, len, ts)) : ka_ck 279 pc i len ts = true := ka_ckr_at kk_279_0 (Nat.zero_le _) (by omega) hc
theorem kcw_279 : lw_tbl[ka_ic 279]? = some (ka_cw 279) := by decide +kernel
theorem kk_280_0 : ka_ckr 280 0 33 = true := by decide +kernel
theorem kj_280 {pc : Nat} {i : Instr} {len : Nat} {ts : List Nat} (h2 : pc < 33) (hc : ka_cd 280 pc = some (i, len, ts)) : ka_ck 280 pc i len ts = true := ka_ckr_at kk_280_0 (Nat.zero_le _) (by omega) hc
theorem kcw_280 : lw_tbl[ka_ic 280]? = some (ka_cw 280) := by decide +kernel
theorem kk_281_0 : ka_ckr 281 0 38 = true := by decide +kernel
theorem kj_281 {pc : Nat} {i : Instr} {len : Nat} {ts : List Nat} (h2 : pc < 38) (hc : ka_cd 281 pc = some (i, len, ts)) : ka_ck 281 pc i len ts = true := ka_ckr_at kk_281_0 (Nat.zero_le _) (by omega) hc
theorem kcw_281 : lw_tbl[ka_ic 281]? = some (ka_cw 281) := by decide +kernel
theorem kk_282_0 : ka_ckr 282 0 5 = true := by decide +kernel
theorem kj_282 {pc : Nat} {i : Instr} {len : Nat} {ts : List Nat} (h2 : pc < 5) (hc : ka_cd 282 pc = some (i, len, ts)) : ka_ck 282 pc i len ts = true := ka_ckr_at kk_282_0 (Nat.zero_le _) (by omega) hc
theorem kcw_282 : lw_tbl[ka_ic 282]? = some (ka_cw 282) := by decide +kernel
