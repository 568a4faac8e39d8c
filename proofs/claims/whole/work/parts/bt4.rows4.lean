theorem kk_185_0 : ka_ckr 185 0 116 = true := by decide +kernel
theorem kj_185 {pc : Nat} {i : Instr} {len : Nat} {ts : List Nat} (h2 : pc < 116) (hc : ka_cd 185 pc = some (i, len, ts)) : ka_ck 185 pc i len ts = true := ka_ckr_at kk_185_0 (Nat.zero_le _) (by omega) hc
theorem kcw_185 : lw_tbl[ka_ic 185]? = some (ka_cw 185) := by decide +kernel
theorem kk_186_0 : ka_ckr 186 0 24 = true := by decide +kernel
theorem kj_186 {pc : Nat} {i : Instr} {len : Nat} {ts : List Nat} (h2 : pc < 24) (hc : ka_cd 186 pc = some (i, len, ts)) : ka_ck 186 pc i len ts = true := ka_ckr_at kk_186_0 (Nat.zero_le _) (by omega) hc
theorem kcw_186 : lw_tbl[ka_ic 186]? = some (ka_cw 186) := by decide +kernel
theorem kk_187_0 : ka_ckr 187 0 148 = true := by decide +kernel
theorem kj_187 {pc : Nat} {i : Instr} {len : Nat} {ts : List Nat} (h2 : pc < 148) (hc : ka_cd 187 pc = some (i, len, ts)) : ka_ck 187 pc i len ts = true := ka_ckr_at kk_187_0 (Nat.zero_le _) (by omega) hc
theorem kcw_187 : lw_tbl[ka_ic 187]? = some (ka_cw 187) := by decide +kernel
theorem kk_188_0 : ka_ckr 188 0 34 = true := by decide +kernel
theorem kj_188 {pc : Nat} {i : Instr} {len : Nat} {ts : List Nat} (h2 : pc < 34) (hc : ka_cd 188 pc = some (i, len, ts)) : ka_ck 188 pc i len ts = true := ka_ckr_at kk_188_0 (Nat.zero_le _) (by omega) hc
theorem kcw_188 : lw_tbl[ka_ic 188]? = some (ka_cw 188) := by decide +kernel
theorem kk_189_0 : ka_ckr 189 0 35 = true := by decide +kernel
theorem kj_189 {pc : Nat} {i : Instr} {len : Nat} {ts : List Nat} (h2 : pc < 35) (hc : ka_cd 189 pc = some (i, len, ts)) : ka_ck 189 pc i len ts = true := ka_ckr_at kk_189_0 (Nat.zero_le _) (by omega) hc
theorem kcw_189 : lw_tbl[ka_ic 189]? = some (ka_cw 189) := by decide +kernel
theorem kk_190_0 : ka_ckr 190 0 12 = true := by decide +kernel
theorem kj_190 {pc : Nat} {i : Instr} {len : Nat} {ts : List Nat} (h2 : pc < 12) (hc : ka_cd 190 pc = some (i, len, ts)) : ka_ck 190 pc i len ts = true := ka_ckr_at kk_190_0 (Nat.zero_le _) (by omega) hc
theorem kcw_190 : lw_tbl[ka_ic 190]? = some (ka_cw 190) := by decide +kernel
theorem kk_191_0 : ka_ckr 191 0 88 = true := by decide +kernel
theorem kj_191 {pc : Nat} {i : Instr} {len : Nat} {ts : List Nat} (h2 : pc < 88) (hc : ka_cd 191 pc = some (i, len, ts)) : ka_ck 191 pc i len ts = true := ka_ckr_at kk_191_0 (Nat.zero_le _) (by omega) hc
theorem kcw_191 : lw_tbl[ka_ic 191]? = some (ka_cw 191) := by decide +kernel
theorem kk_192_0 : ka_ckr 192 0 62 = true := by decide +kernel
theorem kj_192 {pc : Nat} {i : Instr} {len : Nat} {ts : List Nat} (h2 : pc < 62) (hc : ka_cd 192 pc = some (i, len, ts)) : ka_ck 192 pc i len ts = true := ka_ckr_at kk_192_0 (Nat.zero_le _) (by omega) hc
theorem kcw_192 : lw_tbl[ka_ic 192]? = some (ka_cw 192) := by decide +kernel
theorem kk_193_0 : ka_ckr 193 0 22 = true := by decide +kernel
theorem kj_193 {pc : Nat} {i : Instr} {len : Nat} {ts : List Nat} (h2 : pc < 22) (hc : ka_cd 193 pc = some (i, len, ts)) : ka_ck 193 pc i len ts = true := ka_ckr_at kk_193_0 (Nat.zero_le _) (by omega) hc
theorem kcw_193 : lw_tbl[ka_ic 193]? = some (ka_cw 193) := by decide +kernel
theorem kk_194_0 : ka_ckr 194 0 23 = true := by decide +kernel
theorem kj_194 {pc : Nat} {i : Instr} {len : Nat} {ts : List Nat} (h2 : pc < 23) (hc : ka_cd 194 pc = some (i, len, ts)) : ka_ck 194 pc i len ts = true := ka_ckr_at kk_194_0 (Nat.zero_le _) (by omega) hc
theorem kcw_194 : lw_tbl[ka_ic 194]? = some (ka_cw 194) := by decide +kernel
theorem kk_195_0 : ka_ckr 195 0 28 = true := by decide +kernel
theorem kj_195 {pc : Nat} {i : Instr} {len : Nat} {ts : List Nat} (h2 : pc < 28) (hc : ka_cd 195 pc = some (i, len, ts)) : ka_ck 195 pc i len ts = true := ka_ckr_at kk_195_0 (Nat.zero_le _) (by omega) hc
theorem kcw_195 : lw_tbl[ka_ic 195]? = some (ka_cw 195) := by decide +kernel
theorem kk_196_0 : ka_ckr 196 0 27 = true := by decide +kernel
theorem kj_196 {pc : Nat} {i : Instr} {len : Nat} {ts : List Nat} (h2 : pc < 27) (hc : ka_cd 196 pc = some (i, len, ts)) : ka_ck 196 pc i len ts = true := ka_ckr_at kk_196_0 (Nat.zero_le _) (by omega) hc
theorem kcw_196 : lw_tbl[ka_ic 196]? = some (ka_cw 196) := by decide +kernel
theorem kk_197_0 : ka_ckr 197 0 76 = true := by decide +kernel
theorem kj_197 {pc : Nat} {i : Instr} {len : Nat} {ts : List Nat} (h2 : pc < 76) (hc : ka_cd 197 pc = some (i, len, ts)) : ka_ck 197 pc i len ts = true := ka_ckr_at kk_197_0 (Nat.zero_le _) (by omega) hc
theorem kcw_197 : lw_tbl[ka_ic 197]? = some (ka_cw 197) := by decide +kernel
theorem kk_198_0 : ka_ckr 198 0 58 = true := by decide +kernel
theorem kj_198 {pc : Nat} {i : Instr} {len : Nat} {ts : List Nat} (h2 : pc < 58) (hc : ka_cd 198 pc = some (i, len, ts)) : ka_ck 198 pc i len ts = true := ka_ckr_at kk_198_0 (Nat.zero_le _) (by omega) hc
theorem kcw_198 : lw_tbl[ka_ic 198]? = some (ka_cw 198) := by decide +kernel
theorem kk_199_0 : ka_ckr 199 0 88 = true := by decide +kernel
theorem kj_199 {pc : Nat} {i : Instr} {len : Nat} {ts : List Nat} (h2 : pc < 88) (hc : ka_cd 199 pc = some (i, len, ts)) : ka_ck 199 pc i len ts = true := ka_ckr_at kk_199_0 (Nat.zero_le _) (by omega) hc
theorem kcw_199 : lw_tbl[ka_ic 199]? = some (ka_cw 199) := by decide +kernel
theorem kk_200_0 : ka_ckr 200 0 34 = true := by decide +kernel
theorem kj_200 {pc : Nat} {i : Instr} {len : Nat} {ts : List Nat} (h2 : pc < 34) (hc : ka_cd 200 pc = some (i, len, ts)) : ka_ck 200 pc i len ts = true := ka_ckr_at kk_200_0 (Nat.zero_le _) (by omega) hc
theorem kcw_200 : lw_tbl[ka_ic 200]? = some (ka_cw 200) := by decide +kernel
theorem kk_201_0 : ka_ckr 201 0 66 = true := by decide +kernel
theorem kj_201 {pc : Nat} {i : Instr} {len : Nat} {ts : List Nat} (h2 : pc < 66) (hc : ka_cd 201 pc = some (i, len, ts)) : ka_ck 201 pc i len ts = true := ka_ckr_at kk_201_0 (Nat.zero_le _) (by omega) hc
theorem kcw_201 : lw_tbl[ka_ic 201]? = some (ka_cw 201) := by decide +kernel
theorem kk_202_0 : ka_ckr 202 0 150 = true := by decide +kernel
theorem kk_202_150 : ka_ckr 202 150 150 = true := by decide +kernel
theorem kk_202_300 : ka_ckr 202 300 150 = true := by decide +kernel
theorem kk_202_450 : ka_ckr 202 450 150 = true := by decide +kernel
theorem kk_202_600 : ka_ckr 202 600 148 = true := by decide +kernel
theorem kj_202 {pc : Nat} {i : Instr} {len : Nat} {ts : List Nat} (h2 : pc < 748) (hc : ka_cd 202 pc = some (i, len, ts)) : ka_ck 202 pc i len ts = true := by
  by_cases q0 : pc < 150
  · exact ka_ckr_at kk_202_0 (by omega) (by omega) hc
  by_cases q1 : pc < 300
  · exact ka_ckr_at kk_202_150 (by omega) (by omega) hc
  by_cases q2 : pc < 450
  · exact ka_ckr_at kk_202_300 (by omega) (by omega) hc
  by_cases q3 : pc < 600
  · exact ka_ckr_at kk_202_450 (by omega) (by omega) hc
  exact ka_ckr_at kk_202_600 (by omega) (by omega) hc
set_option maxRecDepth 1000000 in
theorem kcw_202 : lw_tbl[ka_ic 202]? = some (ka_cw 202) := by rfl
theorem kk_203_0 : ka_ckr 203 0 150 = true := by decide +kernel
theorem kk_203_150 : ka_ckr 203 150 33 = true := by decide +kernel
theorem kj_203 {pc : Nat} {i : Instr} {len : Nat} {ts : List Nat} (h2 : pc < 183) (hc : ka_cd 203 pc = some (i, len, ts)) : ka_ck 203 pc i len ts = true := by
  by_cases q0 : pc < 150
  · exact ka_ckr_at kk_203_0 (by omega) (by omega) hc
  exact ka_ckr_at kk_203_150 (by omega) (by omega) hc
theorem kcw_203 : lw_tbl[ka_ic 203]? = some (ka_cw 203) := by decide +kernel
theorem kk_204_0 : ka_ckr 204 0 46 = true := by decide +kernel
theorem kj_204 {pc : Nat} {i : Instr} {len : Nat} {ts : List Nat} (h2 : pc < 46) (hc : ka_cd 204 pc = some (i, len, ts)) : ka_ck 204 pc i len ts = true := ka_ckr_at kk_204_0 (Nat.zero_le _) (by omega) hc
theorem kcw_204 : lw_tbl[ka_ic 204]? = some (ka_cw 204) := by decide +kernel
theorem kk_205_0 : ka_ckr 205 0 138 = true := by decide +kernel
theorem kj_205 {pc : Nat} {i : Instr} {len : Nat} {ts : List Nat} (h2 : pc < 138) (hc : ka_cd 205 pc = some (i, len, ts)) : ka_ck 205 pc i len ts = true := ka_ckr_at kk_205_0 (Nat.zero_le _) (by omega) hc
theorem kcw_205 : lw_tbl[ka_ic 205]? = some (ka_cw 205) := by decide +kernel
theorem kk_206_0 : ka_ckr 206 0 150 = true := by decide +kernel
theorem kk_206_150 : ka_ckr 206 150 129 = true := by decide +kernel
theorem kj_206 {pc : Nat} {i : Instr} {len : Nat} {ts : List Nat} (h2 : pc < 279) (hc : ka_cd 206 pc = some (i, len, ts)) : ka_ck 206 pc i len ts = true := by
  by_cases q0 : pc < 150
  · exact ka_ckr_at kk_206_0 (by omega) (by omega) hc
  exact ka_ckr_at kk_206_150 (by omega) (by omega) hc
theorem kcw_206 : lw_tbl[ka_ic 206]? = some (ka_cw 206) := by decide +kernel
theorem kk_207_0 : ka_ckr 207 0 38 = true := by decide +kernel
theorem kj_207 {pc : Nat} {i : Instr} {len : Nat} {ts : List Nat} (h2 : pc < 38) (hc : ka_cd 207 pc = some (i, len, ts)) : ka_ck 207 pc i len ts = true := ka_ckr_at kk_207_0 (Nat.zero_le _) (by omega) hc
theorem kcw_207 : lw_tbl[ka_ic 207]? = some (ka_cw 207) := by decide +kernel
theorem kk_208_0 : ka_ckr 208 0 21 = true := by decide +kernel
theorem kj_208 {pc : Nat} {i : Instr} {len : Nat} {ts : List Nat} (h2 : pc < 21) (hc : ka_cd 208 pc = some (i, len, ts)) : ka_ck 208 pc i len ts = true := ka_ckr_at kk_208_0 (Nat.zero_le _) (by omega) hc
theorem kcw_208 : lw_tbl[ka_ic 208]? = some (ka_cw 208) := by decide +kernel
theorem kk_209_0 : ka_ckr 209 0 72 = true := by decide +kernel
theorem kj_209 {pc : Nat} {i : Instr} {len : Nat} {ts : List Nat} (h2 : pc < 72) (hc : ka_cd 209 pc = some (i, len, ts)) : ka_ck 209 pc i len ts = true := ka_ckr_at kk_209_0 (Nat.zero_le _) (by omega) hc
theorem kcw_209 : lw_tbl[ka_ic 209]? = some (ka_cw 209) := by decide +kernel
theorem kk_210_0 : ka_ckr 210 0 15 = true := by decide +kernel
theorem kj_210 {pc : Nat} {i : Instr} {len : Nat} {ts : List Nat} (h2 : pc < 15) (hc : ka_cd 210 pc = some (i, len, ts)) : ka_ck 210 pc i len ts = true := ka_ckr_at kk_210_0 (Nat.zero_le _) (by omega) hc
theorem kcw_210 : lw_tbl[ka_ic 210]? = some (ka_cw 210) := by decide +kernel
theorem kk_211_0 : ka_ckr 211 0 30 = true := by decide +kernel
theorem kj_211 {pc : Nat} {i : Instr} {len : Nat} {ts : List Nat} (h2 : pc < 30) (hc : ka_cd 211 pc = some (i, len, ts)) : ka_ck 211 pc i len ts = true := ka_ckr_at kk_211_0 (Nat.zero_le _) (by omega) hc
theorem kcw_211 : lw_tbl[ka_ic 211]? = some (ka_cw 211) := by decide +kernel
theorem kk_212_0 : ka_ckr 212 0 67 = true := by decide +kernel
theorem kj_212 {pc : Nat} {i : Instr} {len : Nat} {ts : List Nat} (h2 : pc < 67) (hc : ka_cd 212 pc = some (i, len, ts)) : ka_ck 212 pc i len ts = true := ka_ckr_at kk_212_0 (Nat.zero_le _) (by omega) hc
theorem kcw_212 : lw_tbl[ka_ic 212]? = some (ka_cw 212) := by decide +kernel
theorem kk_213_0 : ka_ckr 213 0 79 = true := by decide +kernel
theorem kj_213 {pc : Nat} {i : Instr} {len : Nat} {ts : List Nat} (h2 : pc < 79) (hc : ka_cd 213 pc = some (i, len, ts)) : ka_ck 213 pc i len ts = true := ka_ckr_at kk_213_0 (Nat.zero_le _) (by omega) hc
theorem kcw_213 : lw_tbl[ka_ic 213]? = some (ka_cw 213) := by decide +kernel
theorem kk_214_0 : ka_ckr 214 0 87 = true := by decide +kernel
theorem kj_214 {pc : Nat} {i : Instr} {len : Nat} {ts : List Nat} (h2 : pc < 87) (hc : ka_cd 214 pc = some (i, len, ts)) : ka_ck 214 pc i len ts = true := ka_ckr_at kk_214_0 (Nat.zero_le _) (by omega) hc
theorem kcw_214 : lw_tbl[ka_ic 214]? = some (ka_cw 214) := by decide +kernel
theorem kk_215_0 : ka_ckr 215 0 137 = true := by decide +kernel
theorem kj_215 {pc : Nat} {i : Instr} {len : Nat} {ts : List Nat} (h2 : pc < 137) (hc : ka_cd 215 pc = some (i, len, ts)) : ka_ck 215 pc i len ts = true := ka_ckr_at kk_215_0 (Nat.zero_le _) (by omega) hc
theorem kcw_215 : lw_tbl[ka_ic 215]? = some (ka_cw 215) := by decide +kernel
theorem kk_216_0 : ka_ckr 216 0 55 = true := by decide +kernel
theorem kj_216 {pc : Nat} {i : Instr} {len : Nat} {ts : List Nat} (h2 : pc < 55) (hc : ka_cd 216 pc = some (i, len, ts)) : ka_ck 216 pc i len ts = true := ka_ckr_at kk_216_0 (Nat.zero_le _) (by omega) hc
theorem kcw_216 : lw_tbl[ka_ic 216]? = some (ka_cw 216) := by decide +kernel
theorem kk_217_0 : ka_ckr 217 0 51 = true := by decide +kernel
theorem kj_217 {pc : Nat} {i : Instr} {len : Nat} {ts : List Nat} (h2 : pc < 51) (hc : ka_cd 217 pc = some (i, len, ts)) : ka_ck 217 pc i len ts = true := ka_ckr_at kk_217_0 (Nat.zero_le _) (by omega) hc
theorem kcw_217 : lw_tbl[ka_ic 217]? = some (ka_cw 217) := by decide +kernel
theorem kk_218_0 : ka_ckr 218 0 146 = true := by decide +kernel
theorem kj_218 {pc : Nat} {i : Instr} {len : Nat} {ts : List Nat} (h2 : pc < 146) (hc : ka_cd 218 pc = some (i, len, ts)) : ka_ck 218 pc i len ts = true := ka_ckr_at kk_218_0 (Nat.zero_le _) (by omega) hc
theorem kcw_218 : lw_tbl[ka_ic 218]? = some (ka_cw 218) := by decide +kernel
theorem kk_219_0 : ka_ckr 219 0 78 = true := by decide +kernel
theorem kj_219 {pc : Nat} {i : Instr} {len : Nat} {ts : List Nat} (h2 : pc < 78) (hc : ka_cd 219 pc = some (i, len, ts)) : ka_ck 219 pc i len ts = true := ka_ckr_at kk_219_0 (Nat.zero_le _) (by omega) hc
theorem kcw_219 : lw_tbl[ka_ic 219]? = some (ka_cw 219) := by decide +kernel
