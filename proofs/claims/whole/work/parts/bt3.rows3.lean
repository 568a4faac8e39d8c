theorem kk_150_0 : ka_ckr 150 0 26 = true := by decide +kernel
theorem kj_150 {pc : Nat} {i : Instr} {len : Nat} {ts : List Nat} (h2 : pc < 26) (hc : ka_cd 150 pc = some (i, len, ts)) : ka_ck 150 pc i len ts = true := ka_ckr_at kk_150_0 (Nat.zero_le _) (by omega) hc
theorem kcw_150 : lw_tbl[ka_ic 150]? = some (ka_cw 150) := by decide +kernel
theorem kk_151_0 : ka_ckr 151 0 21 = true := by decide +kernel
theorem kj_151 {pc : Nat} {i : Instr} {len : Nat} {ts : List Nat} (h2 : pc < 21) (hc : ka_cd 151 pc = some (i, len, ts)) : ka_ck 151 pc i len ts = true := ka_ckr_at kk_151_0 (Nat.zero_le _) (by omega) hc
theorem kcw_151 : lw_tbl[ka_ic 151]? = some (ka_cw 151) := by decide +kernel
theorem kk_152_0 : ka_ckr 152 0 71 = true := by decide +kernel
theorem kj_152 {pc : Nat} {i : Instr} {len : Nat} {ts : List Nat} (h2 : pc < 71) (hc : ka_cd 152 pc = some (i, len, ts)) : ka_ck 152 pc i len ts = true := ka_ckr_at kk_152_0 (Nat.zero_le _) (by omega) hc
theorem kcw_152 : lw_tbl[ka_ic 152]? = some (ka_cw 152) := by decide +kernel
theorem kk_153_0 : ka_ckr 153 0 72 = true := by decide +kernel
theorem kj_153 {pc : Nat} {i : Instr} {len : Nat} {ts : List Nat} (h2 : pc < 72) (hc : ka_cd 153 pc = some (i, len, ts)) : ka_ck 153 pc i len ts = true := ka_ckr_at kk_153_0 (Nat.zero_le _) (by omega) hc
theorem kcw_153 : lw_tbl[ka_ic 153]? = some (ka_cw 153) := by decide +kernel
theorem kk_154_0 : ka_ckr 154 0 100 = true := by decide +kernel
theorem kj_154 {pc : Nat} {i : Instr} {len : Nat} {ts : List Nat} (h2 : pc < 100) (hc : ka_cd 154 pc = some (i, len, ts)) : ka_ck 154 pc i len ts = true := ka_ckr_at kk_154_0 (Nat.zero_le _) (by omega) hc
theorem kcw_154 : lw_tbl[ka_ic 154]? = some (ka_cw 154) := by decide +kernel
theorem kk_155_0 : ka_ckr 155 0 34 = true := by decide +kernel
theorem kj_155 {pc : Nat} {i : Instr} {len : Nat} {ts : List Nat} (h2 : pc < 34) (hc : ka_cd 155 pc = some (i, len, ts)) : ka_ck 155 pc i len ts = true := ka_ckr_at kk_155_0 (Nat.zero_le _) (by omega) hc
theorem kcw_155 : lw_tbl[ka_ic 155]? = some (ka_cw 155) := by decide +kernel
theorem kk_156_0 : ka_ckr 156 0 41 = true := by decide +kernel
theorem kj_156 {pc : Nat} {i : Instr} {len : Nat} {ts : List Nat} (h2 : pc < 41) (hc : ka_cd 156 pc = some (i, len, ts)) : ka_ck 156 pc i len ts = true := ka_ckr_at kk_156_0 (Nat.zero_le _) (by omega) hc
theorem kcw_156 : lw_tbl[ka_ic 156]? = some (ka_cw 156) := by decide +kernel
theorem kk_157_0 : ka_ckr 157 0 22 = true := by decide +kernel
theorem kj_157 {pc : Nat} {i : Instr} {len : Nat} {ts : List Nat} (h2 : pc < 22) (hc : ka_cd 157 pc = some (i, len, ts)) : ka_ck 157 pc i len ts = true := ka_ckr_at kk_157_0 (Nat.zero_le _) (by omega) hc
theorem kcw_157 : lw_tbl[ka_ic 157]? = some (ka_cw 157) := by decide +kernel
theorem kk_158_0 : ka_ckr 158 0 44 = true := by decide +kernel
theorem kj_158 {pc : Nat} {i : Instr} {len : Nat} {ts : List Nat} (h2 : pc < 44) (hc : ka_cd 158 pc = some (i, len, ts)) : ka_ck 158 pc i len ts = true := ka_ckr_at kk_158_0 (Nat.zero_le _) (by omega) hc
theorem kcw_158 : lw_tbl[ka_ic 158]? = some (ka_cw 158) := by decide +kernel
theorem kk_159_0 : ka_ckr 159 0 73 = true := by decide +kernel
theorem kj_159 {pc : Nat} {i : Instr} {len : Nat} {ts : List Nat} (h2 : pc < 73) (hc : ka_cd 159 pc = some (i, len, ts)) : ka_ck 159 pc i len ts = true := ka_ckr_at kk_159_0 (Nat.zero_le _) (by omega) hc
theorem kcw_159 : lw_tbl[ka_ic 159]? = some (ka_cw 159) := by decide +kernel
theorem kk_160_0 : ka_ckr 160 0 64 = true := by decide +kernel
theorem kj_160 {pc : Nat} {i : Instr} {len : Nat} {ts : List Nat} (h2 : pc < 64) (hc : ka_cd 160 pc = some (i, len, ts)) : ka_ck 160 pc i len ts = true := ka_ckr_at kk_160_0 (Nat.zero_le _) (by omega) hc
theorem kcw_160 : lw_tbl[ka_ic 160]? = some (ka_cw 160) := by decide +kernel
theorem kk_161_0 : ka_ckr 161 0 125 = true := by decide +kernel
theorem kj_161 {pc : Nat} {i : Instr} {len : Nat} {ts : List Nat} (h2 : pc < 125) (hc : ka_cd 161 pc = some (i, len, ts)) : ka_ck 161 pc i len ts = true := ka_ckr_at kk_161_0 (Nat.zero_le _) (by omega) hc
theorem kcw_161 : lw_tbl[ka_ic 161]? = some (ka_cw 161) := by decide +kernel
theorem kk_162_0 : ka_ckr 162 0 14 = true := by decide +kernel
theorem kj_162 {pc : Nat} {i : Instr} {len : Nat} {ts : List Nat} (h2 : pc < 14) (hc : ka_cd 162 pc = some (i, len, ts)) : ka_ck 162 pc i len ts = true := ka_ckr_at kk_162_0 (Nat.zero_le _) (by omega) hc
theorem kcw_162 : lw_tbl[ka_ic 162]? = some (ka_cw 162) := by decide +kernel
theorem kk_163_0 : ka_ckr 163 0 20 = true := by decide +kernel
theorem kj_163 {pc : Nat} {i : Instr} {len : Nat} {ts : List Nat} (h2 : pc < 20) (hc : ka_cd 163 pc = some (i, len, ts)) : ka_ck 163 pc i len ts = true := ka_ckr_at kk_163_0 (Nat.zero_le _) (by omega) hc
theorem kcw_163 : lw_tbl[ka_ic 163]? = some (ka_cw 163) := by decide +kernel
theorem kk_164_0 : ka_ckr 164 0 63 = true := by decide +kernel
theorem kj_164 {pc : Nat} {i : Instr} {len : Nat} {ts : List Nat} (h2 : pc < 63) (hc : ka_cd 164 pc = some (i, len, ts)) : ka_ck 164 pc i len ts = true := ka_ckr_at kk_164_0 (Nat.zero_le _) (by omega) hc
theorem kcw_164 : lw_tbl[ka_ic 164]? = some (ka_cw 164) := by decide +kernel
theorem kk_165_0 : ka_ckr 165 0 18 = true := by decide +kernel
theorem kj_165 {pc : Nat} {i : Instr} {len : Nat} {ts : List Nat} (h2 : pc < 18) (hc : ka_cd 165 pc = some (i, len, ts)) : ka_ck 165 pc i len ts = true := ka_ckr_at kk_165_0 (Nat.zero_le _) (by omega) hc
theorem kcw_165 : lw_tbl[ka_ic 165]? = some (ka_cw 165) := by decide +kernel
theorem kk_166_0 : ka_ckr 166 0 18 = true := by decide +kernel
theorem kj_166 {pc : Nat} {i : Instr} {len : Nat} {ts : List Nat} (h2 : pc < 18) (hc : ka_cd 166 pc = some (i, len, ts)) : ka_ck 166 pc i len ts = true := ka_ckr_at kk_166_0 (Nat.zero_le _) (by omega) hc
theorem kcw_166 : lw_tbl[ka_ic 166]? = some (ka_cw 166) := by decide +kernel
theorem kk_167_0 : ka_ckr 167 0 79 = true := by decide +kernel
theorem kj_167 {pc : Nat} {i : Instr} {len : Nat} {ts : List Nat} (h2 : pc < 79) (hc : ka_cd 167 pc = some (i, len, ts)) : ka_ck 167 pc i len ts = true := ka_ckr_at kk_167_0 (Nat.zero_le _) (by omega) hc
theorem kcw_167 : lw_tbl[ka_ic 167]? = some (ka_cw 167) := by decide +kernel
theorem kk_168_0 : ka_ckr 168 0 40 = true := by decide +kernel
theorem kj_168 {pc : Nat} {i : Instr} {len : Nat} {ts : List Nat} (h2 : pc < 40) (hc : ka_cd 168 pc = some (i, len, ts)) : ka_ck 168 pc i len ts = true := ka_ckr_at kk_168_0 (Nat.zero_le _) (by omega) hc
theorem kcw_168 : lw_tbl[ka_ic 168]? = some (ka_cw 168) := by decide +kernel
theorem kk_169_0 : ka_ckr 169 0 150 = true := by decide +kernel
theorem kk_169_150 : ka_ckr 169 150 3 = true := by decide +kernel
theorem kj_169 {pc : Nat} {i : Instr} {len : Nat} {ts : List Nat} (h2 : pc < 153) (hc : ka_cd 169 pc = some (i, len, ts)) : ka_ck 169 pc i len ts = true := by
  by_cases q0 : pc < 150
  · exact ka_ckr_at kk_169_0 (by omega) (by omega) hc
  exact ka_ckr_at kk_169_150 (by omega) (by omega) hc
theorem kcw_169 : lw_tbl[ka_ic 169]? = some (ka_cw 169) := by decide +kernel
theorem kk_170_0 : ka_ckr 170 0 42 = true := by decide +kernel
theorem kj_170 {pc : Nat} {i : Instr} {len : Nat} {ts : List Nat} (h2 : pc < 42) (hc : ka_cd 170 pc = some (i, len, ts)) : ka_ck 170 pc i len ts = true := ka_ckr_at kk_170_0 (Nat.zero_le _) (by omega) hc
theorem kcw_170 : lw_tbl[ka_ic 170]? = some (ka_cw 170) := by decide +kernel
theorem kk_171_0 : ka_ckr 171 0 94 = true := by decide +kernel
theorem kj_171 {pc : Nat} {i : Instr} {len : Nat} {ts : List Nat} (h2 : pc < 94) (hc : ka_cd 171 pc = some (i, len, ts)) : ka_ck 171 pc i len ts = true := ka_ckr_at kk_171_0 (Nat.zero_le _) (by omega) hc
theorem kcw_171 : lw_tbl[ka_ic 171]? = some (ka_cw 171) := by decide +kernel
theorem kk_172_0 : ka_ckr 172 0 150 = true := by decide +kernel
theorem kk_172_150 : ka_ckr 172 150 25 = true := by decide +kernel
theorem kj_172 {pc : Nat} {i : Instr} {len : Nat} {ts : List Nat} (h2 : pc < 175) (hc : ka_cd 172 pc = some (i, len, ts)) : ka_ck 172 pc i len ts = true := by
  by_cases q0 : pc < 150
  · exact ka_ckr_at kk_172_0 (by omega) (by omega) hc
  exact ka_ckr_at kk_172_150 (by omega) (by omega) hc
theorem kcw_172 : lw_tbl[ka_ic 172]? = some (ka_cw 172) := by decide +kernel
theorem kk_173_0 : ka_ckr 173 0 74 = true := by decide +kernel
theorem kj_173 {pc : Nat} {i : Instr} {len : Nat} {ts : List Nat} (h2 : pc < 74) (hc : ka_cd 173 pc = some (i, len, ts)) : ka_ck 173 pc i len ts = true := ka_ckr_at kk_173_0 (Nat.zero_le _) (by omega) hc
theorem kcw_173 : lw_tbl[ka_ic 173]? = some (ka_cw 173) := by decide +kernel
theorem kk_174_0 : ka_ckr 174 0 69 = true := by decide +kernel
theorem kj_174 {pc : Nat} {i : Instr} {len : Nat} {ts : List Nat} (h2 : pc < 69) (hc : ka_cd 174 pc = some (i, len, ts)) : ka_ck 174 pc i len ts = true := ka_ckr_at kk_174_0 (Nat.zero_le _) (by omega) hc
theorem kcw_174 : lw_tbl[ka_ic 174]? = some (ka_cw 174) := by decide +kernel
theorem kk_175_0 : ka_ckr 175 0 150 = true := by decide +kernel
theorem kk_175_150 : ka_ckr 175 150 3 = true := by decide +kernel
theorem kj_175 {pc : Nat} {i : Instr} {len : Nat} {ts : List Nat} (h2 : pc < 153) (hc : ka_cd 175 pc = some (i, len, ts)) : ka_ck 175 pc i len ts = true := by
  by_cases q0 : pc < 150
  · exact ka_ckr_at kk_175_0 (by omega) (by omega) hc
  exact ka_ckr_at kk_175_150 (by omega) (by omega) hc
theorem kcw_175 : lw_tbl[ka_ic 175]? = some (ka_cw 175) := by decide +kernel
theorem kk_176_0 : ka_ckr 176 0 29 = true := by decide +kernel
theorem kj_176 {pc : Nat} {i : Instr} {len : Nat} {ts : List Nat} (h2 : pc < 29) (hc : ka_cd 176 pc = some (i, len, ts)) : ka_ck 176 pc i len ts = true := ka_ckr_at kk_176_0 (Nat.zero_le _) (by omega) hc
theorem kcw_176 : lw_tbl[ka_ic 176]? = some (ka_cw 176) := by decide +kernel
theorem kk_177_0 : ka_ckr 177 0 29 = true := by decide +kernel
theorem kj_177 {pc : Nat} {i : Instr} {len : Nat} {ts : List Nat} (h2 : pc < 29) (hc : ka_cd 177 pc = some (i, len, ts)) : ka_ck 177 pc i len ts = true := ka_ckr_at kk_177_0 (Nat.zero_le _) (by omega) hc
theorem kcw_177 : lw_tbl[ka_ic 177]? = some (ka_cw 177) := by decide +kernel
theorem kk_178_0 : ka_ckr 178 0 45 = true := by decide +kernel
theorem kj_178 {pc : Nat} {i : Instr} {len : Nat} {ts : List Nat} (h2 : pc < 45) (hc : ka_cd 178 pc = some (i, len, ts)) : ka_ck 178 pc i len ts = true := ka_ckr_at kk_178_0 (Nat.zero_le _) (by omega) hc
theorem kcw_178 : lw_tbl[ka_ic 178]? = some (ka_cw 178) := by decide +kernel
theorem kk_179_0 : ka_ckr 179 0 45 = true := by decide +kernel
theorem kj_179 {pc : Nat} {i : Instr} {len : Nat} {ts : List Nat} (h2 : pc < 45) (hc : ka_cd 179 pc = some (i, len, ts)) : ka_ck 179 pc i len ts = true := ka_ckr_at kk_179_0 (Nat.zero_le _) (by omega) hc
theorem kcw_179 : lw_tbl[ka_ic 179]? = some (ka_cw 179) := by decide +kernel
theorem kk_180_0 : ka_ckr 180 0 150 = true := by decide +kernel
theorem kk_180_150 : ka_ckr 180 150 55 = true := by decide +kernel
theorem kj_180 {pc : Nat} {i : Instr} {len : Nat} {ts : List Nat} (h2 : pc < 205) (hc : ka_cd 180 pc = some (i, len, ts)) : ka_ck 180 pc i len ts = true := by
  by_cases q0 : pc < 150
  · exact ka_ckr_at kk_180_0 (by omega) (by omega) hc
  exact ka_ckr_at kk_180_150 (by omega) (by omega) hc
theorem kcw_180 : lw_tbl[ka_ic 180]? = some (ka_cw 180) := by decide +kernel
theorem kk_181_0 : ka_ckr 181 0 46 = true := by decide +kernel
theorem kj_181 {pc : Nat} {i : Instr} {len : Nat} {ts : List Nat} (h2 : pc < 46) (hc : ka_cd 181 pc = some (i, len, ts)) : ka_ck 181 pc i len ts = true := ka_ckr_at kk_181_0 (Nat.zero_le _) (by omega) hc
theorem kcw_181 : lw_tbl[ka_ic 181]? = some (ka_cw 181) := by decide +kernel
theorem kk_182_0 : ka_ckr 182 0 150 = true := by decide +kernel
theorem kk_182_150 : ka_ckr 182 150 23 = true := by decide +kernel
theorem kj_182 {pc : Nat} {i : Instr} {len : Nat} {ts : List Nat} (h2 : pc < 173) (hc : ka_cd 182 pc = some (i, len, ts)) : ka_ck 182 pc i len ts = true := by
  by_cases q0 : pc < 150
  · exact ka_ckr_at kk_182_0 (by omega) (by omega) hc
  exact ka_ckr_at kk_182_150 (by omega) (by omega) hc
theorem kcw_182 : lw_tbl[ka_ic 182]? = some (ka_cw 182) := by decide +kernel
theorem kk_183_0 : ka_ckr 183 0 150 = true := by decide +kernel
theorem kk_183_150 : ka_ckr 183 150 72 = true := by decide +kernel
theorem kj_183 {pc : Nat} {i : Instr} {len : Nat} {ts : List Nat} (h2 : pc < 222) (hc : ka_cd 183 pc = some (i, len, ts)) : ka_ck 183 pc i len ts = true := by
  by_cases q0 : pc < 150
  · exact ka_ckr_at kk_183_0 (by omega) (by omega) hc
  exact ka_ckr_at kk_183_150 (by omega) (by omega) hc
theorem kcw_183 : lw_tbl[ka_ic 183]? = some (ka_cw 183) := by decide +kernel
theorem kk_184_0 : ka_ckr 184 0 10 = true := by decide +kernel
theorem kj_184 {pc : Nat} {i : Instr} {len : Nat} {ts : List Nat} (h2 : pc < 10) (hc : ka_cd 184 pc = some (i, len, ts)) : ka_ck 184 pc i len ts = true := ka_ckr_at kk_184_0 (Nat.zero_le _) (by omega) hc
theorem kcw_184 : lw_tbl[ka_ic 184]? = some (ka_cw 184) := by decide +kernel
