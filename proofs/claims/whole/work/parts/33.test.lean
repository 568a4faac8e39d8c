theorem kcw_202 : lw_tbl[ka_ic 202]? = some (ka_cw 202) := by rfl
