/-! ===== THE CLAIM ===== -/
theorem i_vc : Claimed_1_1 ∧ Claimed_1_2 := kp_claim kz_law kR_all kH_all kW_all
