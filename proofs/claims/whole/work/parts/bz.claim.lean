/-! ===== THE CLAIM ===== -/
theorem i_vc : Claimed_1_1 ∧ Claimed_1_2 := kp_claim2 kz_law kR_all kH_all kWj_all
