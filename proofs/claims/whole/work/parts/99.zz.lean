/-! THE CLAIM -/
theorem i_vc : Claimed_1_1 ∧ Claimed_1_2 := mj_claim mj_goal mj_catch
