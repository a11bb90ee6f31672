/-! THE CLAIM -/
theorem lw_nc : lwNC := fun _ _ h => h.2.2.2.1.2.2
theorem i_vc : Claimed_1_1 ∧ Claimed_1_2 := lwc_vc lw_nc
