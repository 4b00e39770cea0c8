/-! THE CLAIM. -/
theorem i_vc : Claimed_1_1 ∧ Claimed_1_2 := i_vc_open (lw_of_fn lw_fn_ok) lw_text_ok
