/-! THE CLAIM -/
theorem zlaw : zLaw := zlaw_of (fun _ _ _ ha hb => OpX.S (fun _ hA => op_text hA ha hb))
theorem i_vc : Claimed_1_1 ∧ Claimed_1_2 := i_vc_open zlaw
