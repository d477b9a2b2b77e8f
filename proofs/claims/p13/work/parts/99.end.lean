/-! what is owed -/
theorem i_vc : Claimed_1_1 ∧ Claimed_1_2 := t_vc (fun _ _ h => law_z h)
