/-! the claim -/
theorem i_vc : Claimed_1_1 ∧ Claimed_1_2 := law_read (fun _ => H295) (case_read jN)
