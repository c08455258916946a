/-! THE CLAIM -/
theorem aGoal_ok : aGoal := fun L xs v hL hv => by
  obtain ⟨n, d, A', h1, h2, h3, h4, h5⟩ := all_goal (xs := xs) hL hv
  exact ⟨n, d, A', h1, by omega, by omega, h4, h5⟩
theorem i_vc : Claimed_1_1 ∧ Claimed_1_2 := i_vc_of aGoal_ok
