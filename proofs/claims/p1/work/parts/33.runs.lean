/-! THE RUNS OF SHORT SCRIPTS AND OF SYSTEMS CHOSEN -/
abbrev xf0 (k : Nat) : (Nat × xV × xV) × xV := ((0, (4, 0), (2, 63)), (2, k))
abbrev xf1 (c : Nat) : (Nat × xV × xV) × xV := ((1, (4, 1), (2, 0)), (2, c))
abbrev xf2 (r : Nat) : (Nat × xV × xV) × xV := ((8, (4, 2), (2, 0)), (2, r))
theorem x_rl0 : x_gd (x_law 0 []) = true := by decide +kernel
theorem x_rl1 : x_gd (x_law 1 []) = true := by decide +kernel
theorem x_rl2 : x_gd (x_law 2 []) = true := by decide +kernel
theorem x_rl3 : x_gd (x_law 3 []) = true := by decide +kernel
theorem x_rsA1 : x_gd (x_law 4 [xf0 0, xf1 65, xf2 1]) = true := by decide +kernel
theorem x_rsA2 : x_gd (x_law 4 [xf0 0, xf1 65, xf2 2]) = true := by decide +kernel
theorem x_rsA3 : x_gd (x_law 4 [xf0 0, xf1 65, xf2 3]) = true := by decide +kernel
theorem x_rsA4 : x_gd (x_law 4 [xf0 0, xf1 65, xf2 4]) = true := by decide +kernel
theorem x_rsB2 : x_gd (x_law 4 [xf0 0, xf1 66, xf2 2]) = true := by decide +kernel
theorem x_rsB3 : x_gd (x_law 4 [xf0 0, xf1 66, xf2 3]) = true := by decide +kernel
theorem x_rsC3 : x_gd (x_law 4 [xf0 0, xf1 67, xf2 3]) = true := by decide +kernel
theorem x_rsD4 : x_gd (x_law 4 [xf0 0, xf1 68, xf2 4]) = true := by decide +kernel
theorem x_rsG2 : x_gd (x_law 4 [xf0 0, xf1 71, xf2 2]) = true := by decide +kernel
