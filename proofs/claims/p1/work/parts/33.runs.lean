/-! THE RUNS -/
abbrev xf0 (k : Nat) : (Nat × xV × xV) × xV := ((0, (4, 0), (2, 63)), (2, k))
abbrev xPs (c r : Nat) : xP := [xf0 0, ((1, (4, 1), (2, 0)), (2, c)), ((8, (4, 2), (2, 0)), (2, r))]
theorem x_rl1 : x_gd (x_law 1 []) = true := by decide +kernel
theorem x_rl2 : x_gd (x_law 2 []) = true := by decide +kernel
theorem x_rl3 : x_gd (x_law 3 []) = true := by decide +kernel
theorem x_rsA1 : x_gd (x_law 4 (xPs 65 1)) = true := by decide +kernel
theorem x_rsA2 : x_gd (x_law 4 (xPs 65 2)) = true := by decide +kernel
theorem x_rsA3 : x_gd (x_law 4 (xPs 65 3)) = true := by decide +kernel
theorem x_rsA4 : x_gd (x_law 4 (xPs 65 4)) = true := by decide +kernel
theorem x_rsB2 : x_gd (x_law 4 (xPs 66 2)) = true := by decide +kernel
theorem x_rsB3 : x_gd (x_law 4 (xPs 66 3)) = true := by decide +kernel
theorem x_rsC3 : x_gd (x_law 4 (xPs 67 3)) = true := by decide +kernel
theorem x_rsD4 : x_gd (x_law 4 (xPs 68 4)) = true := by decide +kernel
theorem x_rsG2 : x_gd (x_law 4 (xPs 71 2)) = true := by decide +kernel
