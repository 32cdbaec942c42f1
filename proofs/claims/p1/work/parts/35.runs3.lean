/-! THE RUNS OF A CHOICE REFUSED -/
abbrev xLo : xP := [((2, (4, 2), (2, 1)), (2, 0)), ((3, (4, 2), (2, 1)), (2, 1)), ((4, (4, 2), (2, 1)), (2, 1)), ((6, (4, 2), (2, 1)), (2, 0)), ((6, (2, 1), (4, 2)), (2, 1)), ((2, (4, 2), (2, 2)), (2, 0)), ((3, (4, 2), (2, 2)), (2, 1)), ((4, (4, 2), (2, 2)), (2, 1)), ((6, (4, 2), (2, 2)), (2, 0)), ((6, (2, 2), (4, 2)), (2, 1)), ((2, (4, 2), (2, 3)), (2, 0)), ((3, (4, 2), (2, 3)), (2, 1)), ((4, (4, 2), (2, 3)), (2, 1)), ((6, (4, 2), (2, 3)), (2, 0)), ((6, (2, 3), (4, 2)), (2, 1)), ((2, (4, 2), (2, 4)), (2, 0)), ((3, (4, 2), (2, 4)), (2, 1)), ((4, (4, 2), (2, 4)), (2, 1)), ((6, (4, 2), (2, 4)), (2, 0)), ((6, (2, 4), (4, 2)), (2, 1))]
abbrev xHi : xP := [((2, (4, 2), (2, 1)), (2, 0)), ((3, (4, 2), (2, 1)), (2, 1)), ((4, (4, 2), (2, 1)), (2, 0)), ((6, (4, 2), (2, 1)), (2, 1)), ((6, (2, 1), (4, 2)), (2, 0)), ((2, (4, 2), (2, 2)), (2, 0)), ((3, (4, 2), (2, 2)), (2, 1)), ((4, (4, 2), (2, 2)), (2, 0)), ((6, (4, 2), (2, 2)), (2, 1)), ((6, (2, 2), (4, 2)), (2, 0)), ((2, (4, 2), (2, 3)), (2, 0)), ((3, (4, 2), (2, 3)), (2, 1)), ((4, (4, 2), (2, 3)), (2, 0)), ((6, (4, 2), (2, 3)), (2, 1)), ((6, (2, 3), (4, 2)), (2, 0)), ((2, (4, 2), (2, 4)), (2, 0)), ((3, (4, 2), (2, 4)), (2, 1)), ((4, (4, 2), (2, 4)), (2, 0)), ((6, (4, 2), (2, 4)), (2, 1)), ((6, (2, 4), (4, 2)), (2, 0))]
abbrev xNo : xP := [((1, (4, 1), (2, 0)), (4, 5)), ((2, (4, 5), (2, 65)), (2, 0)), ((3, (4, 5), (2, 65)), (2, 1)), ((2, (4, 5), (2, 66)), (2, 0)), ((3, (4, 5), (2, 66)), (2, 1)), ((2, (4, 5), (2, 67)), (2, 0)), ((3, (4, 5), (2, 67)), (2, 1)), ((2, (4, 5), (2, 68)), (2, 0)), ((3, (4, 5), (2, 68)), (2, 1)), ((2, (4, 5), (2, 71)), (2, 0)), ((3, (4, 5), (2, 71)), (2, 1))]
theorem x_loA : x_gd (x_law 4 (xf0 0 :: xf1 65 :: xLo)) = true := by decide +kernel
theorem x_hiA : x_gd (x_law 4 (xf0 0 :: xf1 65 :: xHi)) = true := by decide +kernel
theorem x_rsB1 : x_gd (x_law 4 [xf0 0, xf1 66, xf2 1]) = true := by decide +kernel
theorem x_rsB4 : x_gd (x_law 4 [xf0 0, xf1 66, xf2 4]) = true := by decide +kernel
theorem x_loB : x_gd (x_law 4 (xf0 0 :: xf1 66 :: xLo)) = true := by decide +kernel
theorem x_hiB : x_gd (x_law 4 (xf0 0 :: xf1 66 :: xHi)) = true := by decide +kernel
theorem x_rsC1 : x_gd (x_law 4 [xf0 0, xf1 67, xf2 1]) = true := by decide +kernel
theorem x_rsC2 : x_gd (x_law 4 [xf0 0, xf1 67, xf2 2]) = true := by decide +kernel
theorem x_rsC4 : x_gd (x_law 4 [xf0 0, xf1 67, xf2 4]) = true := by decide +kernel
theorem x_loC : x_gd (x_law 4 (xf0 0 :: xf1 67 :: xLo)) = true := by decide +kernel
theorem x_hiC : x_gd (x_law 4 (xf0 0 :: xf1 67 :: xHi)) = true := by decide +kernel
theorem x_rsD1 : x_gd (x_law 4 [xf0 0, xf1 68, xf2 1]) = true := by decide +kernel
theorem x_rsD2 : x_gd (x_law 4 [xf0 0, xf1 68, xf2 2]) = true := by decide +kernel
theorem x_rsD3 : x_gd (x_law 4 [xf0 0, xf1 68, xf2 3]) = true := by decide +kernel
theorem x_loD : x_gd (x_law 4 (xf0 0 :: xf1 68 :: xLo)) = true := by decide +kernel
theorem x_hiD : x_gd (x_law 4 (xf0 0 :: xf1 68 :: xHi)) = true := by decide +kernel
theorem x_rsG1 : x_gd (x_law 4 [xf0 0, xf1 71, xf2 1]) = true := by decide +kernel
theorem x_rsG3 : x_gd (x_law 4 [xf0 0, xf1 71, xf2 3]) = true := by decide +kernel
theorem x_rsG4 : x_gd (x_law 4 [xf0 0, xf1 71, xf2 4]) = true := by decide +kernel
theorem x_loG : x_gd (x_law 4 (xf0 0 :: xf1 71 :: xLo)) = true := by decide +kernel
theorem x_hiG : x_gd (x_law 4 (xf0 0 :: xf1 71 :: xHi)) = true := by decide +kernel
theorem x_no : x_gd (x_law 4 (xf0 0 :: xNo)) = true := by decide +kernel
