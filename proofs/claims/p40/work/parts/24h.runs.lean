/-! runs of the parts of the law, for what the script comes to -/
theorem rr_62_0 : okR (top_run t_L_reviews [(10, 64, 62), (11, 2, 0)]) 1000 100000 = true := by decide +kernel
theorem rr_62_1 : okR (top_run t_L_reviews [(10, 64, 62), (11, 2, 1)]) 1000 100000 = true := by decide +kernel
theorem rr_63_0 : okR (top_run t_L_reviews [(10, 64, 63), (11, 2, 0)]) 1000 100000 = true := by decide +kernel
theorem rr_63_1 : okR (top_run t_L_reviews [(10, 64, 63), (11, 2, 1)]) 1000 100000 = true := by decide +kernel
