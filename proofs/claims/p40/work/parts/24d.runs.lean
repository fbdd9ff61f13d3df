/-! runs of the parts of the law, for what the script comes to -/
theorem rr_9_0 : okR (top_run t_L_reviews [(10, 64, 9), (11, 2, 0)]) 1000 100000 = true := by decide +kernel
theorem rr_9_1 : okR (top_run t_L_reviews [(10, 64, 9), (11, 2, 1)]) 1000 100000 = true := by decide +kernel
theorem rr_10_0 : okR (top_run t_L_reviews [(10, 64, 10), (11, 2, 0)]) 1000 100000 = true := by decide +kernel
theorem rr_10_1 : okR (top_run t_L_reviews [(10, 64, 10), (11, 2, 1)]) 1000 100000 = true := by decide +kernel
theorem rr_11_0 : okR (top_run t_L_reviews [(10, 64, 11), (11, 2, 0)]) 1000 100000 = true := by decide +kernel
theorem rr_11_1 : okR (top_run t_L_reviews [(10, 64, 11), (11, 2, 1)]) 1000 100000 = true := by decide +kernel
theorem rr_12_0 : okR (top_run t_L_reviews [(10, 64, 12), (11, 2, 0)]) 1000 100000 = true := by decide +kernel
theorem rr_12_1 : okR (top_run t_L_reviews [(10, 64, 12), (11, 2, 1)]) 1000 100000 = true := by decide +kernel
theorem rr_13_0 : okR (top_run t_L_reviews [(10, 64, 13), (11, 2, 0)]) 1000 100000 = true := by decide +kernel
theorem rr_13_1 : okR (top_run t_L_reviews [(10, 64, 13), (11, 2, 1)]) 1000 100000 = true := by decide +kernel
theorem rr_14_0 : okR (top_run t_L_reviews [(10, 64, 14), (11, 2, 0)]) 1000 100000 = true := by decide +kernel
theorem rr_14_1 : okR (top_run t_L_reviews [(10, 64, 14), (11, 2, 1)]) 1000 100000 = true := by decide +kernel
theorem rr_15_0 : okR (top_run t_L_reviews [(10, 64, 15), (11, 2, 0)]) 1000 100000 = true := by decide +kernel
theorem rr_15_1 : okR (top_run t_L_reviews [(10, 64, 15), (11, 2, 1)]) 1000 100000 = true := by decide +kernel
theorem rr_16_0 : okR (top_run t_L_reviews [(10, 64, 16), (11, 2, 0)]) 1000 100000 = true := by decide +kernel
theorem rr_16_1 : okR (top_run t_L_reviews [(10, 64, 16), (11, 2, 1)]) 1000 100000 = true := by decide +kernel
