/-! runs of the parts of the law, for what the script comes to -/
theorem rr_17_0 : okR (top_run t_L_reviews [(10, 64, 17), (11, 2, 0)]) 1000 100000 = true := by decide +kernel
theorem rr_17_1 : okR (top_run t_L_reviews [(10, 64, 17), (11, 2, 1)]) 1000 100000 = true := by decide +kernel
theorem rr_18_0 : okR (top_run t_L_reviews [(10, 64, 18), (11, 2, 0)]) 1000 100000 = true := by decide +kernel
theorem rr_18_1 : okR (top_run t_L_reviews [(10, 64, 18), (11, 2, 1)]) 1000 100000 = true := by decide +kernel
theorem rr_19_0 : okR (top_run t_L_reviews [(10, 64, 19), (11, 2, 0)]) 1000 100000 = true := by decide +kernel
theorem rr_19_1 : okR (top_run t_L_reviews [(10, 64, 19), (11, 2, 1)]) 1000 100000 = true := by decide +kernel
theorem rr_20_0 : okR (top_run t_L_reviews [(10, 64, 20), (11, 2, 0)]) 1000 100000 = true := by decide +kernel
theorem rr_20_1 : okR (top_run t_L_reviews [(10, 64, 20), (11, 2, 1)]) 1000 100000 = true := by decide +kernel
theorem rr_21_0 : okR (top_run t_L_reviews [(10, 64, 21), (11, 2, 0)]) 1000 100000 = true := by decide +kernel
theorem rr_21_1 : okR (top_run t_L_reviews [(10, 64, 21), (11, 2, 1)]) 1000 100000 = true := by decide +kernel
theorem rr_22_0 : okR (top_run t_L_reviews [(10, 64, 22), (11, 2, 0)]) 1000 100000 = true := by decide +kernel
theorem rr_22_1 : okR (top_run t_L_reviews [(10, 64, 22), (11, 2, 1)]) 1000 100000 = true := by decide +kernel
theorem rr_23_0 : okR (top_run t_L_reviews [(10, 64, 23), (11, 2, 0)]) 1000 100000 = true := by decide +kernel
theorem rr_23_1 : okR (top_run t_L_reviews [(10, 64, 23), (11, 2, 1)]) 1000 100000 = true := by decide +kernel
theorem rr_24_0 : okR (top_run t_L_reviews [(10, 64, 24), (11, 2, 0)]) 1000 100000 = true := by decide +kernel
theorem rr_24_1 : okR (top_run t_L_reviews [(10, 64, 24), (11, 2, 1)]) 1000 100000 = true := by decide +kernel
