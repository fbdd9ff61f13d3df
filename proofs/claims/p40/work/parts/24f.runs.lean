/-! runs of the parts of the law, for what the script comes to -/
theorem rr_25_0 : okR (top_run t_L_reviews [(10, 64, 25), (11, 2, 0)]) 1000 100000 = true := by decide +kernel
theorem rr_25_1 : okR (top_run t_L_reviews [(10, 64, 25), (11, 2, 1)]) 1000 100000 = true := by decide +kernel
theorem rr_26_0 : okR (top_run t_L_reviews [(10, 64, 26), (11, 2, 0)]) 1000 100000 = true := by decide +kernel
theorem rr_26_1 : okR (top_run t_L_reviews [(10, 64, 26), (11, 2, 1)]) 1000 100000 = true := by decide +kernel
theorem rr_27_0 : okR (top_run t_L_reviews [(10, 64, 27), (11, 2, 0)]) 1000 100000 = true := by decide +kernel
theorem rr_27_1 : okR (top_run t_L_reviews [(10, 64, 27), (11, 2, 1)]) 1000 100000 = true := by decide +kernel
theorem rr_28_0 : okR (top_run t_L_reviews [(10, 64, 28), (11, 2, 0)]) 1000 100000 = true := by decide +kernel
theorem rr_28_1 : okR (top_run t_L_reviews [(10, 64, 28), (11, 2, 1)]) 1000 100000 = true := by decide +kernel
theorem rr_29_0 : okR (top_run t_L_reviews [(10, 64, 29), (11, 2, 0)]) 1000 100000 = true := by decide +kernel
theorem rr_29_1 : okR (top_run t_L_reviews [(10, 64, 29), (11, 2, 1)]) 1000 100000 = true := by decide +kernel
theorem rr_30_0 : okR (top_run t_L_reviews [(10, 64, 30), (11, 2, 0)]) 1000 100000 = true := by decide +kernel
theorem rr_30_1 : okR (top_run t_L_reviews [(10, 64, 30), (11, 2, 1)]) 1000 100000 = true := by decide +kernel
theorem rr_31_0 : okR (top_run t_L_reviews [(10, 64, 31), (11, 2, 0)]) 1000 100000 = true := by decide +kernel
theorem rr_31_1 : okR (top_run t_L_reviews [(10, 64, 31), (11, 2, 1)]) 1000 100000 = true := by decide +kernel
theorem rr_32_0 : okR (top_run t_L_reviews [(10, 64, 32), (11, 2, 0)]) 1000 100000 = true := by decide +kernel
theorem rr_32_1 : okR (top_run t_L_reviews [(10, 64, 32), (11, 2, 1)]) 1000 100000 = true := by decide +kernel
