/-! runs of the parts of the law, for what the script comes to -/
theorem rr_49_0 : okR (top_run t_L_reviews [(10, 64, 49), (11, 2, 0)]) 1000 100000 = true := by decide +kernel
theorem rr_49_1 : okR (top_run t_L_reviews [(10, 64, 49), (11, 2, 1)]) 1000 100000 = true := by decide +kernel
theorem rr_50_0 : okR (top_run t_L_reviews [(10, 64, 50), (11, 2, 0)]) 1000 100000 = true := by decide +kernel
theorem rr_50_1 : okR (top_run t_L_reviews [(10, 64, 50), (11, 2, 1)]) 1000 100000 = true := by decide +kernel
theorem rr_51_0 : okR (top_run t_L_reviews [(10, 64, 51), (11, 2, 0)]) 1000 100000 = true := by decide +kernel
theorem rr_51_1 : okR (top_run t_L_reviews [(10, 64, 51), (11, 2, 1)]) 1000 100000 = true := by decide +kernel
theorem rr_52_0 : okR (top_run t_L_reviews [(10, 64, 52), (11, 2, 0)]) 1000 100000 = true := by decide +kernel
theorem rr_52_1 : okR (top_run t_L_reviews [(10, 64, 52), (11, 2, 1)]) 1000 100000 = true := by decide +kernel
theorem rr_53_0 : okR (top_run t_L_reviews [(10, 64, 53), (11, 2, 0)]) 1000 100000 = true := by decide +kernel
theorem rr_53_1 : okR (top_run t_L_reviews [(10, 64, 53), (11, 2, 1)]) 1000 100000 = true := by decide +kernel
theorem rr_54_0 : okR (top_run t_L_reviews [(10, 64, 54), (11, 2, 0)]) 1000 100000 = true := by decide +kernel
theorem rr_54_1 : okR (top_run t_L_reviews [(10, 64, 54), (11, 2, 1)]) 1000 100000 = true := by decide +kernel
theorem rr_55_0 : okR (top_run t_L_reviews [(10, 64, 55), (11, 2, 0)]) 1000 100000 = true := by decide +kernel
theorem rr_55_1 : okR (top_run t_L_reviews [(10, 64, 55), (11, 2, 1)]) 1000 100000 = true := by decide +kernel
theorem rr_56_0 : okR (top_run t_L_reviews [(10, 64, 56), (11, 2, 0)]) 1000 100000 = true := by decide +kernel
theorem rr_56_1 : okR (top_run t_L_reviews [(10, 64, 56), (11, 2, 1)]) 1000 100000 = true := by decide +kernel
