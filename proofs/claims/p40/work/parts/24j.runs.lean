/-! runs of the parts of the law, for what the script comes to -/
theorem rr_57_0 : okR (top_run t_L_reviews [(10, 64, 57), (11, 2, 0)]) 1000 100000 = true := by decide +kernel
theorem rr_57_1 : okR (top_run t_L_reviews [(10, 64, 57), (11, 2, 1)]) 1000 100000 = true := by decide +kernel
theorem rr_58_0 : okR (top_run t_L_reviews [(10, 64, 58), (11, 2, 0)]) 1000 100000 = true := by decide +kernel
theorem rr_58_1 : okR (top_run t_L_reviews [(10, 64, 58), (11, 2, 1)]) 1000 100000 = true := by decide +kernel
theorem rr_59_0 : okR (top_run t_L_reviews [(10, 64, 59), (11, 2, 0)]) 1000 100000 = true := by decide +kernel
theorem rr_59_1 : okR (top_run t_L_reviews [(10, 64, 59), (11, 2, 1)]) 1000 100000 = true := by decide +kernel
theorem rr_60_0 : okR (top_run t_L_reviews [(10, 64, 60), (11, 2, 0)]) 1000 100000 = true := by decide +kernel
theorem rr_60_1 : okR (top_run t_L_reviews [(10, 64, 60), (11, 2, 1)]) 1000 100000 = true := by decide +kernel
theorem rr_61_0 : okR (top_run t_L_reviews [(10, 64, 61), (11, 2, 0)]) 1000 100000 = true := by decide +kernel
theorem rr_61_1 : okR (top_run t_L_reviews [(10, 64, 61), (11, 2, 1)]) 1000 100000 = true := by decide +kernel
theorem rr_62_0 : okR (top_run t_L_reviews [(10, 64, 62), (11, 2, 0)]) 1000 100000 = true := by decide +kernel
theorem rr_62_1 : okR (top_run t_L_reviews [(10, 64, 62), (11, 2, 1)]) 1000 100000 = true := by decide +kernel
theorem rr_63_0 : okR (top_run t_L_reviews [(10, 64, 63), (11, 2, 0)]) 1000 100000 = true := by decide +kernel
theorem rr_63_1 : okR (top_run t_L_reviews [(10, 64, 63), (11, 2, 1)]) 1000 100000 = true := by decide +kernel
