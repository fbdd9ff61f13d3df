/-! runs of the parts of the law, for what the script comes to -/
theorem rr_1_0 : okR (top_run t_L_reviews [(10, 64, 1), (11, 2, 0)]) 1000 100000 = true := by decide +kernel
theorem rr_1_1 : okR (top_run t_L_reviews [(10, 64, 1), (11, 2, 1)]) 1000 100000 = true := by decide +kernel
theorem rr_2_0 : okR (top_run t_L_reviews [(10, 64, 2), (11, 2, 0)]) 1000 100000 = true := by decide +kernel
theorem rr_2_1 : okR (top_run t_L_reviews [(10, 64, 2), (11, 2, 1)]) 1000 100000 = true := by decide +kernel
theorem rr_3_0 : okR (top_run t_L_reviews [(10, 64, 3), (11, 2, 0)]) 1000 100000 = true := by decide +kernel
theorem rr_3_1 : okR (top_run t_L_reviews [(10, 64, 3), (11, 2, 1)]) 1000 100000 = true := by decide +kernel
theorem rr_4_0 : okR (top_run t_L_reviews [(10, 64, 4), (11, 2, 0)]) 1000 100000 = true := by decide +kernel
theorem rr_4_1 : okR (top_run t_L_reviews [(10, 64, 4), (11, 2, 1)]) 1000 100000 = true := by decide +kernel
theorem rr_5_0 : okR (top_run t_L_reviews [(10, 64, 5), (11, 2, 0)]) 1000 100000 = true := by decide +kernel
theorem rr_5_1 : okR (top_run t_L_reviews [(10, 64, 5), (11, 2, 1)]) 1000 100000 = true := by decide +kernel
theorem rr_6_0 : okR (top_run t_L_reviews [(10, 64, 6), (11, 2, 0)]) 1000 100000 = true := by decide +kernel
theorem rr_6_1 : okR (top_run t_L_reviews [(10, 64, 6), (11, 2, 1)]) 1000 100000 = true := by decide +kernel
theorem rr_7_0 : okR (top_run t_L_reviews [(10, 64, 7), (11, 2, 0)]) 1000 100000 = true := by decide +kernel
theorem rr_7_1 : okR (top_run t_L_reviews [(10, 64, 7), (11, 2, 1)]) 1000 100000 = true := by decide +kernel
theorem rr_8_0 : okR (top_run t_L_reviews [(10, 64, 8), (11, 2, 0)]) 1000 100000 = true := by decide +kernel
theorem rr_8_1 : okR (top_run t_L_reviews [(10, 64, 8), (11, 2, 1)]) 1000 100000 = true := by decide +kernel
