/-! runs of the parts of the law, for what the script comes to -/
theorem rr_33_0 : okR (top_run t_L_reviews [(10, 64, 33), (11, 2, 0)]) 1000 100000 = true := by decide +kernel
theorem rr_33_1 : okR (top_run t_L_reviews [(10, 64, 33), (11, 2, 1)]) 1000 100000 = true := by decide +kernel
theorem rr_34_0 : okR (top_run t_L_reviews [(10, 64, 34), (11, 2, 0)]) 1000 100000 = true := by decide +kernel
theorem rr_34_1 : okR (top_run t_L_reviews [(10, 64, 34), (11, 2, 1)]) 1000 100000 = true := by decide +kernel
theorem rr_35_0 : okR (top_run t_L_reviews [(10, 64, 35), (11, 2, 0)]) 1000 100000 = true := by decide +kernel
theorem rr_35_1 : okR (top_run t_L_reviews [(10, 64, 35), (11, 2, 1)]) 1000 100000 = true := by decide +kernel
theorem rr_36_0 : okR (top_run t_L_reviews [(10, 64, 36), (11, 2, 0)]) 1000 100000 = true := by decide +kernel
theorem rr_36_1 : okR (top_run t_L_reviews [(10, 64, 36), (11, 2, 1)]) 1000 100000 = true := by decide +kernel
theorem rr_37_0 : okR (top_run t_L_reviews [(10, 64, 37), (11, 2, 0)]) 1000 100000 = true := by decide +kernel
theorem rr_37_1 : okR (top_run t_L_reviews [(10, 64, 37), (11, 2, 1)]) 1000 100000 = true := by decide +kernel
theorem rr_38_0 : okR (top_run t_L_reviews [(10, 64, 38), (11, 2, 0)]) 1000 100000 = true := by decide +kernel
theorem rr_38_1 : okR (top_run t_L_reviews [(10, 64, 38), (11, 2, 1)]) 1000 100000 = true := by decide +kernel
theorem rr_39_0 : okR (top_run t_L_reviews [(10, 64, 39), (11, 2, 0)]) 1000 100000 = true := by decide +kernel
theorem rr_39_1 : okR (top_run t_L_reviews [(10, 64, 39), (11, 2, 1)]) 1000 100000 = true := by decide +kernel
theorem rr_40_0 : okR (top_run t_L_reviews [(10, 64, 40), (11, 2, 0)]) 1000 100000 = true := by decide +kernel
theorem rr_40_1 : okR (top_run t_L_reviews [(10, 64, 40), (11, 2, 1)]) 1000 100000 = true := by decide +kernel
