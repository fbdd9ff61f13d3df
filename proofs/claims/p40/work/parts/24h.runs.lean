/-! runs of the parts of the law, for what the script comes to -/
theorem rr_41_0 : okR (top_run t_L_reviews [(10, 64, 41), (11, 2, 0)]) 1000 100000 = true := by decide +kernel
theorem rr_41_1 : okR (top_run t_L_reviews [(10, 64, 41), (11, 2, 1)]) 1000 100000 = true := by decide +kernel
theorem rr_42_0 : okR (top_run t_L_reviews [(10, 64, 42), (11, 2, 0)]) 1000 100000 = true := by decide +kernel
theorem rr_42_1 : okR (top_run t_L_reviews [(10, 64, 42), (11, 2, 1)]) 1000 100000 = true := by decide +kernel
theorem rr_43_0 : okR (top_run t_L_reviews [(10, 64, 43), (11, 2, 0)]) 1000 100000 = true := by decide +kernel
theorem rr_43_1 : okR (top_run t_L_reviews [(10, 64, 43), (11, 2, 1)]) 1000 100000 = true := by decide +kernel
theorem rr_44_0 : okR (top_run t_L_reviews [(10, 64, 44), (11, 2, 0)]) 1000 100000 = true := by decide +kernel
theorem rr_44_1 : okR (top_run t_L_reviews [(10, 64, 44), (11, 2, 1)]) 1000 100000 = true := by decide +kernel
theorem rr_45_0 : okR (top_run t_L_reviews [(10, 64, 45), (11, 2, 0)]) 1000 100000 = true := by decide +kernel
theorem rr_45_1 : okR (top_run t_L_reviews [(10, 64, 45), (11, 2, 1)]) 1000 100000 = true := by decide +kernel
theorem rr_46_0 : okR (top_run t_L_reviews [(10, 64, 46), (11, 2, 0)]) 1000 100000 = true := by decide +kernel
theorem rr_46_1 : okR (top_run t_L_reviews [(10, 64, 46), (11, 2, 1)]) 1000 100000 = true := by decide +kernel
theorem rr_47_0 : okR (top_run t_L_reviews [(10, 64, 47), (11, 2, 0)]) 1000 100000 = true := by decide +kernel
theorem rr_47_1 : okR (top_run t_L_reviews [(10, 64, 47), (11, 2, 1)]) 1000 100000 = true := by decide +kernel
theorem rr_48_0 : okR (top_run t_L_reviews [(10, 64, 48), (11, 2, 0)]) 1000 100000 = true := by decide +kernel
theorem rr_48_1 : okR (top_run t_L_reviews [(10, 64, 48), (11, 2, 1)]) 1000 100000 = true := by decide +kernel
