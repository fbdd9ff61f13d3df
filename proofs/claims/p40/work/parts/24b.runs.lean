/-! runs of the parts of the law, for what the script comes to -/
theorem rc_1_1_1 : okR (top_run t_L_cards [(0, 2, 1), (1, 4, 1), (2, 3, 1)]) 1000 100000 = true := by decide +kernel
theorem rc_1_1_2 : okR (top_run t_L_cards [(0, 2, 1), (1, 4, 1), (2, 3, 2)]) 1000 100000 = true := by decide +kernel
theorem rc_1_2_0 : okR (top_run t_L_cards [(0, 2, 1), (1, 4, 2), (2, 3, 0)]) 1000 100000 = true := by decide +kernel
theorem rc_1_2_1 : okR (top_run t_L_cards [(0, 2, 1), (1, 4, 2), (2, 3, 1)]) 1000 100000 = true := by decide +kernel
theorem rc_1_2_2 : okR (top_run t_L_cards [(0, 2, 1), (1, 4, 2), (2, 3, 2)]) 1000 100000 = true := by decide +kernel
theorem rc_1_3_0 : okR (top_run t_L_cards [(0, 2, 1), (1, 4, 3), (2, 3, 0)]) 1000 100000 = true := by decide +kernel
theorem rc_1_3_1 : okR (top_run t_L_cards [(0, 2, 1), (1, 4, 3), (2, 3, 1)]) 1000 100000 = true := by decide +kernel
theorem rc_1_3_2 : okR (top_run t_L_cards [(0, 2, 1), (1, 4, 3), (2, 3, 2)]) 1000 100000 = true := by decide +kernel
theorem re_0 : okR (top_run t_L_empties [(20, 6, 0)]) 1000 100000 = true := by decide +kernel
theorem re_1 : okR (top_run t_L_empties [(20, 6, 1)]) 1000 100000 = true := by decide +kernel
theorem re_2 : okR (top_run t_L_empties [(20, 6, 2)]) 1000 100000 = true := by decide +kernel
theorem re_3 : okR (top_run t_L_empties [(20, 6, 3)]) 1000 100000 = true := by decide +kernel
theorem re_4 : okR (top_run t_L_empties [(20, 6, 4)]) 1000 100000 = true := by decide +kernel
theorem re_5 : okR (top_run t_L_empties [(20, 6, 5)]) 1000 100000 = true := by decide +kernel
theorem rr_0_0 : okR (top_run t_L_reviews [(10, 64, 0), (11, 2, 0)]) 1000 100000 = true := by decide +kernel
theorem rr_0_1 : okR (top_run t_L_reviews [(10, 64, 0), (11, 2, 1)]) 1000 100000 = true := by decide +kernel
