/-! runs of the parts of the law, for what the script comes to -/
theorem rc_0_0_0 : okR (top_run t_L_cards [(0, 2, 0), (1, 4, 0), (2, 3, 0)]) 1000 100000 = true := by decide +kernel
theorem rc_0_0_1 : okR (top_run t_L_cards [(0, 2, 0), (1, 4, 0), (2, 3, 1)]) 1000 100000 = true := by decide +kernel
theorem rc_0_0_2 : okR (top_run t_L_cards [(0, 2, 0), (1, 4, 0), (2, 3, 2)]) 1000 100000 = true := by decide +kernel
theorem rc_0_1_0 : okR (top_run t_L_cards [(0, 2, 0), (1, 4, 1), (2, 3, 0)]) 1000 100000 = true := by decide +kernel
theorem rc_0_1_1 : okR (top_run t_L_cards [(0, 2, 0), (1, 4, 1), (2, 3, 1)]) 1000 100000 = true := by decide +kernel
theorem rc_0_1_2 : okR (top_run t_L_cards [(0, 2, 0), (1, 4, 1), (2, 3, 2)]) 1000 100000 = true := by decide +kernel
theorem rc_0_2_0 : okR (top_run t_L_cards [(0, 2, 0), (1, 4, 2), (2, 3, 0)]) 1000 100000 = true := by decide +kernel
theorem rc_0_2_1 : okR (top_run t_L_cards [(0, 2, 0), (1, 4, 2), (2, 3, 1)]) 1000 100000 = true := by decide +kernel
theorem rc_0_2_2 : okR (top_run t_L_cards [(0, 2, 0), (1, 4, 2), (2, 3, 2)]) 1000 100000 = true := by decide +kernel
theorem rc_0_3_0 : okR (top_run t_L_cards [(0, 2, 0), (1, 4, 3), (2, 3, 0)]) 1000 100000 = true := by decide +kernel
theorem rc_0_3_1 : okR (top_run t_L_cards [(0, 2, 0), (1, 4, 3), (2, 3, 1)]) 1000 100000 = true := by decide +kernel
theorem rc_0_3_2 : okR (top_run t_L_cards [(0, 2, 0), (1, 4, 3), (2, 3, 2)]) 1000 100000 = true := by decide +kernel
theorem rc_1_0_0 : okR (top_run t_L_cards [(0, 2, 1), (1, 4, 0), (2, 3, 0)]) 1000 100000 = true := by decide +kernel
theorem rc_1_0_1 : okR (top_run t_L_cards [(0, 2, 1), (1, 4, 0), (2, 3, 1)]) 1000 100000 = true := by decide +kernel
theorem rc_1_0_2 : okR (top_run t_L_cards [(0, 2, 1), (1, 4, 0), (2, 3, 2)]) 1000 100000 = true := by decide +kernel
theorem rc_1_1_0 : okR (top_run t_L_cards [(0, 2, 1), (1, 4, 1), (2, 3, 0)]) 1000 100000 = true := by decide +kernel
