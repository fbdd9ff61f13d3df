/-! THE LAW'S OWN RUN, out of its parts' -/
noncomputable def law_run (b : (Nat × Nat) × ((Nat × Nat) × (Nat × Nat))) : RR := e_loop k_L_law (calL b 13) 1000000 k_L_law (e_locs [xscr] [.inr (.inr (.inr (.inr (.inr 2))))]) [] [] 0 0 0
abbrev b_law : (Nat × Nat) × ((Nat × Nat) × (Nat × Nat)) := ((1000, 100000), ((1000, 100000), (1000, 100000)))
theorem run_law : okR (law_run b_law) 840392 6575277 = true := by decide +kernel
